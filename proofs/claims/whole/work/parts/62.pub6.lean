/-! the reference's public methods -/
def okR (G : Geo) (x : Int32) : Prop := ∃ a, a < G 0 1 ∧ x = nI a
def okP (G : Geo) (x : Int32) : Prop := ∃ a, a < G 0 2 ∧ x = nI a
def okT (x : Int32) : Prop := ∃ t, t ≤ 100000000 ∧ x = nI t
def bt (x lo hi : Int32) : Prop := ¬ x < lo ∧ ¬ hi < x
/-- only 'thrown' may be another: it is c -/
def sI (I I' : Nat → Int32) (c : Int32) : Prop := (∀ k, k ≠ 0 → I' k = I k) ∧ I' 0 = c
theorem sI_0 {I : Nat → Int32} {c : Int32} : sI I (upd I 0 c) c := ⟨fun _ h => pk_un h, pk_us⟩
theorem sI_1 {I : Nat → Int32} {c d : Int32} : sI I (upd (upd I 0 d) 0 c) c := ⟨fun _ h => by rw [pk_un h, pk_un h], pk_us⟩
theorem rM_sI {G : Geo} {I I' : Nat → Int32} {X : Nat → Nat → Int32} {c : Int32} (h : rM G I X) (s : sI I I' c) : rM G I' X := rM_congr h (s.1 6 (by decide)) (s.1 9 (by decide)) (s.1 13 (by decide)) (fun _ _ => rfl)
theorem r_in {Q : Int32 → Prop} {x lo hi : Int32} (h1 : bt x lo hi → Q 1) (h0 : ¬ bt x lo hi → Q 0) : fX6_in Q x lo hi := by
  unfold fX6_in
  exact ⟨fun z => h0 (fun y => y.1 z), fun z => ⟨fun w => h0 (fun y => y.2 w), fun w => h1 ⟨z, w⟩⟩⟩
theorem bt_n {x : Int32} {n : Nat} (hn : n < 2 ^ 30) : bt x 0 (nI n - 1) ↔ ∃ a, a < n ∧ x = nI a := by
  have e : (nI n - nI 1).toInt = (n : Int) - (1 : Nat) := pk_sub_toInt hn (by decide)
  constructor
  · intro h
    obtain ⟨j, hj, rfl⟩ := nI_of h.1
    refine ⟨j, ?_, rfl⟩
    have w : ¬ (nI n - nI 1).toInt < (nI j).toInt := fun q => h.2 (Int32.lt_iff_toInt_lt.mpr q)
    rw [e, nI_toInt hj] at w
    omega
  · rintro ⟨a, ha, rfl⟩
    refine ⟨nI_pos (by omega), fun q => ?_⟩
    have w : (nI n - nI 1).toInt < (nI a).toInt := Int32.lt_iff_toInt_lt.mp q
    rw [e, nI_toInt (by omega)] at w
    omega
theorem bt_k {x : Int32} {n : Nat} (hn : n < 2 ^ 31) : bt x 0 (nI n) ↔ ∃ a, a ≤ n ∧ x = nI a := by
  constructor
  · intro h
    obtain ⟨j, hj, rfl⟩ := nI_of h.1
    refine ⟨j, ?_, rfl⟩
    by_cases q : j ≤ n
    · exact q
    · exact absurd (nI_lt (by omega) hj) h.2
  · rintro ⟨a, ha, rfl⟩
    exact ⟨nI_pos (by omega), nI_nlt ha hn⟩
theorem r_noRelay {G : Geo} {I : Nat → Int32} {X : Nat → Nat → Int32} {Q : Int32 → Prop} {x : Int32} (hG : gok G) (m9 : I 9 = nI (G 0 1)) (h0 : okR G x → Q 0) (h1 : ¬ okR G x → Q 1) : fX6_noRelay I X Q x := by
  have n48 := gok_nr hG
  unfold fX6_noRelay
  rw [m9]
  refine r_in (fun h => ⟨fun _ => h0 ((bt_n (by omega)).mp h), fun z => absurd z (by decide)⟩) (fun h => ⟨fun z => absurd rfl z, fun _ => h1 (fun y => h ((bt_n (by omega)).mpr y))⟩)
theorem r_noPost {G : Geo} {I : Nat → Int32} {X : Nat → Nat → Int32} {Q : Int32 → Prop} {x : Int32} (hG : gok G) (m13 : I 13 = nI (G 0 2)) (h0 : okP G x → Q 0) (h1 : ¬ okP G x → Q 1) : fX6_noPost I X Q x := by
  have n8 := gok_ns hG
  unfold fX6_noPost
  rw [m13]
  refine r_in (fun h => ⟨fun _ => h0 ((bt_n (by omega)).mp h), fun z => absurd z (by decide)⟩) (fun h => ⟨fun z => absurd rfl z, fun _ => h1 (fun y => h ((bt_n (by omega)).mpr y))⟩)
theorem r_noTick {Q : Int32 → Prop} {x : Int32} (h0 : okT x → Q 0) (h1 : ¬ okT x → Q 1) : fX6_noTick Q x := by
  unfold fX6_noTick
  refine r_in (fun h => ⟨fun _ => h0 ((bt_k (n := 100000000) (by decide)).mp h), fun z => absurd z (by decide)⟩) (fun h => ⟨fun z => absurd rfl z, fun _ => h1 (fun y => h ((bt_k (n := 100000000) (by decide)).mpr y))⟩)
theorem r_th0 {Q : Int32 → (Nat → Int32) → (Nat → Nat → Int32) → Prop} {I : Nat → Int32} {X : Nat → Nat → Int32} {c : Int32} (h : Q 0 I X) : fX6_throwsIf Q I X 0 c := by
  unfold fX6_throwsIf
  exact ⟨fun _ => ⟨by unfold vz; decide, h⟩, fun z => absurd rfl z⟩
theorem r_th1 {Q : Int32 → (Nat → Int32) → (Nat → Nat → Int32) → Prop} {I : Nat → Int32} {X : Nat → Nat → Int32} {c : Int32} (h : Q 1 (upd I 0 c) X) : fX6_throwsIf Q I X 1 c := by
  unfold fX6_throwsIf
  exact ⟨fun z => absurd z (by decide), fun _ => nm_e ⟨by unfold vz; decide, h⟩⟩
theorem q_over {G : Geo} {I : Nat → Int32} {X : Nat → Nat → Int32} {Q : Int32 → (Nat → Int32) → (Nat → Nat → Int32) → Prop} {x1 x2 : Int32} (hG : gok G) (hM : rM G I X) (h1 : ¬ okR G x1 → ∀ I', sI I I' 1 → Q 0 I' X) (h2 : okR G x1 → ¬ okT x2 → ∀ I', sI I I' 2 → Q 0 I' X) (h0 : ∀ a t, a < G 0 1 → t ≤ 100000000 → x1 = nI a → x2 = nI t → ∀ I', sI I I' 0 → Q (nI (gpl G a t)) I' X) : fX6_over Q I X x1 x2 := by
  unfold fX6_over fX6_over_b30
  refine nm_e (r_noRelay hG hM.2.1 (fun o1 => r_th0 ⟨fun z => absurd rfl z, fun _ => r_noTick (fun o2 => r_th0 ⟨fun _ => ?_, fun z => absurd rfl z⟩) (fun o2 => r_th1 ⟨fun z => absurd z (by decide), fun _ => h2 o1 o2 _ sI_1⟩)⟩) (fun o1 => r_th1 ⟨fun _ => h1 o1 _ sI_1, fun z => absurd z (by decide)⟩))
  obtain ⟨a, a1, rfl⟩ := o1
  obtain ⟨t, t1, rfl⟩ := o2
  exact r6_placeOf hG (rM_I0 hM) a1 (by omega) (h0 a t a1 t1 rfl rfl _ sI_0)
theorem q_link {G : Geo} {I : Nat → Int32} {X : Nat → Nat → Int32} {Q : Int32 → (Nat → Int32) → (Nat → Nat → Int32) → Prop} {x1 x2 x3 : Int32} (hG : gok G) (hM : rM G I X) (h1 : ¬ (okR G x1 ∧ okR G x2) → ∀ I', sI I I' 1 → Q 0 I' X) (h2 : okR G x1 → okR G x2 → ¬ okT x3 → ∀ I', sI I I' 2 → Q 0 I' X) (h0 : ∀ a b t, a < G 0 1 → b < G 0 1 → t ≤ 100000000 → x1 = nI a → x2 = nI b → x3 = nI t → ∀ I', sI I I' 0 → Q (nI (if gLk G a b t = true then gln G a b else 0)) I' X) : fX6_link Q I X x1 x2 x3 := by
  unfold fX6_link fX6_link_b22 fX6_link_b27 fX6_link_b46
  refine nm_e (r_noRelay hG hM.2.1 (fun o1 => ⟨fun z => absurd rfl z, fun _ => r_noRelay hG hM.2.1 (fun o2 => ⟨fun _ => r_th0 ⟨fun z => absurd rfl z, fun _ => r_noTick (fun o3 => r_th0 ⟨fun _ => ?_, fun z => absurd rfl z⟩) (fun o3 => r_th1 ⟨fun z => absurd z (by decide), fun _ => h2 o1 o2 o3 _ sI_1⟩)⟩, fun z => absurd rfl z⟩) (fun o2 => ⟨fun z => absurd z (by decide), fun _ => r_th1 ⟨fun _ => h1 (fun y => o2 y.2) _ sI_1, fun z => absurd z (by decide)⟩⟩)⟩) (fun o1 => ⟨fun _ => r_th1 ⟨fun _ => h1 (fun y => o1 y.1) _ sI_1, fun z => absurd z (by decide)⟩, fun z => absurd z (by decide)⟩))
  obtain ⟨a, a1, rfl⟩ := o1
  obtain ⟨b, b1, rfl⟩ := o2
  obtain ⟨t, t1, rfl⟩ := o3
  exact r6_linkOf hG (rM_I0 hM) a1 b1 (by omega) (h0 a b t a1 b1 t1 rfl rfl rfl _ sI_0)
theorem q_sees {G : Geo} {I : Nat → Int32} {X : Nat → Nat → Int32} {Q : Int32 → (Nat → Int32) → (Nat → Nat → Int32) → Prop} {x1 x2 x3 : Int32} (hG : gok G) (hM : rM G I X) (h1 : ¬ (okP G x1 ∧ okR G x2) → ∀ I', sI I I' 1 → Q 0 I' X) (h2 : okP G x1 → okR G x2 → ¬ okT x3 → ∀ I', sI I I' 2 → Q 0 I' X) (h0 : ∀ a b t, a < G 0 2 → b < G 0 1 → t ≤ 100000000 → x1 = nI a → x2 = nI b → x3 = nI t → ∀ I', sI I I' 0 → Q (nI (if gLk G (48 + a) b t = true then 1 else 0)) I' X) : fX6_sees Q I X x1 x2 x3 := by
  unfold fX6_sees fX6_sees_b22 fX6_sees_b27
  refine nm_e (r_noPost hG hM.2.2.1 (fun o1 => ⟨fun z => absurd rfl z, fun _ => r_noRelay hG hM.2.1 (fun o2 => ⟨fun _ => r_th0 ⟨fun z => absurd rfl z, fun _ => r_noTick (fun o3 => r_th0 ⟨fun z => absurd rfl z, fun _ => ?_⟩) (fun o3 => r_th1 ⟨fun _ => h2 o1 o2 o3 _ sI_1, fun z => absurd z (by decide)⟩)⟩, fun z => absurd rfl z⟩) (fun o2 => ⟨fun z => absurd z (by decide), fun _ => r_th1 ⟨fun _ => h1 (fun y => o2 y.2) _ sI_1, fun z => absurd z (by decide)⟩⟩)⟩) (fun o1 => ⟨fun _ => r_th1 ⟨fun _ => h1 (fun y => o1 y.1) _ sI_1, fun z => absurd z (by decide)⟩, fun z => absurd z (by decide)⟩))
  obtain ⟨a, a1, rfl⟩ := o1
  obtain ⟨b, b1, rfl⟩ := o2
  obtain ⟨t, t1, rfl⟩ := o3
  have h0 := h0 a b t a1 b1 t1 rfl rfl rfl _ sI_0
  refine r6_seesOf hG (rM_I0 hM) a1 b1 (by omega) ?_
  by_cases c : gLk G (48 + a) b t = true
  · rw [if_pos c] at h0 ⊢
    exact ⟨fun z => absurd z (by decide), fun _ => h0⟩
  · rw [if_neg c] at h0 ⊢
    exact ⟨fun _ => h0, fun z => absurd rfl z⟩
/-- only the tables of lateness may be other ones -/
def sX (X X' : Nat → Nat → Int32) : Prop := ∀ k, k ≠ 14 → k ≠ 15 → X' k = X k
theorem q_takes {G : Geo} {I : Nat → Int32} {X : Nat → Nat → Int32} {p j t : Nat} {Q : Int32 → (Nat → Int32) → (Nat → Nat → Int32) → Prop} (hG : gok G) (hM : rM G I X) (hK : rK G X) (hp : p < G 0 2) (hj : j < G 0 2) (ht : t < 2 ^ 29) (hq : ∀ X', sX X X' → rK G X' → Q (nI (gdv G j (48 + p) t)) I X') : fX6_takesPosts Q I X (nI p) (nI j) (nI t) :=
  r6_takesPosts hG hM hp hj ht (hK j hj) (fun X' x j1 j2 j3 j4 jk jd jl => by
    rw [gdv_of hG jd]
    exact hq X' j1 (rK_knows hG hK j2 j4 jk))
theorem q_earliest {G : Geo} {I : Nat → Int32} {X : Nat → Nat → Int32} {Q : Int32 → (Nat → Int32) → (Nat → Nat → Int32) → Prop} {x1 x2 x3 : Int32} (hG : gok G) (hM : rM G I X) (hK : rK G X) (h1 : ¬ (okP G x1 ∧ okP G x2) → ∀ I', sI I I' 1 → Q 0 I' X) (h2 : okP G x1 → okP G x2 → ¬ okT x3 → ∀ I', sI I I' 2 → Q 0 I' X) (he : ∀ a t, a < G 0 2 → t ≤ 100000000 → x1 = nI a → x2 = nI a → x3 = nI t → ∀ I', sI I I' 0 → Q (nI t) I' X) (h0 : ∀ a b t, a < G 0 2 → b < G 0 2 → a ≠ b → t ≤ 100000000 → x1 = nI a → x2 = nI b → x3 = nI t → ∀ I' X', sI I I' 0 → sX X X' → rK G X' → Q (if gdv G b (48 + a) t < 1000000 then nI (t + gdv G b (48 + a) t) else -1) I' X') : fX6_earliest Q I X x1 x2 x3 := by
  have n8 := gok_ns hG
  unfold fX6_earliest fX6_earliest_b22 fX6_earliest_b27
  refine nm_e (r_noPost hG hM.2.2.1 (fun o1 => ⟨fun z => absurd rfl z, fun _ => r_noPost hG hM.2.2.1 (fun o2 => ⟨fun _ => r_th0 ⟨fun z => absurd rfl z, fun _ => r_noTick (fun o3 => r_th0 ⟨fun _ => ?_, fun z => absurd rfl z⟩) (fun o3 => r_th1 ⟨fun z => absurd z (by decide), fun _ => h2 o1 o2 o3 _ sI_1⟩)⟩, fun z => absurd rfl z⟩) (fun o2 => ⟨fun z => absurd z (by decide), fun _ => r_th1 ⟨fun _ => h1 (fun y => o2 y.2) _ sI_1, fun z => absurd z (by decide)⟩⟩)⟩) (fun o1 => ⟨fun _ => r_th1 ⟨fun _ => h1 (fun y => o1 y.1) _ sI_1, fun z => absurd z (by decide)⟩, fun z => absurd z (by decide)⟩))
  obtain ⟨a, a1, rfl⟩ := o1
  obtain ⟨b, b1, rfl⟩ := o2
  obtain ⟨t, t1, rfl⟩ := o3
  refine ⟨fun z => ?_, fun z => ?_⟩
  · have ne : a ≠ b := fun y => z (by rw [y])
    refine q_takes hG (rM_I0 hM) hK a1 b1 (by omega) (fun X' f1 f2 => ?_)
    have h0 := h0 a b t a1 b1 ne t1 rfl rfl rfl _ X' sI_0 f1 f2
    have le := gdv_le hG b (48 + a) t
    refine pk_lt (gdv G b (48 + a) t) 1000000 (fun w => ?_) (fun w => ?_)
    · rw [if_pos w, ← nI_add] at h0; exact h0
    · rw [if_neg (by omega)] at h0; exact h0
  · have : a = b := (nI_eq (by omega) (by omega)).mp z
    subst this
    exact he a t a1 t1 rfl rfl rfl _ sI_0
/-- the greatest or the least so far -/
def mx (most : Bool) (f : Nat → Nat) : Nat → Nat
  | 0 => f 0
  | n + 1 => if most = true then (if mx most f n < f n then f n else mx most f n) else (if f n < mx most f n then f n else mx most f n)
theorem mx_lt {most : Bool} {f : Nat → Nat} {n c : Nat} (h0 : f 0 < c) (h : ∀ i, i < n → f i < c) : mx most f n < c := by
  induction n with
  | zero => exact h0
  | succ n ih =>
    have a := ih (fun i hi => h i (by omega))
    have b := h n (by omega)
    unfold mx
    split <;> split <;> assumption
theorem mx_1 {most : Bool} {f : Nat → Nat} : mx most f 1 = f 0 := by
  show (if most = true then (if f 0 < f 0 then f 0 else f 0) else (if f 0 < f 0 then f 0 else f 0)) = f 0
  split <;> split <;> rfl
theorem mx_f {most : Bool} {f : Nat → Nat} {n : Nat} (h : most = false) : mx most f (n + 1) = if f n < mx most f n then f n else mx most f n := by
  show (if most = true then (if mx most f n < f n then f n else mx most f n) else (if f n < mx most f n then f n else mx most f n)) = _
  exact if_neg (by rw [h]; decide)
theorem mx_t {most : Bool} {f : Nat → Nat} {n : Nat} (h : most = true) : mx most f (n + 1) = if mx most f n < f n then f n else mx most f n := by
  show (if most = true then (if mx most f n < f n then f n else mx most f n) else (if f n < mx most f n then f n else mx most f n)) = _
  exact if_pos h
theorem q_late {G : Geo} {I : Nat → Int32} {X : Nat → Nat → Int32} {Q : Int32 → (Nat → Int32) → (Nat → Nat → Int32) → Prop} {x1 x2 x3 : Int32} (hG : gok G) (hM : rM G I X) (hK : rK G X) (h1 : ¬ (okP G x1 ∧ okP G x2) → ∀ I', sI I I' 1 → Q 0 I' X) (he : okP G x1 → x1 = x2 → ∀ I', sI I I' 0 → Q 0 I' X) (h0 : ∀ a b, a < G 0 2 → b < G 0 2 → a ≠ b → x1 = nI a → x2 = nI b → ∀ I' X', sI I I' 0 → sX X X' → rK G X' → ((∃ t, t < 32 ∧ gdv G b (48 + a) t = 1000000) → Q (-1) I' X') ∧ ((∀ t, t < 32 → gdv G b (48 + a) t < 1000000) → Q (nI (mx (decide (x3 ≠ 0)) (fun t => gdv G b (48 + a) t) 32)) I' X')) : fX6_late Q I X x1 x2 x3 := by
  have n8 := gok_ns hG
  have main : ∀ a b, a < G 0 2 → b < G 0 2 → a ≠ b → x1 = nI a → x2 = nI b → ∃ n, fX6_late_h47 Q n (upd I 0 0) X (nI a) (nI b) x3 (-1) 0 := by
    intro a b a1 b1 ne e1 e2
    have h0 := fun X' => h0 a b a1 b1 ne e1 e2 (upd I 0 0) X' sI_0
    refine pk_loop (σ := Int32 × (Nat → Nat → Int32)) (fun n t s => fX6_late_h47 Q n (upd I 0 0) s.2 (nI a) (nI b) x3 s.1 (nI t)) (fun t s => sX X s.2 ∧ rK G s.2 ∧ (∀ u, u < t → gdv G b (48 + a) u < 1000000) ∧ s.1 = (if t = 0 then -1 else nI (mx (decide (x3 ≠ 0)) (fun t => gdv G b (48 + a) t) t))) 32 0 (-1, X) (by decide) ⟨fun _ _ _ => rfl, hK, fun u hu => by omega, rfl⟩ ?_ ?_
    · intro n s ⟨c1, c2, c3, c4⟩
      unfold fX6_late_h47
      refine ⟨fun _ => ?_, fun z => absurd (by decide) z⟩
      rw [if_neg (by decide)] at c4
      rw [c4]
      exact (h0 s.2 c1 c2).2 c3
    · intro n t s ht ⟨c1, c2, c3, c4⟩ ih
      unfold fX6_late_h47 fX6_late_b104
      refine ⟨fun z => absurd z (nI_ge (b := 32) ht (by decide)), fun _ => ?_⟩
      have hM' : rM G (upd I 0 0) s.2 := rM_congr hM rfl rfl rfl (fun k hk => c1 k (by omega) (by omega))
      refine q_takes hG hM' c2 a1 b1 (by omega) (fun X' f1 f2 => ?_)
      have f3 : sX X X' := fun k g1 g2 => by rw [f1 k g1 g2, c1 k g1 g2]
      have le := gdv_le hG b (48 + a) t
      refine pk_lt (gdv G b (48 + a) t) 1000000 (fun w => ?_) (fun w => (h0 X' f3 f2).1 ⟨t, ht, by omega⟩)
      have all : ∀ u, u < t + 1 → gdv G b (48 + a) u < 1000000 := fun u hu => by
        by_cases e : u = t
        · rw [e]; exact w
        · exact c3 u (by omega)
      by_cases e0 : t = 0
      · subst e0
        rw [if_pos rfl] at c4
        rw [c4]
        refine ⟨fun z => absurd z (by decide), fun _ => nm_r (nI_1 0) (ih (nI (gdv G b (48 + a) 0), X') ⟨f3, f2, all, ?_⟩)⟩
        rw [if_neg (by decide), mx_1]
      · rw [if_neg e0] at c4
        rw [c4]
        have ml : mx (decide (x3 ≠ 0)) (fun t => gdv G b (48 + a) t) t < 1000000 := mx_lt (c3 0 (by omega)) c3
        refine ⟨fun _ => ⟨fun z => ?_, fun z => ?_⟩, fun z => absurd (nI_pos' (by omega)) z⟩
        · rw [min_nI (by omega) (by omega)]
          refine nm_r (nI_1 t) (ih (nI (if gdv G b (48 + a) t < mx (decide (x3 ≠ 0)) (fun t => gdv G b (48 + a) t) t then gdv G b (48 + a) t else mx (decide (x3 ≠ 0)) (fun t => gdv G b (48 + a) t) t), X') ⟨f3, f2, all, ?_⟩)
          rw [if_neg (show ¬ t + 1 = 0 by omega)]
          rw [mx_f (n := t) (by simp [z])]
        · have mxn : (if nI (mx (decide (x3 ≠ 0)) (fun t => gdv G b (48 + a) t) t) < nI (gdv G b (48 + a) t) then nI (gdv G b (48 + a) t) else nI (mx (decide (x3 ≠ 0)) (fun t => gdv G b (48 + a) t) t)) = nI (if mx (decide (x3 ≠ 0)) (fun t => gdv G b (48 + a) t) t < gdv G b (48 + a) t then gdv G b (48 + a) t else mx (decide (x3 ≠ 0)) (fun t => gdv G b (48 + a) t) t) := by
            by_cases y : mx (decide (x3 ≠ 0)) (fun t => gdv G b (48 + a) t) t < gdv G b (48 + a) t
            · rw [if_pos y, if_pos (nI_lt y (by omega))]
            · rw [if_neg y, if_neg (nI_nlt (by omega) (by omega))]
          rw [mxn]
          refine nm_r (nI_1 t) (ih (nI (if mx (decide (x3 ≠ 0)) (fun t => gdv G b (48 + a) t) t < gdv G b (48 + a) t then gdv G b (48 + a) t else mx (decide (x3 ≠ 0)) (fun t => gdv G b (48 + a) t) t), X') ⟨f3, f2, all, ?_⟩)
          rw [if_neg (show ¬ t + 1 = 0 by omega)]
          rw [mx_t (n := t) (by simp [z])]
  unfold fX6_late fX6_late_b22 fX6_late_b27
  refine nm_e (r_noPost hG hM.2.2.1 (fun o1 => ⟨fun z => absurd rfl z, fun _ => r_noPost hG hM.2.2.1 (fun o2 => ⟨fun _ => r_th0 ⟨fun z => absurd rfl z, fun _ => ⟨fun z => ?_, fun z => he o1 z _ sI_0⟩⟩, fun z => absurd rfl z⟩) (fun o2 => ⟨fun z => absurd z (by decide), fun _ => r_th1 ⟨fun _ => h1 (fun y => o2 y.2) _ sI_1, fun z => absurd z (by decide)⟩⟩)⟩) (fun o1 => ⟨fun _ => r_th1 ⟨fun _ => h1 (fun y => o1 y.1) _ sI_1, fun z => absurd z (by decide)⟩, fun z => absurd z (by decide)⟩))
  obtain ⟨a, a1, rfl⟩ := o1
  obtain ⟨b, b1, rfl⟩ := o2
  exact main a b a1 b1 (fun y => z (by rw [y])) rfl rfl
theorem q_meets {G : Geo} {I : Nat → Int32} {X : Nat → Nat → Int32} {Q : Int32 → (Nat → Int32) → (Nat → Nat → Int32) → Prop} {x1 : Int32} (hG : gok G) (hM : rM G I X) (h1 : ¬ okP G x1 → ∀ I', sI I I' 1 → Q 0 I' X) (h0 : ∀ a, a < G 0 2 → x1 = nI a → ∀ I', sI I I' 0 → Q (nI (cn 32 (fun t => decide (0 < cn (G 0 1) (fun r => gLk G (48 + a) r t))))) I' X) : fX6_meets Q I X x1 := by
  have n8 := gok_ns hG
  have n48 := gok_nr hG
  unfold fX6_meets
  refine nm_e (r_noPost hG hM.2.2.1 (fun o1 => r_th0 ⟨fun _ => ?_, fun z => absurd rfl z⟩) (fun o1 => r_th1 ⟨fun z => absurd z (by decide), fun _ => h1 o1 _ sI_1⟩))
  obtain ⟨a, a1, rfl⟩ := o1
  have h0 := h0 a a1 rfl (upd I 0 0) sI_0
  have m9 : upd I 0 0 9 = nI (G 0 1) := hM.2.1
  refine pk_loop (σ := Unit) (fun n t _ => fX6_meets_h24 Q n (upd I 0 0) X (nI a) (nI (cn t (fun t => decide (0 < cn (G 0 1) (fun r => gLk G (48 + a) r t))))) (nI t)) (fun _ _ => True) 32 0 () (by decide) trivial ?_ ?_
  · intro n _ _
    unfold fX6_meets_h24
    exact ⟨fun _ => h0, fun z => absurd (by decide) z⟩
  · intro n t _ ht _ ih
    have ih := ih () trivial
    unfold fX6_meets_h24
    refine ⟨fun z => absurd z (nI_ge (b := 32) ht (by decide)), fun _ => ?_⟩
    refine pk_loop (σ := Unit) (fun m r _ => fX6_meets_h36 (fun a0 a1 a2 a3 a4 => fX6_meets_h24 Q n a0 a1 a2 a3 a4) Q m (upd I 0 0) X (nI a) (nI (cn t (fun t => decide (0 < cn (G 0 1) (fun r => gLk G (48 + a) r t))))) (nI t) (nI (if 0 < cn r (fun r => gLk G (48 + a) r t) then 1 else 0)) (nI r)) (fun _ _ => True) (G 0 1) 0 () (Nat.zero_le _) trivial ?_ ?_
    · intro m _ _
      unfold fX6_meets_h36 fX6_meets_b85
      rw [m9]
      refine ⟨fun _ => ?_, fun z => absurd (nI_le (Nat.le_refl _) (by omega)) z⟩
      have e : cn (t + 1) (fun t => decide (0 < cn (G 0 1) (fun r => gLk G (48 + a) r t))) = cn t (fun t => decide (0 < cn (G 0 1) (fun r => gLk G (48 + a) r t))) + (if decide (0 < cn (G 0 1) (fun r => gLk G (48 + a) r t)) = true then 1 else 0) := rfl
      rw [e] at ih
      by_cases c : 0 < cn (G 0 1) (fun r => gLk G (48 + a) r t)
      · rw [if_pos c]
        rw [if_pos (decide_eq_true c)] at ih
        exact ⟨fun z => absurd z (by decide), fun _ => nm_r (nI_1 _) (nm_r (nI_1 t) ih)⟩
      · rw [if_neg c]
        rw [if_neg (by simp [c])] at ih
        exact ⟨fun _ => nm_r (nI_add _ 0) (nm_r (nI_1 t) ih), fun z => absurd rfl z⟩
    · intro m r _ hr _ ihm
      have ihm := ihm () trivial
      have e : cn (r + 1) (fun r => gLk G (48 + a) r t) = cn r (fun r => gLk G (48 + a) r t) + (if gLk G (48 + a) r t = true then 1 else 0) := rfl
      rw [e] at ihm
      unfold fX6_meets_h36 fX6_meets_b61 fX6_meets_b66
      rw [m9]
      refine ⟨fun z => absurd z (nI_ge hr (by omega)), fun _ => ?_⟩
      by_cases c : 0 < cn r (fun r => gLk G (48 + a) r t)
      · rw [if_pos c]
        rw [if_pos (by omega)] at ihm
        exact ⟨fun _ => nm_r (nI_1 r) ihm, fun z => absurd z (by decide)⟩
      · rw [if_neg c]
        refine ⟨fun z => absurd rfl z, fun _ => r6_seesOf hG (rM_I0 hM) a1 hr (by omega) ?_⟩
        by_cases d : gLk G (48 + a) r t = true
        · rw [if_pos d]
          rw [if_pos d, if_pos (by omega)] at ihm
          exact ⟨fun z => absurd z (by decide), fun _ => nm_r (nI_1 r) ihm⟩
        · rw [if_neg d]
          rw [if_neg d, if_neg (by omega)] at ihm
          exact ⟨fun _ => nm_r (nI_1 r) ihm, fun z => absurd rfl z⟩
theorem q_part {G : Geo} {I : Nat → Int32} {X : Nat → Nat → Int32} {Q : Int32 → (Nat → Int32) → (Nat → Nat → Int32) → Prop} {x1 x2 x3 : Int32} (hG : gok G) (hM : rM G I X) (h1 : ¬ (okP G x1 ∧ okP G x2) → ∀ I', sI I I' 1 → Q 0 I' X) (h2 : okP G x1 → okP G x2 → ¬ okT x3 → ∀ I', sI I I' 2 → Q 0 I' X) (he : okP G x1 → x1 = x2 → okT x3 → ∀ I', sI I I' 0 → Q (-1) I' X) (h0 : ∀ a b t, a < G 0 2 → b < G 0 2 → a ≠ b → t ≤ 100000000 → x1 = nI a → x2 = nI b → x3 = nI t → ∀ I' X' n, sI I I' 0 → (∀ k, k ≠ 16 → k ≠ 17 → k ≠ 18 → X' k = X k) → nMC (gE0 G a b t) ((n : Nat) : Int) → n ≤ 48 → Q (nI n) I' X') : fX6_part Q I X x1 x2 x3 := by
  have n8 := gok_ns hG
  unfold fX6_part fX6_part_b22 fX6_part_b27
  refine nm_e (r_noPost hG hM.2.2.1 (fun o1 => ⟨fun z => absurd rfl z, fun _ => r_noPost hG hM.2.2.1 (fun o2 => ⟨fun _ => r_th0 ⟨fun z => absurd rfl z, fun _ => r_noTick (fun o3 => r_th0 ⟨fun _ => ⟨fun z => ?_, fun z => he o1 z o3 _ sI_0⟩, fun z => absurd rfl z⟩) (fun o3 => r_th1 ⟨fun z => absurd z (by decide), fun _ => h2 o1 o2 o3 _ sI_1⟩)⟩, fun z => absurd rfl z⟩) (fun o2 => ⟨fun z => absurd z (by decide), fun _ => r_th1 ⟨fun _ => h1 (fun y => o2 y.2) _ sI_1, fun z => absurd z (by decide)⟩⟩)⟩) (fun o1 => ⟨fun _ => r_th1 ⟨fun _ => h1 (fun y => o1 y.1) _ sI_1, fun z => absurd z (by decide)⟩, fun z => absurd z (by decide)⟩))
  obtain ⟨a, a1, rfl⟩ := o1
  obtain ⟨b, b1, rfl⟩ := o2
  obtain ⟨t, t1, rfl⟩ := o3
  exact r6_flows hG (rM_I0 hM) a1 b1 (by omega) (fun X' n f1 f2 f3 => h0 a b t a1 b1 (fun y => z (by rw [y])) t1 rfl rfl rfl _ X' n sI_0 f1 f2 f3)
theorem q_steps {G : Geo} {nl now : Nat} {E : Let} {I : Nat → Int32} {X : Nat → Nat → Int32} {Q : Int32 → (Nat → Int32) → (Nat → Nat → Int32) → Prop} {x1 : Int32} (hG : gok G) (hM : rM G I X) (hK : rK G X) (hE : eOK G nl now E) (h : rLM nl now E I X) (hn : now + 100 < 2 ^ 20) (h1 : (¬ ∃ k, k ≤ 100 ∧ x1 = nI k) → ∀ I', sI I I' 1 → Q 0 I' X) (h0 : ∀ k, k ≤ 100 → x1 = nI k → ∀ I' X', I' 0 = 0 → rM G I' X' → rK G X' → rLM nl (now + k) (eRun G nl now E k) I' X' → Q (nI (now + k)) I' X') : fX6_steps Q I X x1 := by
  unfold fX6_steps fX6_steps_b21
  refine nm_e (r_in (fun o => ⟨fun _ => r_th0 ⟨fun _ => ?_, fun z => absurd rfl z⟩, fun z => absurd z (by decide)⟩) (fun o => ⟨fun z => absurd rfl z, fun _ => r_th1 ⟨fun z => absurd z (by decide), fun _ => h1 (fun y => o ((bt_k (n := 100) (by decide)).mpr y)) _ sI_1⟩⟩))
  obtain ⟨k, k1, rfl⟩ := (bt_k (n := 100) (by decide)).mp o
  exact r6_run hG (rM_I0 hM) hK hE (rLM_congr h rfl rfl (fun _ _ _ => rfl)) (by omega) (fun I' X' f1 f2 f3 f4 => h0 k k1 rfl I' X' (f1 0 (by decide) (by decide)) f2 f3 f4)

/-! a step: the class's side -/
theorem gD_ex (G : Geo) (hG : gok G) (j v t : Nat) : ∃ x, gD G j v t x := by
  by_cases q : ∃ d, gR G j d v t
  · obtain ⟨k, k1, k2⟩ := pk_least (fun d => gR G j d v t) q
    have b : k ≤ 1649 := by
      by_cases z : k ≤ 1649
      · exact z
      · exact absurd (dR_bound (gTk_perI G) (gok_nr hG) k1) (k2 1649 (by omega))
    refine ⟨k, Or.inl ⟨by omega, k1, fun d hd => ?_⟩⟩
    by_cases z : k ≤ d
    · exact z
    · exact absurd hd (k2 d (by omega))
  · exact ⟨1000000, Or.inr ⟨rfl, fun d hd => q ⟨d, hd⟩⟩⟩
noncomputable def gdv (G : Geo) (j v t : Nat) : Nat := @dite _ (gok G) (Classical.propDecidable _) (fun h => Classical.choose (gD_ex G h j v t)) (fun _ => 0)
theorem gdv_D {G : Geo} (hG : gok G) (j v t : Nat) : gD G j v t (gdv G j v t) := by
  unfold gdv
  rw [dif_pos hG]
  exact Classical.choose_spec (gD_ex G hG j v t)
theorem gdv_of {G : Geo} (hG : gok G) {j v t x : Nat} (h : gD G j v t x) : x = gdv G j v t := dL_one h (gdv_D hG j v t)
theorem gdv_le {G : Geo} (hG : gok G) (j v t : Nat) : gdv G j v t ≤ 1000000 := by
  rcases gdv_D hG j v t with h | h <;> omega
theorem gdv_1 {G : Geo} (hG : gok G) {j v t : Nat} (hv : v < 48) (h : gTk G (48 + j) v t = true) : gdv G j v t = 1 := by
  have r : gR G j 1 v t := dR_end hv h
  rcases gdv_D hG j v t with ⟨a, b, c⟩ | ⟨a, b⟩
  · have := c 1 r
    have n0 : gdv G j v t ≠ 0 := by
      intro z
      rw [z] at b
      exact dR_0 b
    omega
  · exact absurd r (b 1)
/-- the least i < n that has it, and 1; 0 if there is none -/
def fnd : Nat → (Nat → Bool) → Nat
  | 0, _ => 0
  | n + 1, p => if fnd n p ≠ 0 then fnd n p else if p n = true then n + 1 else 0
theorem fnd_0 {n : Nat} {p : Nat → Bool} (h : ∀ i, i < n → p i = false) : fnd n p = 0 := by
  induction n with
  | zero => rfl
  | succ n ih =>
    unfold fnd
    rw [ih (fun i hi => h i (by omega)), if_neg (by simp), h n (by omega)]
    rfl
theorem fnd_at {n i : Nat} {p : Nat → Bool} (hi : i < n) (hp : p i = true) (h : ∀ k, k < i → p k = false) : fnd n p = i + 1 := by
  induction n with
  | zero => omega
  | succ n ih =>
    unfold fnd
    by_cases q : i = n
    · subst q
      rw [fnd_0 h, if_neg (by simp), if_pos hp]
    · rw [ih (by omega), if_pos (by omega)]
theorem fnd_le (n : Nat) (p : Nat → Bool) : fnd n p ≤ n := by
  induction n with
  | zero => exact Nat.le_refl _
  | succ n ih => unfold fnd; split <;> (try split) <;> omega
/-- the letter at v that goes to j would take this link now: the node and 1, 0 if it waits -/
noncomputable def gGo (G : Geo) (now v j r : Nat) : Bool := gTk G v r now && decide (gdv G j v now < 1000000 ∧ gln G v r + gdv G j r (now + gln G v r) = gdv G j v now)
noncomputable def gCh (G : Geo) (now v j : Nat) : Nat := if v < 48 ∧ gTk G (48 + j) v now = true then 48 + j + 1 else fnd (G 0 1) (gGo G now v j)
theorem wLt_dv {G : Geo} (hG : gok G) {j v t : Nat} {x : Int32} (h : wLt G j v t x) : (gdv G j v t < 1000000 ∧ x = nI (gdv G j v t)) ∨ (gdv G j v t = 1000000 ∧ x = -1) := by
  rcases h with ⟨m, a, b, c⟩ | ⟨a, b⟩
  · have := gdv_of hG c
    subst this
    exact Or.inl ⟨a, b⟩
  · have := gdv_of hG b
    exact Or.inr ⟨this.symm, a⟩
theorem nI_m1 {n : Nat} (h : n < 2 ^ 31) : ¬ nI n = (-1 : Int32) := by
  intro z
  have := nI_toInt h
  rw [z, show (-1 : Int32).toInt = -1 from by decide] at this
  omega
/-- the ways, as the class has them when letters go: those that count are known -/
def wKn (G : Geo) (nl : Nat) (E : Let) (nW : Nat) (WL : Nat → Nat → Int32) : Prop := nW = G 0 2 ∧ ∀ i, i < nl → E i 3 ≤ 1 → wOK G (E i 1) (WL (E i 1))
theorem r2_choose {G : Geo} {SI : Nat → Int32} {SX : Nat → Nat → Int32} {nl now : Nat} {E : Let} {MI : Nat → Int32} {TT : Nat → Int64} {AW : Nat → Int32} {nE : Nat} {LT : Nat → Nat → Int32} {la : Nat → Nat} {nW : Nat} {WI : Nat → Nat → Int32} {WR : Nat → Nat → Nat} {WL : Nat → Nat → Int32} {WX : Nat → Nat → Nat → Int32} {wd : Nat → Nat → Nat} {i : Nat} {Q : Int32 → Prop} (hG : gok G) (hS : rS G SI SX) (hE : eOK G nl now E) (h : rLC nl now E MI nE LT) (hi : i < nl) (h1 : E i 3 ≤ 1) (hnW : nW = G 0 2) (hw : wOK G (E i 1) (WL (E i 1))) (hq : Q (oI (gCh G now (E i 4) (E i 1)))) : fX2_choose SI SX MI TT AW nE LT la nW WI WR WL WX wd i Q := by
  have n8 := gok_ns hG
  have n48 := gok_nr hG
  obtain ⟨c1, c2, c3⟩ := id hE
  obtain ⟨h0, hm1, h2, h3⟩ := h
  obtain ⟨l0, l1, l2, l3, l7, l8, l9, l4, l5⟩ := h3 i hi
  obtain ⟨x0, x1, x2, x3, x4, x5, x6⟩ := c3 i hi
  subst h2 hnW
  have va : gva G (E i 4) := by
    have : E i 3 = 0 ∨ E i 3 = 1 := by omega
    rcases this with z | z
    · rw [x4 z]; exact Or.inr ⟨by omega, by omega⟩
    · exact Or.inl (x5 z)
  have ne : E i 4 ≠ 48 + E i 1 := by
    have : E i 3 = 0 ∨ E i 3 = 1 := by omega
    rcases this with z | z
    · rw [x4 z]; omega
    · have := x5 z; omega
  have v56 := gva_56 hG va
  have gl := gnt_le hG (E i 4)
  unfold fX2_choose
  rw [l1, l4 (by omega), h0]
  refine ⟨hi, pk_in (E i 1) 8 (by omega), E i 1, (nI_clamp (by omega)).symm, x1, hi, nm_e ⟨x1, ?_⟩⟩
  refine r4_lateness x1 v56 ne (by omega) hw (fun x hx => ?_)
  have fin : ¬ (E i 4 < 48 ∧ gTk G (48 + E i 1) (E i 4) now = true) → gdv G (E i 1) (E i 4) now < 1000000 → fX2_choose_b71 SI SX MI TT AW nE LT la (G 0 2) WI WR WL WX wd i Q (E i 1) (nI (E i 4)) (nI (gdv G (E i 1) (E i 4) now)) := by
    intro hno hfar
    have eq : gCh G now (E i 4) (E i 1) = fnd (G 0 1) (gGo G now (E i 4) (E i 1)) := by unfold gCh; rw [if_neg hno]
    rw [eq] at hq
    have far : ∀ r, (r < gnf G (E i 4) ∨ gnt G (E i 4) ≤ r) → r < G 0 1 → gGo G now (E i 4) (E i 1) r = false := by
      intro r hr hr2
      unfold gGo
      cases c : gTk G (E i 4) r now
      · rfl
      · have := gth_near hG (gpn_lt hG va) hr2 (gTk_th c)
        omega
    unfold fX2_choose_b71
    refine r3_nearTo hG hS.1 va (r3_nearFrom hG hS.1 va ?_)
    have nfl : gnf G (E i 4) ≤ G 0 1 := by
      unfold gnf
      exact gok_5r hG (by have := gpn_lt hG va; omega)
    by_cases hle : gnf G (E i 4) ≤ gnt G (E i 4)
    · refine pk_loop (σ := Unit) (fun n k _ => fX2_choose_h91 SI SX MI TT AW nE LT la (G 0 2) WI WR WL WX wd i Q n (E i 1) (nI (E i 4)) (nI (gdv G (E i 1) (E i 4) now)) (nI (gnt G (E i 4))) (nI k)) (fun k _ => ∀ r, r < k → r < G 0 1 → gGo G now (E i 4) (E i 1) r = false) (gnt G (E i 4)) (gnf G (E i 4)) () hle (fun r hr => far r (Or.inl hr)) ?_ ?_
      · intro n _ hk
        unfold fX2_choose_h91
        refine ⟨fun _ => ?_, fun z => absurd (nI_le (Nat.le_refl _) (by omega)) z⟩
        rw [fnd_0 (fun r hr => by
          by_cases q : r < gnt G (E i 4)
          · exact hk r q hr
          · exact far r (Or.inr (by omega)) hr)] at hq
        exact hq
      · intro n k _ hk hin ih
        unfold fX2_choose_h91 fX2_choose_b161 fX2_isNow
        refine ⟨fun z => absurd z (nI_ge hk (by omega)), fun _ => ?_⟩
        refine r3_ticksToTake hG hS v56 (by omega) (fun T hT => ?_)
        rw [h0]
        have skip : gGo G now (E i 4) (E i 1) k = false → ∀ x6 : Int32, x6 = nI k + 1 → fX2_choose_h91 SI SX MI TT AW nE LT la (G 0 2) WI WR WL WX wd i Q n (E i 1) (nI (E i 4)) (nI (gdv G (E i 1) (E i 4) now)) (nI (gnt G (E i 4))) x6 := by
          intro hf
          refine nm_r (nI_1 k) (ih () (fun r hr hr2 => ?_))
          by_cases e : r = k
          · rw [e]; exact hf
          · exact hin r (by omega) hr2
        have eT := hT (now % 32) (Nat.mod_lt _ (by decide))
        rw [gTk_mod] at eT
        refine ⟨fun z => ?_, fun z => ?_⟩
        · have y := (ib_sh31 (by omega)).mp z
          rw [eT] at y
          refine ⟨fun _ => skip (by unfold gGo; rw [y]; rfl), fun u => absurd rfl u⟩
        · have y : gTk G (E i 4) k now = true := by
            cases c : gTk G (E i 4) k now
            · exact absurd ((ib_sh31 (by omega)).mpr (by rw [eT]; exact c)) z
            · rfl
          refine ⟨fun u => absurd u (by decide), fun _ => ?_⟩
          refine r3_lengthOf hG hS.1 va (Or.inl (by omega)) ?_
          refine ⟨x1, ?_⟩
          have l12 := gln_12 G (E i 4) k
          rw [show nI now + nI (gln G (E i 4) k) = nI (now + gln G (E i 4) k) from nI_add _ _]
          refine r4_lateness x1 (by omega) (by omega) (by omega) hw (fun x2 hx2 => ?_)
          have ld := gdv_le hG (E i 1) k (now + gln G (E i 4) k)
          rcases wLt_dv hG hx2 with ⟨w1, w2⟩ | ⟨w1, w2⟩
          · rw [w2]
            refine ⟨fun u => absurd u (nI_m1 (by omega)), fun _ => ?_⟩
            rw [nI_add]
            refine ⟨fun u => skip ?_, fun u => ?_⟩
            · unfold gGo
              rw [y, decide_eq_false (fun s => u (by rw [s.2]))]
              rfl
            · have e2 : gln G (E i 4) k + gdv G (E i 1) k (now + gln G (E i 4) k) = gdv G (E i 1) (E i 4) now := (nI_eq (by omega) (by omega)).mp u
              rw [fnd_at (i := k) (by omega) (by unfold gGo; rw [y, decide_eq_true ⟨hfar, e2⟩]; rfl) (fun r hr => hin r hr (by omega))] at hq
              exact hq
          · rw [w2]
            refine ⟨fun _ => skip ?_, fun u => absurd rfl u⟩
            unfold gGo
            rw [decide_eq_false (fun s => by omega), Bool.and_false]
    · refine ⟨0 + 1, ?_⟩
      unfold fX2_choose_h91
      refine ⟨fun _ => ?_, fun z => absurd (nI_le (by omega) (by omega)) z⟩
      rw [fnd_0 (fun r hr => far r (by omega) hr)] at hq
      exact hq
  rcases wLt_dv hG hx with ⟨w1, w2⟩ | ⟨w1, w2⟩
  · rw [w2]
    refine ⟨fun _ => ?_, fun u => absurd u (nI_m1 (by omega))⟩
    refine r5_isRelay (by omega) ?_
    by_cases q : E i 4 < 48
    · rw [if_pos q]
      refine ⟨fun u => absurd u (by decide), fun _ => ⟨hi, ?_⟩⟩
      unfold fX5_nodeOf
      rw [show (48 : Int32) + nI (E i 1) = nI (48 + E i 1) from nI_add 48 _]
      refine r3_ticksToTake hG hS (by omega) q (fun T hT => ?_)
      unfold fX2_isNow
      rw [h0]
      have eT := hT (now % 32) (Nat.mod_lt _ (by decide))
      rw [gTk_mod] at eT
      refine ⟨fun z => ?_, fun z => ?_⟩
      · have y := (ib_sh31 (by omega)).mp z
        rw [eT] at y
        exact ⟨fun _ => fin (fun s => by rw [s.2] at y; exact Bool.noConfusion y) w1, fun u => absurd rfl u⟩
      · have y : gTk G (48 + E i 1) (E i 4) now = true := by
          cases c : gTk G (48 + E i 1) (E i 4) now
          · exact absurd ((ib_sh31 (by omega)).mpr (by rw [eT]; exact c)) z
          · rfl
        refine ⟨fun u => absurd u (by decide), fun _ => ⟨hi, ?_⟩⟩
        have eq : gCh G now (E i 4) (E i 1) = 48 + E i 1 + 1 := by unfold gCh; rw [if_pos ⟨q, y⟩]
        rw [eq] at hq
        exact hq
    · rw [if_neg q]
      exact ⟨fun _ => fin (fun s => q s.1) w1, fun u => absurd rfl u⟩
  · rw [w2]
    refine ⟨fun u => absurd rfl u, fun _ => ?_⟩
    have eq : gCh G now (E i 4) (E i 1) = 0 := by
      unfold gCh
      have no : ¬ (E i 4 < 48 ∧ gTk G (48 + E i 1) (E i 4) now = true) := by
        intro s
        have := gdv_1 hG s.1 s.2
        omega
      rw [if_neg no]
      refine fnd_0 (fun r hr => ?_)
      unfold gGo
      rw [decide_eq_false (fun s => by omega), Bool.and_false]
    rw [eq] at hq
    exact hq
/-- the node to which it goes is a relay, or its end -/
theorem gCh_in {G : Geo} {now v j : Nat} (h : gCh G now v j ≠ 0) : (gCh G now v j - 1 < G 0 1 ∨ gCh G now v j - 1 = 48 + j) := by
  unfold gCh at h ⊢
  by_cases q : v < 48 ∧ gTk G (48 + j) v now = true
  · rw [if_pos q]; right; omega
  · rw [if_neg q] at h ⊢
    have := fnd_le (G 0 1) (gGo G now v j)
    left; omega
/-- letters on their way: E and the links taken at this step -/
abbrev LTk : Type := Let × (Nat → Nat → Bool)
noncomputable def eM1 (G : Geo) (now : Nat) (s : LTk) (i : Nat) : LTk :=
  if s.1 i 3 ≤ 1 ∧ gCh G now (s.1 i 4) (s.1 i 1) ≠ 0 ∧ s.2 (s.1 i 4) (gCh G now (s.1 i 4) (s.1 i 1) - 1) = false then
    (fun a k => if a = i then (if k = 3 then 2 else if k = 5 then gCh G now (s.1 i 4) (s.1 i 1) - 1 else if k = 6 then now + gln G (s.1 i 4) (gCh G now (s.1 i 4) (s.1 i 1) - 1) else if k = 7 then s.1 i 7 + 1 else s.1 a k) else s.1 a k,
     fun a b => if a = s.1 i 4 ∧ b = gCh G now (s.1 i 4) (s.1 i 1) - 1 then true else s.2 a b)
  else s
noncomputable def eMs (G : Geo) (now : Nat) (E : Let) : Nat → LTk
  | 0 => (E, fun _ _ => false)
  | n + 1 => eM1 G now (eMs G now E n) n
theorem eM1_ne {G : Geo} {now : Nat} {s : LTk} {i a : Nat} (h : a ≠ i) (k : Nat) : (eM1 G now s i).1 a k = s.1 a k := by
  unfold eM1
  split
  · show (if a = i then _ else s.1 a k) = _
    rw [if_neg h]
  · rfl
theorem eMs_ge {G : Geo} {now : Nat} {E : Let} {n a : Nat} (h : n ≤ a) (k : Nat) : (eMs G now E n).1 a k = E a k := by
  induction n with
  | zero => rfl
  | succ n ih =>
    show (eM1 G now (eMs G now E n) n).1 a k = _
    rw [eM1_ne (by omega), ih (by omega)]
theorem eM1_k {G : Geo} {now : Nat} {s : LTk} {i a k : Nat} (h3 : k ≠ 3) (h5 : k ≠ 5) (h6 : k ≠ 6) (h7 : k ≠ 7) : (eM1 G now s i).1 a k = s.1 a k := by
  unfold eM1
  split
  · show (if a = i then (if k = 3 then 2 else if k = 5 then _ else if k = 6 then _ else if k = 7 then _ else s.1 a k) else s.1 a k) = _
    rw [if_neg h3, if_neg h5, if_neg h6, if_neg h7]
    split <;> rfl
  · rfl
theorem eMs_k {G : Geo} {now : Nat} {E : Let} {n a k : Nat} (h3 : k ≠ 3) (h5 : k ≠ 5) (h6 : k ≠ 6) (h7 : k ≠ 7) : (eMs G now E n).1 a k = E a k := by
  induction n with
  | zero => rfl
  | succ n ih =>
    show (eM1 G now (eMs G now E n) n).1 a k = _
    rw [eM1_k h3 h5 h6 h7, ih]
/-- who waited at a place or has set out; the others are as they were -/
theorem eMs_st {G : Geo} {now : Nat} {E : Let} {n a : Nat} : (eMs G now E n).1 a 3 = E a 3 ∨ (E a 3 ≤ 1 ∧ (eMs G now E n).1 a 3 = 2) := by
  induction n with
  | zero => exact Or.inl rfl
  | succ n ih =>
    show (eM1 G now (eMs G now E n) n).1 a 3 = _ ∨ _ ∧ (eM1 G now (eMs G now E n) n).1 a 3 = 2
    by_cases q : a = n
    · subst q
      have e := eMs_ge (G := G) (now := now) (E := E) (Nat.le_refl a) 3
      unfold eM1
      split
      · next h =>
        right
        rw [e] at h
        refine ⟨h.1, ?_⟩
        show (if a = a then (if 3 = 3 then 2 else _) else _) = 2
        rw [if_pos rfl, if_pos rfl]
      · exact ih
    · rw [eM1_ne q]; exact ih
theorem eOK_M1 {G : Geo} {nl now : Nat} {s : LTk} {i : Nat} (h : eOK G nl now s.1) : eOK G nl now (eM1 G now s i).1 := by
  obtain ⟨h1, h2, h3⟩ := h
  refine ⟨h1, h2, fun a ha => ?_⟩
  by_cases q : a = i
  · subst q
    obtain ⟨x0, x1, x2, x3, x4, x5, x6⟩ := h3 a ha
    unfold eM1
    split
    · next c =>
      have l12 := gln_12 G (s.1 a 4) (gCh G now (s.1 a 4) (s.1 a 1) - 1)
      simp only [if_true, if_neg (show ¬ (0 = 3) by decide), if_neg (show ¬ (0 = 5) by decide), if_neg (show ¬ (0 = 6) by decide), if_neg (show ¬ (0 = 7) by decide), if_neg (show ¬ (1 = 3) by decide), if_neg (show ¬ (1 = 5) by decide), if_neg (show ¬ (1 = 6) by decide), if_neg (show ¬ (1 = 7) by decide), if_neg (show ¬ (4 = 3) by decide), if_neg (show ¬ (4 = 5) by decide), if_neg (show ¬ (4 = 6) by decide), if_neg (show ¬ (4 = 7) by decide), if_neg (show ¬ (5 = 3) by decide), if_neg (show ¬ (6 = 3) by decide), if_neg (show ¬ (6 = 5) by decide)]
      refine ⟨x0, x1, x2, by decide, fun z => absurd z (by decide), fun z => absurd z (by decide), fun _ => ⟨?_, gCh_in c.2.1, by omega, by omega⟩⟩
      have : s.1 a 3 = 0 ∨ s.1 a 3 = 1 := by omega
      rcases this with z | z
      · exact Or.inr (x4 z)
      · exact Or.inl (x5 z)
    · exact ⟨x0, x1, x2, x3, x4, x5, x6⟩
  · rw [eM1_ne q, eM1_ne q, eM1_ne q, eM1_ne q, eM1_ne q, eM1_ne q]
    exact h3 a ha
theorem eOK_Ms {G : Geo} {nl now n : Nat} {E : Let} (h : eOK G nl now E) : eOK G nl now (eMs G now E n).1 := by
  induction n with
  | zero => exact h
  | succ n ih => exact eOK_M1 ih

/-! the reference's letters -/
def rK (G : Geo) (X : Nat → Nat → Int32) : Prop := ∀ j, j < G 0 2 → X 15 j ≠ 0 → kK G j X
theorem kK_congr {G : Geo} {j : Nat} {X X' : Nat → Nat → Int32} (h : kK G j X) (hn : G 0 1 ≤ 48) (e : ∀ i, 1536 * j ≤ i → i < 1536 * j + 1536 → X' 14 i = X 14 i) : kK G j X' := by
  intro r t hr ht
  rw [e _ (by omega) (by omega)]
  exact h r t hr ht
theorem rK_congr {G : Geo} {X X' : Nat → Nat → Int32} (h : rK G X) (e14 : X' 14 = X 14) (e15 : X' 15 = X 15) : rK G X' := by
  intro j hj hk
  rw [e15] at hk
  have := h j hj hk
  intro r t hr ht
  rw [e14]
  exact this r t hr ht
theorem rK_knows {G : Geo} {j : Nat} {X X' : Nat → Nat → Int32} (hG : gok G) (h : rK G X) (e15 : ∀ i, i ≠ j → X' 15 i = X 15 i) (e14 : ∀ i, (i < 1536 * j ∨ 1536 * j + 1536 ≤ i) → X' 14 i = X 14 i) (hk : kK G j X') : rK G X' := by
  intro i hi h0
  by_cases e : i = j
  · subst e; exact hk
  · rw [e15 i e] at h0
    refine kK_congr (h i hi h0) (gok_nr hG) (fun a h1 h2 => e14 a ?_)
    omega
theorem rLM_congr {nl now : Nat} {E : Let} {I I' : Nat → Int32} {X X' : Nat → Nat → Int32} (h : rLM nl now E I X) (h1 : I' 1 = I 1) (h31 : I' 31 = I 31) (hX : ∀ k, 19 ≤ k → k < 29 → X' k = X k) : rLM nl now E I' X' := by
  obtain ⟨a, b, c, d⟩ := h
  refine ⟨by rw [h1]; exact a, by rw [h31]; exact b, fun i hi => ?_, fun i h1 h2 => ?_⟩
  · rw [hX 19 (by decide) (by decide), hX 20 (by decide) (by decide), hX 21 (by decide) (by decide), hX 22 (by decide) (by decide), hX 23 (by decide) (by decide), hX 24 (by decide) (by decide), hX 25 (by decide) (by decide), hX 26 (by decide) (by decide), hX 27 (by decide) (by decide), hX 28 (by decide) (by decide)]
    exact c i hi
  · rw [hX 25 (by decide) (by decide)]; exact d i h1 h2
theorem rLM_set {nl now : Nat} {E E' : Let} {I : Nat → Int32} {X X' : Nat → Nat → Int32} {i : Nat} (h : rLM nl now E I X) (hi : i < nl) (hX : ∀ k a, 19 ≤ k → k < 29 → a ≠ i → X' k a = X k a) (hE : ∀ a k, a ≠ i → E' a k = E a k) (hs : X' 19 i = nI (E' i 0) ∧ X' 20 i = nI (E' i 1) ∧ X' 26 i = nI (E' i 2) ∧ X' 21 i = nI (E' i 3) ∧ X' 25 i = nI (E' i 7) ∧ X' 27 i = oI (E' i 8) ∧ X' 28 i = oI (E' i 9) ∧ (E' i 3 = 0 → X' 22 i = -1) ∧ (E' i 3 = 1 → X' 22 i = nI (E' i 4)) ∧ (E' i 3 = 2 → X' 22 i = (if E' i 4 < 48 then nI (E' i 4) else -1) ∧ X' 23 i = nI (if E' i 5 < 48 then E' i 5 else 1000) ∧ X' 24 i = nI (E' i 6))) : rLM nl now E' I X' := by
  obtain ⟨a, b, c, d⟩ := h
  refine ⟨a, b, fun k hk => ?_, fun k h1 h2 => ?_⟩
  · by_cases e : k = i
    · subst e; exact hs
    · rw [hX 19 k (by decide) (by decide) e, hX 20 k (by decide) (by decide) e, hX 21 k (by decide) (by decide) e, hX 22 k (by decide) (by decide) e, hX 23 k (by decide) (by decide) e, hX 24 k (by decide) (by decide) e, hX 25 k (by decide) (by decide) e, hX 26 k (by decide) (by decide) e, hX 27 k (by decide) (by decide) e, hX 28 k (by decide) (by decide) e, hE k 0 e, hE k 1 e, hE k 2 e, hE k 3 e, hE k 4 e, hE k 5 e, hE k 6 e, hE k 7 e, hE k 8 e, hE k 9 e]
      exact c k hk
  · rw [hX 25 k (by decide) (by decide) (by omega)]; exact d k h1 h2
theorem r6_handsOut {G : Geo} {nl now : Nat} {E : Let} {I : Nat → Int32} {X : Nat → Nat → Int32} {Q : (Nat → Int32) → (Nat → Nat → Int32) → Prop} (hG : gok G) (hE : eOK G nl now E) (h : rLM nl now E I X) (hq : ∀ X', (∀ k, k ≠ 21 → k ≠ 28 → X' k = X k) → rLM nl now (eHO now E nl) I X' → Q I X') : fX6_handsOut Q I X := by
  have n8 := gok_ns hG
  obtain ⟨e1, e2, e3⟩ := id hE
  have m31 : I 31 = nI nl := h.2.1
  have m1 : I 1 = nI now := h.1
  unfold fX6_handsOut
  refine pk_loop (σ := Nat → Nat → Int32) (fun n i s => fX6_handsOut_h2 Q n I s (nI i)) (fun i s => (∀ k, k ≠ 21 → k ≠ 28 → s k = X k) ∧ rLM nl now (eHO now E i) I s) nl 0 X (Nat.zero_le _) ⟨fun _ _ _ => rfl, h⟩ ?_ ?_
  · intro n s ⟨a1, a2⟩
    unfold fX6_handsOut_h2
    rw [m31]
    exact ⟨fun _ => hq s a1 a2, fun z => absurd (nI_le (Nat.le_refl _) (by omega)) z⟩
  · intro n i s hi ⟨a1, a2⟩ ih
    obtain ⟨x0, x1, x2, x3, _⟩ := e3 i hi
    have f0 : eHO now E i i 0 = E i 0 := eHO_ge (Nat.le_refl _)
    have f1 : eHO now E i i 1 = E i 1 := eHO_ge (Nat.le_refl _)
    have f3 : eHO now E i i 3 = E i 3 := eHO_ge (Nat.le_refl _)
    obtain ⟨q0, q1, q2, q3, q7, q8, q9, q40, q41, q42⟩ := a2.2.2.1 i hi
    unfold fX6_handsOut_h2 fX6_handsOut_b122
    rw [m31]
    refine ⟨fun z => absurd z (nI_ge hi (by omega)), fun _ => ?_⟩
    refine ⟨pk_in i 60 (by omega), ?_⟩
    rw [pk_cl i, q3, f3]
    have keep : ¬ (E i 3 = 3 ∧ ¬ eWt (eHO now E i) i) → fX6_handsOut_h2 Q n I s (nI (i + 1)) := by
      intro nc
      have c : ¬ (eHO now E i i 3 = 3 ∧ ¬ eWt (eHO now E i) i) := by rw [f3]; exact nc
      have ee : eHO now E (i + 1) = eHO now E i := eH1_f c
      refine ih s ⟨a1, ?_⟩
      rw [ee]; exact a2
    refine ⟨fun z => ?_, fun z => nm_r (nI_1 i) (keep (fun y => z (by rw [y.1]; rfl)))⟩
    have s3 : E i 3 = 3 := (nI_eq (b := 3) (by omega) (by decide)).mp z
    refine pk_loop (σ := Int32) (fun m k y => fX6_handsOut_h27 (fun a0 a1 a2 => fX6_handsOut_h2 Q n a0 a1 a2) Q m I s (nI i) y (nI k)) (fun k y => (y = 1 ∧ ∀ a, a < k → ¬ (eHO now E i a 0 = eHO now E i i 0 ∧ eHO now E i a 1 = eHO now E i i 1 ∧ eHO now E i a 3 ≠ 4 ∧ eHO now E i a 3 ≠ 5)) ∨ (y = 0 ∧ eWt (eHO now E i) i)) i 0 1 (Nat.zero_le _) (Or.inl ⟨rfl, fun a ha => by omega⟩) ?_ ?_
    · intro m y hy
      unfold fX6_handsOut_h27 fX6_handsOut_b122
      refine ⟨fun _ => ?_, fun z => absurd (nI_le (Nat.le_refl _) (by omega)) z⟩
      rcases hy with ⟨y1, y2⟩ | ⟨y1, y2⟩
      · rw [y1]
        refine ⟨fun _ => ?_, fun z => absurd z (by decide)⟩
        have w : ¬ eWt (eHO now E i) i := fun ⟨k, k1, k2⟩ => y2 k k1 k2
        have c : eHO now E i i 3 = 3 ∧ ¬ eWt (eHO now E i) i := ⟨by rw [f3]; exact s3, w⟩
        have ee : eHO now E (i + 1) = (fun a k => if a = i ∧ k = 3 then 4 else if a = i ∧ k = 9 then now + 1 else eHO now E i a k) := eH1_t c
        refine ⟨pk_in i 60 (by omega), ?_⟩
        rw [pk_cl i]
        refine fun X1 ex1 => ⟨pk_in i 60 (by omega), fun X2 ex2 => nm_r (nI_1 i) (ih X2 ⟨fun k h1 h2 => ?_, ?_⟩)⟩
        · rw [ex2, ex1]; simp only [va_up, if_neg h1, if_neg h2]; exact a1 k h1 h2
        · refine rLM_set (i := i) a2 hi (fun k a h1 h2 ha => ?_) (fun a k ha => ?_) ?_
          · rw [ex2, ex1]
            by_cases e28 : k = 28
            · subst e28; simp [va_up, upd, ha]
            · by_cases e21 : k = 21
              · subst e21; simp [va_up, upd, ha]
              · simp [va_up, e28, e21]
          · rw [ee]
            show (if a = i ∧ k = 3 then 4 else if a = i ∧ k = 9 then now + 1 else eHO now E i a k) = _
            rw [if_neg (fun z => ha z.1), if_neg (fun z => ha z.1)]
          · rw [ee, ex2, ex1]
            simp only [va_up, upd, if_true]
            refine ⟨q0, q1, q2, (show upd (s 21) i 4 i = nI 4 from by rw [pk_us]; rfl), q7, q8, ?_, fun z => absurd z (by simp), fun z => absurd z (by simp), fun z => absurd z (by simp)⟩
            show I 1 = oI (now + 1)
            rw [m1]; rfl
      · rw [y1]
        exact ⟨fun z => absurd rfl z, fun _ => nm_r (nI_1 i) (keep (fun y => y.2 y2))⟩
    · intro m k y hk hy ihm
      obtain ⟨p0, p1, p2, p3, _⟩ := a2.2.2.1 k (by omega)
      obtain ⟨w0, w1, w2, w3, _⟩ := (eOK_HO (m := now) hE).2.2 k (by omega)
      have v3 : eHO now E i k 3 ≤ 5 := by
        rcases eHO_st (now := now) (E := E) (n := i) (a := k) with e | ⟨_, e⟩
        · rw [e]; exact (e3 k (by omega)).2.2.2.1
        · omega
      have g0 : eHO now E i k 0 < G 0 2 := by rw [eHO_o (by decide) (by decide)]; exact (e3 k (by omega)).1
      have g1 : eHO now E i k 1 < G 0 2 := by rw [eHO_o (by decide) (by decide)]; exact (e3 k (by omega)).2.1
      unfold fX6_handsOut_h27 fX6_handsOut_b90 fX6_handsOut_b86 fX6_handsOut_b91
      refine ⟨fun z => absurd z (nI_ge hk (by omega)), fun _ => ?_⟩
      rcases hy with ⟨y1, y2⟩ | ⟨y1, y2⟩
      · rw [y1]
        refine ⟨fun z => absurd z (by decide), fun _ => ?_⟩
        refine ⟨pk_in k 60 (by omega), pk_in i 60 (by omega), ?_⟩
        rw [pk_cl k, pk_cl i, p0, p1, p3, q0, q1]
        have good : ¬ (eHO now E i k 0 = eHO now E i i 0 ∧ eHO now E i k 1 = eHO now E i i 1 ∧ eHO now E i k 3 ≠ 4 ∧ eHO now E i k 3 ≠ 5) → ∀ x3_21 : Int32, x3_21 = nI k + (1 : Int32) → fX6_handsOut_h27 (fun a0 a1 a2 => fX6_handsOut_h2 Q n a0 a1 a2) Q m I s (nI i) 1 x3_21 := by
          intro hg
          refine nm_r (nI_1 k) (ihm 1 (Or.inl ⟨rfl, fun a ha => ?_⟩))
          by_cases e : a = k
          · rw [e]; exact hg
          · exact y2 a (by omega)
        rw [f0, f1]
        rw [f0, f1] at good
        refine ⟨fun z => good (fun w => z (by rw [w.1])), fun z => ?_⟩
        have c0 : eHO now E i k 0 = E i 0 := (nI_eq (by omega) (by omega)).mp z
        refine ⟨pk_in k 60 (by omega), pk_in i 60 (by omega), ⟨fun z => good (fun w => z (by rw [w.2.1])), fun z => ?_⟩⟩
        have c1 : eHO now E i k 1 = E i 1 := (nI_eq (by omega) (by omega)).mp z
        refine ⟨pk_in k 60 (by omega), pk_eq (eHO now E i k 3) 4 (fun z => good (fun w => w.2.2.1 z)) (fun z4 => ⟨pk_in k 60 (by omega), ⟨fun z => ?_, fun z => good (fun w => w.2.2.2 ((nI_eq (b := 5) (by omega) (by decide)).mp z))⟩⟩)⟩
        refine nm_r (nI_1 k) (ihm 0 (Or.inr ⟨rfl, k, hk, by rw [f0]; exact c0, by rw [f1]; exact c1, z4, fun w => z (by rw [w]; rfl)⟩))
      · rw [y1]
        exact ⟨fun _ => nm_r (nI_1 k) (ihm 0 (Or.inr ⟨rfl, y2⟩)), fun z => absurd rfl z⟩
/-- how the reference names a node of a link that was taken -/
def en (v : Nat) : Nat := if v < 48 then v else 952 + v
theorem en_inj {a b : Nat} (ha : a < 56) (hb : b < 56) (h : en a = en b) : a = b := by
  unfold en at h
  split at h <;> split at h <;> omega
theorem en_lt {a : Nat} (ha : a < 56) : en a < 1010 := by unfold en; split <;> omega
def kTk (TK : Nat → Nat → Bool) (m : Nat) (I : Nat → Int32) (X : Nat → Nat → Int32) : Prop := I 32 = nI m ∧ (∀ k, k < m → ∃ v u, v < 56 ∧ u < 56 ∧ X 29 k = nI (en v) ∧ X 30 k = nI (en u)) ∧ ∀ v u, v < 56 → u < 56 → (TK v u = true ↔ ∃ k, k < m ∧ X 29 k = nI (en v) ∧ X 30 k = nI (en u))
theorem r6_isTaken {TK : Nat → Nat → Bool} {m : Nat} {I : Nat → Int32} {X : Nat → Nat → Int32} {v u : Nat} {Q : Int32 → Prop} (h : kTk TK m I X) (hm : m ≤ 60) (hv : v < 56) (hu : u < 56) (hq : Q (nI (if TK v u = true then 1 else 0))) : fX6_isTaken I X Q (nI (en v)) (nI (en u)) := by
  obtain ⟨h1, h2, h3⟩ := h
  unfold fX6_isTaken
  refine pk_loop (σ := Int32) (fun n k y => fX6_isTaken_h5 I X Q n (nI (en v)) (nI (en u)) y (nI k)) (fun k y => (y = 1 ∧ ∃ a, a < k ∧ X 29 a = nI (en v) ∧ X 30 a = nI (en u)) ∨ (y = 0 ∧ ∀ a, a < k → ¬ (X 29 a = nI (en v) ∧ X 30 a = nI (en u)))) m 0 0 (Nat.zero_le _) (Or.inr ⟨rfl, fun a ha => by omega⟩) ?_ ?_
  · intro n y hy
    unfold fX6_isTaken_h5
    rw [h1]
    refine ⟨fun _ => ?_, fun z => absurd (nI_le (Nat.le_refl _) (by omega)) z⟩
    rcases hy with ⟨y1, y2⟩ | ⟨y1, y2⟩
    · rw [if_pos ((h3 v u hv hu).mpr (by obtain ⟨a, a1, a2⟩ := y2; exact ⟨a, a1, a2⟩))] at hq
      rw [y1]
      exact ⟨by unfold vz; decide, hq⟩
    · rw [if_neg (fun z => by obtain ⟨a, a1, a2⟩ := (h3 v u hv hu).mp z; exact y2 a a1 a2)] at hq
      rw [y1]
      exact ⟨by unfold vz; decide, hq⟩
  · intro n k y hk hy ih
    unfold fX6_isTaken_h5 fX6_isTaken_b40 fX6_isTaken_b44 fX6_isTaken_b45
    rw [h1]
    refine ⟨fun z => absurd z (nI_ge hk (by omega)), fun _ => ?_⟩
    rcases hy with ⟨y1, y2⟩ | ⟨y1, y2⟩
    · rw [y1]
      refine ⟨fun _ => nm_r (nI_1 k) (ih 1 (Or.inl ⟨rfl, ?_⟩)), fun z => absurd z (by decide)⟩
      obtain ⟨a, a1, a2⟩ := y2
      exact ⟨a, by omega, a2⟩
    · rw [y1]
      refine ⟨fun z => absurd rfl z, fun _ => ⟨pk_in k 60 (by omega), ?_⟩⟩
      rw [pk_cl k]
      have no : ¬ (X 29 k = nI (en v) ∧ X 30 k = nI (en u)) → ∀ x : Int32, x = nI k + (1 : Int32) → fX6_isTaken_h5 I X Q n (nI (en v)) (nI (en u)) 0 x := by
        intro hn
        refine nm_r (nI_1 k) (ih 0 (Or.inr ⟨rfl, fun a ha => ?_⟩))
        by_cases e : a = k
        · rw [e]; exact hn
        · exact y2 a (by omega)
      refine ⟨fun z => no (fun w => z w.1), fun z => ⟨pk_in k 60 (by omega), ⟨fun y => no (fun w => y w.2), fun y => ?_⟩⟩⟩
      exact nm_r (nI_1 k) (ih 1 (Or.inl ⟨rfl, k, by omega, z, y⟩))
def cI (c : Nat) : Int32 := if c = 0 then -1 else nI (if c - 1 < 48 then c - 1 else 1000)
theorem kK_dv {G : Geo} {j r t : Nat} {X : Nat → Nat → Int32} (hG : gok G) (h : kK G j X) (hr : r < G 0 1) : X 14 ((48 * j + r) * 32 + t % 32) = nI (gdv G j r t) := by
  obtain ⟨a, a1, a2⟩ := h r (t % 32) hr (Nat.mod_lt _ (by decide))
  have : gD G j r t a := dL_mod (gTk_perI G) (Nat.mod_mod _ _) a2
  rw [a1, gdv_of hG this]
theorem fnd_p {n : Nat} {p : Nat → Bool} (h : fnd n p ≠ 0) : p (fnd n p - 1) = true := by
  induction n with
  | zero => exact absurd rfl h
  | succ n ih =>
    unfold fnd at h ⊢
    by_cases q : fnd n p ≠ 0
    · rw [if_pos q] at h ⊢; exact ih q
    · rw [if_neg q] at h ⊢
      by_cases z : p n = true
      · rw [if_pos z]; exact z
      · rw [if_neg z] at h; exact absurd rfl h
theorem gCh_Tk {G : Geo} {now v j : Nat} (h : gCh G now v j ≠ 0) (h48 : gCh G now v j - 1 < 48) : gTk G v (gCh G now v j - 1) now = true := by
  unfold gCh at h h48 ⊢
  by_cases q : v < 48 ∧ gTk G (48 + j) v now = true
  · rw [if_pos q] at h48; omega
  · rw [if_neg q] at h ⊢
    have := fnd_p h
    unfold gGo at this
    rw [Bool.and_eq_true] at this
    exact this.1
theorem r6_choice {G : Geo} {nl now : Nat} {E : Let} {I : Nat → Int32} {X : Nat → Nat → Int32} {i : Nat} {Q : Int32 → (Nat → Int32) → (Nat → Nat → Int32) → Prop} (hG : gok G) (hM : rM G I X) (hK : rK G X) (hE : eOK G nl now E) (h : rLM nl now E I X) (hi : i < nl) (h1 : E i 3 ≤ 1) (hq : ∀ X', (∀ k, k ≠ 14 → k ≠ 15 → X' k = X k) → rK G X' → Q (cI (gCh G now (E i 4) (E i 1))) I X') : fX6_choice Q I X (nI i) := by
  have n8 := gok_ns hG
  have n48 := gok_nr hG
  obtain ⟨c1, c2, c3⟩ := id hE
  obtain ⟨x0, x1, x2, x3, x4, x5, x6⟩ := c3 i hi
  obtain ⟨m1, m31, h3, _⟩ := id h
  obtain ⟨q0, q1, q2, q3, q7, q8, q9, q40, q41, q42⟩ := h3 i hi
  -- the loop over the relays, and what stands ahead of it
  have fin : ∀ X', (∀ k, k ≠ 14 → k ≠ 15 → X' k = X k) → rK G X' → kK G (E i 1) X' → fX6_choice_b54 Q I X' (nI i) (nI (E i 1)) (nI (gdv G (E i 1) (E i 4) now)) := by
    intro X' f1 f2 f3
    have hM' : rM G I X' := rM_congr hM rfl rfl rfl (fun k hk => f1 k (by omega) (by omega))
    have m9 := hM'.2.1
    have e21 : X' 21 i = nI (E i 3) := by rw [f1 21 (by decide) (by decide)]; exact q3
    have e22 : X' 22 i = X 22 i := by rw [f1 22 (by decide) (by decide)]
    have e19 : X' 19 i = nI (E i 0) := by rw [f1 19 (by decide) (by decide)]; exact q0
    have le := gdv_le hG (E i 1) (E i 4) now
    have loop : ¬ (E i 4 < 48 ∧ gTk G (48 + E i 1) (E i 4) now = true) → gdv G (E i 1) (E i 4) now < 1000000 → fX6_choice_b100 Q I X' (nI i) (nI (E i 1)) (nI (gdv G (E i 1) (E i 4) now)) := by
      intro hno hfar
      have eq : gCh G now (E i 4) (E i 1) = fnd (G 0 1) (gGo G now (E i 4) (E i 1)) := by unfold gCh; rw [if_neg hno]
      have hq := hq X' f1 f2
      rw [eq] at hq
      unfold fX6_choice_b100
      refine pk_loop (σ := Unit) (fun n k _ => fX6_choice_h103 Q n I X' (nI i) (nI (E i 1)) (nI (gdv G (E i 1) (E i 4) now)) (nI k)) (fun k _ => ∀ r, r < k → gGo G now (E i 4) (E i 1) r = false) (G 0 1) 0 () (Nat.zero_le _) (fun r hr => by omega) ?_ ?_
      · intro n _ hk
        unfold fX6_choice_h103
        rw [m9]
        refine ⟨fun _ => ?_, fun z => absurd (nI_le (Nat.le_refl _) (by omega)) z⟩
        rw [fnd_0 hk] at hq
        exact hq
      · intro n k _ hk hin ih
        have skip : gGo G now (E i 4) (E i 1) k = false → fX6_choice_h103 Q n I X' (nI i) (nI (E i 1)) (nI (gdv G (E i 1) (E i 4) now)) (nI (k + 1)) := by
          intro hf
          refine ih () (fun r hr => ?_)
          by_cases e : r = k
          · rw [e]; exact hf
          · exact hin r (by omega)
        have yes : gTk G (E i 4) k now = true → fX6_choice_b164 (fun a0 a1 a2 a3 a4 a5 => fX6_choice_h103 Q n a0 a1 a2 a3 a4 a5) Q I X' (nI i) (nI (E i 1)) (nI (gdv G (E i 1) (E i 4) now)) (nI k) (nI (gln G (E i 4) k)) := by
          intro y
          have l12 := gln_12 G (E i 4) k
          unfold fX6_choice_b164 fX6_choice_b195
          refine ⟨fun z => absurd z (nI_nle (by omega) (by omega)), fun _ => ?_⟩
          rw [m1, show nI now + nI (gln G (E i 4) k) = nI (now + gln G (E i 4) k) from nI_add _ _]
          refine r6_takesFrom (by omega) (by omega) (by omega) ?_
          have ld := gdv_le hG (E i 1) k (now + gln G (E i 4) k)
          rw [kK_dv hG f3 hk, nI_add]
          refine ⟨fun z => nm_r (nI_1 k) (skip ?_), fun z => ?_⟩
          · unfold gGo
            rw [y, decide_eq_false (fun s => z (by rw [s.2]))]
            rfl
          · have e2 : gln G (E i 4) k + gdv G (E i 1) k (now + gln G (E i 4) k) = gdv G (E i 1) (E i 4) now := (nI_eq (by omega) (by omega)).mp z
            rw [fnd_at (i := k) hk (by unfold gGo; rw [y, decide_eq_true ⟨hfar, e2⟩]; rfl) hin] at hq
            have : cI (k + 1) = nI k := by
              unfold cI
              rw [if_neg (by omega), if_pos (by omega)]
              rfl
            rw [this] at hq
            exact hq
        have no : gTk G (E i 4) k now = false → fX6_choice_b164 (fun a0 a1 a2 a3 a4 a5 => fX6_choice_h103 Q n a0 a1 a2 a3 a4 a5) Q I X' (nI i) (nI (E i 1)) (nI (gdv G (E i 1) (E i 4) now)) (nI k) 0 := by
          intro y
          unfold fX6_choice_b164 fX6_choice_b195
          exact ⟨fun _ => nm_r (nI_1 k) (skip (by unfold gGo; rw [y]; rfl)), fun z => absurd (by decide) z⟩
        unfold fX6_choice_h103
        rw [m9]
        refine ⟨fun z => absurd z (nI_ge hk (by omega)), fun _ => ?_⟩
        refine ⟨pk_in i 60 (by omega), ?_⟩
        rw [pk_cl i, e21, e22, e19, m1]
        refine ⟨fun z => ⟨pk_in i 60 (by omega), ?_⟩, fun z => ⟨pk_in i 60 (by omega), ?_⟩⟩
        · have n0 : E i 3 ≠ 0 := fun y => z (by rw [y]; rfl)
          have s1 : E i 3 = 1 := by omega
          rw [q41 s1]
          refine r6_taken hG hM' (x5 s1) hk (by omega) ?_
          cases y : gTk G (E i 4) k now
          · rw [if_neg (by decide)]; exact no y
          · rw [if_pos rfl]; exact yes y
        · have s0 : E i 3 = 0 := (nI_is0 (by omega)).mp z
          have v0 := x4 s0
          refine r6_takesPost hG hM' x0 hk (by omega) ?_
          rw [← v0]
          cases y : gTk G (E i 4) k now
          · rw [if_neg (by decide)]
            exact ⟨fun _ => no y, fun z => absurd rfl z⟩
          · rw [if_pos rfl]
            refine ⟨fun z => absurd z (by decide), fun _ => ?_⟩
            have l1 : gln G (E i 4) k = 1 := gln_p G (by omega)
            have := yes y
            rw [l1] at this
            exact this
    unfold fX6_choice_b54
    refine pk_lt (gdv G (E i 1) (E i 4) now) 1000000 (fun w => ⟨pk_in i 60 (by omega), ?_⟩) (fun w => ?_)
    · rw [pk_cl i, e21, e22, m1]
      refine ⟨fun z => loop (fun s => ?_) w, fun z => ?_⟩
      · have : E i 3 = 0 := by
          have : E i 3 ≠ 1 := fun y => z (by rw [y]; rfl)
          omega
        have := x4 this
        omega
      · have s1 : E i 3 = 1 := (nI_eq (b := 1) (by omega) (by decide)).mp z
        have v1 := x5 s1
        rw [q41 s1]
        refine ⟨fun y => loop (fun s => y (by rw [gdv_1 hG s.1 s.2]; rfl)) w, fun y => ⟨pk_in i 60 (by omega), ?_⟩⟩
        refine r6_takesPost hG hM' x1 v1 (by omega) ?_
        by_cases c : gTk G (48 + E i 1) (E i 4) now = true
        · rw [if_pos c]
          refine ⟨fun u => absurd u (by decide), fun _ => ?_⟩
          have eq : gCh G now (E i 4) (E i 1) = 48 + E i 1 + 1 := by unfold gCh; rw [if_pos ⟨by omega, c⟩]
          have hq := hq X' f1 f2
          rw [eq] at hq
          have : cI (48 + E i 1 + 1) = 1000 := by
            unfold cI
            rw [if_neg (by omega), if_neg (by omega)]
            rfl
          rw [this] at hq
          exact hq
        · rw [if_neg c]
          exact ⟨fun _ => loop (fun s => c s.2) w, fun u => absurd rfl u⟩
    · have eq : gCh G now (E i 4) (E i 1) = 0 := by
        unfold gCh
        have no : ¬ (E i 4 < 48 ∧ gTk G (48 + E i 1) (E i 4) now = true) := by
          intro s
          have := gdv_1 hG s.1 s.2
          omega
        rw [if_neg no]
        refine fnd_0 (fun r hr => ?_)
        unfold gGo
        rw [decide_eq_false (fun s => by omega), Bool.and_false]
      have hq := hq X' f1 f2
      rw [eq] at hq
      exact hq
  unfold fX6_choice
  refine ⟨pk_in i 60 (by omega), ?_⟩
  rw [pk_cl i]
  refine nm_r q1 ?_
  refine r6_knows hG hM x1 (hK _ x1) (fun X' k1 k2 k3 k4 kk => ?_)
  have hK' := rK_knows hG hK k2 k4 kk
  have hM' : rM G I X' := rM_congr hM rfl rfl rfl (fun k hk => k1 k (by omega) (by omega))
  refine ⟨pk_in i 60 (by omega), ?_⟩
  rw [k1 21 (by decide) (by decide), k1 22 (by decide) (by decide), k1 19 (by decide) (by decide), q3, q0, m1]
  refine ⟨fun z => ⟨pk_in i 60 (by omega), ?_⟩, fun z => ⟨pk_in i 60 (by omega), ?_⟩⟩
  · have n0 : E i 3 ≠ 0 := fun y => z (by rw [y]; rfl)
    have s1 : E i 3 = 1 := by omega
    have v1 := x5 s1
    rw [q41 s1]
    refine r6_takesFrom (by omega) (by omega) (by omega) ?_
    rw [kK_dv hG kk v1]
    exact fin X' k1 hK' kk
  · have s0 : E i 3 = 0 := (nI_is0 (by omega)).mp z
    refine r6_takesPosts hG hM' x0 x1 (by omega) (fun _ => kk) (fun X2 x j1 j2 j3 j4 jk jd jl => ?_)
    have ex : x = gdv G (E i 1) (E i 4) now := by rw [x4 s0]; exact gdv_of hG jd
    rw [ex]
    exact fin X2 (fun k h1 h2 => by rw [j1 k h1 h2, k1 k h1 h2]) (rK_knows hG hK' j2 j4 jk) jk

/-! letters in numbers: E i: 0 from, 1 to, 2 sent, 3 state, 4 node, 5 next, 6 through, 7 links, 8 came + 1, 9 handed + 1 (nodes: relays, 48 + posts) -/
abbrev Let : Type := Nat → Nat → Nat
def oI (n : Nat) : Int32 := if n = 0 then -1 else nI (n - 1)
/-- the class's letters -/
def rLC (nl now : Nat) (E : Let) (MI : Nat → Int32) (nE : Nat) (LT : Nat → Nat → Int32) : Prop :=
  MI 0 = nI now ∧ MI 1 = nI nl ∧ nE = nl ∧ ∀ i, i < nl → LT i 0 = nI (E i 0) ∧ LT i 1 = nI (E i 1) ∧ LT i 2 = nI (E i 2) ∧ LT i 3 = nI (E i 3) ∧ LT i 7 = nI (E i 7) ∧ LT i 8 = oI (E i 8) ∧ LT i 9 = oI (E i 9) ∧ (E i 3 ≤ 2 → LT i 4 = nI (E i 4)) ∧ (E i 3 = 2 → LT i 5 = nI (E i 5) ∧ LT i 6 = nI (E i 6))
/-- the reference's letters -/
def rLM (nl now : Nat) (E : Let) (I : Nat → Int32) (X : Nat → Nat → Int32) : Prop :=
  I 1 = nI now ∧ I 31 = nI nl ∧ (∀ i, i < nl → X 19 i = nI (E i 0) ∧ X 20 i = nI (E i 1) ∧ X 26 i = nI (E i 2) ∧ X 21 i = nI (E i 3) ∧ X 25 i = nI (E i 7) ∧ X 27 i = oI (E i 8) ∧ X 28 i = oI (E i 9) ∧ (E i 3 = 0 → X 22 i = -1) ∧ (E i 3 = 1 → X 22 i = nI (E i 4)) ∧ (E i 3 = 2 → X 22 i = (if E i 4 < 48 then nI (E i 4) else -1) ∧ X 23 i = nI (if E i 5 < 48 then E i 5 else 1000) ∧ X 24 i = nI (E i 6))) ∧ (∀ i, nl ≤ i → i < 60 → X 25 i = 0)
def eSt (s : Nat) : Prop := s = 4 ∨ s = 5
/-- the letter i waits for one before it -/
def eWt (E : Let) (i : Nat) : Prop := ∃ k, k < i ∧ E k 0 = E i 0 ∧ E k 1 = E i 1 ∧ E k 3 ≠ 4 ∧ E k 3 ≠ 5
/-- what holds of letters: at = whether 'through' must lie ahead of the tick 'now' -/
def eOK (G : Geo) (nl now : Nat) (E : Let) : Prop := nl ≤ 60 ∧ now < 2 ^ 20 ∧ ∀ i, i < nl → E i 0 < G 0 2 ∧ E i 1 < G 0 2 ∧ E i 0 ≠ E i 1 ∧ E i 3 ≤ 5 ∧ (E i 3 = 0 → E i 4 = 48 + E i 0) ∧ (E i 3 = 1 → E i 4 < G 0 1) ∧ (E i 3 = 2 → (E i 4 < G 0 1 ∨ E i 4 = 48 + E i 0) ∧ (E i 5 < G 0 1 ∨ E i 5 = 48 + E i 1) ∧ now < E i 6 ∧ E i 6 ≤ now + 2)
def eHOK (nl : Nat) (E : Let) : Prop := ∀ i, i < nl → E i 3 = 3 → eWt E i
/-! handing out -/
noncomputable def eH1 (now : Nat) (E : Let) (i : Nat) : Let := @ite _ (E i 3 = 3 ∧ ¬ eWt E i) (Classical.propDecidable _) (fun a k => if a = i ∧ k = 3 then 4 else if a = i ∧ k = 9 then now + 1 else E a k) E
noncomputable def eHO (now : Nat) (E : Let) : Nat → Let
  | 0 => E
  | n + 1 => eH1 now (eHO now E n) n
theorem eH1_t {now : Nat} {E : Let} {i : Nat} (h : E i 3 = 3 ∧ ¬ eWt E i) : eH1 now E i = (fun a k => if a = i ∧ k = 3 then 4 else if a = i ∧ k = 9 then now + 1 else E a k) := by
  unfold eH1
  exact if_pos h
theorem eH1_f {now : Nat} {E : Let} {i : Nat} (h : ¬ (E i 3 = 3 ∧ ¬ eWt E i)) : eH1 now E i = E := by
  unfold eH1
  exact if_neg h
theorem eH1_o {now : Nat} {E : Let} {i a k : Nat} (h : k ≠ 3) (h2 : k ≠ 9) : eH1 now E i a k = E a k := by
  by_cases q : E i 3 = 3 ∧ ¬ eWt E i
  · rw [eH1_t q]
    show (if a = i ∧ k = 3 then 4 else if a = i ∧ k = 9 then now + 1 else E a k) = _
    rw [if_neg (fun z => h z.2), if_neg (fun z => h2 z.2)]
  · rw [eH1_f q]
theorem eH1_ne {now : Nat} {E : Let} {i a k : Nat} (h : a ≠ i) : eH1 now E i a k = E a k := by
  by_cases q : E i 3 = 3 ∧ ¬ eWt E i
  · rw [eH1_t q]
    show (if a = i ∧ k = 3 then 4 else if a = i ∧ k = 9 then now + 1 else E a k) = _
    rw [if_neg (fun z => h z.1), if_neg (fun z => h z.1)]
  · rw [eH1_f q]
theorem eHO_o {now : Nat} {E : Let} {n a k : Nat} (h : k ≠ 3) (h2 : k ≠ 9) : eHO now E n a k = E a k := by
  induction n with
  | zero => rfl
  | succ n ih =>
    show eH1 now (eHO now E n) n a k = _
    rw [eH1_o h h2, ih]
theorem eHO_ge {now : Nat} {E : Let} {n a k : Nat} (h : n ≤ a) : eHO now E n a k = E a k := by
  induction n with
  | zero => rfl
  | succ n ih =>
    show eH1 now (eHO now E n) n a k = _
    rw [eH1_ne (by omega), ih (by omega)]
theorem eHO_fix {now : Nat} {E : Let} {n m a k : Nat} (h : a < n) (hm : n ≤ m) : eHO now E m a k = eHO now E n a k := by
  induction hm with
  | refl => rfl
  | @step m hm ih =>
    have hm : n ≤ m := hm
    show eH1 now (eHO now E m) m a k = _
    rw [eH1_ne (by omega), ih]
/-- nobody can be handed out: nothing changes -/
theorem eHO_id {now : Nat} {E : Let} {n : Nat} (h : eHOK n E) : eHO now E n = E := by
  have : ∀ m, m ≤ n → eHO now E m = E := by
    intro m
    induction m with
    | zero => intro _; rfl
    | succ m ih =>
      intro hm
      show eH1 now (eHO now E m) m = _
      rw [ih (by omega)]
      exact eH1_f (fun z => z.2 (h m (by omega) z.1))
  exact this n (Nat.le_refl _)
theorem eHO_st {now : Nat} {E : Let} {n a : Nat} : eHO now E n a 3 = E a 3 ∨ (E a 3 = 3 ∧ eHO now E n a 3 = 4) := by
  induction n with
  | zero => exact Or.inl rfl
  | succ n ih =>
    show eH1 now (eHO now E n) n a 3 = _ ∨ _ ∧ eH1 now (eHO now E n) n a 3 = 4
    by_cases q : a = n
    · subst q
      by_cases c : (eHO now E a) a 3 = 3 ∧ ¬ eWt (eHO now E a) a
      · right
        rw [eH1_t c]
        rw [eHO_ge (Nat.le_refl _)] at c
        exact ⟨c.1, if_pos ⟨rfl, rfl⟩⟩
      · rw [eH1_f c]; exact ih
    · rw [eH1_ne q]; exact ih
/-- behind it nobody is left that could be handed out -/
theorem eHO_ok {now : Nat} {E : Let} {n : Nat} : eHOK n (eHO now E n) := by
  intro i hi h3
  rw [eHO_fix (n := i + 1) (by omega) (by omega)] at h3
  have e : eHO now E (i + 1) i 3 = eH1 now (eHO now E i) i i 3 := rfl
  rw [e] at h3
  by_cases c : (eHO now E i) i 3 = 3 ∧ ¬ eWt (eHO now E i) i
  · rw [eH1_t c] at h3
    have : (if i = i ∧ 3 = 3 then 4 else if i = i ∧ 3 = 9 then now + 1 else eHO now E i i 3) = 4 := if_pos ⟨rfl, rfl⟩
    have h3' : (if i = i ∧ 3 = 3 then 4 else if i = i ∧ 3 = 9 then now + 1 else eHO now E i i 3) = 3 := h3
    rw [this] at h3'
    omega
  · rw [eH1_f c] at h3
    have w : eWt (eHO now E i) i := Classical.byContradiction (fun z => c ⟨h3, z⟩)
    obtain ⟨k, k1, k2, k3, k4, k5⟩ := w
    refine ⟨k, k1, ?_, ?_, ?_, ?_⟩
    · rw [eHO_o (by decide) (by decide), eHO_o (by decide) (by decide)]
      rw [eHO_o (by decide) (by decide), eHO_o (by decide) (by decide)] at k2
      exact k2
    · rw [eHO_o (by decide) (by decide), eHO_o (by decide) (by decide)]
      rw [eHO_o (by decide) (by decide), eHO_o (by decide) (by decide)] at k3
      exact k3
    · rw [eHO_fix (n := i) k1 (by omega)]; exact k4
    · rw [eHO_fix (n := i) k1 (by omega)]; exact k5
theorem eOK_HO {G : Geo} {nl now m : Nat} {E : Let} (h : eOK G nl now E) : eOK G nl now (eHO m E nl) := by
  obtain ⟨h1, h2, h3⟩ := h
  refine ⟨h1, h2, fun i hi => ?_⟩
  obtain ⟨a0, a1, a2, a3, a4, a5, a6⟩ := h3 i hi
  rw [eHO_o (k := 0) (by decide) (by decide), eHO_o (k := 1) (by decide) (by decide), eHO_o (k := 4) (by decide) (by decide), eHO_o (k := 5) (by decide) (by decide), eHO_o (k := 6) (by decide) (by decide)]
  rcases eHO_st (now := m) (E := E) (n := nl) (a := i) with e | ⟨e1, e2⟩
  · rw [e]; exact ⟨a0, a1, a2, a3, a4, a5, a6⟩
  · rw [e2]; exact ⟨a0, a1, a2, by omega, fun z => by omega, fun z => by omega, fun z => by omega⟩
theorem nI_ne {a b : Nat} (ha : a < 2 ^ 31) (hb : b < 2 ^ 31) (h : a ≠ b) : nI a ≠ nI b := fun z => h ((nI_eq ha hb).mp z)
theorem rLC_set {nl now : Nat} {E E' : Let} {MI : Nat → Int32} {nE : Nat} {LT LT' : Nat → Nat → Int32} {i : Nat} (h : rLC nl now E MI nE LT) (ho : ∀ a, a ≠ i → LT' a = LT a) (hE : ∀ a k, a ≠ i → E' a k = E a k) (hi : i < nl → LT' i 0 = nI (E' i 0) ∧ LT' i 1 = nI (E' i 1) ∧ LT' i 2 = nI (E' i 2) ∧ LT' i 3 = nI (E' i 3) ∧ LT' i 7 = nI (E' i 7) ∧ LT' i 8 = oI (E' i 8) ∧ LT' i 9 = oI (E' i 9) ∧ (E' i 3 ≤ 2 → LT' i 4 = nI (E' i 4)) ∧ (E' i 3 = 2 → LT' i 5 = nI (E' i 5) ∧ LT' i 6 = nI (E' i 6))) : rLC nl now E' MI nE LT' := by
  obtain ⟨h0, h1, h2, h3⟩ := h
  refine ⟨h0, h1, h2, fun a ha => ?_⟩
  by_cases q : a = i
  · subst q; exact hi ha
  · rw [ho a q, hE a 0 q, hE a 1 q, hE a 2 q, hE a 3 q, hE a 4 q, hE a 5 q, hE a 6 q, hE a 7 q, hE a 8 q, hE a 9 q]
    exact h3 a ha
theorem r1_isSettled {nl now : Nat} {E : Let} {MI : Nat → Int32} {TT : Nat → Int64} {AW : Nat → Int32} {nE : Nat} {LT : Nat → Nat → Int32} {la : Nat → Nat} {i : Nat} {Q : Int32 → Prop} (h : rLC nl now E MI nE LT) (hi : i < nl) (h5 : E i 3 ≤ 5) (hq : (E i 3 = 4 ∨ E i 3 = 5 → Q 1) ∧ (¬ (E i 3 = 4 ∨ E i 3 = 5) → Q 0)) : fX1_isSettled MI TT AW nE LT la i Q := by
  obtain ⟨h0, h1, h2, h3⟩ := h
  subst h2
  unfold fX1_isSettled fX1_isSettled_b16
  rw [(h3 i hi).2.2.2.1]
  refine ⟨hi, pk_eq (E i 3) 4 (fun e => hq.1 (Or.inl e)) (fun e => ⟨hi, ?_⟩)⟩
  refine ⟨fun z => hq.2 (fun y => ?_), fun z => hq.1 (Or.inr ((nI_eq (b := 5) (by omega) (by decide)).mp z))⟩
  rcases y with y | y
  · exact e y
  · exact z (by rw [y]; rfl)
theorem r2_handOut {G : Geo} {nl now : Nat} {E : Let} {MI : Nat → Int32} {TT : Nat → Int64} {AW : Nat → Int32} {nE : Nat} {LT : Nat → Nat → Int32} {la : Nat → Nat} {Q : (Nat → Int32) → (Nat → Int64) → (Nat → Int32) → (Nat → Nat → Int32) → Prop} (hG : gok G) (hE : eOK G nl now E) (h : rLC nl now E MI nE LT) (hq : ∀ AW' LT', rLC nl now (eHO now E nl) MI nE LT' → Q MI TT AW' LT') : fX2_handOut nE la Q MI TT AW LT := by
  have n8 := gok_ns hG
  obtain ⟨e1, e2, e3⟩ := id hE
  have m1 : MI 1 = nI nl := h.2.1
  have m0 : MI 0 = nI now := h.1
  have mE : nE = nl := h.2.2.1
  unfold fX2_handOut
  refine nm_e ?_
  refine pk_loop (σ := (Nat → Int32) × (Nat → Nat → Int32)) (fun n i s => fX2_handOut_h10 nE la Q n MI TT s.1 s.2 (nI i)) (fun i s => rLC nl now (eHO now E i) MI nE s.2 ∧ ∀ f t, f < 8 → t < 8 → (ib (s.1 f) t = true ↔ ∃ k, k < i ∧ E k 0 = f ∧ E k 1 = t ∧ eHO now E i k 3 ≠ 4 ∧ eHO now E i k 3 ≠ 5)) nl 0 (gfill 8 0 AW, LT) (Nat.zero_le _) ⟨h, fun f t hf ht => ?_⟩ ?_ ?_
  · show ib (gfill 8 0 AW f) t = true ↔ _
    unfold gfill
    rw [if_pos hf, ib_0]
    exact ⟨fun z => Bool.noConfusion z, fun ⟨k, hk, _⟩ => by omega⟩
  · intro n s ⟨a1, a2⟩
    unfold fX2_handOut_h10
    rw [m1]
    exact ⟨fun _ => hq s.1 s.2 a1, fun z => absurd (nI_le (Nat.le_refl _) (by omega)) z⟩
  · intro n i s hi ⟨a1, a2⟩ ih
    obtain ⟨_, _, _, a3⟩ := id a1
    obtain ⟨l0, l1, l2, l3, l7, l8, l9, l4, l5⟩ := a3 i hi
    obtain ⟨x0, x1, x2, x3, _⟩ := e3 i hi
    have f0 : eHO now E i i 0 = E i 0 := eHO_ge (Nat.le_refl _)
    have f1 : eHO now E i i 1 = E i 1 := eHO_ge (Nat.le_refl _)
    have f3 : eHO now E i i 3 = E i 3 := eHO_ge (Nat.le_refl _)
    rw [f0] at l0
    rw [f1] at l1
    rw [f3] at l3
    unfold fX2_handOut_h10 fX2_handOut_b49 fX2_handOut_b78 fX2_handOut_b103
    rw [m1]
    refine ⟨fun z => absurd z (nI_ge hi (by omega)), fun _ => ?_⟩
    refine ⟨pk_in i 60 (by omega), i, (nI_clamp (by omega)).symm, by omega, by omega, ?_⟩
    rw [l0, l1, l3, pk_cl (E i 0)]
    refine ⟨pk_in (E i 0) 8 (by omega), by omega, ?_⟩
    have wt : (ib (s.1 (E i 0)) (E i 1) = true ↔ eWt (eHO now E i) i) := by
      rw [a2 (E i 0) (E i 1) (by omega) (by omega)]
      unfold eWt
      refine ⟨fun ⟨k, k1, k2, k3, k4, k5⟩ => ⟨k, k1, ?_, ?_, k4, k5⟩, fun ⟨k, k1, k2, k3, k4, k5⟩ => ⟨k, k1, ?_, ?_, k4, k5⟩⟩
      · rw [eHO_o (by decide) (by decide), eHO_o (by decide) (by decide)]; exact k2
      · rw [eHO_o (by decide) (by decide), eHO_o (by decide) (by decide)]; exact k3
      · rw [eHO_o (by decide) (by decide), eHO_o (by decide) (by decide)] at k2; exact k2
      · rw [eHO_o (by decide) (by decide), eHO_o (by decide) (by decide)] at k3; exact k3
    -- the letter is handed out
    have hand : E i 3 = 3 → ¬ eWt (eHO now E i) i → fX2_handOut_h10 nE la Q n MI TT s.1 (va_up (va_up s.2 i (upd (s.2 i) 3 4)) i (upd (va_up s.2 i (upd (s.2 i) 3 4) i) 9 (MI 0))) (nI (i + 1)) := by
      intro z w
      have c : eHO now E i i 3 = 3 ∧ ¬ eWt (eHO now E i) i := ⟨by rw [f3]; exact z, w⟩
      have ee : eHO now E (i + 1) = (fun a k => if a = i ∧ k = 3 then 4 else if a = i ∧ k = 9 then now + 1 else eHO now E i a k) := eH1_t c
      refine ih (s.1, va_up (va_up s.2 i (upd (s.2 i) 3 4)) i (upd (va_up s.2 i (upd (s.2 i) 3 4) i) 9 (MI 0))) ⟨?_, fun f t hf ht => ?_⟩
      · refine rLC_set (i := i) a1 (fun a ha => ?_) (fun a k ha => ?_) (fun _ => ?_)
        · simp [va_up, ha]
        · rw [ee]
          show (if a = i ∧ k = 3 then 4 else if a = i ∧ k = 9 then now + 1 else eHO now E i a k) = _
          rw [if_neg (fun z => ha z.1), if_neg (fun z => ha z.1)]
        · rw [ee]
          simp only [va_up, if_true, upd]
          obtain ⟨q0, q1, q2, q3, q7, q8, q9, q4, q5⟩ := a3 i hi
          refine ⟨q0, q1, q2, rfl, q7, q8, ?_, fun z => ?_, fun z => ?_⟩
          · show MI 0 = oI (now + 1)
            rw [m0]; rfl
          · exact absurd z (by simp)
          · exact absurd z (by simp)
      · rw [a2 f t hf ht]
        have oo : ∀ k, k < i → eHO now E (i + 1) k 3 = eHO now E i k 3 := fun k hk => eHO_fix hk (by omega)
        refine ⟨fun ⟨k, k1, k2, k3, k4, k5⟩ => ⟨k, by omega, k2, k3, by rw [oo k k1]; exact k4, by rw [oo k k1]; exact k5⟩, fun ⟨k, k1, k2, k3, k4, k5⟩ => ?_⟩
        by_cases e : k = i
        · subst e
          rw [ee] at k4
          exact absurd (if_pos ⟨rfl, rfl⟩) k4
        · have : k < i := by omega
          rw [oo k this] at k4 k5
          exact ⟨k, this, k2, k3, k4, k5⟩
    -- it is not
    have keep : ¬ (E i 3 = 3 ∧ ¬ eWt (eHO now E i) i) → fX1_isSettled MI TT s.1 nE s.2 la i (fun r_17 => ((¬ r_17 = 0 → ∀ x1_25 : Int32, x1_25 = nI i + (1 : Int32) → (fun a0 a1 a2 a3 a4 => fX2_handOut_h10 nE la Q n a0 a1 a2 a3 a4) MI TT s.1 s.2 x1_25) ∧ (r_17 = 0 → i < nE ∧ vp_in (nI (E i 0)) 8 ∧ i < nE ∧ vp_in (nI (E i 0)) 8 ∧ ∀ AW_24 : Nat → Int32, AW_24 = upd s.1 (E i 0) (s.1 (E i 0) ||| ((1 : Int32) <<< (nI (E i 1) &&& 31))) → ∀ x1_25 : Int32, x1_25 = nI i + (1 : Int32) → (fun a0 a1 a2 a3 a4 => fX2_handOut_h10 nE la Q n a0 a1 a2 a3 a4) MI TT AW_24 s.2 x1_25))) := by
      intro nc
      have c : ¬ (eHO now E i i 3 = 3 ∧ ¬ eWt (eHO now E i) i) := by rw [f3]; exact nc
      have ee : eHO now E (i + 1) = eHO now E i := eH1_f c
      refine r1_isSettled a1 hi (by rw [f3]; exact x3) ⟨fun z => ?_, fun z => ?_⟩
      · refine ⟨fun _ => nm_r (nI_1 i) (ih s ⟨by rw [ee]; exact a1, fun f t hf ht => ?_⟩), fun y => absurd y (by decide)⟩
        rw [a2 f t hf ht, ee]
        refine ⟨fun ⟨k, k1, w⟩ => ⟨k, by omega, w⟩, fun ⟨k, k1, k2, k3, k4, k5⟩ => ?_⟩
        by_cases e : k = i
        · subst e
          rcases z with z | z
          · exact absurd z k4
          · exact absurd z k5
        · exact ⟨k, by omega, k2, k3, k4, k5⟩
      · refine ⟨fun y => absurd rfl y, fun _ => ⟨by omega, pk_in (E i 0) 8 (by omega), by omega, pk_in (E i 0) 8 (by omega), ?_⟩⟩
        refine nm_e (nm_r (nI_1 i) (ih (_, s.2) ⟨by rw [ee]; exact a1, fun f t hf ht => ?_⟩))
        rw [ee]
        show ib (upd s.1 (E i 0) _ f) t = true ↔ _
        by_cases e : f = E i 0
        · subst e
          rw [pk_us, ib_or, ib_one (by omega), Bool.or_eq_true, a2 (E i 0) t hf ht, decide_eq_true_iff]
          constructor
          · rintro (⟨k, k1, w⟩ | e)
            · exact ⟨k, by omega, w⟩
            · exact ⟨i, by omega, rfl, e.symm, fun y => z (Or.inl y), fun y => z (Or.inr y)⟩
          · rintro ⟨k, k1, k2, k3, k4, k5⟩
            by_cases e : k = i
            · subst e; exact Or.inr k3.symm
            · exact Or.inl ⟨k, by omega, k2, k3, k4, k5⟩
        · rw [pk_un e, a2 f t hf ht]
          refine ⟨fun ⟨k, k1, w⟩ => ⟨k, by omega, w⟩, fun ⟨k, k1, k2, w⟩ => ?_⟩
          by_cases e2 : k = i
          · subst e2; exact absurd k2.symm e
          · exact ⟨k, by omega, k2, w⟩
    have hk := keep
    refine ⟨fun z => ?_, fun z => ?_⟩
    · -- awaited
      have w : eWt (eHO now E i) i := by
        refine wt.mp ?_
        cases c : ib (s.1 (E i 0)) (E i 1)
        · exact absurd ((ib_sh (by omega)).mpr c) z
        · rfl
      have k := keep (fun y => y.2 w)
      refine ⟨by omega, ⟨fun _ => ⟨by omega, k⟩, fun _ => ⟨fun _ => ⟨by omega, k⟩, fun y => absurd rfl y⟩⟩⟩
    · have w : ¬ eWt (eHO now E i) i := by
        intro y
        have := wt.mpr y
        rw [(ib_sh (by omega)).mp z] at this
        exact Bool.noConfusion this
      refine ⟨by omega, ⟨fun y => ⟨by omega, keep (fun u => y (by rw [u.1]; rfl))⟩, fun y => ⟨fun u => absurd u (by decide), fun _ => ?_⟩⟩⟩
      have e3' : E i 3 = 3 := (nI_eq (b := 3) (by omega) (by decide)).mp y
      exact ⟨by omega, nm_e ⟨by omega, nm_e (nm_r (nI_1 i) (hand e3' w))⟩⟩
/-- a relay died: these are lost -/
def eLo (r : Nat) (E : Let) : Let := fun a k => if k = 3 ∧ ((E a 3 = 1 ∧ E a 4 = r) ∨ (E a 3 = 2 ∧ (E a 4 = r ∨ E a 5 = r))) then 5 else E a k
theorem eLo_k {r : Nat} {E : Let} {a k : Nat} (h : k ≠ 3) : eLo r E a k = E a k := by
  unfold eLo
  rw [if_neg (fun z => h z.1)]
theorem eLo_t {r : Nat} {E : Let} {a : Nat} (h : (E a 3 = 1 ∧ E a 4 = r) ∨ (E a 3 = 2 ∧ (E a 4 = r ∨ E a 5 = r))) : eLo r E a 3 = 5 := by
  unfold eLo
  rw [if_pos ⟨rfl, h⟩]
theorem eLo_f {r : Nat} {E : Let} {a : Nat} (h : ¬ ((E a 3 = 1 ∧ E a 4 = r) ∨ (E a 3 = 2 ∧ (E a 4 = r ∨ E a 5 = r)))) : eLo r E a 3 = E a 3 := by
  unfold eLo
  rw [if_neg (fun z => h z.2)]
theorem eOK_Lo {G : Geo} {nl now r : Nat} {E : Let} (h : eOK G nl now E) : eOK G nl now (eLo r E) := by
  obtain ⟨h1, h2, h3⟩ := h
  refine ⟨h1, h2, fun i hi => ?_⟩
  obtain ⟨a0, a1, a2, a3, a4, a5, a6⟩ := h3 i hi
  rw [eLo_k (k := 0) (by decide), eLo_k (k := 1) (by decide), eLo_k (k := 4) (by decide), eLo_k (k := 5) (by decide), eLo_k (k := 6) (by decide)]
  by_cases q : (E i 3 = 1 ∧ E i 4 = r) ∨ (E i 3 = 2 ∧ (E i 4 = r ∨ E i 5 = r))
  · rw [eLo_t q]; exact ⟨a0, a1, a2, by omega, fun z => by omega, fun z => by omega, fun z => by omega⟩
  · rw [eLo_f q]; exact ⟨a0, a1, a2, a3, a4, a5, a6⟩
theorem r1_hangsOn {G : Geo} {nl now : Nat} {E : Let} {MI : Nat → Int32} {TT : Nat → Int64} {AW : Nat → Int32} {nE : Nat} {LT : Nat → Nat → Int32} {la : Nat → Nat} {i r : Nat} {Q : Int32 → Prop} (hG : gok G) (hE : eOK G nl now E) (h : rLC nl now E MI nE LT) (hi : i < nl) (hr : r < 48) (hq : (((E i 3 = 1 ∧ E i 4 = r) ∨ (E i 3 = 2 ∧ (E i 4 = r ∨ E i 5 = r))) → Q 1) ∧ (¬ ((E i 3 = 1 ∧ E i 4 = r) ∨ (E i 3 = 2 ∧ (E i 4 = r ∨ E i 5 = r))) → Q 0)) : fX1_hangsOn MI TT AW nE LT la i Q (nI r) := by
  have n8 := gok_ns hG
  have n48 := gok_nr hG
  obtain ⟨h0, h1, h2, h3⟩ := h
  obtain ⟨l0, l1, l2, l3, l7, l8, l9, l4, l5⟩ := h3 i hi
  obtain ⟨x0, x1, x2, x3, x4, x5, x6⟩ := hE.2.2 i hi
  subst h2
  unfold fX1_hangsOn fX1_hangsOn_b16 fX1_hangsOn_b40
  rw [l3]
  refine ⟨hi, ⟨fun z => ⟨hi, ⟨fun y => ?_, fun y => ⟨hi, ?_⟩⟩⟩, fun z => ⟨hi, ?_⟩⟩⟩
  · refine hq.2 (fun w => ?_)
    rcases w with w | w
    · exact z (by rw [w.1]; rfl)
    · exact y (by rw [w.1]; rfl)
  · have s2 : E i 3 = 2 := (nI_eq (b := 2) (by omega) (by decide)).mp y
    have b4 := (x6 s2).1
    have b5 := (x6 s2).2.1
    rw [l4 (by omega), (l5 s2).1]
    refine pk_eq (E i 4) r (fun w => hq.1 (Or.inr ⟨s2, Or.inl w⟩)) (fun w => ⟨hi, ⟨fun u => hq.2 (fun t => ?_), fun u => hq.1 (Or.inr ⟨s2, Or.inr ((nI_eq (by omega) (by omega)).mp u)⟩)⟩⟩)
    rcases t with t | t
    · omega
    · rcases t.2 with t | t
      · exact w t
      · exact u (by rw [t])
  · have s1 : E i 3 = 1 := (nI_eq (b := 1) (by omega) (by decide)).mp z
    have b4 := x5 s1
    rw [l4 (by omega)]
    refine pk_eq (E i 4) r (fun w => hq.1 (Or.inl ⟨s1, w⟩)) (fun w => ⟨hi, ⟨fun u => hq.2 (fun t => ?_), fun u => ?_⟩⟩)
    · rcases t with t | t
      · exact w t.2
      · omega
    · have : E i 3 = 2 := (nI_eq (b := 2) (by omega) (by decide)).mp u
      omega
theorem r2_lose {G : Geo} {nl now r : Nat} {E : Let} {MI : Nat → Int32} {TT : Nat → Int64} {AW : Nat → Int32} {nE : Nat} {LT : Nat → Nat → Int32} {la : Nat → Nat} {Q : (Nat → Int32) → (Nat → Int64) → (Nat → Int32) → (Nat → Nat → Int32) → Prop} (hG : gok G) (hE : eOK G nl now E) (h : rLC nl now E MI nE LT) (hr : r < 48) (hq : ∀ AW' LT', rLC nl now (eHO now (eLo r E) nl) MI nE LT' → Q MI TT AW' LT') : fX2_lose nE la Q MI TT AW LT (nI r) := by
  obtain ⟨e1, e2, e3⟩ := id hE
  have m1 : MI 1 = nI nl := h.2.1
  have mE : nE = nl := h.2.2.1
  unfold fX2_lose
  refine pk_loop (σ := Nat → Nat → Int32) (fun n i s => fX2_lose_h2 nE la Q n MI TT AW s (nI r) (nI i)) (fun i s => rLC nl now (fun a k => if a < i then eLo r E a k else E a k) MI nE s) nl 0 LT (Nat.zero_le _) ?_ ?_ ?_
  · exact h
  · intro n s hs
    unfold fX2_lose_h2
    rw [m1]
    refine ⟨fun _ => ?_, fun z => absurd (nI_le (Nat.le_refl _) (by omega)) z⟩
    have hs' : rLC nl now (eLo r E) MI nE s := by
      obtain ⟨a0, a1, a2, a3⟩ := hs
      refine ⟨a0, a1, a2, fun i hi => ?_⟩
      have := a3 i hi
      simp only [if_pos hi] at this
      exact this
    exact r2_handOut hG (eOK_Lo hE) hs' (fun AW' LT' g => hq AW' LT' g)
  · intro n i s hi hs ih
    unfold fX2_lose_h2 fX2_lose_b33
    rw [m1]
    refine ⟨fun z => absurd z (nI_ge hi (by omega)), fun _ => ?_⟩
    refine ⟨pk_in i 60 (by omega), i, (nI_clamp (by omega)).symm, by omega, by omega, ?_⟩
    have ei : ∀ k, (fun a k => if a < i then eLo r E a k else E a k) i k = E i k := fun k => if_neg (by omega)
    have hEi : eOK G nl now (fun a k => if a < i then eLo r E a k else E a k) := by
      refine ⟨e1, e2, fun a ha => ?_⟩
      by_cases q : a < i
      · simp only [if_pos q]; exact (eOK_Lo (r := r) hE).2.2 a ha
      · simp only [if_neg q]; exact e3 a ha
    refine r1_hangsOn hG hEi hs hi hr ?_
    simp only [Nat.lt_irrefl, if_false]
    have other : ∀ a k, a ≠ i → (if a < i + 1 then eLo r E a k else E a k) = (if a < i then eLo r E a k else E a k) := by
      intro a k ha
      by_cases q : a < i
      · rw [if_pos q, if_pos (by omega)]
      · rw [if_neg q, if_neg (by omega)]
    have self : ∀ k, (if i < i + 1 then eLo r E i k else E i k) = eLo r E i k := fun k => if_pos (by omega)
    obtain ⟨q0, q1, q2, q3, q7, q8, q9, q4, q5⟩ := hs.2.2.2 i hi
    simp only [Nat.lt_irrefl, if_false] at q0 q1 q2 q3 q4 q5 q7 q8 q9
    refine ⟨fun z => ⟨fun y => absurd y (by decide), fun _ => ⟨pk_in i 60 (by omega), i, (nI_clamp (by omega)).symm, by omega, by omega, ?_⟩⟩, fun z => ⟨fun _ => ?_, fun y => absurd trivial y⟩⟩
    · refine nm_e (nm_r (nI_1 i) (ih _ (rLC_set (i := i) hs (fun a ha => ?_) (fun a k ha => other a k ha) (fun _ => ?_))))
      · simp [va_up, ha]
      · simp only [self]
        rw [eLo_t z, eLo_k (k := 0) (by decide), eLo_k (k := 1) (by decide), eLo_k (k := 2) (by decide), eLo_k (k := 7) (by decide), eLo_k (k := 8) (by decide), eLo_k (k := 9) (by decide)]
        simp only [va_up, if_true, upd]
        exact ⟨q0, q1, q2, rfl, q7, q8, q9, fun y => absurd y (by decide), fun y => absurd y (by decide)⟩
    · refine nm_r (nI_1 i) (ih s (rLC_set (i := i) hs (fun a ha => rfl) (fun a k ha => other a k ha) (fun _ => ?_)))
      simp only [self]
      rw [eLo_f z, eLo_k (k := 0) (by decide), eLo_k (k := 1) (by decide), eLo_k (k := 2) (by decide), eLo_k (k := 7) (by decide), eLo_k (k := 8) (by decide), eLo_k (k := 9) (by decide), eLo_k (k := 4) (by decide), eLo_k (k := 5) (by decide), eLo_k (k := 6) (by decide)]
      exact ⟨q0, q1, q2, q3, q7, q8, q9, q4, q5⟩

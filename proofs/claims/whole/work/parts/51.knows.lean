/-! the reference's table of lateness -/
def kv (X : Nat → Nat → Int32) (j r t : Nat) : Nat := (X 14 ((48 * j + r) * 32 + t)).toNatClampNeg
def kI (G : Geo) (j : Nat) (X : Nat → Nat → Int32) : Prop := ∀ r t, r < G 0 1 → t < 32 → X 14 ((48 * j + r) * 32 + t) = nI (kv X j r t) ∧ kv X j r t ≤ 1000000 ∧ (kv X j r t < 1000000 → gR G j (kv X j r t) r t)
def kC (G : Geo) (j : Nat) (X : Nat → Nat → Int32) (r t : Nat) : Prop := kv X j r (t % 32) ≤ 1 + kv X j r ((t + 1) % 32) ∧ (gTk G (48 + j) r t = true → kv X j r (t % 32) ≤ 1) ∧ ∀ k, k < G 0 1 → gTk G r k t = true → kv X j r (t % 32) ≤ gln G r k + kv X j k ((t + gln G r k) % 32)
/-- the table of the post j is as it should be -/
def kK (G : Geo) (j : Nat) (X : Nat → Nat → Int32) : Prop := ∀ r t, r < G 0 1 → t < 32 → ∃ a, X 14 ((48 * j + r) * 32 + t) = nI a ∧ gD G j r t a
theorem kK_of {G : Geo} {j : Nat} {X : Nat → Nat → Int32} (hG : gok G) (h : kI G j X) (hc : ∀ r t, r < G 0 1 → t < 64 → kC G j X r t) : kK G j X := by
  have n48 := gok_nr hG
  have cl : ∀ r t, r < G 0 1 → kC G j X r t := by
    intro r t hr
    have c := hc r (t % 32) hr (by omega)
    unfold kC at c ⊢
    rw [Nat.mod_mod, gTk_mod, show (t % 32 + 1) % 32 = (t + 1) % 32 by omega] at c
    refine ⟨c.1, c.2.1, fun k hk hT => ?_⟩
    have := c.2.2 k hk (by rw [gTk_mod]; exact hT)
    rw [show (t % 32 + gln G r k) % 32 = (t + gln G r k) % 32 by omega] at this
    exact this
  intro r t hr ht
  obtain ⟨a1, a2, a3⟩ := h r t hr ht
  refine ⟨kv X j r t, a1, dL_of (gTk_perI G) n48 a2 a3 (fun d _ hd => ?_)⟩
  have := dR_below (a := fun r t => kv X j r t) n48 (fun r t hr => (cl r t hr).1) (fun r t hr => (cl r t hr).2.1) (fun r u t hr hu hT => (cl r t hr).2.2 u hu hT) d r t hr hd
  rw [Nat.mod_eq_of_lt ht] at this
  exact this
/-- all but the table of the post j is as it was -/
def kSm (j : Nat) (X X' : Nat → Nat → Int32) : Prop := (∀ k, k ≠ 14 → X' k = X k) ∧ ∀ i, (i < 1536 * j ∨ 1536 * j + 1536 ≤ i) → X' 14 i = X 14 i
theorem kSm_rf {j : Nat} {X : Nat → Nat → Int32} : kSm j X X := ⟨fun _ _ => rfl, fun _ _ => rfl⟩
theorem kSm_tr {j : Nat} {A B C : Nat → Nat → Int32} (h : kSm j A B) (g : kSm j B C) : kSm j A C := ⟨fun k hk => by rw [g.1 k hk, h.1 k hk], fun i hi => by rw [g.2 i hi, h.2 i hi]⟩
theorem rM_kSm {G : Geo} {I : Nat → Int32} {j : Nat} {X X' : Nat → Nat → Int32} (h : rM G I X) (m : kSm j X X') : rM G I X' := rM_congr h rfl rfl rfl (fun k hk => m.1 k (by omega))
def kMu (G : Geo) (j : Nat) (X : Nat → Nat → Int32) : Nat := sn (G 0 1) (fun r => sn 32 (fun t => kv X j r t))
theorem sn_mono {n : Nat} {f g : Nat → Nat} (h : ∀ i, i < n → f i ≤ g i) : sn n f ≤ sn n g := by
  induction n with
  | zero => exact Nat.le_refl _
  | succ n ih =>
    unfold sn
    have a := ih (fun i hi => h i (by omega))
    have b := h n (by omega)
    omega
theorem sn_less {n k : Nat} {f g : Nat → Nat} (h : ∀ i, i < n → f i ≤ g i) (hk : k < n) (hl : f k < g k) : sn n f < sn n g := by
  induction n with
  | zero => omega
  | succ n ih =>
    unfold sn
    by_cases q : k = n
    · subst q
      have a := sn_mono (n := k) (f := f) (g := g) (fun i hi => h i (by omega))
      omega
    · have a := ih (fun i hi => h i (by omega)) (by omega)
      have b := h n (by omega)
      omega
/-- an entry is made less -/
theorem kPut {G : Geo} {j r t b : Nat} {X : Nat → Nat → Int32} (hj : j < 8) (hn : G 0 1 ≤ 48) (h : kI G j X) (hr : r < G 0 1) (ht : t < 32) (hb : b < kv X j r t) (hR : gR G j b r t) : kI G j (va_up X 14 (upd (X 14) ((48 * j + r) * 32 + t) (nI b))) ∧ kMu G j (va_up X 14 (upd (X 14) ((48 * j + r) * 32 + t) (nI b))) < kMu G j X ∧ kSm j X (va_up X 14 (upd (X 14) ((48 * j + r) * 32 + t) (nI b))) := by
  have b6 := (h r t hr ht).2.1
  have self : kv (va_up X 14 (upd (X 14) ((48 * j + r) * 32 + t) (nI b))) j r t = b := by
    unfold kv
    simp only [va_up, if_true]
    rw [pk_us, nI_clamp (by omega)]
  have other : ∀ r' t', t' < 32 → ¬ (r' = r ∧ t' = t) → va_up X 14 (upd (X 14) ((48 * j + r) * 32 + t) (nI b)) 14 ((48 * j + r') * 32 + t') = X 14 ((48 * j + r') * 32 + t') := by
    intro r' t' ht' hne
    simp only [va_up, if_true]
    rw [pk_un (by
      intro z
      exact hne (by constructor <;> omega))]
  have otherV : ∀ r' t', t' < 32 → ¬ (r' = r ∧ t' = t) → kv (va_up X 14 (upd (X 14) ((48 * j + r) * 32 + t) (nI b))) j r' t' = kv X j r' t' := by
    intro r' t' ht' hne
    unfold kv
    rw [other r' t' ht' hne]
  refine ⟨fun r' t' hr' ht' => ?_, ?_, ⟨fun k hk => by simp [va_up, hk], fun i hi => ?_⟩⟩
  · by_cases e : r' = r ∧ t' = t
    · obtain ⟨rfl, rfl⟩ := e
      rw [self]
      refine ⟨?_, by omega, fun _ => hR⟩
      simp only [va_up, if_true]
      rw [pk_us]
    · rw [otherV r' t' ht' e, other r' t' ht' e]
      exact h r' t' hr' ht'
  · unfold kMu
    have le : ∀ r' t', t' < 32 → kv (va_up X 14 (upd (X 14) ((48 * j + r) * 32 + t) (nI b))) j r' t' ≤ kv X j r' t' := by
      intro r' t' ht'
      by_cases e : r' = r ∧ t' = t
      · obtain ⟨rfl, rfl⟩ := e
        rw [self]; omega
      · rw [otherV r' t' ht' e]; exact Nat.le_refl _
    refine sn_less (k := r) (fun r' hr' => sn_mono (fun t' ht' => le r' t' ht')) hr ?_
    exact sn_less (k := t) (fun t' ht' => le r t' ht') ht (by rw [self]; exact hb)
  · simp only [va_up, if_true]
    rw [pk_un (by omega)]
theorem min_nI {a b : Nat} (ha : a < 2 ^ 31) (hb : b < 2 ^ 31) : (if nI a < nI b then nI a else nI b) = nI (if a < b then a else b) := by
  by_cases q : a < b
  · rw [if_pos q, if_pos (nI_lt q hb)]
  · rw [if_neg q, if_neg (nI_nlt (by omega) ha)]
theorem gR_wait1 {G : Geo} {j a r t : Nat} (h : gR G j a r ((t + 1) % 32)) : gR G j (1 + a) r t := by
  rw [gR_mod] at h
  rw [Nat.add_comm]
  exact dR_wait 1 h
theorem gR_link1 {G : Geo} {j a r k t : Nat} (hk : k < G 0 1) (hT : gTk G r k t = true) (h : gR G j a k ((t + gln G r k) % 32)) : gR G j (gln G r k + a) r t := by
  rw [gR_mod] at h
  rw [Nat.add_comm]
  exact dR_link hk hT (gln_12 G r k) h
/-- the best look ahead from r at t -/
theorem r6_knowsBest {G : Geo} {I : Nat → Int32} {X : Nat → Nat → Int32} {j r t : Nat} {y3 : Int32} (G52 : (Nat → Int32) → (Nat → Nat → Int32) → Int32 → Int32 → Prop) (G62 : (Nat → Int32) → (Nat → Nat → Int32) → Int32 → Int32 → Int32 → Prop) (G70 : (Nat → Int32) → (Nat → Nat → Int32) → Int32 → Int32 → Int32 → Int32 → Prop) (Q : (Nat → Int32) → (Nat → Nat → Int32) → Prop) (hG : gok G) (hM : rM G I X) (hj : j < 8) (hI : kI G j X) (hr : r < G 0 1) (ht : t < 64) (hsame : kC G j X r t → G70 I X (nI j) y3 (nI t) (nI (r + 1))) (hnew : ∀ X', kI G j X' → kMu G j X' < kMu G j X → kSm j X X' → G70 I X' (nI j) 1 (nI t) (nI (r + 1))) {b0 : Nat} (hb0 : b0 ≤ 1000001) (hb1 : b0 ≤ 1 + kv X j r ((t + 1) % 32)) (hb2 : gTk G (48 + j) r t = true → b0 ≤ 1) (hb3 : b0 < 1000000 → gR G j b0 r t) : fX6_knows_b109 G52 G62 G70 Q I X (nI j) y3 (nI t) (nI r) (nI b0) := by
  have n48 := gok_nr hG
  obtain ⟨m6, m9, m13, mp, m7, m8, mj⟩ := id hM
  unfold fX6_knows_b109
  refine pk_loop (σ := Nat) (fun n i b => fX6_knows_h112 G52 G62 G70 Q n I X (nI j) y3 (nI t) (nI r) (nI b) (nI i)) (fun i b => b ≤ 1000001 ∧ b ≤ 1 + kv X j r ((t + 1) % 32) ∧ (gTk G (48 + j) r t = true → b ≤ 1) ∧ (b < 1000000 → gR G j b r t) ∧ ∀ k, k < i → gTk G r k t = true → b ≤ gln G r k + kv X j k ((t + gln G r k) % 32)) (G 0 1) 0 b0 (Nat.zero_le _) ⟨hb0, hb1, hb2, hb3, fun k hk => by omega⟩ ?_ ?_
  · intro n b ⟨a1, a2, a3, a4, a5⟩
    unfold fX6_knows_h112 fX6_knows_b208
    rw [m9]
    refine ⟨fun _ => ?_, fun z => absurd (nI_le (Nat.le_refl _) (by omega)) z⟩
    have t32 := Nat.mod_lt t (show 0 < 32 by decide)
    obtain ⟨v1, v2, v3⟩ := hI r (t % 32) hr t32
    refine r6_takesFrom hj (by omega) (by omega) ?_
    rw [v1]
    have e : ((((48 : Int32) * nI j) + nI r) * (32 : Int32)) + (nI t - nI t / (32 : Int32) * (32 : Int32)) = nI ((48 * j + r) * 32 + t % 32) := by
      have a : nI t - nI t / (32 : Int32) * (32 : Int32) = nI (t % 32) := pk_rem (d := 32) (by omega) (by decide) (by decide)
      rw [a, show (48 : Int32) = nI 48 from rfl, show (32 : Int32) = nI 32 from rfl, pk_mul, nI_add, pk_mul, nI_add]
    refine pk_lt b (kv X j r (t % 32)) (fun w => ?_) (fun w => ?_)
    · rw [e]
      refine ⟨pk_in ((48 * j + r) * 32 + t % 32) 12288 (by omega), ?_⟩
      rw [pk_cl ((48 * j + r) * 32 + t % 32)]
      have hR : gR G j b r (t % 32) := (gR_mod G j b r t).mpr (a4 (by omega))
      obtain ⟨c1, c2, c3⟩ := kPut hj n48 hI hr t32 w hR
      exact nm_e (nm_r (nI_1 r) (hnew _ c1 c2 c3))
    · refine nm_r (nI_1 r) (hsame ⟨by omega, fun z => ?_, fun k hk z => ?_⟩)
      · have := a3 z; omega
      · have := a5 k hk z; omega
  · intro n i b hi ⟨a1, a2, a3, a4, a5⟩ ih
    unfold fX6_knows_h112 fX6_knows_b160
    rw [m9]
    refine ⟨fun z => absurd z (nI_ge hi (by omega)), fun _ => ?_⟩
    refine r6_taken hG hM hr hi (by omega) ?_
    by_cases q : gTk G r i t = true
    · rw [if_pos q]
      have l12 := gln_12 G r i
      refine ⟨fun z => absurd z (nI_nle (by omega) (by omega)), fun _ => ?_⟩
      rw [show nI t + nI (gln G r i) = nI (t + gln G r i) from nI_add _ _]
      refine r6_takesFrom hj (by omega) (by omega) ?_
      have t32 := Nat.mod_lt (t + gln G r i) (show 0 < 32 by decide)
      obtain ⟨v1, v2, v3⟩ := hI i ((t + gln G r i) % 32) hi t32
      rw [v1, nI_add, min_nI (by omega) (by omega)]
      refine nm_e (nm_r (nI_1 i) (ih _ ⟨?_, ?_, fun z => ?_, fun z => ?_, fun k hk z => ?_⟩))
      · split <;> omega
      · split <;> omega
      · have := a3 z
        split <;> omega
      · by_cases c : gln G r i + kv X j i ((t + gln G r i) % 32) < b
        · rw [if_pos c] at z ⊢
          exact gR_link1 hi q (v3 (by omega))
        · rw [if_neg c] at z ⊢
          exact a4 z
      · by_cases e : k = i
        · subst e; split <;> omega
        · have := a5 k (by omega) z
          split <;> omega
    · rw [if_neg q]
      refine ⟨fun _ => ?_, fun z => absurd (by decide) z⟩
      refine nm_r (nI_1 i) (ih b ⟨a1, a2, a3, a4, fun k hk z => ?_⟩)
      by_cases e : k = i
      · subst e; exact absurd z q
      · exact a5 k (by omega) z
/-- one sweep over all ticks and relays -/
theorem r6_knowsSweep {G : Geo} {I : Nat → Int32} {X : Nat → Nat → Int32} {j : Nat} (G52 : (Nat → Int32) → (Nat → Nat → Int32) → Int32 → Int32 → Prop) (Q : (Nat → Int32) → (Nat → Nat → Int32) → Prop) (hG : gok G) (hM : rM G I X) (hj : j < G 0 2) (hI : kI G j X) (hsame : (∀ r t, r < G 0 1 → t < 64 → kC G j X r t) → G52 I X (nI j) 0) (hnew : ∀ X', kI G j X' → kMu G j X' < kMu G j X → kSm j X X' → G52 I X' (nI j) 1) : ∃ n, fX6_knows_h62 G52 Q n I X (nI j) 0 63 := by
  have n48 := gok_nr hG
  have n8 := gok_ns hG
  have m9 := hM.2.1
  -- a state of the sweep: nothing was made less, or something was
  have key : ∀ (e : Nat) (s : Int32 × (Nat → Nat → Int32)), e ≤ 64 → ((s.1 = 0 ∧ s.2 = X ∧ ∀ r t, r < G 0 1 → e ≤ t → t < 64 → kC G j X r t) ∨ (s.1 = 1 ∧ kI G j s.2 ∧ kMu G j s.2 < kMu G j X ∧ kSm j X s.2)) → fX6_knows_h62 G52 Q (e + 1) I s.2 (nI j) s.1 (nI e + (-1)) := by
    intro e
    induction e with
    | zero =>
      intro s _ hs
      unfold fX6_knows_h62
      refine ⟨fun _ => ?_, fun z => absurd (by decide) z⟩
      rcases hs with ⟨h1, h2, h3⟩ | ⟨h1, h2, h3, h4⟩
      · rw [h1, h2]; exact hsame (fun r t hr ht => h3 r t hr (Nat.zero_le _) ht)
      · rw [h1]; exact hnew _ h2 h3 h4
    | succ e ihe =>
      intro s he hs
      rw [pk_m1]
      unfold fX6_knows_h62
      refine ⟨fun z => absurd z (nI_pos (by omega)), fun _ => ?_⟩
      refine pk_loop (σ := Int32 × (Nat → Nat → Int32)) (fun n i s => fX6_knows_h70 G52 (fun a0 a1 a2 a3 a4 => fX6_knows_h62 G52 Q (e + 1) a0 a1 a2 a3 a4) Q n I s.2 (nI j) s.1 (nI e) (nI i)) (fun i s => ((s.1 = 0 ∧ s.2 = X ∧ (∀ r t, r < G 0 1 → e + 1 ≤ t → t < 64 → kC G j X r t) ∧ ∀ r, r < i → kC G j X r e) ∨ (s.1 = 1 ∧ kI G j s.2 ∧ kMu G j s.2 < kMu G j X ∧ kSm j X s.2))) (G 0 1) 0 s (Nat.zero_le _) ?_ ?_ ?_
      · rcases hs with ⟨h1, h2, h3⟩ | h
        · exact Or.inl ⟨h1, h2, h3, fun r hr => by omega⟩
        · exact Or.inr h
      · intro n s hs
        unfold fX6_knows_h70
        rw [m9]
        refine ⟨fun _ => nm_e (ihe s (by omega) ?_), fun z => absurd (nI_le (Nat.le_refl _) (by omega)) z⟩
        rcases hs with ⟨h1, h2, h3, h4⟩ | h
        · refine Or.inl ⟨h1, h2, fun r t hr h5 h6 => ?_⟩
          by_cases q : t = e
          · rw [q]; exact h4 r hr
          · exact h3 r t hr (by omega) h6
        · exact Or.inr h
      · intro n i s hi hs ih
        have hI' : kI G j s.2 := by
          rcases hs with ⟨h1, h2, h3, h4⟩ | h
          · rw [h2]; exact hI
          · exact h.2.1
        have hM' : rM G I s.2 := by
          rcases hs with ⟨h1, h2, h3, h4⟩ | h
          · rw [h2]; exact hM
          · exact rM_kSm hM h.2.2.2
        unfold fX6_knows_h70
        rw [m9]
        refine ⟨fun z => absurd z (nI_ge hi (by omega)), fun _ => ?_⟩
        rw [show nI e + (1 : Int32) = nI (e + 1) from nI_1 _]
        refine r6_takesFrom (by omega) (by omega) (by omega) ?_
        have t32 := Nat.mod_lt (e + 1) (show 0 < 32 by decide)
        obtain ⟨v1, v2, v3⟩ := hI' i ((e + 1) % 32) hi t32
        rw [v1, show (1 : Int32) + nI (kv s.2 j i ((e + 1) % 32)) = nI (1 + kv s.2 j i ((e + 1) % 32)) from nI_add 1 _]
        refine nm_e ?_
        have same : kC G j s.2 i e → fX6_knows_h70 G52 (fun a0 a1 a2 a3 a4 => fX6_knows_h62 G52 Q (e + 1) a0 a1 a2 a3 a4) Q n I s.2 (nI j) s.1 (nI e) (nI (i + 1)) := by
          intro hc
          refine ih s ?_
          rcases hs with ⟨h1, h2, h3, h4⟩ | h
          · refine Or.inl ⟨h1, h2, h3, fun r hr => ?_⟩
            by_cases q : r = i
            · rw [q, ← h2]; exact hc
            · exact h4 r (by omega)
          · exact Or.inr h
        have new : ∀ X', kI G j X' → kMu G j X' < kMu G j s.2 → kSm j s.2 X' → fX6_knows_h70 G52 (fun a0 a1 a2 a3 a4 => fX6_knows_h62 G52 Q (e + 1) a0 a1 a2 a3 a4) Q n I X' (nI j) 1 (nI e) (nI (i + 1)) := by
          intro X' c1 c2 c3
          refine ih (1, X') (Or.inr ⟨rfl, c1, ?_, ?_⟩)
          · rcases hs with ⟨h1, h2, h3, h4⟩ | h
            · rw [h2] at c2; exact c2
            · have := h.2.2.1
              show kMu G j X' < kMu G j X
              omega
          · rcases hs with ⟨h1, h2, h3, h4⟩ | h
            · rw [h2] at c3; exact c3
            · exact kSm_tr h.2.2.2 c3
        refine r6_takesPost hG hM' hj hi (by omega) ?_
        by_cases q : gTk G (48 + j) i e = true
        · rw [if_pos q]
          refine ⟨fun z => absurd z (by decide), fun _ => ?_⟩
          refine r6_knowsBest (b0 := 1) G52 _ _ Q hG hM' (by omega) hI' hi (by omega) same new (by omega) (by omega) (fun _ => Nat.le_refl _) (fun _ => ?_)
          exact dR_end (by omega) q
        · rw [if_neg q]
          refine ⟨fun _ => ?_, fun z => absurd rfl z⟩
          refine r6_knowsBest (b0 := 1 + kv s.2 j i ((e + 1) % 32)) G52 _ _ Q hG hM' (by omega) hI' hi (by omega) same new (by omega) (Nat.le_refl _) (fun z => absurd z q) (fun z => ?_)
          exact gR_wait1 (v3 (by omega))
  have := key 64 (0, X) (Nat.le_refl _) (Or.inl ⟨rfl, rfl, fun r t hr h1 h2 => by omega⟩)
  exact ⟨65, this⟩
theorem r6_knows {G : Geo} {I : Nat → Int32} {X : Nat → Nat → Int32} {j : Nat} {Q : (Nat → Int32) → (Nat → Nat → Int32) → Prop} (hG : gok G) (hM : rM G I X) (hj : j < G 0 2) (hk : X 15 j ≠ 0 → kK G j X) (hq : ∀ X', (∀ k, k ≠ 14 → k ≠ 15 → X' k = X k) → (∀ i, i ≠ j → X' 15 i = X 15 i) → X' 15 j ≠ 0 → (∀ i, (i < 1536 * j ∨ 1536 * j + 1536 ≤ i) → X' 14 i = X 14 i) → kK G j X' → Q I X') : fX6_knows Q I X (nI j) := by
  have n48 := gok_nr hG
  have n8 := gok_ns hG
  unfold fX6_knows
  refine ⟨pk_in j 8 (by omega), ?_⟩
  rw [pk_cl j]
  refine ⟨fun _ => ?_, fun z => hq X (fun _ _ _ => rfl) (fun _ _ => rfl) z (fun _ _ => rfl) (hk z)⟩
  refine ⟨pk_in j 8 (by omega), nm_e ?_⟩
  have e1 : vp_nar .boolean (1 : Int32) = 1 := by decide
  rw [e1]
  refine nm_r (e' := nI (1536 * j)) (by rw [show (48 : Int32) = nI 48 from rfl, show (32 : Int32) = nI 32 from rfl, pk_mul, pk_mul]; congr 1; omega) ?_
  -- the fill
  have hX1 : ∃ X1 : Nat → Nat → Int32, X1 = va_up X 15 (upd (X 15) j 1) := ⟨_, rfl⟩
  obtain ⟨X1, eX⟩ := hX1
  rw [← eX]
  have x15 : ∀ i, i ≠ j → X1 15 i = X 15 i := by
    intro i hi
    rw [eX]
    simp only [va_up, if_true]
    rw [pk_un hi]
  have x15j : X1 15 j ≠ 0 := by
    rw [eX]
    simp only [va_up, if_true]
    rw [pk_us]; decide
  have xk : ∀ k, k ≠ 15 → X1 k = X k := by
    intro k hk
    rw [eX]
    simp [va_up, hk]
  refine pk_loop (σ := Nat → Nat → Int32) (fun n i s => fX6_knows_h27 Q n I s (nI j) (nI (1536 * j)) (nI i)) (fun i s => kSm j X1 s ∧ 1536 * j ≤ i ∧ ∀ q, 1536 * j ≤ q → q < i → s 14 q = nI 1000000) (1536 * j + 1536) (1536 * j) X1 (by omega) ⟨kSm_rf, Nat.le_refl _, fun q h1 h2 => by omega⟩ ?_ ?_
  · intro n s ⟨a1, a2, a3⟩
    unfold fX6_knows_h27
    rw [show nI (1536 * j) + (1536 : Int32) = nI (1536 * j + 1536) from nI_add _ 1536]
    refine ⟨fun _ => ?_, fun z => absurd (nI_le (Nat.le_refl _) (by omega)) z⟩
    have hI0 : kI G j s := by
      intro r t hr ht
      have e := a3 ((48 * j + r) * 32 + t) (by omega) (by omega)
      have v : kv s j r t = 1000000 := by unfold kv; rw [e, nI_clamp (by decide)]
      rw [v]
      exact ⟨e, Nat.le_refl _, fun z => absurd z (by omega)⟩
    -- the sweeps
    refine lp2 (fun n (u : Nat → Nat → Int32) (y3 : Int32) => fX6_knows_h52 Q n I u (nI j) y3) (fun u y3 => kSm j X1 u ∧ kI G j u ∧ (y3 = 0 → kK G j u)) (fun u y3 => 2 * kMu G j u + (if y3 = 0 then 0 else 1)) ?_ s 1 ⟨a1, hI0, fun z => absurd z (by decide)⟩
    intro n u y3 ⟨b1, b2, b3⟩ ih
    unfold fX6_knows_h52
    refine ⟨fun z => ?_, fun z => ?_⟩
    · refine hq u (fun k h1 h2 => ?_) (fun i hi => ?_) ?_ (fun i hi => ?_) (b3 z)
      · rw [b1.1 k h1, xk k h2]
      · rw [b1.1 15 (by decide), x15 i hi]
      · rw [b1.1 15 (by decide)]; exact x15j
      · rw [b1.2 i hi, xk 14 (by decide)]
    · have hMu : rM G I u := rM_congr hM rfl rfl rfl (fun k hk => by rw [b1.1 k (by omega), xk k (by omega)])
      refine r6_knowsSweep (fun a0 a1 a2 a3 => fX6_knows_h52 Q n a0 a1 a2 a3) Q hG hMu hj b2 (fun hc => ?_) (fun X' c1 c2 c3 => ?_)
      · refine ih u 0 ⟨b1, b2, fun _ => kK_of hG b2 hc⟩ ?_
        rw [if_pos rfl, if_neg z]; omega
      · refine ih X' 1 ⟨kSm_tr b1 c3, c1, fun z => absurd z (by decide)⟩ ?_
        rw [if_neg (by decide), if_neg z]; omega
  · intro n i s hi ⟨a1, a2, a3⟩ ih
    unfold fX6_knows_h27
    rw [show nI (1536 * j) + (1536 : Int32) = nI (1536 * j + 1536) from nI_add _ 1536]
    refine ⟨fun z => absurd z (nI_ge hi (by omega)), fun _ => ?_⟩
    refine ⟨pk_in i 12288 (by omega), ?_⟩
    rw [pk_cl i]
    refine nm_e (nm_r (nI_1 i) (ih _ ⟨⟨fun k hk => ?_, fun q hq => ?_⟩, by omega, fun q h1 h2 => ?_⟩))
    · simp only [va_up, if_neg hk]; exact a1.1 k hk
    · simp only [va_up, if_true]
      rw [pk_un (by omega)]; exact a1.2 q hq
    · simp only [va_up, if_true]
      by_cases e : q = i
      · rw [e, pk_us]; rfl
      · rw [pk_un e]; exact a3 q h1 (by omega)
theorem r6_takesPosts {G : Geo} {I : Nat → Int32} {X : Nat → Nat → Int32} {p j t : Nat} {Q : Int32 → (Nat → Int32) → (Nat → Nat → Int32) → Prop} (hG : gok G) (hM : rM G I X) (hp : p < G 0 2) (hj : j < G 0 2) (ht : t < 2 ^ 29) (hk : X 15 j ≠ 0 → kK G j X) (hq : ∀ X' x, (∀ k, k ≠ 14 → k ≠ 15 → X' k = X k) → (∀ i, i ≠ j → X' 15 i = X 15 i) → X' 15 j ≠ 0 → (∀ i, (i < 1536 * j ∨ 1536 * j + 1536 ≤ i) → X' 14 i = X 14 i) → kK G j X' → gD G j (48 + p) t x → x ≤ 1000000 → Q (nI x) I X') : fX6_takesPosts Q I X (nI p) (nI j) (nI t) := by
  have n48 := gok_nr hG
  have n8 := gok_ns hG
  unfold fX6_takesPosts
  refine r6_knows hG hM hj hk (fun X' k1 k2 k3 k4 kk => ?_)
  have hM' : rM G I X' := rM_congr hM rfl rfl rfl (fun k hk => k1 k (by omega) (by omega))
  have m9 := hM'.2.1
  -- x is not above what begins with a link less than w ticks ahead, or w ticks ahead with one of the first i relays
  have hx : ∃ P : Nat → Nat → Nat → Prop, P = (fun w i x => x ≤ 1000000 ∧ (x < 1000000 → gR G j x (48 + p) t) ∧ (∀ w' r a, r < G 0 1 → (w' < w ∨ (w' = w ∧ r < i)) → gTk G (48 + p) r (t + w') = true → gD G j r (t + w' + 1) a → x ≤ w' + 1 + a)) := ⟨_, rfl⟩
  obtain ⟨P, eP⟩ := hx
  refine pk_loop (σ := Nat) (fun n w x => fX6_takesPosts_h12 Q n I X' (nI p) (nI j) (nI t) (nI x) (nI w)) (fun w x => P w 0 x) 32 0 1000000 (by decide) ?_ ?_ ?_
  · rw [eP]
    exact ⟨Nat.le_refl _, fun z => absurd z (by omega), fun w' r a hr h => by omega⟩
  · intro n x hx
    rw [eP] at hx
    obtain ⟨a1, a2, a3⟩ := hx
    unfold fX6_takesPosts_h12
    refine ⟨fun _ => ?_, fun z => absurd (by decide) z⟩
    refine hq X' x k1 k2 k3 k4 kk (dL_of (gTk_perI G) n48 a1 a2 (fun d hd hR => ?_)) a1
    obtain ⟨w, r, d', b1, b2, b3, b4, b5⟩ := dR_post (gTk_perI G) (p := 48 + p) (by omega) (fun u _ => gln_p G (by omega)) d t hR
    obtain ⟨a, c1, c2⟩ := kk r ((t + w + 1) % 32) b2 (Nat.mod_lt _ (by decide))
    have c3 : gD G j r (t + w + 1) a := dL_mod (gTk_perI G) (Nat.mod_mod _ _) c2
    have c4 := a3 w r a b2 (Or.inl b1) b3 c3
    rcases c3 with ⟨_, _, c5⟩ | ⟨_, c5⟩
    · have := c5 d' b4
      omega
    · exact absurd b4 (c5 d')
  · intro n w x hw hx ih
    unfold fX6_takesPosts_h12
    refine ⟨fun z => absurd z (nI_ge (b := 32) hw (by decide)), fun _ => ?_⟩
    refine pk_loop (σ := Nat) (fun m i x => fX6_takesPosts_h22 (fun a0 a1 a2 a3 a4 a5 a6 => fX6_takesPosts_h12 Q n a0 a1 a2 a3 a4 a5 a6) Q m I X' (nI p) (nI j) (nI t) (nI x) (nI w) (nI i)) (fun i x => P w i x) (G 0 1) 0 x (Nat.zero_le _) hx ?_ ?_
    · intro m x hx
      unfold fX6_takesPosts_h22
      rw [m9]
      refine ⟨fun _ => nm_r (nI_1 w) (ih x ?_), fun z => absurd (nI_le (Nat.le_refl _) (by omega)) z⟩
      rw [eP] at hx ⊢
      exact ⟨hx.1, hx.2.1, fun w' r a hr h => hx.2.2 w' r a hr (by omega)⟩
    · intro m i x hi hx ihm
      rw [eP] at hx
      obtain ⟨a1, a2, a3⟩ := hx
      unfold fX6_takesPosts_h22 fX6_takesPosts_b70
      rw [m9]
      refine ⟨fun z => absurd z (nI_ge hi (by omega)), fun _ => ?_⟩
      rw [show nI t + nI w = nI (t + w) from nI_add _ _]
      refine r6_takesPost hG hM' hp hi (by omega) ?_
      by_cases q : gTk G (48 + p) i (t + w) = true
      · rw [if_pos q]
        refine ⟨fun z => absurd z (by decide), fun _ => ?_⟩
        rw [show nI (t + w) + (1 : Int32) = nI (t + w + 1) from nI_1 _]
        refine r6_takesFrom (by omega) (by omega) (by omega) ?_
        obtain ⟨a, c1, c2⟩ := kk i ((t + w + 1) % 32) hi (Nat.mod_lt _ (by decide))
        have c3 : gD G j i (t + w + 1) a := dL_mod (gTk_perI G) (Nat.mod_mod _ _) c2
        have c4 : a ≤ 1000000 := by rcases c3 with z | z <;> omega
        rw [c1, show nI w + (1 : Int32) = nI (w + 1) from nI_1 _, nI_add, min_nI (by omega) (by omega)]
        refine nm_e (nm_r (nI_1 i) (ihm _ ?_))
        rw [eP]
        refine ⟨by split <;> omega, fun z => ?_, fun w' r a' hr h hT hD => ?_⟩
        · by_cases c : w + 1 + a < x
          · rw [if_pos c] at z ⊢
            have hR : gR G j a i (t + w + 1) := by
              rcases c3 with y | y
              · exact y.2.1
              · omega
            have l1 : gln G (48 + p) i = 1 := gln_p G (by omega)
            have h1 : gR G j (a + 1) (48 + p) (t + w) := by
              have := dR_link (e := 48 + j) (d := a) (T := fun v u t => gTk G v u t = true) (ln := gln G) hi q (Or.inl l1) (by rw [l1]; exact hR)
              rw [l1] at this
              exact this
            have h2 := dR_wait w h1
            rw [show w + 1 + a = a + 1 + w by omega]
            exact h2
          · rw [if_neg c] at z ⊢
            exact a2 z
        · by_cases e : w' = w ∧ r = i
          · obtain ⟨rfl, rfl⟩ := e
            have : a' = a := dL_one hD c3
            subst this
            split <;> omega
          · have := a3 w' r a' hr (by omega) hT hD
            split <;> omega
      · rw [if_neg q]
        refine ⟨fun _ => nm_r (nI_1 i) (ihm x ?_), fun z => absurd rfl z⟩
        rw [eP]
        refine ⟨a1, a2, fun w' r a' hr h hT hD => ?_⟩
        by_cases e : w' = w ∧ r = i
        · obtain ⟨rfl, rfl⟩ := e
          exact absurd hT q
        · exact a3 w' r a' hr (by omega) hT hD

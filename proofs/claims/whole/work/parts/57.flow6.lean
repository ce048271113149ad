/-! how few relays part two posts: the network, and the reference's search -/
def gE0 (G : Geo) (p q t : Nat) (u v : Nat) : Bool := decide (u < G 0 1 ∧ v = u + 48) || (decide (u = 96 ∧ v < G 0 1) && gLk G (48 + p) v t) || (decide (48 ≤ u ∧ u < 48 + G 0 1 ∧ v = 97) && gLk G (48 + q) (u - 48) t) || (decide (48 ≤ u ∧ u < 48 + G 0 1 ∧ v < G 0 1) && gLk G (u - 48) v t)
theorem gE0_iff {G : Geo} {p q t u v : Nat} : gE0 G p q t u v = true ↔ ((u < G 0 1 ∧ v = u + 48) ∨ (u = 96 ∧ v < G 0 1 ∧ gLk G (48 + p) v t = true) ∨ (48 ≤ u ∧ u < 48 + G 0 1 ∧ v = 97 ∧ gLk G (48 + q) (u - 48) t = true) ∨ (48 ≤ u ∧ u < 48 + G 0 1 ∧ v < G 0 1 ∧ gLk G (u - 48) v t = true)) := by
  unfold gE0
  simp only [Bool.or_eq_true, Bool.and_eq_true, decide_eq_true_iff]
  constructor
  · rintro (((h | h) | h) | h)
    · exact Or.inl h
    · exact Or.inr (Or.inl ⟨h.1.1, h.1.2, h.2⟩)
    · exact Or.inr (Or.inr (Or.inl ⟨h.1.1, h.1.2.1, h.1.2.2, h.2⟩))
    · exact Or.inr (Or.inr (Or.inr ⟨h.1.1, h.1.2.1, h.1.2.2, h.2⟩))
  · rintro (h | h | h | h)
    · exact Or.inl (Or.inl (Or.inl h))
    · exact Or.inl (Or.inl (Or.inr ⟨⟨h.1, h.2.1⟩, h.2.2⟩))
    · exact Or.inl (Or.inr ⟨⟨h.1, h.2.1, h.2.2.1⟩, h.2.2.2⟩)
    · exact Or.inr ⟨⟨h.1, h.2.1, h.2.2.1⟩, h.2.2.2⟩
theorem gLk_self {G : Geo} {a t : Nat} (h : a < 48) : gLk G a a t = false := by
  unfold gLk gth
  rw [if_pos h, glk_self, decide_eq_false (fun z => z rfl), Bool.and_false]
theorem gE0_NA {G : Geo} {p q t : Nat} (hG : gok G) : nNA (gE0 G p q t) := by
  have n48 := gok_nr hG
  intro u v _ _
  cases a : gE0 G p q t u v
  · rw [bi_f]; have := bi_le (gE0 G p q t v u); omega
  · cases b : gE0 G p q t v u
    · rw [bi_f, bi_t]; decide
    · exfalso
      have a := gE0_iff.mp a
      have b := gE0_iff.mp b
      rcases a with a | a | a | a
      · rcases b with b | b | b | b
        · omega
        · omega
        · omega
        · have := b.2.2.2
          rw [show v - 48 = u by omega, gLk_self (by omega)] at this
          exact Bool.noConfusion this
      · rcases b with b | b | b | b <;> omega
      · rcases b with b | b | b | b <;> omega
      · rcases b with b | b | b | b
        · have := a.2.2.2
          rw [show u - 48 = v by omega, gLk_self (by omega)] at this
          exact Bool.noConfusion this
        · omega
        · omega
        · omega
theorem gE0_S {G : Geo} {p q t : Nat} (hG : gok G) : ∀ v, v < 98 → gE0 G p q t 96 v = true → v < 48 := by
  have n48 := gok_nr hG
  intro v _ h
  rcases gE0_iff.mp h with h | h | h | h <;> omega
def bI (b : Bool) : Int32 := nI (if b = true then 1 else 0)
theorem bI_t : bI true = 1 := rfl
theorem bI_f : bI false = 0 := rfl
/-- goes holds what is left of the edges -/
def gRp (E : Nat → Nat → Bool) (X : Nat → Nat → Int32) : Prop := ∀ u v, u < 98 → v < 98 → X 16 (98 * u + v) = bI (E u v)
/-- a search that is under way: m nodes are queued -/
def bF (E : Nat → Nat → Bool) (ρ : Nat → Nat) (m : Nat) (X : Nat → Nat → Int32) : Prop := (∀ v, v < 98 → X 17 v = -1 ∨ (ρ v < m ∧ X 18 (ρ v) = nI v ∧ ((v = 96 ∧ X 17 v = nI 96) ∨ (v ≠ 96 ∧ ∃ c, c < 98 ∧ X 17 v = nI c ∧ X 17 c ≠ -1 ∧ E c v = true ∧ ρ c < ρ v)))) ∧ (∀ k, k < m → ∃ w, w < 98 ∧ X 18 k = nI w ∧ X 17 w ≠ -1) ∧ cn 98 (fun v => decide (X 17 v ≠ -1)) = m ∧ X 17 96 = nI 96
def bC (E : Nat → Nat → Bool) (i : Nat) (X : Nat → Nat → Int32) : Prop := ∀ k w u, k < i → w < 98 → u < 98 → X 18 k = nI w → E w u = true → X 17 u ≠ -1
theorem cn_set {n k : Nat} {p q : Nat → Bool} (hk : k < n) (h : ∀ i, i < n → i ≠ k → q i = p i) (hp : p k = false) (hq : q k = true) : cn n q = cn n p + 1 := by
  induction n with
  | zero => omega
  | succ n ih =>
    show cn n q + (if q n = true then 1 else 0) = cn n p + (if p n = true then 1 else 0) + 1
    by_cases e : k = n
    · subst e
      rw [cn_congr (n := k) (p := q) (q := p) (fun i hi => h i (by omega) (by omega)), hp, hq]
      simp
    · rw [ih (by omega) (fun i hi => h i (by omega)), h n (by omega) (by omega)]
      omega
theorem cn_room {n k : Nat} {p : Nat → Bool} (hk : k < n) (hp : p k = false) : cn n p < n := by
  have a := cn_lt (n := n) (k := k) (p := p) (q := fun _ => true) (fun _ _ _ => rfl) hk hp rfl
  have b := cn_le n (fun _ => true)
  omega
/-- a node is found -/
theorem bF_push {E : Nat → Nat → Bool} {ρ : Nat → Nat} {m c v : Nat} {X X' : Nat → Nat → Int32} (h : bF E ρ m X) (hc : c < 98) (hv : v < 98) (h17 : X' 17 = upd (X 17) v (nI c)) (h18 : X' 18 = upd (X 18) m (nI v)) (hn : X 17 v = -1) (hcv : X 17 c ≠ -1) (he : E c v = true) : m < 98 ∧ bF E (fun a => if a = v then m else ρ a) (m + 1) X' := by
  obtain ⟨h1, h2, h3, h4⟩ := h
  have ncv : c ≠ v := fun z => by rw [z] at hcv; exact hcv hn
  have nv96 : v ≠ 96 := by
    intro z
    rw [z, h4] at hn
    exact nI_m1 (by decide) hn
  have vis : ∀ a, X 17 a ≠ -1 → X' 17 a ≠ -1 := by
    intro a ha
    rw [h17]
    by_cases e : a = v
    · rw [e, pk_us]; exact nI_m1 (by omega)
    · rw [pk_un e]; exact ha
  have ml : m < 98 := by
    rw [← h3]
    exact cn_room (k := v) hv (by simp [hn])
  have r1 : (fun a => if a = v then m else ρ a) v = m := if_pos rfl
  have r2 : ∀ a, a ≠ v → (fun a => if a = v then m else ρ a) a = ρ a := fun a h => if_neg h
  generalize (fun a => if a = v then m else ρ a) = ρ' at r1 r2 ⊢
  refine ⟨ml, fun a ha => ?_, fun k hk => ?_, ?_, ?_⟩
  · by_cases e : a = v
    · subst e
      right
      rw [r1, h17, h18, pk_us, pk_us]
      refine ⟨by omega, rfl, Or.inr ⟨nv96, c, hc, rfl, ?_, he, ?_⟩⟩
      · rw [pk_un ncv]; exact hcv
      · rw [r2 c ncv]
        rcases h1 c hc with z | z
        · exact absurd z hcv
        · exact z.1
    · rcases h1 a ha with z | ⟨z1, z2, z3⟩
      · left
        rw [h17, pk_un e]; exact z
      · right
        rw [r2 a e, h17, h18, pk_un e, pk_un (by omega)]
        refine ⟨by omega, z2, ?_⟩
        rcases z3 with z3 | ⟨n96, c', y1, y2, y3, y4, y5⟩
        · exact Or.inl z3
        · have : c' ≠ v := fun w => by rw [w] at y3; exact y3 hn
          exact Or.inr ⟨n96, c', y1, y2, by rw [pk_un this]; exact y3, y4, by rw [r2 c' this]; exact y5⟩
  · rw [h18]
    by_cases e : k = m
    · rw [e, pk_us]
      exact ⟨v, hv, rfl, by rw [h17, pk_us]; exact nI_m1 (by omega)⟩
    · rw [pk_un e]
      obtain ⟨w, w1, w2, w3⟩ := h2 k (by omega)
      exact ⟨w, w1, w2, vis w w3⟩
  · rw [← h3]
    refine cn_set (k := v) hv (fun i hi ne => ?_) (by simp [hn]) ?_
    · show decide (X' 17 i ≠ -1) = decide (X 17 i ≠ -1)
      rw [h17, pk_un ne]
    · show decide (X' 17 v ≠ -1) = true
      rw [h17, pk_us]
      exact decide_eq_true (nI_m1 (by omega))
  · rw [h17, pk_un (Ne.symm nv96)]; exact h4
theorem vis_nn {E : Nat → Nat → Bool} {ρ : Nat → Nat} {m v : Nat} {X : Nat → Nat → Int32} (h : bF E ρ m X) (hv : v < 98) : 0 ≤ X 17 v ↔ X 17 v ≠ -1 := by
  rcases h.1 v hv with z | ⟨_, _, z⟩
  · rw [z]
    exact ⟨fun w => absurd w (by decide), fun w => absurd rfl w⟩
  · rcases z with z | ⟨_, c, c1, c2, _⟩
    · rw [z.2]; exact ⟨fun _ => nI_m1 (by decide), fun _ => nI_pos' (by decide)⟩
    · rw [c2]; exact ⟨fun _ => nI_m1 (by omega), fun _ => nI_pos' (by omega)⟩
/-- what a search leaves: came in order, or a set that nothing leads out of -/
theorem r6_finds {E : Nat → Nat → Bool} {I : Nat → Int32} {X : Nat → Nat → Int32} {Q : Int32 → (Nat → Int32) → (Nat → Nat → Int32) → Prop} (hE : gRp E X) (hy : ∀ X' ρ m, (∀ k, k ≠ 17 → k ≠ 18 → X' k = X k) → bF E ρ m X' → X' 17 97 ≠ -1 → Q 1 I X') (hn : ∀ X' (S : Nat → Bool), (∀ k, k ≠ 17 → k ≠ 18 → X' k = X k) → S 96 = true → S 97 = false → (∀ u v, u < 98 → v < 98 → S u = true → E u v = true → S v = true) → Q 0 I X') : fX6_finds Q I X := by
  have last : ∀ X' ρ m, (∀ k, k ≠ 17 → k ≠ 18 → X' k = X k) → bF E ρ m X' → (X' 17 97 = -1 → bC E m X') → fX6_finds_b130 Q I X' := by
    intro X' ρ m f1 f2 f3
    unfold fX6_finds_b130
    refine ⟨pk_in 97 98 (by decide), ?_⟩
    rw [show ((97 : Int32).toNatClampNeg) = 97 from by decide]
    refine ⟨fun z => ?_, fun z => hy X' ρ m f1 f2 ?_⟩
    · have e : X' 17 97 = -1 := by
        rcases f2.1 97 (by decide) with w | ⟨_, _, w⟩
        · exact w
        · rcases w with w | ⟨_, c, c1, c2, _⟩
          · omega
          · rw [c2] at z; exact absurd z (nI_pos (by omega))
      refine hn X' (fun v => decide (X' 17 v ≠ -1)) f1 ?_ ?_ (fun u v hu hv su huv => ?_)
      · show decide (X' 17 96 ≠ -1) = true
        rw [f2.2.2.2]
        exact decide_eq_true (nI_m1 (by decide))
      · simp [e]
      · have su := of_decide_eq_true su
        rcases f2.1 u hu with w | ⟨w1, w2, _⟩
        · exact absurd w su
        · exact decide_eq_true (f3 e (ρ u) u v w1 hu hv w2 huv)
    · intro w
      rw [w] at z
      exact z (by decide)
  unfold fX6_finds
  refine pk_loop (σ := Nat → Nat → Int32) (fun n i s => fX6_finds_h2 Q n I s (nI i)) (fun i s => (∀ k, k ≠ 17 → s k = X k) ∧ ∀ v, v < i → s 17 v = -1) 98 0 X (by decide) ⟨fun _ _ => rfl, fun v hv => by omega⟩ ?_ ?_
  · intro n s ⟨a1, a2⟩
    unfold fX6_finds_h2
    refine ⟨fun _ => ⟨pk_in 96 98 (by decide), fun X1 e1 => ⟨pk_in 0 98 (by decide), fun X2 e2 => ?_⟩⟩, fun z => absurd (by decide) z⟩
    rw [show ((96 : Int32).toNatClampNeg) = 96 from by decide] at e1
    rw [show ((0 : Int32).toNatClampNeg) = 0 from by decide] at e2
    have o : ∀ k, k ≠ 17 → k ≠ 18 → X2 k = X k := by
      intro k h1 h2
      rw [e2, e1]
      simp only [va_up, if_neg h1, if_neg h2]
      exact a1 k h1
    have o17 : X2 17 = upd (s 17) 96 96 := by rw [e2, e1]; simp [va_up]
    have o18 : X2 18 = upd (s 18) 0 96 := by rw [e2, e1]; simp [va_up]
    have st : bF E (fun _ => 0) 1 X2 := by
      refine ⟨fun v hv => ?_, fun k hk => ?_, ?_, ?_⟩
      · by_cases e : v = 96
        · right
          refine ⟨Nat.one_pos, ?_, Or.inl ⟨e, ?_⟩⟩
          · rw [o18, pk_us, e]; rfl
          · rw [o17, e, pk_us]; rfl
        · left
          rw [o17, pk_un e]; exact a2 v hv
      · have : k = 0 := by omega
        rw [this, o18, pk_us]
        exact ⟨96, by decide, rfl, by rw [o17, pk_us]; decide⟩
      · have e0 : cn 98 (fun _ => false) = 0 := by decide +kernel
        have := cn_set (n := 98) (k := 96) (p := fun _ => false) (q := fun v => decide (X2 17 v ≠ -1)) (by decide) (fun i hi ne => by
          show decide (X2 17 i ≠ -1) = false
          rw [o17, pk_un ne, a2 i hi]; simp) rfl (by
          show decide (X2 17 96 ≠ -1) = true
          rw [o17, pk_us]; decide)
        rw [this, e0]
      · rw [o17, pk_us]; rfl
    refine lp3 (fun n (u : Nat → Nat → Int32) (y1 y2 : Int32) => fX6_finds_h42 Q n I u y1 y2) (fun u y1 y2 => ∃ ρ m i, m ≤ 98 ∧ i ≤ m ∧ y1 = nI m ∧ y2 = nI i ∧ (∀ k, k ≠ 17 → k ≠ 18 → u k = X k) ∧ bF E ρ m u ∧ bC E i u) (fun _ _ y2 => 99 - y2.toNatClampNeg) ?_ X2 1 0 ⟨fun _ => 0, 1, 0, by decide, by decide, rfl, rfl, o, st, fun k w u hk => by omega⟩
    intro n u y1 y2 ⟨ρ, m, i, b1, b2, b3, b4, b5, b6, b7⟩ ih
    subst b3 b4
    unfold fX6_finds_h42
    refine pk_le m i (fun w => last u ρ m b5 b6 (fun _ => ?_)) (fun w => ⟨pk_in 97 98 (by decide), ?_⟩)
    · have : i = m := by omega
      rw [← this]; exact b7
    rw [show ((97 : Int32).toNatClampNeg) = 97 from by decide]
    refine ⟨fun z => last u ρ m b5 b6 (fun y => by rw [y] at z; exact absurd z (by decide)), fun _ => ?_⟩
    obtain ⟨c, c1, c2, c3⟩ := b6.2.1 i w
    refine pk_loop (σ := (Nat → Nat → Int32) × Nat × (Nat → Nat)) (fun m' k s => fX6_finds_h59 (fun a0 a1 a2 a3 => fX6_finds_h42 Q n a0 a1 a2 a3) Q m' I s.1 (nI s.2.1) (nI i) (nI k)) (fun k s => (∀ k, k ≠ 17 → k ≠ 18 → s.1 k = X k) ∧ bF E s.2.2 s.2.1 s.1 ∧ bC E i s.1 ∧ s.2.1 ≤ 98 ∧ i < s.2.1 ∧ s.1 18 i = nI c ∧ s.1 17 c ≠ -1 ∧ ∀ v, v < k → E c v = true → s.1 17 v ≠ -1) 98 0 (u, m, ρ) (by decide) ⟨b5, b6, b7, b1, w, c2, c3, fun v hv => by omega⟩ ?_ ?_
    · intro m' s ⟨d1, d2, d3, d4, d5, d6, d7, d8⟩
      unfold fX6_finds_h59
      refine ⟨fun _ => nm_r (nI_1 i) (ih s.1 (nI s.2.1) (nI (i + 1)) ⟨s.2.2, s.2.1, i + 1, d4, by omega, rfl, rfl, d1, d2, fun k w' u' hk hw hu he hE => ?_⟩ ?_), fun z => absurd (by decide) z⟩
      · by_cases e : k = i
        · subst e
          rw [d6] at he
          have : c = w' := (nI_eq (by omega) (by omega)).mp he
          subst this
          exact d8 u' hu hE
        · exact d3 k w' u' (by omega) hw hu he hE
      · rw [nI_clamp (by omega), nI_clamp (by omega)]; omega
    · intro m' k s hk ⟨d1, d2, d3, d4, d5, d6, d7, d8⟩ ihm
      have skip : (E c k = true → s.1 17 k ≠ -1) → fX6_finds_h59 (fun a0 a1 a2 a3 => fX6_finds_h42 Q n a0 a1 a2 a3) Q m' I s.1 (nI s.2.1) (nI i) (nI (k + 1)) := by
        intro hs
        refine ihm s ⟨d1, d2, d3, d4, d5, d6, d7, fun v hv => ?_⟩
        by_cases e : v = k
        · rw [e]; exact hs
        · exact d8 v (by omega)
      unfold fX6_finds_h59 fX6_finds_b118
      refine ⟨fun z => absurd z (nI_ge (b := 98) hk (by decide)), fun _ => ⟨pk_in k 98 hk, ?_⟩⟩
      rw [pk_cl k, pk_cl i, d6]
      refine ⟨fun z => nm_r (nI_1 k) (skip (fun _ => (vis_nn d2 hk).mp z)), fun z => ?_⟩
      have nk : s.1 17 k = -1 := Classical.byContradiction (fun y => z ((vis_nn d2 hk).mpr y))
      rw [show (98 : Int32) * nI c + nI k = nI (98 * c + k) by rw [show (98 : Int32) = nI 98 from rfl, pk_mul, nI_add]]
      refine ⟨pk_in i 98 (by omega), pk_in (98 * c + k) 9604 (by omega), ?_⟩
      rw [pk_cl (98 * c + k), d1 16 (by decide) (by decide), hE c k c1 hk]
      cases e : E c k
      · rw [bI_f]
        exact ⟨fun y => absurd rfl y, fun _ => nm_r (nI_1 k) (skip (fun y => by rw [e] at y; exact Bool.noConfusion y))⟩
      · rw [bI_t]
        refine ⟨fun _ => ⟨pk_in i 98 (by omega), pk_in k 98 hk, fun X1 e1 => ?_⟩, fun y => absurd y (by decide)⟩
        have m98 : s.2.1 < 98 := by
          rw [← d2.2.2.1]
          exact cn_room (k := k) hk (by simp [nk])
        refine ⟨pk_in s.2.1 98 m98, ?_⟩
        rw [pk_cl s.2.1]
        refine fun X3 e3 => nm_r (nI_1 _) (nm_r (nI_1 k) ?_)
        have g17 : X3 17 = upd (s.1 17) k (nI c) := by rw [e3, e1]; simp [va_up]
        have g18 : X3 18 = upd (s.1 18) s.2.1 (nI k) := by rw [e3, e1]; simp [va_up]
        have go : ∀ a, a ≠ 17 → a ≠ 18 → X3 a = s.1 a := by
          intro a h1 h2
          rw [e3, e1]; simp [va_up, h1, h2]
        obtain ⟨_, push⟩ := bF_push d2 c1 hk g17 g18 nk d7 e
        have vis : ∀ a, s.1 17 a ≠ -1 → X3 17 a ≠ -1 := by
          intro a ha
          rw [g17]
          by_cases e' : a = k
          · rw [e', pk_us]; exact nI_m1 (by omega)
          · rw [pk_un e']; exact ha
        refine ihm (X3, s.2.1 + 1, fun a => if a = k then s.2.1 else s.2.2 a) ⟨fun a h1 h2 => by show X3 a = X a; rw [go a h1 h2, d1 a h1 h2], push, fun a w' u' ha hw hu he hE => ?_, by show s.2.1 + 1 ≤ 98; omega, by show i < s.2.1 + 1; omega, ?_, vis c d7, fun v hv hE => ?_⟩
        · have he : X3 18 a = nI w' := he
          rw [g18, pk_un (by omega)] at he
          exact vis u' (d3 a w' u' ha hw hu he hE)
        · show X3 18 i = nI c
          rw [g18, pk_un (by omega)]; exact d6
        · by_cases e' : v = k
          · rw [e']
            show X3 17 k ≠ -1
            rw [g17, pk_us]; exact nI_m1 (by omega)
          · exact vis v (d8 v (by omega) hE)
  · intro n i s hi ⟨a1, a2⟩ ih
    unfold fX6_finds_h2
    refine ⟨fun z => absurd z (nI_ge (b := 98) hi (by decide)), fun _ => ⟨pk_in i 98 hi, ?_⟩⟩
    rw [pk_cl i]
    refine nm_e (nm_r (nI_1 i) (ih _ ⟨fun k hk => ?_, fun v hv => ?_⟩))
    · simp only [va_up, if_neg hk]; exact a1 k hk
    · simp only [va_up, if_true]
      by_cases e : v = i
      · rw [e, pk_us]
      · rw [pk_un e]; exact a2 v (by omega)
/-- the flow is made greater along what came -/
theorem r6_augment {E0 E : Nat → Nat → Bool} {n : Nat} {I : Nat → Int32} {X : Nat → Nat → Int32} {ρ : Nat → Nat} {m : Nat} (G157 : (Nat → Int32) → (Nat → Nat → Int32) → Int32 → Prop) (Q : Int32 → (Nat → Int32) → (Nat → Nat → Int32) → Prop) (hA : nNA E0) (hF : nFm E0 E n 97) (hR : gRp E X) (hB : bF E ρ m X) (hv : X 17 97 ≠ -1) (hq : ∀ E' X', (∀ k, k ≠ 16 → X' k = X k) → gRp E' X' → nFm E0 E' ((n + 1 : Nat) : Int) 97 → G157 I X' (nI (n + 1))) : ∃ N, fX6_flows_h168 G157 Q N I X (nI n) 97 := by
  have e0 : vp_nar .boolean (0 : Int32) = 0 := by decide
  have e1 : vp_nar .boolean (1 : Int32) = 1 := by decide
  refine lp2 (fun N (u : Nat → Nat → Int32) (y5 : Int32) => fX6_flows_h168 G157 Q N I u (nI n) y5) (fun u y5 => ∃ k E', k < 98 ∧ y5 = nI k ∧ (∀ a, a ≠ 16 → u a = X a) ∧ gRp E' u ∧ nFm E0 E' n k ∧ X 17 k ≠ -1 ∧ ∀ v c, v < 98 → c < 98 → v ≠ 96 → X 17 v = nI c → X 17 v ≠ -1 → ρ v ≤ ρ k → E' c v = true) (fun _ y5 => ρ y5.toNatClampNeg) ?_ X 97 ⟨97, E, by decide, rfl, fun _ _ => rfl, hR, hF, hv, fun v c hv' hc n96 h17 hn1 _ => ?_⟩
  · intro N u y5 ⟨k, E', a1, a2, a3, a4, a5, a6, a7⟩ ih
    subst a2
    unfold fX6_flows_h168
    refine pk_eq k 96 (fun w => ?_) (fun w => ⟨pk_in k 98 a1, ?_⟩)
    · subst w
      have := hq E' u a3 a4 (by rw [Int.natCast_add]; exact nFm_done a5)
      exact nm_r (nI_1 n) this
    · rw [pk_cl k, a3 17 (by decide)]
      have hk := hB.1 k a1
      rcases hk with z | ⟨z1, z2, z3⟩
      · exact absurd z a6
      · rcases z3 with z3 | ⟨_, c, c1, c2, c3, c4, c5⟩
        · exact absurd z3.1 w
        · rw [c2]
          have eck := a7 k c a1 c1 w c2 a6 (Nat.le_refl _)
          have nck : c ≠ k := fun y => by rw [y] at c5; omega
          rw [show (98 : Int32) * nI c + nI k = nI (98 * c + k) by rw [show (98 : Int32) = nI 98 from rfl, pk_mul, nI_add]]
          refine ⟨pk_in (98 * c + k) 9604 (by omega), fun X1 x1 => ?_⟩
          rw [pk_cl (98 * c + k), e0] at x1
          have o1 : ∀ a, a ≠ 16 → X1 a = X a := by
            intro a ha
            rw [x1]
            simp only [va_up, if_neg ha]
            exact a3 a ha
          rw [o1 17 (by decide), c2, show (98 : Int32) * nI k + nI c = nI (98 * k + c) by rw [show (98 : Int32) = nI 98 from rfl, pk_mul, nI_add]]
          refine ⟨pk_in k 98 a1, pk_in (98 * k + c) 9604 (by omega), fun X2 x2 => ⟨pk_in k 98 a1, ?_⟩⟩
          rw [pk_cl (98 * k + c), e1] at x2
          have o2 : ∀ a, a ≠ 16 → X2 a = X a := by
            intro a ha
            rw [x2]
            simp only [va_up, if_neg ha]
            exact o1 a ha
          refine nm_r (e' := nI c) (by rw [o2 17 (by decide)]; exact c2) ?_
          have push := nPush_ok hA a5 c1 a1 nck eck
          refine ih X2 (nI c) ⟨c, nPush E' c k, c1, rfl, o2, fun a b ha hb => ?_, push, c3, fun v c' hv' hc' n96 h17 hn1 hle => ?_⟩ ?_
          · have : X2 16 = upd (upd (u 16) (98 * c + k) 0) (98 * k + c) 1 := by rw [x2, x1]; simp [va_up]
            rw [this]
            unfold nPush
            by_cases p1 : a = c ∧ b = k
            · rw [if_pos p1, p1.1, p1.2, pk_un (by omega), pk_us, bI_f]
            · rw [if_neg p1]
              by_cases p2 : a = k ∧ b = c
              · rw [if_pos p2, p2.1, p2.2, pk_us, bI_t]
              · rw [if_neg p2, pk_un (fun z => p2 (by constructor <;> omega)), pk_un (fun z => p1 (by constructor <;> omega))]
                exact a4 a b ha hb
          · have old := a7 v c' hv' hc' n96 h17 hn1 (by omega)
            unfold nPush
            rw [if_neg (fun z => by rw [z.2] at hle; omega)]
            by_cases p2 : c' = k ∧ v = c
            · rw [if_pos p2]
            · rw [if_neg p2]; exact old
          · rw [nI_clamp (by omega), nI_clamp (by omega)]; exact c5
  · rcases hB.1 v hv' with z | ⟨_, _, z⟩
    · exact absurd z hn1
    · rcases z with z | ⟨_, c', y1, y2, _, y4, _⟩
      · exact absurd z.1 n96
      · rw [y2] at h17
        have : c' = c := (nI_eq (by omega) (by omega)).mp h17
        rw [← this]; exact y4
theorem r6_flowsLoop {E0 : Nat → Nat → Bool} {I : Nat → Int32} {X : Nat → Nat → Int32} {Q : Int32 → (Nat → Int32) → (Nat → Nat → Int32) → Prop} (hA : nNA E0) (hS : ∀ v, v < 98 → E0 96 v = true → v < 48) (hR : gRp E0 X) (hq : ∀ X' n, (∀ k, k ≠ 16 → k ≠ 17 → k ≠ 18 → X' k = X k) → nMC E0 ((n : Nat) : Int) → n ≤ 48 → Q (nI n) I X') : ∃ N, fX6_flows_h157 Q N I X 0 := by
  refine lp2 (fun N (u : Nat → Nat → Int32) (y4 : Int32) => fX6_flows_h157 Q N I u y4) (fun u y4 => ∃ n E, y4 = nI n ∧ (∀ k, k ≠ 16 → k ≠ 17 → k ≠ 18 → u k = X k) ∧ gRp E u ∧ nFm E0 E ((n : Nat) : Int) 97) (fun _ y4 => 50 - y4.toNatClampNeg) ?_ X 0 ⟨0, E0, rfl, fun _ _ _ _ => rfl, hR, nFm_0 E0⟩
  intro N u y4 ⟨n, E, a1, a2, a3, a4⟩ ih
  subst a1
  have le := (nFl_48 hS a4).1
  have nl : n ≤ 48 := by omega
  unfold fX6_flows_h157
  refine r6_finds a3 (fun X' ρ m f1 f2 f3 => ⟨fun z => absurd z (by decide), fun _ => ?_⟩) (fun X' S f1 s1 s2 s3 => ⟨fun _ => hq X' n (fun k h1 h2 h3 => by rw [f1 k h2 h3, a2 k h1 h2 h3]) (nMC_of a4 s1 s2 s3) nl, fun z => absurd rfl z⟩)
  have hR' : gRp E X' := by
    intro a b ha hb
    rw [f1 16 (by decide) (by decide)]; exact a3 a b ha hb
  refine r6_augment (fun a0 a1 a2 => fX6_flows_h157 Q N a0 a1 a2) Q hA a4 hR' f2 f3 (fun E' X2 g1 g2 g3 => ih X2 (nI (n + 1)) ⟨n + 1, E', rfl, fun k h1 h2 h3 => by rw [g1 k h1, f1 k h2 h3, a2 k h1 h2 h3], g2, g3⟩ ?_)
  rw [nI_clamp (by omega), nI_clamp (by omega)]
  omega

/-! the reference lays its network and finds the greatest flow -/
def wD (E0 : Nat → Nat → Bool) (D : Nat → Nat → Prop) (X : Nat → Nat → Int32) : Prop := ∀ u v, u < 98 → v < 98 → X 16 (98 * u + v) = bI (E0 u v) ∨ (X 16 (98 * u + v) = 0 ∧ ¬ D u v)
theorem wD_im {E0 : Nat → Nat → Bool} {D D' : Nat → Nat → Prop} {X : Nat → Nat → Int32} (h : wD E0 D X) (i : ∀ u v, u < 98 → v < 98 → D' u v → ¬ D u v → E0 u v = false) : wD E0 D' X := by
  intro u v hu hv
  rcases h u v hu hv with a | ⟨a, b⟩
  · exact Or.inl a
  · by_cases c : D' u v
    · left
      rw [i u v hu hv c b, a]; rfl
    · exact Or.inr ⟨a, c⟩
theorem wD_put {E0 : Nat → Nat → Bool} {D : Nat → Nat → Prop} {X X' : Nat → Nat → Int32} {a b : Nat} {x : Int32} (h : wD E0 D X) (e : X' 16 = upd (X 16) (98 * a + b) x) (hb : b < 98) (hx : x = bI (E0 a b)) : wD E0 (fun u v => D u v ∨ (u = a ∧ v = b)) X' := by
  intro u v hu hv
  rw [e]
  by_cases q : u = a ∧ v = b
  · left
    rw [q.1, q.2, pk_us]; exact hx
  · rw [pk_un (fun z => q (by constructor <;> omega))]
    rcases h u v hu hv with y | ⟨y, z⟩
    · exact Or.inl y
    · refine Or.inr ⟨y, fun w => ?_⟩
      rcases w with w | w
      · exact z w
      · exact q w
theorem nar_bI (b : Bool) : vp_nar .boolean (bI b) = bI b := by cases b <;> decide
def gix (u v : Nat) : Nat := if u < 48 then u else if u = 96 then v else u - 48
theorem gE0_io {G : Geo} {p q t r : Nat} (hr : r < G 0 1) : gE0 G p q t r (r + 48) = true := gE0_iff.mpr (Or.inl ⟨hr, rfl⟩)
theorem gE0_s {G : Geo} {p q t r : Nat} (hG : gok G) (hr : r < G 0 1) : gE0 G p q t 96 r = gLk G (48 + p) r t := by
  have n48 := gok_nr hG
  cases c : gLk G (48 + p) r t
  · cases d : gE0 G p q t 96 r
    · rfl
    · rcases gE0_iff.mp d with h | h | h | h
      · omega
      · rw [c] at h; exact h.2.2.symm
      · omega
      · omega
  · exact gE0_iff.mpr (Or.inr (Or.inl ⟨rfl, hr, c⟩))
theorem gE0_t {G : Geo} {p q t r : Nat} (hG : gok G) (hr : r < G 0 1) : gE0 G p q t (48 + r) 97 = gLk G (48 + q) r t := by
  have n48 := gok_nr hG
  cases c : gLk G (48 + q) r t
  · cases d : gE0 G p q t (48 + r) 97
    · rfl
    · rcases gE0_iff.mp d with h | h | h | h
      · omega
      · omega
      · rw [show 48 + r - 48 = r by omega, c] at h; exact h.2.2.2.symm
      · omega
  · exact gE0_iff.mpr (Or.inr (Or.inr (Or.inl ⟨by omega, by omega, rfl, by rw [show 48 + r - 48 = r by omega]; exact c⟩)))
theorem gE0_l {G : Geo} {p q t r k : Nat} (hG : gok G) (hr : r < G 0 1) (hk : k < G 0 1) : gE0 G p q t (48 + r) k = gLk G r k t := by
  have n48 := gok_nr hG
  cases c : gLk G r k t
  · cases d : gE0 G p q t (48 + r) k
    · rfl
    · rcases gE0_iff.mp d with h | h | h | h
      · omega
      · omega
      · omega
      · rw [show 48 + r - 48 = r by omega, c] at h; exact h.2.2.2.symm
  · exact gE0_iff.mpr (Or.inr (Or.inr (Or.inr ⟨by omega, by omega, hk, by rw [show 48 + r - 48 = r by omega]; exact c⟩)))
theorem r6_flows {G : Geo} {I : Nat → Int32} {X : Nat → Nat → Int32} {p q t : Nat} {Q : Int32 → (Nat → Int32) → (Nat → Nat → Int32) → Prop} (hG : gok G) (hM : rM G I X) (hp : p < G 0 2) (hq' : q < G 0 2) (ht : t < 2 ^ 31) (hq : ∀ X' n, (∀ k, k ≠ 16 → k ≠ 17 → k ≠ 18 → X' k = X k) → nMC (gE0 G p q t) ((n : Nat) : Int) → n ≤ 48 → Q (nI n) I X') : fX6_flows Q I X (nI p) (nI q) (nI t) := by
  have n48 := gok_nr hG
  have e0 : vp_nar .boolean (0 : Int32) = 0 := by decide
  have e1 : vp_nar .boolean (1 : Int32) = 1 := by decide
  unfold fX6_flows
  refine pk_loop (σ := Nat → Nat → Int32) (fun n i s => fX6_flows_h3 Q n I s (nI p) (nI q) (nI t) (nI i)) (fun i s => (∀ k, k ≠ 16 → s k = X k) ∧ ∀ a, a < i → s 16 a = 0) 9604 0 X (by decide) ⟨fun _ _ => rfl, fun a ha => by omega⟩ ?_ ?_
  · intro n s ⟨a1, a2⟩
    unfold fX6_flows_h3
    refine ⟨fun _ => ?_, fun z => absurd (by decide) z⟩
    refine pk_loop (σ := Nat → Nat → Int32) (fun m r u => fX6_flows_h28 Q m I u (nI p) (nI q) (nI t) (nI r)) (fun r u => (∀ k, k ≠ 16 → u k = X k) ∧ wD (gE0 G p q t) (fun a b => gix a b < r) u) (G 0 1) 0 s (Nat.zero_le _) ⟨a1, fun u v hu hv => Or.inr ⟨a2 _ (by omega), by omega⟩⟩ ?_ ?_
    · intro m u ⟨b1, b2⟩
      have m9 : I 9 = nI (G 0 1) := hM.2.1
      unfold fX6_flows_h28
      rw [m9]
      refine ⟨fun _ => ?_, fun z => absurd (nI_le (Nat.le_refl _) (by omega)) z⟩
      refine r6_flowsLoop (gE0_NA hG) (gE0_S hG) (fun a b ha hb => ?_) (fun X' n f1 f2 f3 => hq X' n (fun k h1 h2 h3 => by rw [f1 k h1 h2 h3, b1 k h1]) f2 f3)
      rcases b2 a b ha hb with y | ⟨y, z⟩
      · exact y
      · cases c : gE0 G p q t a b
        · rw [y]; rfl
        · exfalso
          apply z
          unfold gix
          rcases gE0_iff.mp c with h | h | h | h
          · rw [if_pos (by omega)]; exact h.1
          · rw [if_neg (by omega), if_pos h.1]; exact h.2.1
          · rw [if_neg (by omega), if_neg (by omega)]; omega
          · rw [if_neg (by omega), if_neg (by omega)]; omega
    · intro m r u hr ⟨b1, b2⟩ ih
      have m9 : I 9 = nI (G 0 1) := hM.2.1
      unfold fX6_flows_h28
      rw [m9]
      refine ⟨fun z => absurd z (nI_ge hr (by omega)), fun _ => ?_⟩
      rw [show ((98 : Int32) * nI r) + nI r + (48 : Int32) = nI (98 * r + (r + 48)) by rw [show (98 : Int32) = nI 98 from rfl, show (48 : Int32) = nI 48 from rfl, pk_mul, nI_add, nI_add]; congr 1, show (9408 : Int32) + nI r = nI (98 * 96 + r) from nI_add 9408 r, show ((98 : Int32) * (nI r + (48 : Int32))) + (97 : Int32) = nI (98 * (48 + r) + 97) by rw [show (98 : Int32) = nI 98 from rfl, show (48 : Int32) = nI 48 from rfl, show (97 : Int32) = nI 97 from rfl, nI_add, pk_mul, nI_add]; congr 1; omega]
      refine ⟨pk_in (98 * r + (r + 48)) 9604 (by omega), fun X1 x1 => ?_⟩
      rw [pk_cl (98 * r + (r + 48)), e1] at x1
      have o1 : ∀ k, k ≠ 16 → X1 k = X k := by
        intro k hk; rw [x1]; simp only [va_up, if_neg hk]; exact b1 k hk
      have w1 := wD_put (X' := X1) (a := r) (b := r + 48) (x := 1) b2 (by rw [x1]; simp [va_up]) (by omega) (by rw [gE0_io hr]; rfl)
      have hM1 : rM G I X1 := rM_congr hM rfl rfl rfl (fun k hk => o1 k (by omega))
      refine r6_seesOf hG hM1 hp hr ht ?_
      refine ⟨pk_in (98 * 96 + r) 9604 (by omega), fun X2 x2 => ?_⟩
      have y2 : nI (if gLk G (48 + p) r t = true then 1 else 0) = bI (gE0 G p q t 96 r) := by rw [gE0_s hG hr]; rfl
      rw [pk_cl (98 * 96 + r), y2, nar_bI] at x2
      have o2 : ∀ k, k ≠ 16 → X2 k = X k := by
        intro k hk; rw [x2]; simp only [va_up, if_neg hk]; exact o1 k hk
      have w2 := wD_put (X' := X2) (a := 96) (b := r) (x := bI (gE0 G p q t 96 r)) w1 (by rw [x2]; simp [va_up]) (by omega) rfl
      have hM2 : rM G I X2 := rM_congr hM rfl rfl rfl (fun k hk => o2 k (by omega))
      refine r6_seesOf hG hM2 hq' hr ht ?_
      refine ⟨pk_in (98 * (48 + r) + 97) 9604 (by omega), fun X3 x3 => ?_⟩
      have y3 : nI (if gLk G (48 + q) r t = true then 1 else 0) = bI (gE0 G p q t (48 + r) 97) := by rw [gE0_t hG hr]; rfl
      rw [pk_cl (98 * (48 + r) + 97), y3, nar_bI] at x3
      have o3 : ∀ k, k ≠ 16 → X3 k = X k := by
        intro k hk; rw [x3]; simp only [va_up, if_neg hk]; exact o2 k hk
      have w3 := wD_put (X' := X3) (a := 48 + r) (b := 97) (x := bI (gE0 G p q t (48 + r) 97)) w2 (by rw [x3]; simp [va_up]) (by omega) rfl
      refine pk_loop (σ := Nat → Nat → Int32) (fun m' k s => fX6_flows_h100 (fun a0 a1 a2 a3 a4 a5 => fX6_flows_h28 Q m a0 a1 a2 a3 a4 a5) Q m' I s (nI p) (nI q) (nI t) (nI r) (nI k)) (fun k s => (∀ k, k ≠ 16 → s k = X k) ∧ wD (gE0 G p q t) (fun a b => gix a b < r ∨ (a = r ∧ b = r + 48) ∨ (a = 96 ∧ b = r) ∨ (a = 48 + r ∧ b = 97) ∨ (a = 48 + r ∧ b < k)) s) (G 0 1) 0 X3 (Nat.zero_le _) ⟨o3, wD_im w3 (fun a b _ _ h h' => ?_)⟩ ?_ ?_
      · exfalso
        apply h'
        rcases h with h | h | h | h | h
        · exact Or.inl (Or.inl (Or.inl h))
        · exact Or.inl (Or.inl (Or.inr h))
        · exact Or.inl (Or.inr h)
        · exact Or.inr h
        · omega
      · intro m' s ⟨c1, c2⟩
        unfold fX6_flows_h100
        rw [m9]
        refine ⟨fun _ => nm_r (nI_1 r) (ih s ⟨c1, wD_im c2 (fun a b ha hb h h' => ?_)⟩), fun z => absurd (nI_le (Nat.le_refl _) (by omega)) z⟩
        cases c : gE0 G p q t a b
        · rfl
        · exfalso
          apply h'
          unfold gix at h ⊢
          rcases gE0_iff.mp c with g | g | g | g
          · rw [if_pos (by omega)] at h ⊢; omega
          · rw [if_neg (by omega), if_pos g.1] at h ⊢; omega
          · rw [if_neg (by omega), if_neg (by omega)] at h ⊢; omega
          · rw [if_neg (by omega), if_neg (by omega)] at h ⊢; omega
      · intro m' k s hk ⟨c1, c2⟩ ihm
        have hMs : rM G I s := rM_congr hM rfl rfl rfl (fun k hk => c1 k (by omega))
        unfold fX6_flows_h100 fX6_flows_b141
        rw [m9]
        refine ⟨fun z => absurd z (nI_ge hk (by omega)), fun _ => ?_⟩
        rw [show ((98 : Int32) * (nI r + (48 : Int32))) + nI k = nI (98 * (48 + r) + k) by rw [show (98 : Int32) = nI 98 from rfl, show (48 : Int32) = nI 48 from rfl, nI_add, pk_mul, nI_add]; congr 1; omega]
        refine r6_linkOf hG hMs hr hk ht ?_
        have put : ∀ b : Bool, b = gE0 G p q t (48 + r) k → vp_in (nI (98 * (48 + r) + k)) 9604 ∧ ∀ X_19 : Nat → Nat → Int32, X_19 = va_up s 16 (upd (s 16) (nI (98 * (48 + r) + k)).toNatClampNeg (vp_nar .boolean (bI b))) → ∀ x5_20 : Int32, x5_20 = nI k + (1 : Int32) → fX6_flows_h100 (fun a0 a1 a2 a3 a4 a5 => fX6_flows_h28 Q m a0 a1 a2 a3 a4 a5) Q m' I X_19 (nI p) (nI q) (nI t) (nI r) x5_20 := by
          intro b hb
          refine ⟨pk_in (98 * (48 + r) + k) 9604 (by omega), fun X4 x4 => nm_r (nI_1 k) (ihm X4 ⟨fun a ha => ?_, ?_⟩)⟩
          · rw [x4]; simp only [va_up, if_neg ha]; exact c1 a ha
          · rw [pk_cl (98 * (48 + r) + k), nar_bI] at x4
            have w4 := wD_put (X' := X4) (a := 48 + r) (b := k) (x := bI b) c2 (by rw [x4]; simp [va_up]) (by omega) (by rw [hb])
            refine wD_im w4 (fun a b _ _ h h' => ?_)
            exfalso
            apply h'
            rcases h with h | h | h | h | h
            · exact Or.inl (Or.inl h)
            · exact Or.inl (Or.inr (Or.inl h))
            · exact Or.inl (Or.inr (Or.inr (Or.inl h)))
            · exact Or.inl (Or.inr (Or.inr (Or.inr (Or.inl h))))
            · by_cases e : b = k
              · exact Or.inr ⟨h.1, e⟩
              · exact Or.inl (Or.inr (Or.inr (Or.inr (Or.inr ⟨h.1, by omega⟩))))
        cases c : gLk G r k t
        · rw [if_neg (by decide)]
          exact ⟨fun _ => put false (by rw [gE0_l hG hr hk, c]), fun z => absurd (by decide) z⟩
        · rw [if_pos rfl]
          have := gln_12 G r k
          exact ⟨fun z => absurd z (nI_nle (by omega) (by omega)), fun _ => put true (by rw [gE0_l hG hr hk, c])⟩
  · intro n i s hi ⟨a1, a2⟩ ih
    unfold fX6_flows_h3
    refine ⟨fun z => absurd z (nI_ge (b := 9604) hi (by decide)), fun _ => ⟨pk_in i 9604 hi, ?_⟩⟩
    rw [pk_cl i, e0]
    refine nm_e (nm_r (nI_1 i) (ih _ ⟨fun k hk => ?_, fun a ha => ?_⟩))
    · simp only [va_up, if_neg hk]; exact a1 k hk
    · simp only [va_up, if_true]
      by_cases e : a = i
      · rw [e, pk_us]
      · rw [pk_un e]; exact a2 a (by omega)

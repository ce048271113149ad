/-! the class's cut: search, one way more, how few -/
def cP (G : Geo) (q t : Nat) (CU : Int64) (F : Nat → Int64) (CX : Nat → Nat → Int32) (d : Nat) : Prop := (d % 2 = 0 → (lb CU (d / 2) = false → CX 4 (2 * (d / 2) + 1) ≠ -1) ∧ (lb CU (d / 2) = true → ∀ o, o < G 0 1 → lb (F o) (d / 2) = true → CX 4 (2 * o + 1) ≠ -1)) ∧ (d % 2 = 1 → gLk G (48 + q) (d / 2) t = false ∧ (lb CU (d / 2) = true → CX 4 (2 * (d / 2)) ≠ -1) ∧ ∀ o, o < G 0 1 → gLk G (d / 2) o t = true → CX 4 (2 * o) ≠ -1)
theorem cP_le {G : Geo} {q t m m' : Nat} {CU : Int64} {F : Nat → Int64} {CX CX' : Nat → Nat → Int32} {d : Nat} (h : cP G q t CU F CX d) (l : cLe m CX m' CX') : cP G q t CU F CX' d :=
  ⟨fun e => ⟨fun z => cLe_v l ((h.1 e).1 z), fun z o ho hb => cLe_v l ((h.1 e).2 z o ho hb)⟩, fun e => ⟨(h.2 e).1, fun z => cLe_v l ((h.2 e).2.1 z), fun o ho hb => cLe_v l ((h.2 e).2.2 o ho hb)⟩⟩
/-- nothing more is found: nothing leads out of what was found -/
theorem cF_closed {G : Geo} {p q t : Nat} {E : Nat → Nat → Bool} {n : Int} {ρ : Nat → Nat} {m : Nat} {CU : Int64} {F : Nat → Int64} {CX : Nat → Nat → Int32} (hG : gok G) (hF : nFm (gE0 G p q t) E n 97) (hR : cR G t E CU F) (h : cF G p t E ρ m CX) (hst : ∀ r, r < G 0 1 → gLk G (48 + p) r t = true → CX 4 (2 * r) ≠ -1) (hP : ∀ k d, k < m → d < 96 → CX 5 k = nI d → cP G q t CU F CX d) : nMC (gE0 G p q t) n := by
  have n48 := gok_nr hG
  have vis : ∀ d, d < 96 → CX 4 d ≠ -1 → d / 2 < G 0 1 ∧ cP G q t CU F CX d := by
    intro d hd hv
    rcases h.1 d hd with z | ⟨z1, z2, z3, _⟩
    · exact absurd z hv
    · exact ⟨z1, hP _ d z2 hd z3⟩
  have sS : ∃ S : Nat → Bool, ∀ u, S u = true ↔ (u = 96 ∨ (u < 48 ∧ CX 4 (2 * u) ≠ -1) ∨ (48 ≤ u ∧ u < 96 ∧ CX 4 (2 * (u - 48) + 1) ≠ -1)) := ⟨fun u => decide (u = 96 ∨ (u < 48 ∧ CX 4 (2 * u) ≠ -1) ∨ (48 ≤ u ∧ u < 96 ∧ CX 4 (2 * (u - 48) + 1) ≠ -1)), fun u => decide_eq_true_iff⟩
  obtain ⟨S, hSu⟩ := sS
  have s97 : S 97 = false := by
    cases c : S 97
    · rfl
    · rcases (hSu 97).mp c with z | z | z <;> omega
  refine nMC_of hF ((hSu 96).mpr (Or.inl rfl)) s97 (fun u v hu hv su e => (hSu v).mpr ?_)
  have or := nE_or hF.1 hu hv e
  rcases (hSu u).mp su with z | ⟨z1, z2⟩ | ⟨z1, z2, z3⟩
  · subst z
    rcases or with y | y
    · rcases gE0_iff.mp y with w | w | w | w
      · omega
      · exact Or.inr (Or.inl ⟨by omega, hst v w.2.1 w.2.2⟩)
      · omega
      · omega
    · rcases gE0_iff.mp y with w | w | w | w <;> omega
  · obtain ⟨r1, r2⟩ := vis (2 * u) (by omega) z2
    rw [show 2 * u / 2 = u by omega] at r1
    obtain ⟨k1, k2, k3, k4⟩ := hR u r1
    have r2 := r2.1 (by omega)
    rw [show 2 * u / 2 = u by omega] at r2
    rcases or with y | y
    · have ev := gE0_in hG r1 y
      subst ev
      rw [k2] at e
      have cu : lb CU u = false := by
        cases c : lb CU u
        · rfl
        · rw [c] at e; exact Bool.noConfusion e
      refine Or.inr (Or.inr ⟨by omega, by omega, ?_⟩)
      rw [show 48 + u - 48 = u by omega]
      exact r2.1 cu
    · rcases gE0_iff.mp y with w | w | w | w
      · omega
      · exact Or.inl w.1
      · omega
      · have ne : v - 48 ≠ u := by
          intro g
          have := w.2.2.2
          rw [g, gLk_self (by omega)] at this
          exact Bool.noConfusion this
        have f1 := (nIn hG r1 hF).1 v hv (by omega) e
        rw [k2] at f1
        have cu : lb CU u = true := by
          cases c : lb CU u
          · rw [c] at f1; exact Bool.noConfusion f1
          · rfl
        have fb := ((hR (v - 48) (by omega)).2.2.2 u r1 ne).1
        rw [show 48 + (v - 48) = v by omega, e] at fb
        exact Or.inr (Or.inr ⟨by omega, by omega, r2.2 cu (v - 48) (by omega) fb.symm⟩)
  · obtain ⟨r1, r2⟩ := vis (2 * (u - 48) + 1) (by omega) z3
    rw [show (2 * (u - 48) + 1) / 2 = u - 48 by omega] at r1
    obtain ⟨k1, k2, k3, k4⟩ := hR (u - 48) r1
    have r2 := r2.2 (by omega)
    rw [show (2 * (u - 48) + 1) / 2 = u - 48 by omega] at r2
    rcases or with y | y
    · rcases gE0_iff.mp y with w | w | w | w
      · omega
      · omega
      · have := w.2.2.2
        rw [r2.1] at this
        exact Bool.noConfusion this
      · exact Or.inr (Or.inl ⟨by omega, r2.2.2 v w.2.2.1 w.2.2.2⟩)
    · have y2 : gE0 G p q t v (48 + (u - 48)) = true := by rw [show 48 + (u - 48) = u by omega]; exact y
      have ev := gE0_out hG r1 y2
      rw [ev, show u = 48 + (u - 48) by omega, show 48 + (u - 48) - 48 = u - 48 by omega, k1] at e
      refine Or.inr (Or.inl ⟨by omega, ?_⟩)
      rw [ev]
      exact r2.2.1 e
theorem r0_search {G : Geo} {SI : Nat → Int32} {SX : Nat → Nat → Int32} {p q t : Nat} {E : Nat → Nat → Bool} {n : Int} {CU : Int64} {CQ : Int32} {CJ : Nat → Nat → Int64} {CX : Nat → Nat → Int32} {x1 x3 : Int64} {Q : Int32 → Int64 → Int32 → (Nat → Nat → Int64) → (Nat → Nat → Int32) → Prop} (hG : gok G) (hS : rS0 G SI SX) (hF : nFm (gE0 G p q t) E n 97) (hR : cR G t E CU (CJ 2)) (hN : ∀ a b, a < G 0 1 → b < G 0 1 → lb (CJ 1 a) b = gLk G a b t) (h1 : ∀ b, b < G 0 1 → lb x1 b = gLk G (48 + p) b t) (h3 : ∀ b, b < G 0 1 → lb x3 b = gLk G (48 + q) b t) (hy : ∀ ρ m CX' r, cF G p t E ρ m CX' → r < G 0 1 → CX' 4 (2 * r + 1) ≠ -1 → gLk G (48 + q) r t = true → Q (nI (2 * r + 1)) CU (nI m) CJ CX') (hn : ∀ m CX', nMC (gE0 G p q t) n → Q (-1) CU (nI m) CJ CX') : fX0_search SI SX Q CU CQ CJ CX x1 x3 := by
  have n48 := gok_nr hG
  have s1 : SI 1 = nI (G 0 1) := hS.2.1
  unfold fX0_search
  refine fun X1 e1 => nm_r (e' := nI 0) rfl ?_
  have st : cF G p t E (fun _ => 0) 0 X1 := by
    have f4 : ∀ d, d < 96 → X1 4 d = -1 := by
      intro d hd
      rw [e1]
      simp only [va_up, if_true, gfill, if_pos hd]
    refine ⟨fun d hd => Or.inl (f4 d hd), fun k hk => by omega, ?_⟩
    have : cn 96 (fun d => decide (X1 4 d ≠ -1)) = cn 96 (fun _ => false) := cn_congr (fun i hi => by rw [f4 i hi]; simp)
    rw [this]
    decide +kernel
  refine pk_loop (σ := (Nat → Nat → Int32) × Nat × (Nat → Nat)) (fun n r s => fX0_search_h16 SI SX Q n CU (nI s.2.1) CJ s.1 x1 x3 (nI r)) (fun r s => cF G p t E s.2.2 s.2.1 s.1 ∧ ∀ a, a < r → gLk G (48 + p) a t = true → s.1 4 (2 * a) ≠ -1) (G 0 1) 0 (X1, 0, fun _ => 0) (Nat.zero_le _) ⟨st, fun a ha => by omega⟩ ?_ ?_
  · intro n' s ⟨a1, a2⟩
    unfold fX0_search_h16
    rw [s1]
    refine ⟨fun _ => ?_, fun z => absurd (nI_le (Nat.le_refl _) (by omega)) z⟩
    refine lp3 (fun N (u : Nat → Nat → Int32) (cq y5 : Int32) => fX0_search_h60 SI SX Q N CU cq CJ u x3 y5) (fun u cq y5 => ∃ ρ m i, i ≤ m ∧ cq = nI m ∧ y5 = nI i ∧ cF G p t E ρ m u ∧ (∀ a, a < G 0 1 → gLk G (48 + p) a t = true → u 4 (2 * a) ≠ -1) ∧ ∀ k d, k < i → d < 96 → u 5 k = nI d → cP G q t CU (CJ 2) u d) (fun _ _ y5 => 97 - y5.toNatClampNeg) ?_ s.1 (nI s.2.1) 0 ⟨s.2.2, s.2.1, 0, Nat.zero_le _, rfl, rfl, a1, a2, fun k d hk => by omega⟩
    intro N u cq y5 ⟨ρ, m, i, b1, b2, b3, b4, b5, b6⟩ ih
    subst b2 b3
    have m96 := cF_96 b4
    unfold fX0_search_h60 fX0_search_b111 fX0_search_b134
    refine pk_le m i (fun w => hn m u ?_) (fun w => ?_)
    · refine cF_closed hG hF hR b4 b5 (fun k d hk hd e => b6 k d (by omega) hd e)
    · refine ⟨fun z => absurd z (nI_ge (b := 96) (by omega) (by decide)), fun _ => ⟨pk_in i 96 (by omega), ?_⟩⟩
      rw [pk_cl i]
      obtain ⟨d, d1, d2, d3⟩ := b4.2.1 i w
      refine nm_r d2 ?_
      have dr : d / 2 < G 0 1 := by
        rcases b4.1 d d1 with z | z
        · exact absurd z d3
        · exact z.1
      -- behind the door
      have next : ∀ ρ' m' u', cF G p t E ρ' m' u' → cLe m u m' u' → cP G q t CU (CJ 2) u' d → ∀ x5_31 : Int32, x5_31 = nI i + (1 : Int32) → fX0_search_h60 SI SX Q N CU (nI m') CJ u' x3 x5_31 := by
        intro ρ' m' u' f1 f2 f3
        refine nm_r (nI_1 i) (ih u' (nI m') (nI (i + 1)) ⟨ρ', m', i + 1, by have := f2.1; omega, rfl, rfl, f1, fun a ha hb => cLe_v f2 (b5 a ha hb), fun k d' hk hd' e => ?_⟩ ?_)
        · by_cases ek : k = i
          · rw [ek, f2.2.2 i w, d2] at e
            have : d = d' := (nI_eq (by omega) (by omega)).mp e
            rw [← this]; exact f3
          · rw [f2.2.2 k (by omega)] at e
            exact cP_le (b6 k d' (by omega) hd' e) f2
        · rw [nI_clamp (by omega), nI_clamp (by omega)]; omega
      have par : d % 2 = 0 ∨ d % 2 = 1 := by omega
      refine r0_isOut (by omega) ?_
      rcases par with pe | po
      · rw [pe]
        refine ⟨fun _ => ?_, fun z => absurd rfl z⟩
        refine r0_isOut (by omega) ?_
        rw [pe]
        refine ⟨fun _ => ?_, fun z => absurd rfl z⟩
        have ed : d = 2 * (d / 2) := by omega
        rw [ed]
        refine r0_goOnFromIn hG hS hR b4 dr (by rw [← ed]; exact d3) (fun ρ' m' u' c1 c2 c3 c4 => ?_)
        exact next ρ' m' u' c1 c2 ⟨fun _ => ⟨c3, c4⟩, fun z => by omega⟩
      · rw [po]
        refine ⟨fun z => absurd z (by decide), fun _ => ?_⟩
        have ed : d = 2 * (d / 2) + 1 := by omega
        refine r0_relayOf (by omega) ?_
        unfold fX5_bit
        have bb : lg_cmp (x3 &&& lB (d / 2)) (0 : Int64) = 0 ↔ gLk G (48 + q) (d / 2) t = false := by rw [lb_cmp (by omega), h3 _ dr]
        refine ⟨fun z => ?_, fun z => ?_⟩
        · refine r0_isOut (by omega) ?_
          rw [po]
          refine ⟨fun z => absurd z (by decide), fun _ => ?_⟩
          rw [ed]
          refine r0_goOnFromOut hG hS hF hR hN b4 dr (by rw [← ed]; exact d3) (fun ρ' m' u' c1 c2 c3 c4 => ?_)
          exact next ρ' m' u' c1 c2 ⟨fun z => by omega, fun _ => ⟨bb.mp z, c3, c4⟩⟩
        · have e : gLk G (48 + q) (d / 2) t = true := by
            cases c : gLk G (48 + q) (d / 2) t
            · exact absurd (bb.mpr c) z
            · rfl
          rw [ed]
          exact hy ρ m u (d / 2) b4 dr (by rw [← ed]; exact d3) e
  · intro n' r s hr ⟨a1, a2⟩ ih
    unfold fX0_search_h16 fX5_bit fX0_doorIn fX0_search_b51
    rw [s1]
    refine ⟨fun z => absurd z (nI_ge hr (by omega)), fun _ => ?_⟩
    have bb : lg_cmp (x1 &&& lB r) (0 : Int64) = 0 ↔ gLk G (48 + p) r t = false := by rw [lb_cmp (by omega), h1 r hr]
    refine ⟨fun z => nm_r (nI_1 r) (ih s ⟨a1, fun a ha hb => ?_⟩), fun z => ?_⟩
    · by_cases e : a = r
      · rw [e, bb.mp z] at hb; exact Bool.noConfusion hb
      · exact a2 a (by omega) hb
    · have e : gLk G (48 + p) r t = true := by
        cases c : gLk G (48 + p) r t
        · exact absurd (bb.mpr c) z
        · rfl
      rw [r0_din]
      refine r0_enter a1 (by omega) (by omega) (fun _ => Or.inl ⟨rfl, by omega, by rw [show 2 * r / 2 = r by omega]; exact e⟩) (fun ρ' m' CX' c1 c2 c3 => nm_r (nI_1 r) (ih (CX', m', ρ') ⟨c1, fun a ha hb => ?_⟩))
      by_cases ea : a = r
      · rw [ea]; exact c3
      · exact cLe_v c2 (a2 a (by omega) hb)
/-- pushes, as the class holds them -/
theorem cR_far {G : Geo} {t : Nat} {E : Nat → Nat → Bool} {CU : Int64} {F : Nat → Int64} {c k : Nat} (hG : gok G) (h : cR G t E CU F) (hck : 96 ≤ c ∨ 96 ≤ k) : cR G t (nPush E c k) CU F := by
  have n48 := gok_nr hG
  intro a ha
  obtain ⟨k1, k2, k3, k4⟩ := h a ha
  have o : ∀ x y, x < 96 → y < 96 → nPush E c k x y = E x y := by
    intro x y hx hy
    unfold nPush
    rw [if_neg (by omega), if_neg (by omega)]
  refine ⟨by rw [o _ _ (by omega) (by omega)]; exact k1, by rw [o _ _ (by omega) (by omega)]; exact k2, k3, fun b hb hab => ?_⟩
  rw [o _ _ (by omega) (by omega), o _ _ (by omega) (by omega)]
  exact k4 b hb hab
theorem cR_own {G : Geo} {t r : Nat} {E : Nat → Nat → Bool} {CU : Int64} {F : Nat → Int64} {c k : Nat} (hG : gok G) (h : cR G t E CU F) (hr : r < G 0 1) (hck : (c = r ∧ k = 48 + r) ∨ (c = 48 + r ∧ k = r)) (he : E c k = true) : cR G t (nPush E c k) (CU ^^^ lB r) F := by
  have n48 := gok_nr hG
  intro a ha
  obtain ⟨k1, k2, k3, k4⟩ := h a ha
  refine ⟨?_, ?_, k3, fun b hb hab => ?_⟩
  · rw [lb_xor, lb_B (by omega)]
    unfold nPush
    by_cases e : a = r
    · subst e
      rw [decide_eq_true rfl]
      rcases hck with ⟨rfl, rfl⟩ | ⟨rfl, rfl⟩
      · rw [if_neg (by omega), if_pos ⟨rfl, rfl⟩]
        rw [k2] at he
        cases c : lb CU c
        · rfl
        · rw [c] at he; exact Bool.noConfusion he
      · rw [if_pos ⟨rfl, rfl⟩]
        rw [k1] at he
        rw [he]; rfl
    · rw [if_neg (by omega), if_neg (by omega), decide_eq_false e, Bool.xor_false]; exact k1
  · rw [lb_xor, lb_B (by omega)]
    unfold nPush
    by_cases e : a = r
    · subst e
      rw [decide_eq_true rfl]
      rcases hck with ⟨rfl, rfl⟩ | ⟨rfl, rfl⟩
      · rw [if_pos ⟨rfl, rfl⟩]
        rw [k2] at he
        cases c : lb CU c
        · rfl
        · rw [c] at he; exact Bool.noConfusion he
      · rw [if_neg (by omega), if_pos ⟨rfl, rfl⟩]
        rw [k1] at he
        rw [he]; rfl
    · rw [if_neg (by omega), if_neg (by omega), decide_eq_false e, Bool.xor_false]; exact k2
  · have o1 : nPush E c k b (48 + a) = E b (48 + a) := by unfold nPush; rw [if_neg (by omega), if_neg (by omega)]
    have o2 : nPush E c k (48 + a) b = E (48 + a) b := by unfold nPush; rw [if_neg (by omega), if_neg (by omega)]
    rw [o1, o2]; exact k4 b hb hab
theorem cR_add {G : Geo} {t o r : Nat} {E : Nat → Nat → Bool} {CU : Int64} {F : Nat → Int64} (hG : gok G) (h : cR G t E CU F) (ho : o < G 0 1) (hr : r < G 0 1) (hne : o ≠ r) : cR G t (nPush E (48 + o) r) CU (vp_updL F o (F o ||| lB r)) := by
  have n48 := gok_nr hG
  intro a ha
  obtain ⟨k1, k2, k3, k4⟩ := h a ha
  refine ⟨?_, ?_, ?_, fun b hb hab => ?_⟩
  · unfold nPush; rw [if_neg (by omega), if_neg (by omega)]; exact k1
  · unfold nPush; rw [if_neg (by omega), if_neg (by omega)]; exact k2
  · by_cases e : a = o
    · subst e; rw [pk_uLs, lb_or, lb_B (by omega), k3, decide_eq_false hne]; rfl
    · rw [pk_uLn e]; exact k3
  · obtain ⟨j1, j2⟩ := k4 b hb hab
    by_cases e : a = o ∧ b = r
    · obtain ⟨rfl, rfl⟩ := e
      have lbt : lb (vp_updL F a (F a ||| lB b) a) b = true := by rw [pk_uLs, lb_or, lb_B (by omega), decide_eq_true rfl, Bool.or_true]
      rw [lbt]
      unfold nPush
      refine ⟨?_, ?_⟩
      · rw [if_neg (by omega), if_pos ⟨rfl, rfl⟩]
      · rw [if_pos ⟨rfl, rfl⟩]
        simp
    · have f : lb (vp_updL F o (F o ||| lB r) a) b = lb (F a) b := by
        by_cases e2 : a = o
        · subst e2
          rw [pk_uLs, lb_or, lb_B (by omega), decide_eq_false (fun z => e ⟨rfl, z⟩), Bool.or_false]
        · rw [pk_uLn e2]
      rw [f]
      have o1 : nPush E (48 + o) r b (48 + a) = E b (48 + a) := by unfold nPush; rw [if_neg (by omega), if_neg (by omega)]
      have o2 : nPush E (48 + o) r (48 + a) b = E (48 + a) b := by unfold nPush; rw [if_neg (by omega), if_neg (by omega)]
      rw [o1, o2]; exact ⟨j1, j2⟩
theorem cR_cut {G : Geo} {t o r : Nat} {E : Nat → Nat → Bool} {CU : Int64} {F : Nat → Int64} (hG : gok G) (h : cR G t E CU F) (ho : o < G 0 1) (hr : r < G 0 1) (hne : o ≠ r) (hl : gLk G r o t = true) : cR G t (nPush E o (48 + r)) CU (vp_updL F r (F r &&& (lB o ^^^ (-1)))) := by
  have n48 := gok_nr hG
  intro a ha
  obtain ⟨k1, k2, k3, k4⟩ := h a ha
  refine ⟨?_, ?_, ?_, fun b hb hab => ?_⟩
  · unfold nPush; rw [if_neg (by omega), if_neg (by omega)]; exact k1
  · unfold nPush; rw [if_neg (by omega), if_neg (by omega)]; exact k2
  · by_cases e : a = r
    · subst e; rw [pk_uLs, lb_and, k3]; rfl
    · rw [pk_uLn e]; exact k3
  · obtain ⟨j1, j2⟩ := k4 b hb hab
    by_cases e : a = r ∧ b = o
    · obtain ⟨rfl, rfl⟩ := e
      have lbf : lb (vp_updL F a (F a &&& (lB b ^^^ (-1))) a) b = false := by rw [pk_uLs, lb_and, lb_not (by omega), lb_B (by omega), decide_eq_true rfl]; simp
      rw [lbf]
      unfold nPush
      refine ⟨?_, ?_⟩
      · rw [if_pos ⟨rfl, rfl⟩]
      · rw [if_neg (by omega), if_pos ⟨rfl, rfl⟩, hl]; rfl
    · have f : lb (vp_updL F r (F r &&& (lB o ^^^ (-1))) a) b = lb (F a) b := by
        by_cases e2 : a = r
        · subst e2
          rw [pk_uLs, lb_and, lb_not (by omega), lb_B (by omega), decide_eq_false (fun z => e ⟨rfl, z⟩)]; simp
        · rw [pk_uLn e2]
      rw [f]
      have o1 : nPush E o (48 + r) b (48 + a) = E b (48 + a) := by unfold nPush; rw [if_neg (by omega), if_neg (by omega)]
      have o2 : nPush E o (48 + r) (48 + a) b = E (48 + a) b := by unfold nPush; rw [if_neg (by omega), if_neg (by omega)]
      rw [o1, o2]; exact ⟨j1, j2⟩
/-- a way that leads on from a relay of the start could begin there -/
theorem nStart {G : Geo} {p q t r v : Nat} {E : Nat → Nat → Bool} {n : Int} (hG : gok G) (hF : nFm (gE0 G p q t) E n 97) (hr : r < G 0 1) (hs : gLk G (48 + p) r t = true) (hv : v < 98) (h96 : v ≠ 96) (he : E r v = true) : E 96 r = true := by
  have n48 := gok_nr hG
  cases c : E 96 r
  · exfalso
    have a := hF.1 96 r (by omega) (by omega)
    have e1 : gE0 G p q t 96 r = true := by rw [gE0_s hG hr]; exact hs
    have e2 : gE0 G p q t r 96 = false := by
      cases d : gE0 G p q t r 96
      · rfl
      · have := gE0_in hG hr d; omega
    rw [c, e1, e2, bi_t, bi_f] at a
    have b : E r 96 = true := by
      cases d : E r 96
      · rw [d, bi_f] at a; omega
      · rfl
    obtain ⟨i1, i2⟩ := nIn hG hr hF
    by_cases g : v = 48 + r
    · have := i1 96 (by omega) (by omega) b
      rw [← g, he] at this
      exact Bool.noConfusion this
    · exact i2 v 96 hv (by omega) g (by omega) h96 he b
  · rfl
theorem r0_addWay {G : Geo} {p q t n : Nat} {E : Nat → Nat → Bool} {ρ : Nat → Nat} {m r : Nat} {CU : Int64} {CQ : Int32} {CJ : Nat → Nat → Int64} {CX : Nat → Nat → Int32} {Q : Int64 → Int32 → (Nat → Nat → Int64) → (Nat → Nat → Int32) → Prop} (hG : gok G) (hF : nFm (gE0 G p q t) E ((n : Nat) : Int) 97) (hR : cR G t E CU (CJ 2)) (hB : cF G p t E ρ m CX) (hr : r < G 0 1) (hv : CX 4 (2 * r + 1) ≠ -1) (he : gLk G (48 + q) r t = true) (hq : ∀ E' CU' CJ', CJ' 1 = CJ 1 → cR G t E' CU' (CJ' 2) → nFm (gE0 G p q t) E' ((n + 1 : Nat) : Int) 97 → Q CU' CQ CJ' CX) : fX0_addWay Q CU CQ CJ CX (nI (2 * r + 1)) := by
  have n48 := gok_nr hG
  have m96 := cF_96 hB
  have hA := gE0_NA (p := p) (q := q) (t := t) hG
  have e97 : E (48 + r) 97 = true := by
    cases c : E (48 + r) 97
    · exfalso
      have := (cF_back hG hF hB hr hv (v := 97) (by omega) (by omega) (by rw [gE0_t hG hr]; exact he) c).1
      omega
    · rfl
  have first := nPush_ok hA hF (c := 48 + r) (k := 97) (by omega) (by omega) (by omega) e97
  have came : ∀ d c, d < 96 → c < 96 → CX 4 d = nI c → CX 4 c ≠ -1 ∧ E (cnd c) (cnd d) = true ∧ ρ c < ρ d := by
    intro d c hd hc e
    rcases hB.1 d hd with z | ⟨_, _, _, z⟩
    · rw [z] at e; exact absurd e.symm (nI_m1 (by omega))
    · rcases z with z | ⟨c', c1, c2, c3, c4, c5⟩
      · rw [z.1] at e
        have := nI_toInt (n := c) (by omega)
        rw [← e, show (-2 : Int32).toInt = -2 from by decide] at this
        omega
      · rw [c2] at e
        have : c' = c := (nI_eq (by omega) (by omega)).mp e
        subst this
        exact ⟨c3, c4, c5⟩
  unfold fX0_addWay
  refine lp4 (fun N (cu : Int64) (cj : Nat → Nat → Int64) (y2 y3 : Int32) => fX0_addWay_h4 Q N cu CQ cj CX y2 y3) (fun cu cj y2 y3 => ∃ d i E', d < 96 ∧ y2 = nI d ∧ y3 = nI i ∧ CX 4 d ≠ -1 ∧ i + ρ d ≤ 95 ∧ cj 1 = CJ 1 ∧ cR G t E' cu (cj 2) ∧ nFm (gE0 G p q t) E' ((n : Nat) : Int) (cnd d) ∧ (∀ v c, v < 96 → c < 96 → CX 4 v = nI c → ρ v ≤ ρ d → E' (cnd c) (cnd v) = true) ∧ (∀ w, w < 96 → E' 96 w = E 96 w) ∧ (CX 4 d = -2 → E 96 (cnd d) = true)) (fun _ _ _ y3 => 97 - y3.toNatClampNeg) ?_ CU CJ (nI (2 * r + 1)) 0 ⟨2 * r + 1, 0, nPush E (48 + r) 97, by omega, rfl, rfl, hv, ?_, rfl, cR_far hG hR (Or.inr (by omega)), by rw [cnd_out]; exact first, fun v c h1 h2 h3 _ => ?_, fun w hw => ?_, fun z => ?_⟩
  · intro N cu cj y2 y3 ⟨d, i, E', b1, b2, b3, b4, b5, b6, b7, b8, b9, b10, b11⟩ ih
    subst b2 b3
    have dr : d / 2 < G 0 1 := by
      rcases hB.1 d b1 with z | z
      · exact absurd z b4
      · exact z.1
    have cdl := cnd_lt b1
    unfold fX0_addWay_h4 fX0_addWay_b109
    refine ⟨fun z => absurd z (nI_ge (b := 96) (by omega) (by decide)), fun _ => ⟨pk_in d 96 b1, ?_⟩⟩
    rw [pk_cl d]
    rcases hB.1 d b1 with z | ⟨_, _, _, z⟩
    · exact absurd z b4
    rcases z with ⟨z1, z2, z3⟩ | ⟨c, c1, c2, c3, c4, c5⟩
    · -- the start
      rw [z1]
      refine ⟨fun _ => ?_, fun w => absurd (by decide) w⟩
      have cd : cnd d = d / 2 := by unfold cnd; rw [if_pos z2]
      have es : E' 96 (cnd d) = true := by rw [b10 _ cdl]; exact b11 z1
      have fin := nPush_ok hA b8 (c := 96) (by omega) (by omega) (by omega) es
      refine hq (nPush E' 96 (cnd d)) cu cj b6 (cR_far hG b7 (Or.inl (Nat.le_refl _))) ?_
      rw [Int.natCast_add]
      exact nFm_done fin
    · rw [c2]
      refine ⟨fun w => absurd w (nI_pos (by omega)), fun _ => ⟨pk_in d 96 b1, nm_e ?_⟩⟩
      have cr : c / 2 < G 0 1 := by
        rcases hB.1 c c1 with y | y
        · exact absurd y c3
        · exact y.1
      have ccl := cnd_lt c1
      have ec := b9 d c b1 c1 c2 (Nat.le_refl _)
      have ncd : cnd c ≠ cnd d := by
        intro y
        have := cnd_inj c1 b1 y
        rw [this] at c5
        omega
      have push := nPush_ok hA b8 (c := cnd c) (k := cnd d) (by omega) (by omega) ncd ec
      have or := nE_or b8.1 (by omega) (by omega) ec
      -- on to the door before
      have next : ∀ cu' cj', cj' 1 = CJ 1 → cR G t (nPush E' (cnd c) (cnd d)) cu' (cj' 2) → ∀ x3_21 : Int32, x3_21 = nI i + (1 : Int32) → fX0_addWay_h4 Q N cu' CQ cj' CX (nI c) x3_21 := by
        intro cu' cj' f1 f2
        refine nm_r (nI_1 i) (ih cu' cj' (nI c) (nI (i + 1)) ⟨c, i + 1, nPush E' (cnd c) (cnd d), c1, rfl, rfl, c3, by omega, f1, f2, push, fun v c' h1 h2 h3 h4 => ?_, fun w hw => ?_, fun y => ?_⟩ ?_)
        · have old := b9 v c' h1 h2 h3 (by omega)
          have lt := (came v c' h1 h2 h3).2.2
          unfold nPush
          rw [if_neg (fun y => ?_)]
          · by_cases g : cnd c' = cnd d ∧ cnd v = cnd c
            · rw [if_pos g]
            · rw [if_neg g]; exact old
          · have := cnd_inj h1 b1 y.2
            rw [this] at h4
            omega
        · unfold nPush
          rw [if_neg (by omega), if_neg (by omega)]
          exact b10 w hw
        · rcases hB.1 c c1 with w | ⟨w1, _, _, w⟩
          · exact absurd w c3
          · rcases w with ⟨w1, w2, w3⟩ | ⟨c', y1, y2, _⟩
            · have cc : cnd c = c / 2 := by unfold cnd; rw [if_pos w2]
              rw [cc] at c4 ⊢
              exact nStart hG hF cr w3 (by omega) (by omega) c4
            · rw [y2] at y
              have := nI_toInt (n := c') (by omega)
              rw [y, show (-2 : Int32).toInt = -2 from by decide] at this
              omega
        · rw [nI_clamp (by omega), nI_clamp (by omega)]; omega
      refine r0_relayOf (by omega) ?_
      refine r0_relayOf (by omega) ?_
      have n2 : va_up cj 2 = va_up cj 2 := rfl
      refine ⟨fun w => ?_, fun w => ?_⟩
      · have nro : d / 2 ≠ c / 2 := fun y => w (by rw [y])
        refine r0_isOut (by omega) ?_
        have par : c % 2 = 0 ∨ c % 2 = 1 := by omega
        rcases par with pc | pc
        · -- from a door in: what flowed there is taken back
          have cc : cnd c = c / 2 := by unfold cnd; rw [if_pos pc]
          have pd : d % 2 = 1 := by
            by_cases y : d % 2 = 1
            · exact y
            · exfalso
              have cd : cnd d = d / 2 := by unfold cnd; rw [if_pos (by omega)]
              rw [cc, cd] at or
              rcases or with g | g
              · have := gE0_in hG cr g; omega
              · have := gE0_in hG dr g; omega
          have cd : cnd d = 48 + d / 2 := by unfold cnd; rw [if_neg (by omega)]
          rw [pc]
          refine ⟨fun _ => ⟨pk_in (d / 2) 48 (by omega), ?_⟩, fun y => absurd rfl y⟩
          unfold fX5_bit
          refine ⟨pk_in (d / 2) 48 (by omega), fun cj' ej => ?_⟩
          rw [pk_cl (d / 2)] at ej
          have gl : gLk G (d / 2) (c / 2) t = true := by
            rw [cc, cd] at or
            rcases or with g | g
            · have := gE0_in hG cr g; omega
            · rw [gE0_l hG dr cr] at g; exact g
          have up := cR_cut hG b7 cr dr (Ne.symm nro) gl
          rw [cc, cd] at next
          refine next cu cj' (by rw [ej]; simp [va_up]; exact b6) ?_
          have e2 : cj' 2 = vp_updL (cj 2) (d / 2) (cj 2 (d / 2) &&& (lB (c / 2) ^^^ (-1))) := by rw [ej]; simp [va_up]; rfl
          rw [e2]; exact up
        · -- from a door out: one more
          have cc : cnd c = 48 + c / 2 := by unfold cnd; rw [if_neg (by omega)]
          have pd : d % 2 = 0 := by
            by_cases y : d % 2 = 0
            · exact y
            · exfalso
              have cd : cnd d = 48 + d / 2 := by unfold cnd; rw [if_neg y]
              rw [cc, cd] at or
              rcases or with g | g
              · have := gE0_out hG dr g; omega
              · have := gE0_out hG cr g; omega
          have cd : cnd d = d / 2 := by unfold cnd; rw [if_pos pd]
          rw [pc]
          refine ⟨fun y => absurd y (by decide), fun _ => ⟨pk_in (c / 2) 48 (by omega), ?_⟩⟩
          unfold fX5_bit
          refine ⟨pk_in (c / 2) 48 (by omega), fun cj' ej => ?_⟩
          rw [pk_cl (c / 2)] at ej
          have up := cR_add hG b7 cr dr (Ne.symm nro)
          rw [cc, cd] at next
          refine next cu cj' (by rw [ej]; simp [va_up]; exact b6) ?_
          have e2 : cj' 2 = vp_updL (cj 2) (c / 2) (cj 2 (c / 2) ||| lB (d / 2)) := by rw [ej]; simp [va_up]; rfl
          rw [e2]; exact up
      · have ro : d / 2 = c / 2 := (nI_eq (by omega) (by omega)).mp w
        unfold fX5_bit
        refine nm_e (next _ cj b6 ?_)
        have ck : (cnd c = d / 2 ∧ cnd d = 48 + d / 2) ∨ (cnd c = 48 + d / 2 ∧ cnd d = d / 2) := by
          have ne : c ≠ d := fun y => by rw [y] at c5; omega
          by_cases pc : c % 2 = 0
          · left
            constructor
            · unfold cnd; rw [if_pos pc]; exact ro.symm
            · unfold cnd; rw [if_neg (by omega)]
          · right
            constructor
            · unfold cnd; rw [if_neg pc, ro]
            · unfold cnd; rw [if_pos (by omega)]
        exact cR_own hG b7 dr ck ec
  · rcases hB.1 (2 * r + 1) (by omega) with z | z
    · exact absurd z hv
    · have := z.2.1; omega
  · have := (came v c h1 h2 h3).2.1
    have l1 := cnd_lt h1
    have l2 := cnd_lt h2
    unfold nPush
    rw [if_neg (by omega), if_neg (by omega)]
    exact this
  · unfold nPush
    rw [if_neg (by omega), if_neg (by omega)]
  · rcases hB.1 (2 * r + 1) (by omega) with w | ⟨_, _, _, w⟩
    · exact absurd w hv
    · rcases w with w | ⟨c, c1, c2, _⟩
      · omega
      · rw [c2] at z
        have := nI_toInt (n := c) (by omega)
        rw [z, show (-2 : Int32).toInt = -2 from by decide] at this
        omega
theorem r0_relaysNear {G : Geo} {SI : Nat → Int32} {SX : Nat → Nat → Int32} {v t : Nat} {CU : Int64} {CQ : Int32} {CJ : Nat → Nat → Int64} {CX : Nat → Nat → Int32} {Q : Int64 → Prop} (hG : gok G) (hS : rS G SI SX) (hv : gva G v) (ht : t < 2 ^ 31) (hq : ∀ x, (∀ b, b < G 0 1 → lb x b = gLk G v b t) → Q x) : fX0_relaysNear SI SX CU CQ CJ CX Q (nI v) (nI t) := by
  have n48 := gok_nr hG
  have v56 := gva_56 hG hv
  have gl := gnt_le hG v
  have nfl : gnf G v ≤ G 0 1 := by
    unfold gnf
    exact gok_5r hG (by have := gpn_lt hG hv; omega)
  have far : ∀ b, b < G 0 1 → (b < gnf G v ∨ gnt G v ≤ b) → gLk G v b t = false := by
    intro b hb h
    cases c : gLk G v b t
    · rfl
    · unfold gLk at c
      rw [Bool.and_eq_true] at c
      have := gth_near hG (gpn_lt hG hv) hb c.2
      omega
  unfold fX0_relaysNear
  refine r3_nearTo hG hS.1 hv (r3_nearFrom hG hS.1 hv ?_)
  by_cases hle : gnf G v ≤ gnt G v
  · refine pk_loop (σ := Int64) (fun n k x => fX0_relaysNear_h22 SI SX CU CQ CJ CX Q n (nI v) (nI t) x (nI (gnt G v)) (nI k)) (fun k x => ∀ b, b < G 0 1 → lb x b = (decide (b < k) && gLk G v b t)) (gnt G v) (gnf G v) 0 hle (fun b hb => ?_) ?_ ?_
    · rw [lb_0]
      by_cases c : b < gnf G v
      · rw [far b hb (Or.inl c), Bool.and_false]
      · rw [decide_eq_false c]; rfl
    · intro n x hx
      unfold fX0_relaysNear_h22
      refine ⟨fun _ => hq x (fun b hb => ?_), fun z => absurd (nI_le (Nat.le_refl _) (by omega)) z⟩
      rw [hx b hb]
      by_cases c : b < gnt G v
      · rw [decide_eq_true c]; rfl
      · rw [decide_eq_false c, far b hb (Or.inr (by omega))]; rfl
    · intro n k x hk hx ih
      unfold fX0_relaysNear_h22 fX0_relaysNear_b51 fX5_bit
      refine ⟨fun z => absurd z (nI_ge hk (by omega)), fun _ => ?_⟩
      refine r3_isThere hG hS v56 (by omega) ht ?_
      by_cases c : gLk G v k t = true
      · rw [ite01 c]
        refine ⟨fun z => absurd z (by decide), fun _ => nm_e (nm_r (nI_1 k) (ih _ (fun b hb => ?_)))⟩
        show lb (x ||| lB k) b = _
        rw [lb_or, lb_B (by omega), hx b hb]
        by_cases e : b = k
        · rw [e, c, decide_eq_true (show k < k + 1 by omega)]; simp
        · rw [decide_eq_false e, Bool.or_false]
          congr 1
          exact decide_eq_decide.mpr (by omega)
      · rw [ite00 c]
        refine ⟨fun _ => nm_r (nI_1 k) (ih x (fun b hb => ?_)), fun z => absurd rfl z⟩
        rw [hx b hb]
        by_cases e : b = k
        · have : gLk G v k t = false := by
            cases d : gLk G v k t
            · rfl
            · exact absurd d c
          rw [e, this, Bool.and_false, Bool.and_false]
        · congr 1
          exact decide_eq_decide.mpr (by omega)
  · refine ⟨0 + 1, ?_⟩
    unfold fX0_relaysNear_h22
    refine ⟨fun _ => hq 0 (fun b hb => ?_), fun z => absurd (nI_le (by omega) (by omega)) z⟩
    rw [lb_0, far b hb (by omega)]
theorem r0_size {G : Geo} {SI : Nat → Int32} {SX : Nat → Nat → Int32} {p q t : Nat} {CU : Int64} {CQ : Int32} {CJ : Nat → Nat → Int64} {CX : Nat → Nat → Int32} {Q : Int32 → Int64 → Int32 → (Nat → Nat → Int64) → (Nat → Nat → Int32) → Prop} (hG : gok G) (hS : rS G SI SX) (hp : p < G 0 2) (hq' : q < G 0 2) (ht : t < 2 ^ 31) (hq : ∀ n CU' CQ' CJ' CX', nMC (gE0 G p q t) ((n : Nat) : Int) → n ≤ 48 → Q (nI n) CU' CQ' CJ' CX') : fX0_size SI SX Q CU CQ CJ CX (nI (48 + p)) (nI (48 + q)) (nI t) := by
  have n48 := gok_nr hG
  have s1 : SI 1 = nI (G 0 1) := hS.1.2.1
  unfold fX0_size
  refine pk_loop (σ := Nat → Nat → Int64) (fun n r s => fX0_size_h3 SI SX Q n CU CQ s CX (nI (48 + p)) (nI (48 + q)) (nI t) (nI r)) (fun r s => ∀ a, a < r → s 2 a = 0 ∧ ∀ b, b < G 0 1 → lb (s 1 a) b = gLk G a b t) (G 0 1) 0 CJ (Nat.zero_le _) (fun a ha => by omega) ?_ ?_
  · intro n s hs
    unfold fX0_size_h3
    rw [s1]
    refine ⟨fun _ => nm_e ?_, fun z => absurd (nI_le (Nat.le_refl _) (by omega)) z⟩
    refine r0_relaysNear hG hS (Or.inr ⟨by omega, by omega⟩) ht (fun x1 h1 => ?_)
    refine r0_relaysNear hG hS (Or.inr ⟨by omega, by omega⟩) ht (fun x3 h3 => ?_)
    refine lp5 (fun N (cu : Int64) (cq : Int32) (cj : Nat → Nat → Int64) (cx : Nat → Nat → Int32) (y8 : Int32) => fX0_size_h67 SI SX Q N cu cq cj cx x1 x3 y8) (fun cu cq cj cx y8 => ∃ k E, y8 = nI k ∧ cj 1 = s 1 ∧ cR G t E cu (cj 2) ∧ nFm (gE0 G p q t) E ((k : Nat) : Int) 97) (fun _ _ _ _ y8 => 50 - y8.toNatClampNeg) ?_ 0 CQ s CX 0 ⟨0, gE0 G p q t, rfl, rfl, fun a ha => ?_, nFm_0 _⟩
    · intro N cu cq cj cx y8 ⟨k, E, b1, b2, b3, b4⟩ ih
      subst b1
      obtain ⟨le, l48⟩ := nFl_48 (gE0_S hG) b4
      have kl : k ≤ 48 := by omega
      unfold fX0_size_h67
      refine pk_le 48 k (fun w => ?_) (fun w => ?_)
      · have e : k = 48 := by omega
        subst e
        exact hq 48 cu cq cj cx (l48 rfl) (Nat.le_refl _)
      · refine r0_search hG hS.1 b4 b3 (fun a b ha hb => by rw [b2]; exact (hs a ha).2 b hb) h1 h3 (fun ρ m CX' r c1 c2 c3 c4 => ⟨fun _ => ?_, fun z => absurd z (nI_m1 (by omega))⟩) (fun m CX' c1 => ⟨fun z => absurd rfl z, fun _ => hq k _ _ _ _ c1 kl⟩)
        refine r0_addWay hG b4 b3 c1 c2 c3 c4 (fun E' CU' CJ' d1 d2 d3 => nm_r (nI_1 k) (ih CU' (nI m) CJ' CX' (nI (k + 1)) ⟨k + 1, E', rfl, by rw [d1, b2], d2, d3⟩ ?_))
        rw [nI_clamp (by omega), nI_clamp (by omega)]
        omega
    · obtain ⟨z1, z2⟩ := hs a ha
      rw [z1]
      refine ⟨?_, ?_, lb_0 a, fun b hb hab => ⟨?_, ?_⟩⟩
      · rw [gE0_l hG ha ha, gLk_self (by omega), lb_0]
      · rw [show 48 + a = a + 48 by omega, gE0_io ha, lb_0]; rfl
      · rw [lb_0]
        cases d : gE0 G p q t b (48 + a)
        · rfl
        · exact absurd (gE0_out hG ha d).symm hab
      · rw [gE0_l hG ha hb, lb_0]; simp
  · intro n r s hr hs ih
    unfold fX0_size_h3
    rw [s1]
    refine ⟨fun z => absurd z (nI_ge hr (by omega)), fun _ => ?_⟩
    refine r0_relaysNear hG hS (Or.inl hr) ht (fun x hx => ⟨pk_in r 48 (by omega), fun J1 j1 => ⟨pk_in r 48 (by omega), fun J2 j2 => nm_r (nI_1 r) (ih J2 (fun a ha => ?_))⟩⟩)
    rw [pk_cl r] at j1 j2
    have g1 : J2 1 = vp_updL (s 1) r x := by rw [j2, j1]; simp [va_up]
    have g2 : J2 2 = vp_updL (s 2) r 0 := by rw [j2, j1]; simp [va_up]
    rw [g1, g2]
    by_cases e : a = r
    · rw [e, pk_uLs, pk_uLs]; exact ⟨rfl, hx⟩
    · rw [pk_uLn e, pk_uLn e]; exact hs a (by omega)

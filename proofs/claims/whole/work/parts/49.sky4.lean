/-! the class's sky: a plane comes, a relay dies -/
def gAQ (G : Geo) (n ph sp : Nat) : Geo := fun k i => if k = 0 ∧ i = 0 then G 0 0 + 1 else if k = 0 ∧ i = 1 then G 0 1 + n else if k = 3 ∧ i = G 0 0 then ph else if k = 4 ∧ i = G 0 0 then sp else if k = 5 ∧ G 0 0 < i then G 0 1 + n else if k = 7 ∧ G 0 1 ≤ i then G 0 0 else G k i
theorem gAQ_0 {G : Geo} {n ph sp : Nat} : gAQ G n ph sp 0 0 = G 0 0 + 1 := by unfold gAQ; rw [if_pos ⟨rfl, rfl⟩]
theorem gAQ_1 {G : Geo} {n ph sp : Nat} : gAQ G n ph sp 0 1 = G 0 1 + n := by unfold gAQ; rw [if_neg (by omega), if_pos ⟨rfl, rfl⟩]
theorem gAQ_2 {G : Geo} {n ph sp : Nat} : gAQ G n ph sp 0 2 = G 0 2 := by unfold gAQ; rw [if_neg (by omega), if_neg (by omega), if_neg (by omega), if_neg (by omega), if_neg (by omega), if_neg (by omega)]
theorem gAQ_h {G : Geo} {n ph sp k i : Nat} (h : 8 ≤ k) : gAQ G n ph sp k i = G k i := by unfold gAQ; rw [if_neg (by omega), if_neg (by omega), if_neg (by omega), if_neg (by omega), if_neg (by omega), if_neg (by omega)]
theorem gAQ_3 {G : Geo} {n ph sp i : Nat} : gAQ G n ph sp 3 i = if i = G 0 0 then ph else G 3 i := by
  unfold gAQ
  rw [if_neg (by omega), if_neg (by omega)]
  by_cases q : i = G 0 0
  · rw [if_pos ⟨rfl, q⟩, if_pos q]
  · rw [if_neg (fun z => q z.2), if_neg (by omega), if_neg (by omega), if_neg (by omega), if_neg q]
theorem gAQ_4 {G : Geo} {n ph sp i : Nat} : gAQ G n ph sp 4 i = if i = G 0 0 then sp else G 4 i := by
  unfold gAQ
  rw [if_neg (by omega), if_neg (by omega), if_neg (by omega)]
  by_cases q : i = G 0 0
  · rw [if_pos ⟨rfl, q⟩, if_pos q]
  · rw [if_neg (fun z => q z.2), if_neg (by omega), if_neg (by omega), if_neg q]
theorem gAQ_5 {G : Geo} {n ph sp i : Nat} : gAQ G n ph sp 5 i = if G 0 0 < i then G 0 1 + n else G 5 i := by
  unfold gAQ
  rw [if_neg (by omega), if_neg (by omega), if_neg (by omega), if_neg (by omega)]
  by_cases q : G 0 0 < i
  · rw [if_pos ⟨rfl, q⟩, if_pos q]
  · rw [if_neg (fun z => q z.2), if_neg (by omega), if_neg q]
theorem gAQ_7 {G : Geo} {n ph sp i : Nat} : gAQ G n ph sp 7 i = if G 0 1 ≤ i then G 0 0 else G 7 i := by
  unfold gAQ
  rw [if_neg (by omega), if_neg (by omega), if_neg (by omega), if_neg (by omega), if_neg (by omega)]
  by_cases q : G 0 1 ≤ i
  · rw [if_pos ⟨rfl, q⟩, if_pos q]
  · rw [if_neg (fun z => q z.2), if_neg q]
theorem gAQ_ok {G : Geo} {n ph sp : Nat} (hG : gok G) (h : G 0 0 < 6) (h1 : 1 ≤ n) (hn : n ≤ 8) (hp : ph < 32) (hs : 29 ≤ sp) (hs2 : sp ≤ 35) : gok (gAQ G n ph sp) := by
  have l0 := gok_l hG (p := G 0 0) (Nat.le_refl _) (by omega)
  have n48 := gok_nr hG
  obtain ⟨g1, g2, g3, g4, g5, g6, g7, g8, g9, g10⟩ := id hG
  unfold gok
  rw [gAQ_0, gAQ_1, gAQ_2]
  refine ⟨by omega, by omega, g3, ?_, ?_, ?_, ?_, ?_, ?_, ?_⟩
  · rw [gAQ_5, if_neg (by omega)]; exact g4
  · intro p hp'
    rw [gAQ_3, gAQ_4, gAQ_5, gAQ_5]
    by_cases e : p = G 0 0
    · rw [if_pos e, if_pos e, if_neg (by omega), if_pos (by omega), e]
      rw [l0]
      omega
    · rw [if_neg e, if_neg e, if_neg (by omega), if_neg (by omega)]
      exact g5 p (by omega)
  · intro p h1' h2'
    rw [gAQ_5, if_pos (by omega)]
  · intro r hr
    rw [gAQ_7]
    by_cases e : G 0 1 ≤ r
    · rw [if_pos e, gAQ_5, gAQ_5, if_neg (by omega), if_pos (by omega), l0]; omega
    · rw [if_neg e]
      have := g7 r (by omega)
      rw [gAQ_5, gAQ_5, if_neg (by omega), if_neg (by omega)]; omega
  · intro r hr; rw [gAQ_h (by decide)]; exact g8 r hr
  · intro r h1' h2'; rw [gAQ_h (by decide)]; exact g9 r (by omega) h2'
  · intro j hj; rw [gAQ_h (by decide), gAQ_h (by decide), gAQ_h (by decide)]; exact g10 j hj
theorem gAQ_7o {G : Geo} {n ph sp r : Nat} (hr : r < G 0 1) : gAQ G n ph sp 7 r = G 7 r := by rw [gAQ_7, if_neg (by omega)]
theorem gAQ_pl {G : Geo} {n ph sp r t : Nat} (hG : gok G) (hr : r < G 0 1) : gpl (gAQ G n ph sp) r t = gpl G r t := by
  have := (gok_pl hG hr).1
  unfold gpl
  rw [gAQ_7o hr, gAQ_5, gAQ_3, gAQ_4, if_neg (by omega), if_neg (by omega), if_neg (by omega)]
theorem gAQ_th {G : Geo} {n ph sp v r t : Nat} (hG : gok G) (hv : gva G v) (hr : r < G 0 1) : gth (gAQ G n ph sp) v r t = gth G v r t := by
  have n48 := gok_nr hG
  have p := (gok_pl hG hr).1
  unfold gth
  rcases hv with hv | hv
  · have pv := (gok_pl hG hv).1
    rw [if_pos (by omega), if_pos (by omega)]
    unfold glk gsz
    rw [gAQ_7o hr, gAQ_7o hv, gAQ_pl hG hr, gAQ_pl hG hv, gAQ_5, gAQ_5, if_neg (show ¬ G 0 0 < G 7 v + 1 by omega), if_neg (show ¬ G 0 0 < G 7 v by omega)]
  · rw [if_neg (by omega), if_neg (by omega)]
    unfold gse
    rw [gAQ_7o hr, gAQ_pl hG hr, gAQ_h (by decide), gAQ_h (by decide), gAQ_h (by decide)]
theorem gAQ_ln {G : Geo} {n ph sp v r : Nat} (hG : gok G) (hv : gva G v) (hr : r < G 0 1) : gln (gAQ G n ph sp) v r = gln G v r := by
  unfold gln
  rcases hv with hv | hv
  · rw [gAQ_7o hr, gAQ_7o hv]
  · rw [if_neg (by omega), if_neg (by omega)]
theorem gAQ_up {G : Geo} {n ph sp v : Nat} (hG : gok G) (hn : G 0 1 + n ≤ 48) : gup (gAQ G n ph sp) v = decide (gup G v = true ∨ (G 0 1 ≤ v ∧ v < G 0 1 + n)) := by
  have n48 := gok_nr hG
  unfold gup
  rw [gAQ_1, gAQ_2, gAQ_h (by decide)]
  refine decide_eq_decide.mpr ?_
  rw [decide_eq_true_iff]
  constructor
  · intro h
    by_cases q : v < G 0 1
    · left; omega
    · rcases h with h | h
      · right; omega
      · left; omega
  · intro h
    rcases h with h | h
    · rcases h with h | h
      · left; omega
      · right; exact h
    · left
      exact ⟨h.2, gok_d0 hG h.1 (by omega)⟩
theorem r3_addPlane {G : Geo} {SI : Nat → Int32} {SX : Nat → Nat → Int32} {Q : Int32 → (Nat → Int32) → (Nat → Nat → Int32) → Prop} {n ph sp : Nat} {x3 : Int32} (hG : gok G) (hS : rS G SI SX) (h6 : G 0 0 < 6) (h1 : 1 ≤ n) (hn : n ≤ 8) (hp : ph < 32) (hs : 29 ≤ sp) (hs2 : sp ≤ 35) (hx : x3 + 32 = nI sp) (hq : ∀ SI' SX', rS (gAQ G n ph sp) SI' SX' → SI' 3 = SI 3 + 1 → Q (nI (G 0 0)) SI' SX') : fX3_addPlane Q SI SX (nI n) (nI ph) x3 := by
  have l0 := gok_l hG (p := G 0 0) (Nat.le_refl _) (by omega)
  have hG' := gAQ_ok (G := G) (n := n) (ph := ph) (sp := sp) hG h6 h1 hn hp hs hs2
  have n48' := gok_nr hG'
  rw [gAQ_1] at n48'
  obtain ⟨hS0, hSt, hSd⟩ := hS
  obtain ⟨s0, s1, s2, s5, s4, sr, sj, s8⟩ := id hS0
  unfold fX3_addPlane
  refine nm_r s0 (nm_r s1 ?_)
  -- the relays are placed
  refine pk_loop (σ := Nat → Nat → Int32) (fun m i s => fX3_addPlane_h15 Q m SI s (nI n) (nI ph) x3 (nI (G 0 0)) (nI (G 0 1)) (nI i)) (fun i s => (∀ k, k ≠ 4 → k ≠ 6 → k ≠ 7 → k ≠ 8 → k ≠ 9 → s k = SX k) ∧ (∀ k v, v < G 0 1 ∨ G 0 1 + i ≤ v → s k v = SX k v) ∧ (∀ j, j < i → s 4 (G 0 1 + j) = 1 ∧ s 6 (G 0 1 + j) = nI (G 0 0) ∧ s 7 (G 0 1 + j) = nI (4 * j + ph) ∧ s 8 (G 0 1 + j) = x3 ∧ s 9 (G 0 1 + j) = 2)) n 0 SX (Nat.zero_le _) ⟨fun _ _ _ _ _ _ => rfl, fun _ _ _ => rfl, fun j hj => by omega⟩ ?_ ?_
  · intro m s ⟨a1, a2, a3⟩
    unfold fX3_addPlane_h15
    refine ⟨fun _ => ?_, fun z => absurd (nI_le (Nat.le_refl _) (by omega)) z⟩
    refine nm_e (nm_e ?_)
    refine nm_r (e' := nI (G 0 0 + 1)) (nI_1 _) ?_
    have hI : ∃ SI1 : Nat → Int32, SI1 = upd (upd SI 0 (nI (G 0 0) + 1)) 1 (nI (G 0 1) + nI n) ∧ SI1 0 = nI (G 0 0 + 1) ∧ SI1 1 = nI (G 0 1 + n) ∧ SI1 2 = nI (G 0 2) ∧ SI1 3 = SI 3 := ⟨_, rfl, nI_1 _, nI_add _ _, s2, rfl⟩
    obtain ⟨SI1, eI, i0, i1, i2, i3⟩ := hI
    rw [← eI]
    -- where the planes begin
    refine pk_loop (σ := Nat → Nat → Int32) (fun m' i s' => fX3_addPlane_h78 Q m' SI1 s' (nI (G 0 0)) (nI (G 0 1)) (nI i)) (fun i s' => G 0 0 < i ∧ (∀ k, k ≠ 5 → s' k = s k) ∧ (∀ p, p ≤ G 0 0 → s' 5 p = s 5 p) ∧ (∀ p, G 0 0 < p → p < i → s' 5 p = nI (G 0 1 + n))) 7 (G 0 0 + 1) s (by omega) ⟨by omega, fun _ _ => rfl, fun _ _ => rfl, fun p _ _ => by omega⟩ ?_ ?_
    · intro m' s' ⟨b0, b1, b2, b3⟩
      unfold fX3_addPlane_h78
      refine ⟨fun _ => ?_, fun z => absurd (by decide) z⟩
      have hS1 : rS0 (gAQ G n ph sp) SI1 s' := by
        refine ⟨?_, ?_, ?_, ?_, ?_, ?_, ?_, ?_⟩
        · rw [gAQ_0]; exact i0
        · rw [gAQ_1]; exact i1
        · rw [gAQ_2]; exact i2
        · intro p hp6
          rw [gAQ_5]
          by_cases e : G 0 0 < p
          · rw [if_pos e]; exact b3 p e (by omega)
          · rw [if_neg e, b2 p (by omega), a1 5 (by decide) (by decide) (by decide) (by decide) (by decide)]; exact s5 p hp6
        · intro v hv
          rw [b1 4 (by decide), gAQ_up hG n48']
          by_cases e : G 0 1 ≤ v ∧ v < G 0 1 + n
          · have := (a3 (v - G 0 1) (by omega)).1
            rw [show G 0 1 + (v - G 0 1) = v by omega] at this
            rw [this, ite01 (decide_eq_true (Or.inr e))]
          · rw [a2 4 v (by omega), s4 v hv]
            congr 1
            simp [e]
        · intro r hr
          rw [gAQ_1] at hr
          rw [b1 6 (by decide), b1 7 (by decide), b1 8 (by decide), b1 9 (by decide), gAQ_7]
          by_cases e : G 0 1 ≤ r
          · obtain ⟨c4, c6, c7, c8, c9⟩ := a3 (r - G 0 1) (by omega)
            rw [show G 0 1 + (r - G 0 1) = r by omega] at c4 c6 c7 c8 c9
            rw [if_pos e, gAQ_5, if_neg (by omega), gAQ_3, if_pos rfl, gAQ_4, if_pos rfl, l0, c6, c7, c8, c9]
            exact ⟨rfl, rfl, hx, rfl⟩
          · have p := (gok_pl hG (r := r) (by omega)).1
            rw [if_neg e, gAQ_5, if_neg (by omega), gAQ_3, if_neg (by omega), gAQ_4, if_neg (by omega), a2 6 r (by omega), a2 7 r (by omega), a2 8 r (by omega), a2 9 r (by omega)]
            exact sr r (by omega)
        · intro j hj
          rw [gAQ_2] at hj
          rw [b1 6 (by decide), b1 7 (by decide), b1 9 (by decide), a2 6 _ (by omega), a2 7 _ (by omega), a2 9 _ (by omega), gAQ_h (by decide), gAQ_h (by decide), gAQ_h (by decide)]
          exact sj j hj
        · intro j hj
          rw [b1 8 (by decide), a2 8 _ (by omega)]
          exact s8 j hj
      have k10 : s' 10 = SX 10 := by rw [b1 10 (by decide), a1 10 (by decide) (by decide) (by decide) (by decide) (by decide)]
      have k11 : s' 11 = SX 11 := by rw [b1 11 (by decide), a1 11 (by decide) (by decide) (by decide) (by decide) (by decide)]
      have hT1 : rTb (gAQ G n ph sp) s' (fun v r => gva G v ∧ r < G 0 1) := by
        intro v r hvr _ t ht
        rw [k10, k11, gAQ_th hG hvr.1 hvr.2, gAQ_th hG hvr.1 hvr.2, gAQ_th hG hvr.1 hvr.2, gAQ_ln hG hvr.1 hvr.2]
        exact hSt v r hvr.1 hvr.2 t ht
      have hD1 : rDz s' := by
        intro r hr
        rw [k10, k11]; exact hSd r hr
      -- the new links
      refine pk_loop (σ := Nat → Nat → Int32) (fun m2 i u => fX3_addPlane_h106 Q m2 SI1 u (nI (G 0 0)) (nI i)) (fun i u => rSm s' u ∧ rTb (gAQ G n ph sp) u (fun v r => (v < i ∧ r < i ∧ v ≠ r) ∨ (48 ≤ v ∧ v < 48 + G 0 2 ∧ r < i)) ∧ rDz u) (G 0 1 + n) (G 0 1) s' (by omega) ⟨rSm_rf, ?_, hD1⟩ ?_ ?_
      · refine rTb_im hT1 (fun v r h => ?_)
        rcases h with h | h
        · exact ⟨Or.inl h.1, h.2.1⟩
        · exact ⟨Or.inr ⟨h.1, h.2.1⟩, h.2.2⟩
      · intro m2 u ⟨c1, c2, c3⟩
        unfold fX3_addPlane_h106
        rw [i1]
        refine ⟨fun _ => nm_e (hq _ u ⟨?_, fun v r hv hr t ht => ?_, c3⟩ ?_), fun z => absurd (nI_le (Nat.le_refl _) (by omega)) z⟩
        · exact rS0_sm hS1 c1
        · rw [gAQ_1] at hr
          by_cases e : v = r
          · subst e
            have z := c3 v (by omega)
            rw [z.1, z.2, ib_0]
            have y : ∀ t, gth (gAQ G n ph sp) v v t = false := by
              intro t
              unfold gth
              rw [if_pos (by omega), glk_self]
              rfl
            rw [y t]
            exact ⟨rfl, rfl⟩
          · refine c2 v r ?_ (by omega) t ht
            rcases hv with hv | hv
            · rw [gAQ_1] at hv; exact Or.inl ⟨hv, hr, e⟩
            · rw [gAQ_2] at hv; exact Or.inr ⟨hv.1, hv.2, hr⟩
        · show SI1 3 + 1 = _
          rw [i3]
      · intro m2 i u hi ⟨c1, c2, c3⟩ ih
        unfold fX3_addPlane_h106
        rw [i1]
        refine ⟨fun z => absurd z (nI_ge hi (by omega)), fun _ => ?_⟩
        refine r3_tieToRelays hG' (rS0_sm hS1 c1) c2 c3 (by rw [gAQ_1]; exact hi) (fun u1 d1 d2 d3 => ?_)
        refine r3_tieToPosts hG' (rS0_sm hS1 (rSm_tr c1 d1)) d2 d3 (by rw [gAQ_1]; exact hi) (fun u2 e1 e2 e3 => ?_)
        refine nm_r (nI_1 i) (ih u2 ⟨rSm_tr (rSm_tr c1 d1) e1, rTb_im e2 (fun v r h => ?_), e3⟩)
        rw [gAQ_2]
        rcases h with h | h
        · by_cases q : v = i
          · exact Or.inl (Or.inr (Or.inl ⟨q, by omega⟩))
          · by_cases q2 : r = i
            · exact Or.inl (Or.inr (Or.inr ⟨by omega, q2⟩))
            · exact Or.inl (Or.inl (Or.inl ⟨by omega, by omega, h.2.2⟩))
        · by_cases q2 : r = i
          · exact Or.inr ⟨h.1, h.2.1, q2⟩
          · exact Or.inl (Or.inl (Or.inr ⟨h.1, h.2.1, by omega⟩))
    · intro m' i s' hi ⟨q, b1, b2, b3⟩ ih
      unfold fX3_addPlane_h78
      refine ⟨fun z => absurd z (nI_nlt (a := 6) (b := i) (by omega) (by decide)), fun _ => ?_⟩
      refine ⟨pk_in i 7 (by omega), ?_⟩
      rw [pk_cl i, i1]
      refine nm_e (nm_r (nI_1 i) (ih _ ⟨by omega, fun k hk => ?_, fun p hp' => ?_, fun p hp1 hp2 => ?_⟩))
      · simp only [va_up, if_neg hk]; exact b1 k hk
      · simp only [va_up, if_true, upd]
        rw [if_neg (by omega)]
        exact b2 p hp'
      · simp only [va_up, if_true, upd]
        by_cases e : p = i
        · rw [if_pos e]
        · rw [if_neg e]; exact b3 p hp1 (by omega)
  · intro m i s hi ⟨a1, a2, a3⟩ ih
    unfold fX3_addPlane_h15
    refine ⟨fun z => absurd z (nI_ge hi (by omega)), fun _ => ?_⟩
    rw [show nI (G 0 1) + nI i = nI (G 0 1 + i) from nI_add _ _, show ((4 : Int32) * nI i) + nI ph = nI (4 * i + ph) by rw [show (4 : Int32) = nI 4 from rfl, pk_mul, nI_add]]
    refine r3_placeNode (by omega) (fun u k1 k7 k6 k9 k4 => ?_)
    refine ⟨pk_in (G 0 1 + i) 56 (by omega), ?_⟩
    rw [pk_cl (G 0 1 + i)]
    have k8 := k1 8 (by decide) (by decide) (by decide) (by decide)
    refine nm_e (nm_r (nI_1 i) (ih _ ⟨fun k h4 h6 h7 h8 h9 => ?_, fun k v hv => ?_, fun j hj => ?_⟩))
    · simp only [va_up, if_neg h8]
      rw [k1 k h4 h6 h7 h9]
      exact a1 k h4 h6 h7 h8 h9
    · have nv : v ≠ G 0 1 + i := by omega
      have o := a2 k v (by omega)
      simp only [va_up]
      by_cases e8 : k = 8
      · subst e8; rw [if_pos rfl, pk_un nv, k8]; exact o
      · rw [if_neg e8]
        by_cases e4 : k = 4
        · subst e4; rw [k4, pk_un nv]; exact o
        · by_cases e6 : k = 6
          · subst e6; rw [k6, pk_un nv]; exact o
          · by_cases e7 : k = 7
            · subst e7; rw [k7, pk_un nv]; exact o
            · by_cases e9 : k = 9
              · subst e9; rw [k9, pk_un nv]; exact o
              · rw [k1 k e4 e6 e7 e9]; exact o
    · simp only [va_up, if_true, if_neg (show ¬ (4 = 8) by decide), if_neg (show ¬ (6 = 8) by decide), if_neg (show ¬ (7 = 8) by decide), if_neg (show ¬ (9 = 8) by decide)]
      rw [k4, k6, k7, k9, k8]
      by_cases e : j = i
      · subst e
        rw [pk_us, pk_us, pk_us, pk_us, pk_us]
        exact ⟨rfl, rfl, rfl, rfl, rfl⟩
      · have ne : G 0 1 + j ≠ G 0 1 + i := by omega
        rw [pk_un ne, pk_un ne, pk_un ne, pk_un ne, pk_un ne]
        exact a3 j (by omega)
def gDd (G : Geo) (r d : Nat) : Geo := fun k i => if k = 8 ∧ i = r then d else G k i
theorem gDd_o {G : Geo} {r d k i : Nat} (h : ¬ (k = 8 ∧ i = r)) : gDd G r d k i = G k i := by unfold gDd; rw [if_neg h]
theorem gDd_8 {G : Geo} {r d : Nat} : gDd G r d 8 r = d := by unfold gDd; rw [if_pos ⟨rfl, rfl⟩]
theorem gDd_fn {G : Geo} {r d k : Nat} (h : k ≠ 8) : gDd G r d k = G k := funext (fun i => gDd_o (fun z => h z.1))
theorem gDd_ok {G : Geo} {r d : Nat} (hG : gok G) (hr : r < G 0 1) (hd : d ≤ 1) : gok (gDd G r d) := by
  obtain ⟨g1, g2, g3, g4, g5, g6, g7, g8, g9, g10⟩ := hG
  unfold gok
  rw [gDd_fn (k := 0) (by decide), gDd_fn (k := 3) (by decide), gDd_fn (k := 4) (by decide), gDd_fn (k := 5) (by decide), gDd_fn (k := 7) (by decide), gDd_fn (k := 10) (by decide), gDd_fn (k := 11) (by decide), gDd_fn (k := 12) (by decide)]
  refine ⟨g1, g2, g3, g4, g5, g6, g7, fun i hi => ?_, fun i h1 hi => ?_, g10⟩
  · by_cases e : i = r
    · subst e; rw [gDd_8]; exact hd
    · rw [gDd_o (fun z => e z.2)]; exact g8 i hi
  · rw [gDd_o (by omega)]; exact g9 i h1 hi
theorem gDd_th {G : Geo} {r d v u t : Nat} : gth (gDd G r d) v u t = gth G v u t := by
  unfold gth glk gse gsz gpl
  rw [gDd_fn (k := 3) (by decide), gDd_fn (k := 4) (by decide), gDd_fn (k := 5) (by decide), gDd_fn (k := 7) (by decide), gDd_fn (k := 10) (by decide), gDd_fn (k := 11) (by decide), gDd_fn (k := 12) (by decide)]
theorem gDd_ln {G : Geo} {r d v u : Nat} : gln (gDd G r d) v u = gln G v u := by
  unfold gln
  rw [gDd_fn (k := 7) (by decide)]
theorem gDd_va {G : Geo} {r d v : Nat} : gva (gDd G r d) v = gva G v := by
  unfold gva
  rw [gDd_fn (k := 0) (by decide)]
theorem r3_turnDead {G : Geo} {SI : Nat → Int32} {SX : Nat → Nat → Int32} {Q : Int32 → (Nat → Int32) → (Nat → Nat → Int32) → Prop} {r d : Nat} (hG : gok G) (hS : rS G SI SX) (hr : r < G 0 1) (hd : d ≤ 1) (hs : G 8 r = d → Q 0 SI SX) (hq : G 8 r ≠ d → ∀ SI' SX', rS (gDd G r d) SI' SX' → SI' 3 = SI 3 + 1 → Q 1 SI' SX') : fX3_turnDead Q SI SX (nI r) (nI d) := by
  have n48 := gok_nr hG
  have dr := gok_d hG (r := r) (by omega)
  obtain ⟨hS0, hSt, hSd⟩ := hS
  obtain ⟨s0, s1, s2, s5, s4, sr, sj, s8⟩ := id hS0
  unfold fX3_turnDead
  refine ⟨pk_in r 56 (by omega), ?_⟩
  rw [pk_cl r, s4 r (by omega), gup_r (by omega) hG]
  have e0 : (if decide (r < G 0 1 ∧ G 8 r = 0) = true then 1 else 0) = 1 - G 8 r := by
    by_cases z : G 8 r = 0
    · rw [if_pos (decide_eq_true ⟨hr, z⟩), z]
    · rw [if_neg (by simp [z])]; omega
  rw [e0]
  have fin : ∀ y : Int32, y = nI (1 - d) → G 8 r ≠ d → fX3_turnDead_b26 Q SI SX y (nI r) := by
    intro y hy ne
    subst hy
    unfold fX3_turnDead_b26
    refine ⟨pk_in r 56 (by omega), ?_⟩
    rw [pk_cl r]
    have en : vp_nar .boolean (nI (1 - d)) = nI (1 - d) := by
      have : d = 0 ∨ d = 1 := by omega
      rcases this with rfl | rfl <;> decide
    rw [en]
    refine nm_e (nm_e (hq ne _ _ ⟨?_, ?_, ?_⟩ rfl))
    · unfold rS0
      rw [gDd_fn (k := 0) (by decide), gDd_fn (k := 3) (by decide), gDd_fn (k := 4) (by decide), gDd_fn (k := 5) (by decide), gDd_fn (k := 7) (by decide), gDd_fn (k := 10) (by decide), gDd_fn (k := 11) (by decide), gDd_fn (k := 12) (by decide)]
      refine ⟨s0, s1, s2, s5, fun v hv => ?_, sr, sj, s8⟩
      show upd (SX 4) r (nI (1 - d)) v = _
      by_cases e : v = r
      · subst e
        rw [pk_us, gup_r (by omega) (gDd_ok hG hr hd), gDd_8, gDd_fn (k := 0) (by decide)]
        have : d = 0 ∨ d = 1 := by omega
        rcases this with rfl | rfl
        · rw [if_pos (decide_eq_true ⟨hr, rfl⟩)]
        · rw [if_neg (by simp)]
      · rw [pk_un e, s4 v hv]
        have : gup (gDd G r d) v = gup G v := by
          unfold gup
          rw [gDd_o (fun z => e z.2), gDd_fn (k := 0) (by decide)]
        rw [this]
    · intro v u hv hu t ht
      rw [gDd_va] at hv
      rw [gDd_fn (k := 0) (by decide)] at hu
      rw [gDd_th, gDd_th, gDd_th, gDd_ln]
      exact hSt v u hv hu t ht
    · exact hSd
  refine pk_eq (1 - G 8 r) d (fun w => ?_) (fun w => ?_)
  · refine ⟨fun z => fin 0 ?_ (by omega), fun z => fin 1 ?_ (by omega)⟩
    · have : d ≠ 0 := fun y => z (by rw [y]; rfl)
      have : d = 1 := by omega
      rw [this]; rfl
    · have : d = 0 := (nI_is0 (by omega)).mp z
      rw [this]; rfl
  · exact hs (by omega)

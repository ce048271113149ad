/-! the class's sky: planes, posts and the dead come -/
def rTb (G : Geo) (SX : Nat → Nat → Int32) (P : Nat → Nat → Prop) : Prop := ∀ v r, P v r → r < 48 → ∀ t, t < 32 → ib (SX 10 (v * 48 + r)) t = gth G v r t ∧ ib (SX 11 (v * 48 + r)) t = (gth G v r t && gth G v r (t + 1) && (decide (gln G v r = 1) || gth G v r (t + 2)))
def rDz (SX : Nat → Nat → Int32) : Prop := ∀ r, r < 48 → SX 10 (r * 48 + r) = 0 ∧ SX 11 (r * 48 + r) = 0
/-- all but the tables of the links is as it was -/
def rSm (SX SX' : Nat → Nat → Int32) : Prop := ∀ k, k ≠ 10 → k ≠ 11 → SX' k = SX k
theorem rSm_rf {SX : Nat → Nat → Int32} : rSm SX SX := fun _ _ _ => rfl
theorem rSm_tr {A B C : Nat → Nat → Int32} (h : rSm A B) (g : rSm B C) : rSm A C := fun k a b => by rw [g k a b, h k a b]
theorem rS0_sm {G : Geo} {SI : Nat → Int32} {SX SX' : Nat → Nat → Int32} (h : rS0 G SI SX) (m : rSm SX SX') : rS0 G SI SX' := by
  unfold rS0 at h ⊢
  rw [m 4 (by decide) (by decide), m 5 (by decide) (by decide), m 6 (by decide) (by decide), m 7 (by decide) (by decide), m 8 (by decide) (by decide), m 9 (by decide) (by decide)]
  exact h
theorem r3_tieP {G : Geo} {SI : Nat → Int32} {SX : Nat → Nat → Int32} {P : Nat → Nat → Prop} {Q : (Nat → Int32) → (Nat → Nat → Int32) → Prop} {v r : Nat} (hG : gok G) (hS : rS0 G SI SX) (hT : rTb G SX P) (hD : rDz SX) (hv : gva G v) (hr : r < G 0 1) (hne : v ≠ r) (hq : ∀ SX' : Nat → Nat → Int32, rSm SX SX' → rTb G SX' (fun a b => P a b ∨ (a = v ∧ b = r)) → rDz SX' → Q SI SX') : fX3_tie Q SI SX (nI v) (nI r) := by
  have n48 := gok_nr hG
  refine r3_tie hG hS hv hr hne (fun SX' h1 h2 h3 => hq SX' h1 ?_ ?_)
  · intro a b hab hb t ht
    by_cases e : a = v ∧ b = r
    · obtain ⟨rfl, rfl⟩ := e
      exact h3 t ht
    · have ne : a * 48 + b ≠ v * 48 + r := by
        intro z
        exact e (by constructor <;> omega)
      rcases hab with hab | hab
      · rw [(h2 _ ne).1, (h2 _ ne).2]
        exact hT a b hab hb t ht
      · exact absurd hab e
  · intro b hb
    have ne : b * 48 + b ≠ v * 48 + r := by omega
    rw [(h2 _ ne).1, (h2 _ ne).2]
    exact hD b hb
theorem rTb_im {G : Geo} {SX : Nat → Nat → Int32} {P P' : Nat → Nat → Prop} (h : rTb G SX P) (i : ∀ a b, P' a b → P a b) : rTb G SX P' := fun a b hab => h a b (i a b hab)
theorem r3_tieToPosts {G : Geo} {SI : Nat → Int32} {SX : Nat → Nat → Int32} {P : Nat → Nat → Prop} {Q : (Nat → Int32) → (Nat → Nat → Int32) → Prop} {r : Nat} (hG : gok G) (hS : rS0 G SI SX) (hT : rTb G SX P) (hD : rDz SX) (hr : r < G 0 1) (hq : ∀ SX' : Nat → Nat → Int32, rSm SX SX' → rTb G SX' (fun a b => P a b ∨ (48 ≤ a ∧ a < 48 + G 0 2 ∧ b = r)) → rDz SX' → Q SI SX') : fX3_tieToPosts Q SI SX (nI r) := by
  have n48 := gok_nr hG
  have n8 := gok_ns hG
  have s2 : SI 2 = nI (G 0 2) := hS.2.2.1
  unfold fX3_tieToPosts
  refine pk_loop (σ := Nat → Nat → Int32) (fun n i s => fX3_tieToPosts_h2 Q n SI s (nI r) (nI i)) (fun i s => rSm SX s ∧ rTb G s (fun a b => P a b ∨ (48 ≤ a ∧ a < 48 + i ∧ b = r)) ∧ rDz s) (G 0 2) 0 SX (Nat.zero_le _) ⟨rSm_rf, rTb_im hT (fun a b h => h.elim id (fun z => by omega)), hD⟩ ?_ ?_
  · intro n s ⟨h1, h2, h3⟩
    unfold fX3_tieToPosts_h2
    rw [s2]
    exact ⟨fun _ => hq s h1 h2 h3, fun z => absurd (nI_le (Nat.le_refl _) (by omega)) z⟩
  · intro n i s hi ⟨h1, h2, h3⟩ ih
    unfold fX3_tieToPosts_h2 fX5_nodeOf
    rw [s2]
    refine ⟨fun z => absurd z (nI_ge hi (by omega)), fun _ => ?_⟩
    rw [show (48 : Int32) + nI i = nI (48 + i) from nI_add 48 i]
    refine r3_tieP hG (rS0_sm hS h1) h2 h3 (Or.inr ⟨by omega, by omega⟩) hr (by omega) (fun s' g1 g2 g3 => ?_)
    refine nm_r (nI_1 i) (ih s' ⟨rSm_tr h1 g1, rTb_im g2 (fun a b h => ?_), g3⟩)
    rcases h with h | h
    · exact Or.inl (Or.inl h)
    · by_cases e : a = 48 + i
      · exact Or.inr ⟨e, h.2.2⟩
      · exact Or.inl (Or.inr ⟨h.1, by omega, h.2.2⟩)
theorem r3_tieToRelays {G : Geo} {SI : Nat → Int32} {SX : Nat → Nat → Int32} {P : Nat → Nat → Prop} {Q : (Nat → Int32) → (Nat → Nat → Int32) → Prop} {r : Nat} (hG : gok G) (hS : rS0 G SI SX) (hT : rTb G SX P) (hD : rDz SX) (hr : r < G 0 1) (hq : ∀ SX' : Nat → Nat → Int32, rSm SX SX' → rTb G SX' (fun a b => P a b ∨ (a = r ∧ b < r) ∨ (a < r ∧ b = r)) → rDz SX' → Q SI SX') : fX3_tieToRelays Q SI SX (nI r) := by
  have n48 := gok_nr hG
  unfold fX3_tieToRelays
  refine pk_loop (σ := Nat → Nat → Int32) (fun n i s => fX3_tieToRelays_h2 Q n SI s (nI r) (nI i)) (fun i s => rSm SX s ∧ rTb G s (fun a b => P a b ∨ (a = r ∧ b < i) ∨ (a < i ∧ b = r)) ∧ rDz s) r 0 SX (Nat.zero_le _) ⟨rSm_rf, rTb_im hT (fun a b h => h.elim id (fun z => by omega)), hD⟩ ?_ ?_
  · intro n s ⟨h1, h2, h3⟩
    unfold fX3_tieToRelays_h2
    exact ⟨fun _ => hq s h1 h2 h3, fun z => absurd (nI_le (Nat.le_refl _) (by omega)) z⟩
  · intro n i s hi ⟨h1, h2, h3⟩ ih
    unfold fX3_tieToRelays_h2
    refine ⟨fun z => absurd z (nI_ge hi (by omega)), fun _ => ?_⟩
    refine r3_tieP hG (rS0_sm hS h1) h2 h3 (Or.inl hr) (by omega) (by omega) (fun s' g1 g2 g3 => ?_)
    refine r3_tieP hG (rS0_sm hS (rSm_tr h1 g1)) g2 g3 (Or.inl (by omega)) hr (by omega) (fun s2 f1 f2 f3 => ?_)
    refine nm_r (nI_1 i) (ih s2 ⟨rSm_tr (rSm_tr h1 g1) f1, rTb_im f2 (fun a b h => ?_), f3⟩)
    rcases h with h | h | h
    · exact Or.inl (Or.inl (Or.inl h))
    · by_cases e : b = i
      · exact Or.inl (Or.inr ⟨h.1, e⟩)
      · exact Or.inl (Or.inl (Or.inr (Or.inl ⟨h.1, by omega⟩)))
    · by_cases e : a = i
      · exact Or.inr ⟨e, h.2⟩
      · exact Or.inl (Or.inl (Or.inr (Or.inr ⟨by omega, h.2⟩)))
theorem r3_placeNode {SI : Nat → Int32} {SX : Nat → Nat → Int32} {Q : (Nat → Int32) → (Nat → Nat → Int32) → Prop} {v : Nat} {x2 x3 x4 : Int32} (hv : v < 56) (hq : ∀ SX' : Nat → Nat → Int32, (∀ k, k ≠ 4 → k ≠ 6 → k ≠ 7 → k ≠ 9 → SX' k = SX k) → SX' 7 = upd (SX 7) v x2 → SX' 6 = upd (SX 6) v x3 → SX' 9 = upd (SX 9) v x4 → SX' 4 = upd (SX 4) v 1 → Q SI SX') : fX3_placeNode Q SI SX (nI v) x2 x3 x4 := by
  unfold fX3_placeNode
  refine ⟨pk_in v 56 hv, ?_⟩
  rw [pk_cl v]
  refine nm_e ⟨pk_in v 56 hv, nm_e ⟨pk_in v 56 hv, nm_e ⟨pk_in v 56 hv, nm_e ?_⟩⟩⟩
  refine hq _ (fun k h1 h2 h3 h4 => ?_) ?_ ?_ ?_ ?_
  · simp [va_up, h1, h2, h3, h4]
  · simp [va_up]
  · simp [va_up]
  · simp [va_up]
  · have e : vp_nar .boolean (1 : Int32) = 1 := by decide
    simp [va_up, e]
def gAP (G : Geo) (a b c : Nat) : Geo := fun k i => if k = 0 ∧ i = 2 then G 0 2 + 1 else if k = 10 ∧ i = G 0 2 then a else if k = 11 ∧ i = G 0 2 then b else if k = 12 ∧ i = G 0 2 then c else G k i
theorem gAP_k {G : Geo} {a b c k i : Nat} (h0 : ¬ (k = 0 ∧ i = 2)) (h : k < 10) : gAP G a b c k i = G k i := by
  unfold gAP
  rw [if_neg h0, if_neg (by omega), if_neg (by omega), if_neg (by omega)]
theorem gAP_2 {G : Geo} {a b c : Nat} : gAP G a b c 0 2 = G 0 2 + 1 := by
  unfold gAP
  rw [if_pos ⟨rfl, rfl⟩]
theorem gAP_o {G : Geo} {a b c k i : Nat} (h0 : ¬ (k = 0 ∧ i = 2)) (h : i ≠ G 0 2) : gAP G a b c k i = G k i := by
  unfold gAP
  rw [if_neg h0, if_neg (fun z => h z.2), if_neg (fun z => h z.2), if_neg (fun z => h z.2)]
theorem gAP_10 {G : Geo} {a b c : Nat} : gAP G a b c 10 (G 0 2) = a := by unfold gAP; rw [if_neg (by omega), if_pos ⟨rfl, rfl⟩]
theorem gAP_11 {G : Geo} {a b c : Nat} : gAP G a b c 11 (G 0 2) = b := by unfold gAP; rw [if_neg (by omega), if_neg (by omega), if_pos ⟨rfl, rfl⟩]
theorem gAP_12 {G : Geo} {a b c : Nat} : gAP G a b c 12 (G 0 2) = c := by unfold gAP; rw [if_neg (by omega), if_neg (by omega), if_neg (by omega), if_pos ⟨rfl, rfl⟩]
theorem gAP_fn {G : Geo} {a b c k : Nat} (h0 : k ≠ 0) (h : k < 10) : gAP G a b c k = G k := funext (fun i => gAP_k (fun z => h0 z.1) h)
theorem gAP_ok {G : Geo} {a b c : Nat} (hG : gok G) (h : G 0 2 < 8) (ha : a < 32) (hb : b < 6) (hc : c ≤ 8) : gok (gAP G a b c) := by
  obtain ⟨g1, g2, g3, g4, g5, g6, g7, g8, g9, g10⟩ := hG
  have e0 : gAP G a b c 0 0 = G 0 0 := gAP_k (by omega) (by omega)
  have e1 : gAP G a b c 0 1 = G 0 1 := gAP_k (by omega) (by omega)
  unfold gok
  rw [e0, e1, gAP_2, gAP_fn (k := 5) (by decide) (by decide), gAP_fn (k := 3) (by decide) (by decide), gAP_fn (k := 4) (by decide) (by decide), gAP_fn (k := 7) (by decide) (by decide), gAP_fn (k := 8) (by decide) (by decide)]
  refine ⟨g1, g2, by omega, g4, g5, g6, g7, g8, g9, fun j hj => ?_⟩
  by_cases e : j = G 0 2
  · rw [e, gAP_10, gAP_11, gAP_12]; exact ⟨ha, hb, hc⟩
  · rw [gAP_o (by omega) e, gAP_o (by omega) e, gAP_o (by omega) e]; exact g10 j (by omega)
theorem gAP_pl {G : Geo} {a b c r t : Nat} : gpl (gAP G a b c) r t = gpl G r t := by
  unfold gpl
  rw [gAP_fn (k := 5) (by decide) (by decide), gAP_fn (k := 3) (by decide) (by decide), gAP_fn (k := 4) (by decide) (by decide), gAP_fn (k := 7) (by decide) (by decide)]
theorem gAP_th {G : Geo} {a b c v r t : Nat} (h : v ≠ 48 + G 0 2) : gth (gAP G a b c) v r t = gth G v r t := by
  unfold gth glk gse gsz
  rw [gAP_pl, gAP_pl, gAP_fn (k := 5) (by decide) (by decide), gAP_fn (k := 7) (by decide) (by decide)]
  by_cases q : v < 48
  · rw [if_pos q, if_pos q]
  · rw [if_neg q, if_neg q, gAP_o (by omega) (by omega), gAP_o (by omega) (by omega), gAP_o (by omega) (by omega)]
theorem gAP_ln {G : Geo} {a b c v r : Nat} : gln (gAP G a b c) v r = gln G v r := by
  unfold gln
  rw [gAP_fn (k := 7) (by decide) (by decide)]
theorem gAP_up {G : Geo} {a b c v : Nat} (hG : gok G) : gup (gAP G a b c) v = decide (gup G v = true ∨ v = 48 + G 0 2) := by
  have n48 := gok_nr hG
  unfold gup
  rw [gAP_fn (k := 8) (by decide) (by decide), gAP_2, gAP_k (k := 0) (i := 1) (by omega) (by omega)]
  refine decide_eq_decide.mpr ?_
  rw [decide_eq_true_iff]
  omega
theorem r3_addPost {G : Geo} {SI : Nat → Int32} {SX : Nat → Nat → Int32} {Q : Int32 → (Nat → Int32) → (Nat → Nat → Int32) → Prop} {a b c : Nat} (hG : gok G) (hS : rS G SI SX) (h8 : G 0 2 < 8) (ha : a < 32) (hb : b < 6) (hc : c ≤ 8) (hq : ∀ SI' SX', rS (gAP G a b c) SI' SX' → SI' 3 = SI 3 + 1 → Q (nI (G 0 2)) SI' SX') : fX3_addPost Q SI SX (nI a) (nI b) (nI c) := by
  have n48 := gok_nr hG
  have hG' := gAP_ok (G := G) (a := a) (b := b) (c := c) hG h8 ha hb hc
  obtain ⟨hS0, hSt, hSd⟩ := hS
  obtain ⟨s0, s1, s2, s5, s4, sr, sj, s8⟩ := id hS0
  have e1 : gAP G a b c 0 1 = G 0 1 := gAP_k (by omega) (by omega)
  unfold fX3_addPost fX5_nodeOf
  refine nm_r s2 ?_
  rw [show (48 : Int32) + nI (G 0 2) = nI (48 + G 0 2) from nI_add 48 _]
  refine r3_placeNode (by omega) (fun SX1 k1 k7 k6 k9 k4 => ?_)
  refine nm_e ?_
  have hS1 : rS0 (gAP G a b c) (upd SI 2 (nI (G 0 2) + 1)) SX1 := by
    refine ⟨?_, ?_, ?_, ?_, ?_, ?_, ?_, ?_⟩
    · rw [gAP_k (by omega) (by omega)]; exact s0
    · rw [e1]; exact s1
    · rw [gAP_2]; exact nI_1 _
    · intro p hp
      rw [k1 5 (by decide) (by decide) (by decide) (by decide), gAP_k (by omega) (by omega)]; exact s5 p hp
    · intro v hv
      rw [k4, gAP_up hG]
      by_cases e : v = 48 + G 0 2
      · rw [e, pk_us, ite01 (by simp)]
      · rw [pk_un e, s4 v hv]
        congr 1
        simp [e]
    · intro r hr
      rw [e1] at hr
      obtain ⟨r1, r2, r3, r4⟩ := sr r hr
      rw [k6, k7, k9, pk_un (by omega), pk_un (by omega), pk_un (by omega), k1 8 (by decide) (by decide) (by decide) (by decide), gAP_fn (k := 5) (by decide) (by decide), gAP_fn (k := 3) (by decide) (by decide), gAP_fn (k := 4) (by decide) (by decide), gAP_fn (k := 7) (by decide) (by decide)]
      exact ⟨r1, r2, r3, r4⟩
    · intro j hj
      rw [gAP_2] at hj
      rw [k6, k7, k9]
      by_cases e : j = G 0 2
      · rw [e, pk_us, pk_us, pk_us, gAP_10, gAP_11, gAP_12]; exact ⟨rfl, rfl, rfl⟩
      · rw [pk_un (by omega), pk_un (by omega), pk_un (by omega), gAP_o (by omega) e, gAP_o (by omega) e, gAP_o (by omega) e]
        exact sj j (by omega)
    · intro j hj
      rw [k1 8 (by decide) (by decide) (by decide) (by decide)]; exact s8 j hj
  have k10 := k1 10 (by decide) (by decide) (by decide) (by decide)
  have k11 := k1 11 (by decide) (by decide) (by decide) (by decide)
  have hT1 : rTb (gAP G a b c) SX1 (fun v r => gva G v ∧ r < G 0 1) := by
    intro v r hvr hr48 t ht
    have nv : v ≠ 48 + G 0 2 := by rcases hvr.1 with z | z <;> omega
    rw [k10, k11, gAP_th nv, gAP_th nv, gAP_th nv, gAP_ln]
    exact hSt v r hvr.1 hvr.2 t ht
  have hD1 : rDz SX1 := by
    intro r hr
    rw [k10, k11]; exact hSd r hr
  have s1' : upd SI 2 (nI (G 0 2) + 1) 1 = nI (G 0 1) := s1
  refine pk_loop (σ := Nat → Nat → Int32) (fun n i s => fX3_addPost_h29 Q n (upd SI 2 (nI (G 0 2) + 1)) s (nI (G 0 2)) (nI i)) (fun i s => rSm SX1 s ∧ rTb (gAP G a b c) s (fun v r => (gva G v ∧ r < G 0 1) ∨ (v = 48 + G 0 2 ∧ r < i)) ∧ rDz s) (G 0 1) 0 SX1 (Nat.zero_le _) ⟨rSm_rf, rTb_im hT1 (fun a b h => h.elim id (fun z => by omega)), hD1⟩ ?_ ?_
  · intro n s ⟨h1, h2, h3⟩
    unfold fX3_addPost_h29
    rw [s1']
    refine ⟨fun _ => nm_e (hq _ s ⟨?_, fun v r hv hr t ht => ?_, h3⟩ rfl), fun z => absurd (nI_le (Nat.le_refl _) (by omega)) z⟩
    · exact rS0_sm hS1 h1
    · rw [e1] at hr
      refine h2 v r ?_ (by omega) t ht
      rcases hv with hv | hv
      · rw [e1] at hv; exact Or.inl ⟨Or.inl hv, hr⟩
      · rw [gAP_2] at hv
        by_cases e : v = 48 + G 0 2
        · exact Or.inr ⟨e, hr⟩
        · exact Or.inl ⟨Or.inr (by omega), hr⟩
  · intro n i s hi ⟨h1, h2, h3⟩ ih
    unfold fX3_addPost_h29 fX5_nodeOf
    rw [s1']
    refine ⟨fun z => absurd z (nI_ge hi (by omega)), fun _ => ?_⟩
    rw [show (48 : Int32) + nI (G 0 2) = nI (48 + G 0 2) from nI_add 48 _]
    refine r3_tieP hG' (rS0_sm hS1 h1) h2 h3 (Or.inr ⟨by omega, by rw [gAP_2]; omega⟩) (by rw [e1]; exact hi) (by omega) (fun s' g1 g2 g3 => ?_)
    refine nm_r (nI_1 i) (ih s' ⟨rSm_tr h1 g1, rTb_im g2 (fun a b h => ?_), g3⟩)
    rcases h with h | h
    · exact Or.inl (Or.inl h)
    · by_cases e : b = i
      · exact Or.inr ⟨h.1, e⟩
      · exact Or.inl (Or.inr ⟨h.1, by omega⟩)

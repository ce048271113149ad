/-! the class's ways: how late one comes to a post -/
def gR (G : Geo) (j d v t : Nat) : Prop := dR (G 0 1) (fun v u t => gTk G v u t = true) (gln G) (48 + j) d v t
def gD (G : Geo) (j v t x : Nat) : Prop := dL (G 0 1) (fun v u t => gTk G v u t = true) (gln G) (48 + j) v t x
theorem gTk_perI (G : Geo) (v u t : Nat) : gTk G v u (t + 32) = true ↔ gTk G v u t = true := by rw [gTk_per]
theorem gR_per (G : Geo) (j d v t : Nat) : gR G j d v (t + 32) ↔ gR G j d v t := dR_per (gTk_perI G) d v t
theorem gR_mod (G : Geo) (j d v t : Nat) : gR G j d v (t % 32) ↔ gR G j d v t := per_mod (P := fun t => gR G j d v t) (fun t => gR_per G j d v t) t
theorem gTk_up {G : Geo} {v u t : Nat} (h : gTk G v u t = true) : gup G v = true ∧ gup G u = true := by
  unfold gTk at h
  rw [Bool.and_eq_true, Bool.and_eq_true, Bool.and_eq_true, Bool.and_eq_true] at h
  exact h.1.1.1
theorem gTk_th {G : Geo} {v u t : Nat} (h : gTk G v u t = true) : gth G v u t = true := by
  unfold gTk at h
  rw [Bool.and_eq_true, Bool.and_eq_true, Bool.and_eq_true] at h
  exact h.1.1.2
theorem gR_up {G : Geo} {j d v t : Nat} (h : gR G j d v t) : gup G v = true := by
  induction d generalizing t with
  | zero => exact absurd h dR_0
  | succ d ih =>
    rcases dR_s.mp h with h | h | h | ⟨u, a, b, c⟩
    · exact ih h
    · exact ih h
    · exact (gTk_up h.2).2
    · exact (gTk_up b).1
theorem r4_note {nW : Nat} {wd : Nat → Nat → Nat} {j : Nat} {Q : (Nat → Nat → Int32) → (Nat → Nat → Nat) → (Nat → Nat → Int32) → (Nat → Nat → Nat → Int32) → Prop} {WI : Nat → Nat → Int32} {WR : Nat → Nat → Nat} {WL : Nat → Nat → Int32} {WX : Nat → Nat → Nat → Int32} {v : Nat} {fresh x : Int32} (hj : j < nW) (hv : v < 56) (hq : ∀ WL' : Nat → Nat → Int32, (∀ i, i ≠ j → WL' i = WL i) → (∀ k, (∀ t, t < 32 → k ≠ v * 32 + t) → WL' j k = WL j k) → (∀ t, t < 32 → WL' j (v * 32 + t) = if ib fresh t = true then x else WL j (v * 32 + t)) → Q WI WR WL' WX) : fX4_note nW wd j Q WI WR WL WX (nI v) fresh x := by
  unfold fX4_note
  refine pk_loop (σ := Nat → Nat → Int32) (fun n i s => fX4_note_h3 nW wd j Q n WI WR s WX (nI v) fresh x (nI i)) (fun i s => (∀ i, i ≠ j → s i = WL i) ∧ (∀ k, (∀ t, t < 32 → k ≠ v * 32 + t) → s j k = WL j k) ∧ (∀ t, t < 32 → s j (v * 32 + t) = if t < i ∧ ib fresh t = true then x else WL j (v * 32 + t))) 32 0 WL (by decide) ⟨fun _ _ => rfl, fun _ _ => rfl, fun t _ => by rw [if_neg (by omega)]⟩ ?_ ?_
  · intro n s ⟨h1, h2, h3⟩
    unfold fX4_note_h3
    refine ⟨fun _ => hq s h1 h2 (fun t ht => ?_), fun z => absurd (by decide) z⟩
    rw [h3 t ht]
    by_cases q : ib fresh t = true
    · rw [if_pos ⟨ht, q⟩, if_pos q]
    · rw [if_neg (fun z => q z.2), if_neg q]
  · intro n i s hi ⟨h1, h2, h3⟩ ih
    unfold fX4_note_h3 fX4_note_b32
    refine ⟨fun z => absurd z (nI_ge (b := 32) hi (by decide)), fun _ => ?_⟩
    refine ⟨fun z => ?_, fun z => ?_⟩
    · have y := (ib_sh hi).mp z
      refine nm_r (nI_1 i) (ih s ⟨h1, h2, fun t ht => ?_⟩)
      rw [h3 t ht]
      by_cases e : t = i
      · subst e
        rw [if_neg (by omega), if_neg (by rw [y]; simp)]
      · by_cases q : t < i ∧ ib fresh t = true
        · rw [if_pos q, if_pos ⟨by omega, q.2⟩]
        · rw [if_neg q, if_neg (fun w => q ⟨by omega, w.2⟩)]
    · have y : ib fresh i = true := by
        cases c : ib fresh i
        · exact absurd ((ib_sh hi).mpr c) z
        · rfl
      refine ⟨hj, hj, ?_⟩
      rw [show nI v * (32 : Int32) + nI i = nI (v * 32 + i) by rw [show (32 : Int32) = nI 32 from rfl, pk_mul, nI_add]]
      refine ⟨pk_in (v * 32 + i) 1792 (by omega), ?_⟩
      rw [pk_cl (v * 32 + i)]
      refine nm_e (nm_r (nI_1 i) (ih _ ⟨fun k hk => ?_, fun k hk => ?_, fun t ht => ?_⟩))
      · simp only [va_up, if_neg hk]; exact h1 k hk
      · simp only [va_up, if_true, upd]
        rw [if_neg (hk i hi)]
        exact h2 k hk
      · simp only [va_up, if_true, upd]
        by_cases e : t = i
        · subst e
          rw [if_pos rfl, if_pos ⟨by omega, y⟩]
        · rw [if_neg (by omega), h3 t ht]
          by_cases q : t < i ∧ ib fresh t = true
          · rw [if_pos q, if_pos ⟨by omega, q.2⟩]
          · rw [if_neg q, if_neg (fun w => q ⟨by omega, w.2⟩)]
/-- a row of sets of ticks: within d ticks -/
def wRow (G : Geo) (j d : Nat) (f : Nat → Int32) : Prop := ∀ v, v < 56 → v ≠ 48 + j → ∀ t, t < 32 → (ib (f v) t = true ↔ gR G j d v t)
theorem r4_overLinks {G : Geo} {SI : Nat → Int32} {SX : Nat → Nat → Int32} {nW : Nat} {WI : Nat → Nat → Int32} {WR : Nat → Nat → Nat} {WL : Nat → Nat → Int32} {WX : Nat → Nat → Nat → Int32} {wd : Nat → Nat → Nat} {j d v : Nat} {Q : Int32 → Prop} (hG : gok G) (hS : rS G SI SX) (hj : j < nW) (hjn : j < G 0 2) (h1 : WI j 1 = nI (48 + j)) (hk4 : wk (WR j 4)) (hk5 : wk (WR j 5)) (hw : wRow G j d (WX (WR j 4) j)) (hs : wRow G j (d - 1) (WX (WR j 5) j)) (hv : gup G v = true) (hve : v ≠ 48 + j) (hq : ∀ x : Int32, (∀ t, t < 32 → (ib x t = true ↔ ((v < 48 ∧ gTk G (48 + j) v t = true) ∨ ∃ u, u < G 0 1 ∧ gTk G v u t = true ∧ ((gln G v u = 1 ∧ gR G j d u (t + 1)) ∨ (gln G v u = 2 ∧ gR G j (d - 1) u (t + 2)))))) → Q x) : fX4_overLinks SI SX nW WI WR WL WX wd j Q (nI v) := by
  have n48 := gok_nr hG
  have n8 := gok_ns hG
  have va := gup_va hv
  have v56 := gva_56 hG va
  have gl := gnt_le hG v
  have fin : ∀ b : Int32, (∀ t, t < 32 → (ib b t = true ↔ (v < 48 ∧ gTk G (48 + j) v t = true))) → fX4_overLinks_b23 SI SX nW WI WR WL WX wd j Q (nI v) b := by
    intro b hb
    unfold fX4_overLinks_b23
    refine ⟨hj, r3_nearTo hG hS.1 va ⟨hj, r3_nearFrom hG hS.1 va ?_⟩⟩
    by_cases hle : gnf G v ≤ gnt G v
    · refine pk_loop (σ := Int32) (fun n i x => fX4_overLinks_h43 SI SX nW WI WR WL WX wd j Q n (nI v) x (nI (gnt G v)) (nI i)) (fun i x => ∀ t, t < 32 → (ib x t = true ↔ ((v < 48 ∧ gTk G (48 + j) v t = true) ∨ ∃ u, u < i ∧ u < G 0 1 ∧ gTk G v u t = true ∧ ((gln G v u = 1 ∧ gR G j d u (t + 1)) ∨ (gln G v u = 2 ∧ gR G j (d - 1) u (t + 2)))))) (gnt G v) (gnf G v) b hle ?_ ?_ ?_
      · intro t ht
        rw [hb t ht]
        refine ⟨Or.inl, fun h => ?_⟩
        rcases h with h | ⟨u, a, a2, b2, _⟩
        · exact h
        · have := (gth_near hG (gpn_lt hG va) a2 (gTk_th b2)).1
          omega
      · intro n x hx
        unfold fX4_overLinks_h43
        refine ⟨fun _ => hq x (fun t ht => ?_), fun z => absurd (nI_le (Nat.le_refl _) (by omega)) z⟩
        rw [hx t ht]
        refine ⟨fun h => ?_, fun h => ?_⟩
        · rcases h with h | ⟨u, a, a2, b2, c⟩
          · exact Or.inl h
          · exact Or.inr ⟨u, a2, b2, c⟩
        · rcases h with h | ⟨u, a2, b2, c⟩
          · exact Or.inl h
          · exact Or.inr ⟨u, (gth_near hG (gpn_lt hG va) a2 (gTk_th b2)).2, a2, b2, c⟩
      · intro n i x hi hx ih
        unfold fX4_overLinks_h43 fX4_overLinks_b121 fX4_overLinks_b124
        refine ⟨fun z => absurd z (nI_ge hi (by omega)), fun _ => ?_⟩
        refine ⟨hj, hj, hk4, pk_in i 56 (by omega), ?_⟩
        rw [pk_cl i]
        have hwi := hw i (by omega) (by omega)
        have hsi := hs i (by omega) (by omega)
        have skip : (∀ t, t < 32 → ¬ (gTk G v i t = true ∧ ((gln G v i = 1 ∧ gR G j d i (t + 1)) ∨ (gln G v i = 2 ∧ gR G j (d - 1) i (t + 2))))) → fX4_overLinks_h43 SI SX nW WI WR WL WX wd j Q n (nI v) x (nI (gnt G v)) (nI (i + 1)) := by
          intro hno
          refine ih x (fun t ht => ?_)
          rw [hx t ht]
          refine ⟨fun h => ?_, fun h => ?_⟩
          · rcases h with h | ⟨u, a, c⟩
            · exact Or.inl h
            · exact Or.inr ⟨u, by omega, c⟩
          · rcases h with h | ⟨u, a, a2, c⟩
            · exact Or.inl h
            · by_cases e : u = i
              · subst e; exact absurd c (hno t ht)
              · exact Or.inr ⟨u, by omega, a2, c⟩
        have add : ∀ y : Int32, (∀ t, t < 32 → (ib y t = true ↔ (gTk G v i t = true ∧ ((gln G v i = 1 ∧ gR G j d i (t + 1)) ∨ (gln G v i = 2 ∧ gR G j (d - 1) i (t + 2)))))) → fX4_overLinks_h43 SI SX nW WI WR WL WX wd j Q n (nI v) (x ||| y) (nI (gnt G v)) (nI (i + 1)) := by
          intro y hy
          refine ih _ (fun t ht => ?_)
          rw [ib_or, Bool.or_eq_true, hx t ht, hy t ht]
          refine ⟨fun h => ?_, fun h => ?_⟩
          · rcases h with (h | ⟨u, a, c⟩) | h
            · exact Or.inl h
            · exact Or.inr ⟨u, by omega, c⟩
            · exact Or.inr ⟨i, by omega, by omega, h⟩
          · rcases h with h | ⟨u, a, a2, c⟩
            · exact Or.inl (Or.inl h)
            · by_cases e : u = i
              · subst e; exact Or.inr c
              · exact Or.inl (Or.inr ⟨u, by omega, a2, c⟩)
        refine ⟨fun _ => ?_, fun z => ?_⟩
        · refine ⟨hj, r3_ticksToTake hG hS v56 (by omega) (fun T hT => ?_)⟩
          refine ⟨fun z => ?_, fun z => ?_⟩
          · refine nm_r (nI_1 i) (skip (fun t ht h => ?_))
            have := hT t ht
            rw [h.1, z, ib_0] at this
            exact Bool.noConfusion this
          · refine ⟨hj, r3_lengthOf hG hS.1 va (Or.inl (by omega)) ?_⟩
            rcases gln_12 G v i with l | l
            · rw [l]
              refine ⟨fun _ => ?_, fun z => absurd z (by decide)⟩
              refine ⟨hj, hj, hk4, pk_in i 56 (by omega), ?_⟩
              refine r5_ahead 1 (Or.inl rfl) (fun y hy => ?_)
              refine nm_e (nm_r (nI_1 i) (add _ (fun t ht => ?_)))
              rw [ib_and, Bool.and_eq_true, hT t ht, hy t ht, hwi _ (Nat.mod_lt _ (by decide)), gR_mod, l]
              simp
            · rw [l]
              refine ⟨fun z => absurd rfl z, fun _ => ?_⟩
              refine ⟨hj, hj, hk5, pk_in i 56 (by omega), ?_⟩
              refine r5_ahead 2 (Or.inr rfl) (fun y hy => ?_)
              refine nm_e (nm_r (nI_1 i) (add _ (fun t ht => ?_)))
              rw [ib_and, Bool.and_eq_true, hT t ht, hy t ht, hsi _ (Nat.mod_lt _ (by decide)), gR_mod, l]
              simp
        · refine nm_r (nI_1 i) (skip (fun t ht h => ?_))
          have no : ∀ t, ¬ gR G j d i t := by
            intro t hr
            have := (hwi (t % 32) (Nat.mod_lt _ (by decide))).mpr ((gR_mod G j d i t).mpr hr)
            rw [z, ib_0] at this
            exact Bool.noConfusion this
          rcases h.2 with h2 | h2
          · exact no _ h2.2
          · exact no _ (dR_mono (by omega) h2.2)
    · refine ⟨0 + 1, ?_⟩
      unfold fX4_overLinks_h43
      refine ⟨fun _ => hq b (fun t ht => ?_), fun z => absurd (nI_le (by omega) ?_) z⟩
      · rw [hb t ht]
        refine ⟨Or.inl, fun h => ?_⟩
        rcases h with h | ⟨u, a2, b2, _⟩
        · exact h
        · have := gth_near hG (gpn_lt hG va) a2 (gTk_th b2)
          omega
      · have : gnf G v ≤ G 0 1 := by
          unfold gnf
          exact gok_5r hG (by have := gpn_lt hG va; omega)
        omega
  unfold fX4_overLinks
  refine r5_isRelay (by omega) ?_
  by_cases q : v < 48
  · rw [if_pos q]
    refine ⟨fun z => absurd z (by decide), fun _ => ⟨hj, hj, ?_⟩⟩
    rw [h1]
    refine r3_ticksToTake hG hS (by omega) q (fun T hT => fin T (fun t ht => ?_))
    rw [hT t ht]
    exact ⟨fun h => ⟨q, h⟩, fun h => h.2⟩
  · rw [if_neg q]
    refine ⟨fun _ => fin 0 (fun t ht => ?_), fun z => absurd rfl z⟩
    rw [ib_0]
    exact ⟨fun h => Bool.noConfusion h, fun h => absurd h.1 q⟩
/-- what is noted of lateness, when all that takes at most d ticks is known -/
def wLd (G : Geo) (j d v : Nat) (f : Nat → Int32) : Prop := ∀ t, t < 32 → (∃ m, m ≤ d ∧ f (v * 32 + t) = nI m ∧ gR G j m v t ∧ ∀ d', gR G j d' v t → m ≤ d') ∨ (f (v * 32 + t) = -1 ∧ ¬ gR G j d v t)
def wPm (f : Nat → Nat) : Prop := wk (f 4) ∧ wk (f 5) ∧ wk (f 6) ∧ f 4 ≠ f 5 ∧ f 4 ≠ f 6 ∧ f 5 ≠ f 6
theorem r4_grow {G : Geo} {SI : Nat → Int32} {SX : Nat → Nat → Int32} {nW : Nat} {wd : Nat → Nat → Nat} {j d : Nat} {Q : Int32 → (Nat → Nat → Int32) → (Nat → Nat → Nat) → (Nat → Nat → Int32) → (Nat → Nat → Nat → Int32) → Prop} {WI : Nat → Nat → Int32} {WR : Nat → Nat → Nat} {WL : Nat → Nat → Int32} {WX : Nat → Nat → Nat → Int32} (hG : gok G) (hS : rS G SI SX) (hj : j < nW) (hjn : j < G 0 2) (h1 : WI j 1 = nI (48 + j)) (hp : wPm (WR j)) (hw : wRow G j d (WX (WR j 4) j)) (hw0 : WX (WR j 4) j (48 + j) = 0) (hs : wRow G j (d - 1) (WX (WR j 5) j)) (hl : ∀ v, v < 56 → v ≠ 48 + j → wLd G j d v (WL j))
    (hq : ∀ (more : Int32) (WR' : Nat → Nat → Nat) (WL' : Nat → Nat → Int32) (WX' : Nat → Nat → Nat → Int32), (∀ i, i ≠ j → WR' i = WR i) → (∀ i, i ≠ j → WL' i = WL i) → (∀ k i, i ≠ j → WX' k i = WX k i) → wPm (WR' j) → wRow G j (d + 1) (WX' (WR' j 4) j) → WX' (WR' j 4) j (48 + j) = 0 → wRow G j d (WX' (WR' j 5) j) → (∀ v, v < 56 → v ≠ 48 + j → wLd G j (d + 1) v (WL' j)) → (more = 0 → ∀ v t, v < 56 → v ≠ 48 + j → gR G j (d + 1) v t → gR G j d v t) → Q more WI WR' WL' WX') : fX4_grow SI SX nW wd j Q WI WR WL WX (nI (d + 1)) := by
  have n48 := gok_nr hG
  have n8 := gok_ns hG
  obtain ⟨p4, p5, p6, p45, p46, p56⟩ := id hp
  unfold fX4_grow
  refine pk_loop (σ := Int32 × (Nat → Nat → Int32) × (Nat → Nat → Nat → Int32)) (fun n i s => fX4_grow_h4 SI SX nW wd j Q n WI WR s.2.1 s.2.2 (nI (d + 1)) s.1 (nI i)) (fun i s => (s.1 = 0 ∨ s.1 = 1) ∧ (∀ k, k ≠ j → s.2.1 k = WL k) ∧ (∀ k a, a ≠ j → s.2.2 k a = WX k a) ∧ s.2.2 (WR j 4) j = WX (WR j 4) j ∧ s.2.2 (WR j 5) j = WX (WR j 5) j ∧ (∀ v, v < i → v ≠ 48 + j → ∀ t, t < 32 → (ib (s.2.2 (WR j 6) j v) t = true ↔ gR G j (d + 1) v t)) ∧ (48 + j < i → s.2.2 (WR j 6) j (48 + j) = 0) ∧ (∀ v, v < i → v ≠ 48 + j → wLd G j (d + 1) v (s.2.1 j)) ∧ (∀ v, i ≤ v → v < 56 → v ≠ 48 + j → wLd G j d v (s.2.1 j)) ∧ (s.1 = 0 → ∀ v t, v < i → v ≠ 48 + j → gR G j (d + 1) v t → gR G j d v t)) 56 0 (0, WL, WX) (by decide) ?_ ?_ ?_
  · refine ⟨Or.inl rfl, fun _ _ => rfl, fun _ _ _ => rfl, rfl, rfl, ?_, ?_, ?_, ?_, ?_⟩
    · intro v hv; omega
    · intro hv; omega
    · intro v hv; omega
    · intro v _ hv hne; exact hl v hv hne
    · intro _ v t hv; omega
  · intro n s ⟨a1, a2, a3, a4, a5, a6, a7, a8, a9, a10⟩
    unfold fX4_grow_h4
    refine ⟨fun _ => ?_, fun z => absurd (by decide) z⟩
    refine ⟨hj, hj, hj, nm_e ⟨hj, hj, nm_e ⟨hj, nm_e ⟨?_, ?_⟩⟩⟩⟩
    · rcases a1 with e | e <;> (rw [e]; unfold vz; decide)
    · refine hq s.1 _ s.2.1 s.2.2 (fun i hi => ?_) a2 a3 ?_ ?_ ?_ ?_ (fun v hv hne => a8 v hv hne) (fun z v t hv => a10 z v t hv)
      · simp [va_up, hi]
      · simp only [va_up, if_true]
        exact ⟨p6, p4, p5, fun z => p46 z.symm, fun z => p56 z.symm, p45⟩
      · intro v hv hne t ht
        simp only [va_up, if_true]
        exact a6 v hv hne t ht
      · simp only [va_up, if_true]
        exact a7 (by omega)
      · intro v hv hne t ht
        have e : s.2.2 (WR j 4) j v = WX (WR j 4) j v := by rw [a4]
        simp only [va_up, if_true]
        show ib (s.2.2 (WR j 4) j v) t = true ↔ _
        rw [e]
        exact hw v hv hne t ht
  · intro n i s hi ⟨a1, a2, a3, a4, a5, a6, a7, a8, a9, a10⟩ ih
    unfold fX4_grow_h4
    refine ⟨fun z => absurd z (nI_ge (b := 56) hi (by decide)), fun _ => ?_⟩
    refine ⟨hj, hj, p4, pk_in i 56 hi, ?_⟩
    rw [pk_cl i, a4, h1]
    -- behind the reckoning: 'all' is what takes one tick more
    have fin : ∀ all : Int32, (i ≠ 48 + j → ∀ t, t < 32 → (ib all t = true ↔ gR G j (d + 1) i t)) → (i = 48 + j → all = 0) → fX4_grow_b64 SI SX nW wd j (fun a0 a1 a2 a3 a4 a5 a6 => fX4_grow_h4 SI SX nW wd j Q n a0 a1 a2 a3 a4 a5 a6) Q WI WR s.2.1 s.2.2 (nI (d + 1)) s.1 (nI i) (WX (WR j 4) j i) all := by
      intro all hall hend
      unfold fX4_grow_b64 fX4_grow_b94
      refine ⟨hj, hj, p6, pk_in i 56 hi, ?_⟩
      rw [pk_cl i]
      refine nm_e ?_
      have hW : ∃ W2 : Nat → Nat → Nat → Int32, W2 = va_up s.2.2 (WR j 6) (va_up (s.2.2 (WR j 6)) j (upd (s.2.2 (WR j 6) j) i all)) := ⟨_, rfl⟩
      obtain ⟨W2, eW⟩ := hW
      rw [← eW]
      have x1 : ∀ k a, a ≠ j → W2 k a = WX k a := by
        intro k a ha
        rw [eW]
        by_cases e : k = WR j 6
        · subst e
          have z : va_up s.2.2 (WR j 6) (va_up (s.2.2 (WR j 6)) j (upd (s.2.2 (WR j 6) j) i all)) (WR j 6) a = s.2.2 (WR j 6) a := by simp [va_up, ha]
          rw [z]; exact a3 _ a ha
        · have z : va_up s.2.2 (WR j 6) (va_up (s.2.2 (WR j 6)) j (upd (s.2.2 (WR j 6) j) i all)) k a = s.2.2 k a := by simp [va_up, e]
          rw [z]; exact a3 k a ha
      have x4 : W2 (WR j 4) j = WX (WR j 4) j := by
        rw [eW]; simp only [va_up, if_neg p46]; exact a4
      have x5 : W2 (WR j 5) j = WX (WR j 5) j := by
        rw [eW]; simp only [va_up, if_neg p56]; exact a5
      have x6 : W2 (WR j 6) j = upd (s.2.2 (WR j 6) j) i all := by
        rw [eW]; simp only [va_up, if_true]
      have x7 : ∀ v, v < i + 1 → v ≠ 48 + j → ∀ t, t < 32 → (ib (upd (s.2.2 (WR j 6) j) i all v) t = true ↔ gR G j (d + 1) v t) := by
        intro v hv hne t ht
        by_cases e : v = i
        · subst e; rw [pk_us]; exact hall hne t ht
        · rw [pk_un e]; exact a6 v (by omega) hne t ht
      have x8 : 48 + j < i + 1 → upd (s.2.2 (WR j 6) j) i all (48 + j) = 0 := by
        intro h
        by_cases e : 48 + j = i
        · rw [e, pk_us]; exact hend e.symm
        · rw [pk_un e]; exact a7 (by omega)
      refine ⟨fun z => ?_, fun z => ⟨hj, ?_⟩⟩
      · -- nothing new here
        have same : i ≠ 48 + j → ∀ t, gR G j (d + 1) i t → gR G j d i t := by
          intro hne t hr
          have y := (hall hne (t % 32) (Nat.mod_lt _ (by decide))).mpr ((gR_mod G j (d + 1) i t).mpr hr)
          rw [z] at y
          exact (gR_mod G j d i t).mp ((hw i hi hne _ (Nat.mod_lt _ (by decide))).mp y)
        refine nm_r (nI_1 i) (ih (s.1, s.2.1, W2) ⟨a1, a2, x1, x4, x5, ?_, ?_, ?_, ?_, ?_⟩)
        · intro v hv hne t ht
          show ib (W2 (WR j 6) j v) t = true ↔ _
          rw [x6]; exact x7 v hv hne t ht
        · intro h
          show W2 (WR j 6) j (48 + j) = 0
          rw [x6]; exact x8 h
        · intro v hv hne
          by_cases e : v = i
          · subst e
            intro t ht
            rcases a9 v (Nat.le_refl _) hi hne t ht with ⟨m, b1, b2, b3, b4⟩ | ⟨b1, b2⟩
            · exact Or.inl ⟨m, by omega, b2, b3, b4⟩
            · exact Or.inr ⟨b1, fun y => b2 (same hne t y)⟩
          · exact a8 v (by omega) hne
        · intro v hv hv5 hne
          exact a9 v (by omega) hv5 hne
        · intro y v t hv hne hr
          by_cases e : v = i
          · subst e; exact same hne t hr
          · exact a10 y v t (by omega) hne hr
      · refine r4_note hj hi (fun L' b1 b2 b3 => ?_)
        have hne : i ≠ 48 + j := by
          intro e
          apply z
          rw [hend e, e]
          exact hw0.symm
        refine nm_r (nI_1 i) (ih (1, L', W2) ⟨Or.inr rfl, ?_, x1, x4, x5, ?_, ?_, ?_, ?_, ?_⟩)
        · intro k hk
          show L' k = WL k
          rw [b1 k hk]; exact a2 k hk
        · intro v hv hne t ht
          show ib (W2 (WR j 6) j v) t = true ↔ _
          rw [x6]; exact x7 v hv hne t ht
        · intro h
          show W2 (WR j 6) j (48 + j) = 0
          rw [x6]; exact x8 h
        · intro v hv hne2
          by_cases e : v = i
          · subst e
            intro t ht
            show (∃ m, m ≤ d + 1 ∧ L' j (v * 32 + t) = nI m ∧ _) ∨ (L' j (v * 32 + t) = -1 ∧ _)
            rw [b3 t ht, ib_and, ib_not ht]
            have o1 := hw v hi hne t ht
            have o2 := hall hne t ht
            by_cases c : gR G j d v t
            · rw [o1.mpr c, Bool.not_true, Bool.and_false, if_neg (by decide)]
              rcases a9 v (Nat.le_refl _) hi hne t ht with ⟨m, c1, c2, c3, c4⟩ | ⟨c1, c2⟩
              · exact Or.inl ⟨m, by omega, c2, c3, c4⟩
              · exact absurd c c2
            · have f1 : ib (WX (WR j 4) j v) t = false := by
                cases y : ib (WX (WR j 4) j v) t
                · rfl
                · exact absurd (o1.mp y) c
              rw [f1, Bool.not_false, Bool.and_true]
              by_cases c2 : gR G j (d + 1) v t
              · rw [if_pos (o2.mpr c2)]
                refine Or.inl ⟨d + 1, Nat.le_refl _, rfl, c2, fun d' hd' => ?_⟩
                by_cases y : d' ≤ d
                · exact absurd (dR_mono y hd') c
                · omega
              · rw [if_neg (fun y => c2 (o2.mp y))]
                refine Or.inr ⟨?_, c2⟩
                rcases a9 v (Nat.le_refl _) hi hne t ht with ⟨m, c1, _, c3, _⟩ | ⟨c1, _⟩
                · exact absurd (dR_mono c1 c3) c
                · exact c1
          · intro t ht
            show (∃ m, m ≤ d + 1 ∧ L' j (v * 32 + t) = nI m ∧ _) ∨ (L' j (v * 32 + t) = -1 ∧ _)
            rw [b2 (v * 32 + t) (fun t' ht' => by omega)]
            exact a8 v (by omega) hne2 t ht
        · intro v hv hv5 hne2 t ht
          show (∃ m, m ≤ d ∧ L' j (v * 32 + t) = nI m ∧ _) ∨ (L' j (v * 32 + t) = -1 ∧ _)
          rw [b2 (v * 32 + t) (fun t' ht' => by omega)]
          exact a9 v (by omega) hv5 hne2 t ht
        · intro y
          exact absurd (show (1 : Int32) = 0 from y) (by decide)
    refine nm_e ?_
    refine ⟨fun z => ?_, fun z => ⟨hj, ⟨fun y => ?_, fun y => ⟨hj, ?_⟩⟩⟩⟩
    · refine fin _ (fun hne t ht => ?_) (fun e => by rw [e]; exact hw0)
      rw [z, ib_m1 ht]
      have := (hw i hi hne t ht).mp (by rw [z]; exact ib_m1 ht)
      exact ⟨fun _ => dR_up this, fun _ => rfl⟩
    · have e : i = 48 + j := (nI_eq (by omega) (by omega)).mp y
      exact fin _ (fun hne => absurd e hne) (fun _ => by rw [e]; exact hw0)
    · have hne : i ≠ 48 + j := fun e => y (by rw [e])
      refine r3_isUp hS.1 hi ?_
      by_cases u : gup G i = true
      · rw [ite01 u]
        refine ⟨fun w => absurd w (by decide), fun _ => ?_⟩
        refine r5_ahead 1 (Or.inl rfl) (fun A hA => ⟨hj, ?_⟩)
        have hw' : wRow G j d (s.2.2 (WR j 4) j) := by rw [a4]; exact hw
        have hs' : wRow G j (d - 1) (s.2.2 (WR j 5) j) := by rw [a5]; exact hs
        refine r4_overLinks hG hS hj hjn h1 p4 p5 hw' hs' u hne (fun X hX => ?_)
        refine nm_e (fin _ (fun _ t ht => ?_) (fun e => absurd e hne))
        rw [ib_or, ib_or, Bool.or_eq_true, Bool.or_eq_true, hX t ht, hA t ht, hw i hi hne t ht, hw i hi hne _ (Nat.mod_lt _ (by decide)), gR_mod, or_assoc]
        exact dR_s.symm
      · rw [ite00 u]
        refine ⟨fun _ => fin _ (fun _ t ht => ?_) (fun e => absurd e hne), fun w => absurd rfl w⟩
        refine ⟨fun h => dR_up ((hw i hi hne t ht).mp h), fun h => absurd (gR_up h) u⟩
/-- what the lateness is, as the class notes it -/
def wLt (G : Geo) (j v t : Nat) (x : Int32) : Prop := (∃ m, m < 1000000 ∧ x = nI m ∧ gD G j v t m) ∨ (x = -1 ∧ gD G j v t 1000000)
def wOK (G : Geo) (j : Nat) (f : Nat → Int32) : Prop := ∀ v, v < 56 → v ≠ 48 + j → ∀ t, t < 32 → wLt G j v t (f (v * 32 + t))
theorem wOK_of {G : Geo} {j d : Nat} {f : Nat → Int32} (hG : gok G) (h : ∀ v, v < 56 → v ≠ 48 + j → wLd G j d v f) (hall : ∀ v t d', v < 56 → v ≠ 48 + j → gR G j d' v t → gR G j d v t) : wOK G j f := by
  intro v hv hne t ht
  rcases h v hv hne t ht with ⟨m, a1, a2, a3, a4⟩ | ⟨a1, a2⟩
  · have b : m ≤ 1649 := a4 1649 (dR_bound (gTk_perI G) (gok_nr hG) a3)
    exact Or.inl ⟨m, by omega, a2, Or.inl ⟨by omega, a3, a4⟩⟩
  · exact Or.inr ⟨a1, Or.inr ⟨rfl, fun d' hd' => a2 (hall v t d' hv hne hd')⟩⟩
theorem r4_refresh {G : Geo} {SI : Nat → Int32} {SX : Nat → Nat → Int32} {nW : Nat} {wd : Nat → Nat → Nat} {j : Nat} {Q : (Nat → Nat → Int32) → (Nat → Nat → Nat) → (Nat → Nat → Int32) → (Nat → Nat → Nat → Int32) → Prop} {WI : Nat → Nat → Int32} {WR : Nat → Nat → Nat} {WL : Nat → Nat → Int32} {WX : Nat → Nat → Nat → Int32} (hG : gok G) (hS : rS G SI SX) (hj : j < nW) (hjn : j < G 0 2) (h1 : WI j 1 = nI (48 + j)) (hp : wPm (WR j)) (hk : WI j 3 = SI 3 → wOK G j (WL j))
    (hq : ∀ (WI' : Nat → Nat → Int32) (WR' : Nat → Nat → Nat) (WL' : Nat → Nat → Int32) (WX' : Nat → Nat → Nat → Int32), (∀ i, i ≠ j → WI' i = WI i) → (∀ i, i ≠ j → WR' i = WR i) → (∀ i, i ≠ j → WL' i = WL i) → WI' j 1 = nI (48 + j) → WI' j 3 = SI 3 → wPm (WR' j) → wOK G j (WL' j) → Q WI' WR' WL' WX') : fX4_refresh SI SX nW wd j Q WI WR WL WX := by
  have n8 := gok_ns hG
  obtain ⟨p4, p5, p6, p45, p46, p56⟩ := id hp
  unfold fX4_refresh
  refine ⟨hj, hj, ⟨fun _ => ?_, fun z => hq _ _ _ _ (fun _ _ => rfl) (fun _ _ => rfl) (fun _ _ => rfl) h1 z hp (hk z)⟩⟩
  refine ⟨hj, hj, nm_e ⟨hj, hj, p4, nm_e ⟨hj, hj, p5, nm_e ?_⟩⟩⟩
  have fin : ∀ (d : Nat) (s : (Nat → Nat → Nat) × (Nat → Nat → Int32) × (Nat → Nat → Nat → Int32)), (∀ i, i ≠ j → s.1 i = WR i) → (∀ i, i ≠ j → s.2.1 i = WL i) → wPm (s.1 j) → (∀ v, v < 56 → v ≠ 48 + j → wLd G j d v (s.2.1 j)) → (∀ v t d', v < 56 → v ≠ 48 + j → gR G j d' v t → gR G j d v t) → fX4_refresh_b77 SI SX nW wd j Q WI s.1 s.2.1 s.2.2 := by
    intro d s b1 b2 b3 b4 b5
    unfold fX4_refresh_b77
    refine ⟨hj, hj, nm_e (hq _ _ _ _ (fun i hi => ?_) b1 b2 ?_ ?_ b3 (wOK_of hG b4 b5))⟩
    · simp [va_up, hi]
    · simp only [va_up, if_true]
      rw [pk_un (by decide)]; exact h1
    · simp only [va_up, if_true]
      exact pk_us
  refine lp6 (fun n (a : Nat → Nat → Int32) (b : Nat → Nat → Nat) (c : Nat → Nat → Int32) (e : Nat → Nat → Nat → Int32) (y1 y2 : Int32) => fX4_refresh_h43 SI SX nW wd j Q n a b c e y1 y2) (fun a b c e y1 y2 => a = WI ∧ ∃ d still : Nat, d ≤ 1666 ∧ still ≤ 2 ∧ y1 = nI still ∧ y2 = nI (d + 1) ∧ (∀ i, i ≠ j → b i = WR i) ∧ (∀ i, i ≠ j → c i = WL i) ∧ wPm (b j) ∧ wRow G j d (e (b j 4) j) ∧ e (b j 4) j (48 + j) = 0 ∧ wRow G j (d - 1) (e (b j 5) j) ∧ (∀ v, v < 56 → v ≠ 48 + j → wLd G j d v (c j)) ∧ still ≤ d ∧ (1 ≤ still → ∀ v t, v < 56 → v ≠ 48 + j → gR G j d v t → gR G j (d - 1) v t) ∧ (2 ≤ still → ∀ v t, v < 56 → v ≠ 48 + j → gR G j (d - 1) v t → gR G j (d - 2) v t)) (fun _ _ _ _ _ y2 => 1668 - y2.toNatClampNeg) ?_ _ _ _ _ _ _ ?_
  · intro n a b c e y1 y2 ⟨ea, d, still, k1, k2, k3, k4, k5, k6, k7, k8, k9, k10, k11, k12, k13, k14⟩ ih
    subst ea k3 k4
    unfold fX4_refresh_h43 fX4_refresh_b70
    have up : ∀ v t, v ≥ 56 → v ≠ 48 + j → ¬ gR G j d v t := fun v t hv _ h => by
      have := gva_56 hG (gup_va (gR_up h)); omega
    refine pk_lt 1666 (d + 1) (fun w => ?_) (fun w => ?_)
    · refine fin d (b, c, e) k5 k6 k7 k11 (fun v t d' hv hne h => ?_)
      exact dR_mono (by omega) (dR_bound (gTk_perI G) (gok_nr hG) h)
    · refine pk_le 2 still (fun w2 => ?_) (fun w2 => ?_)
      · refine fin d (b, c, e) k5 k6 k7 k11 (fun v t d' hv hne h => ?_)
        have e2 : d - 2 + 2 = d := by omega
        have e1 : d - 2 + 1 = d - 1 := by omega
        have q1 : ∀ v t, (v < 56 ∧ v ≠ 48 + j) → gR G j (d - 2 + 1) v t → gR G j (d - 2) v t := by
          intro v t hv h
          rw [e1] at h
          exact k14 w2 v t hv.1 hv.2 h
        have q2 : ∀ v t, (v < 56 ∧ v ≠ 48 + j) → gR G j (d - 2 + 2) v t → gR G j (d - 2 + 1) v t := by
          intro v t hv h
          rw [e2] at h
          rw [e1]
          exact k13 (by omega) v t hv.1 hv.2 h
        have n48 := gok_nr hG
        have := dR_quiet (N := fun v => v < 56 ∧ v ≠ 48 + j) (fun u hu => ⟨by omega, by omega⟩) q1 q2 d' v t ⟨hv, hne⟩ (dR_mono (by omega) h)
        exact dR_mono (by omega) this
      · refine ⟨hj, r4_grow hG hS hj hjn h1 k7 k8 k9 k10 k11 (fun more b' c' e' l1 l2 l3 l4 l5 l6 l7 l8 l9 => ?_)⟩
        have stop : ∀ st : Nat, st ≤ 2 → st ≤ d + 1 → (1 ≤ st → ∀ v t, v < 56 → v ≠ 48 + j → gR G j (d + 1) v t → gR G j d v t) → (2 ≤ st → ∀ v t, v < 56 → v ≠ 48 + j → gR G j d v t → gR G j (d - 1) v t) → fX4_refresh_h43 SI SX nW wd j Q n a b' c' e' (nI st) (nI (d + 1 + 1)) := by
          intro st g1 g2 g3 g4
          refine ih _ _ _ _ _ _ ⟨rfl, d + 1, st, by omega, g1, rfl, rfl, fun i hi => by rw [l1 i hi, k5 i hi], fun i hi => by rw [l2 i hi, k6 i hi], l4, l5, l6, l7, l8, g2, g3, g4⟩ ?_
          rw [nI_clamp (by omega), nI_clamp (by omega)]
          omega
        refine ⟨fun z => ?_, fun _ => ?_⟩
        · refine nm_r (nI_1 _) ?_
          rw [show nI still + (1 : Int32) = nI (still + 1) from nI_1 _]
          exact stop (still + 1) (by omega) (by omega) (fun _ => l9 z) (fun g => k13 (by omega))
        · refine nm_r (nI_1 _) ?_
          exact stop 0 (by omega) (by omega) (fun g => by omega) (fun g => by omega)
  · refine ⟨rfl, 0, 0, by decide, by decide, rfl, rfl, fun _ _ => rfl, fun i hi => by simp [va_up, hi], hp, ?_, ?_, ?_, ?_, by decide, fun g => by omega, fun g => by omega⟩
    · intro v hv hne t ht
      simp only [va_up, if_true, if_neg p45, gfill, if_pos hv]
      rw [ib_0]
      exact ⟨fun h => Bool.noConfusion h, fun h => absurd h dR_0⟩
    · simp only [va_up, if_true, if_neg p45, gfill]
      rw [if_pos (by omega)]
    · intro v hv hne t ht
      simp only [va_up, if_true, gfill, if_pos hv]
      rw [ib_0]
      exact ⟨fun h => Bool.noConfusion h, fun h => absurd h dR_0⟩
    · intro v hv hne t ht
      refine Or.inr ⟨?_, dR_0⟩
      simp only [va_up, if_true, gfill]
      rw [if_pos (by omega)]
theorem r4_lateness {G : Geo} {nW : Nat} {WI : Nat → Nat → Int32} {WR : Nat → Nat → Nat} {WL : Nat → Nat → Int32} {WX : Nat → Nat → Nat → Int32} {wd : Nat → Nat → Nat} {j v t : Nat} {Q : Int32 → Prop} (hj : j < nW) (hv : v < 56) (hne : v ≠ 48 + j) (ht : t < 2 ^ 31) (hk : wOK G j (WL j)) (hq : ∀ x, wLt G j v t x → Q x) : fX4_lateness nW WI WR WL WX wd j Q (nI v) (nI t) := by
  unfold fX4_lateness
  have m := Nat.mod_lt t (show 0 < 32 by decide)
  rw [show nI v * (32 : Int32) + (nI t &&& (31 : Int32)) = nI (v * 32 + t % 32) by rw [and31 ht, show (32 : Int32) = nI 32 from rfl, pk_mul, nI_add]]
  refine ⟨hj, hj, pk_in (v * 32 + t % 32) 1792 (by omega), ?_⟩
  rw [pk_cl (v * 32 + t % 32)]
  refine hq _ ?_
  have e : t % 32 % 32 = t % 32 := Nat.mod_mod _ _
  rcases hk v hv hne (t % 32) m with ⟨x, a, b, c⟩ | ⟨a, b⟩
  · exact Or.inl ⟨x, a, b, dL_mod (gTk_perI G) e c⟩
  · exact Or.inr ⟨a, dL_mod (gTk_perI G) e b⟩

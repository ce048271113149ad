/-! the reference's steps -/
theorem kTk_congr {TK : Nat → Nat → Bool} {m : Nat} {I I' : Nat → Int32} {X X' : Nat → Nat → Int32} (h : kTk TK m I X) (e : I' 32 = I 32) (e29 : X' 29 = X 29) (e30 : X' 30 = X 30) : kTk TK m I' X' := by
  unfold kTk at h ⊢
  rw [e, e29, e30]
  exact h
theorem r6_moves {G : Geo} {nl now m : Nat} {s : LTk} {I : Nat → Int32} {X : Nat → Nat → Int32} {i : Nat} {Q : (Nat → Int32) → (Nat → Nat → Int32) → Prop} (hG : gok G) (hM : rM G I X) (hK : rK G X) (hE : eOK G nl now s.1) (h : rLM nl now s.1 I X) (hT : kTk s.2 m I X) (hm : m < 60) (hi : i < nl) (h1 : s.1 i 3 ≤ 1) (hq : ∀ I' X' m', (∀ k, k ≠ 32 → I' k = I k) → (∀ k, k < 13 → X' k = X k) → rK G X' → rLM nl now (eM1 G now s i).1 I' X' → kTk (eM1 G now s i).2 m' I' X' → m' ≤ m + 1 → Q I' X') : fX6_moves Q I X (nI i) := by
  have n8 := gok_ns hG
  have n48 := gok_nr hG
  obtain ⟨c1, c2, c3⟩ := id hE
  obtain ⟨x0, x1, x2, x3, x4, x5, x6⟩ := c3 i hi
  unfold fX6_moves
  refine r6_choice hG hM hK hE h hi h1 (fun X' k1 hK' => ?_)
  have hM' : rM G I X' := rM_congr hM rfl rfl rfl (fun k hk => k1 k (by omega) (by omega))
  have h' : rLM nl now s.1 I X' := rLM_congr h rfl rfl (fun k h1 h2 => k1 k (by omega) (by omega))
  have hT' : kTk s.2 m I X' := kTk_congr hT rfl (k1 29 (by decide) (by decide)) (k1 30 (by decide) (by decide))
  obtain ⟨m1, m31, h3, h25⟩ := id h'
  obtain ⟨q0, q1, q2, q3, q7, q8, q9, q40, q41, q42⟩ := h3 i hi
  have stay : eM1 G now s i = s → Q I X' := by
    intro e
    refine hq I X' m (fun _ _ => rfl) (fun k hk => k1 k (by omega) (by omega)) hK' ?_ ?_ (by omega)
    · rw [e]; exact h'
    · rw [e]; exact hT'
  by_cases c0 : gCh G now (s.1 i 4) (s.1 i 1) = 0
  · have e : eM1 G now s i = s := by unfold eM1; rw [if_neg (fun z => z.2.1 c0)]
    rw [c0]
    exact ⟨fun z => absurd rfl z, fun _ => stay e⟩
  · have ci := gCh_in c0
    have ct := gCh_Tk c0
    have hu : ∃ u, u = gCh G now (s.1 i 4) (s.1 i 1) - 1 := ⟨_, rfl⟩
    obtain ⟨u, eu⟩ := hu
    rw [← eu] at ci ct
    have ec : cI (gCh G now (s.1 i 4) (s.1 i 1)) = nI (if u < 48 then u else 1000) := by unfold cI; rw [if_neg c0, eu]
    have v56 : s.1 i 4 < 56 := by
      have : s.1 i 3 = 0 ∨ s.1 i 3 = 1 := by omega
      rcases this with z | z
      · rw [x4 z]; omega
      · have := x5 z; omega
    have u56 : u < 56 := by omega
    have ul : (if u < 48 then u else 1000) < 1001 := by split <;> omega
    rw [ec]
    refine ⟨fun _ => ⟨pk_in i 60 (by omega), ?_⟩, fun z => absurd z (nI_m1 (by omega))⟩
    rw [pk_cl i, q3, q0]
    -- the link is taken, or it waits
    have go : fX6_moves_b62 Q I X' (nI i) (nI (if u < 48 then u else 1000)) (nI (en (s.1 i 4))) (nI (en u)) := by
      unfold fX6_moves_b62
      refine r6_isTaken hT' (by omega) v56 u56 ?_
      by_cases tk : s.2 (s.1 i 4) u = true
      · have e : eM1 G now s i = s := by
          unfold eM1
          rw [← eu, if_neg (fun z => by rw [tk] at z; exact Bool.noConfusion z.2.2)]
        rw [if_pos tk]
        exact ⟨fun z => absurd z (by decide), fun _ => stay e⟩
      · have tkf : s.2 (s.1 i 4) u = false := by
          cases c : s.2 (s.1 i 4) u
          · rfl
          · exact absurd c tk
        rw [if_neg tk]
        refine ⟨fun _ => ?_, fun z => absurd rfl z⟩
        rw [hT'.1, pk_cl m]
        refine ⟨pk_in m 60 hm, fun X1 e1 => ⟨pk_in m 60 hm, fun X2 e2 => ?_⟩⟩
        refine nm_r (e' := upd I 32 (nI (m + 1))) (by rw [nI_1]) ⟨pk_in i 60 (by omega), ?_⟩
        have o : ∀ k, k ≠ 29 → k ≠ 30 → X2 k = X' k := by
          intro k h1 h2
          rw [e2, e1]
          simp [va_up, h1, h2]
        have o29 : X2 29 = upd (X' 29) m (nI (en (s.1 i 4))) := by rw [e2, e1]; simp [va_up]
        have o30 : X2 30 = upd (X' 30) m (nI (en u)) := by rw [e2, e1]; simp [va_up]
        have hM2 : rM G (upd I 32 (nI (m + 1))) X2 := rM_congr hM' rfl rfl rfl (fun k hk => o k (by omega) (by omega))
        have i1 : upd I 32 (nI (m + 1)) 1 = nI now := m1
        have cc : s.1 i 3 ≤ 1 ∧ gCh G now (s.1 i 4) (s.1 i 1) ≠ 0 ∧ s.2 (s.1 i 4) (gCh G now (s.1 i 4) (s.1 i 1) - 1) = false := ⟨h1, c0, by rw [← eu]; exact tkf⟩
        have fin : fX6_moves_b150 Q (upd I 32 (nI (m + 1))) X2 (nI i) (nI (if u < 48 then u else 1000)) (nI (gln G (s.1 i 4) u)) (nI now) (nI i) := by
          unfold fX6_moves_b150
          rw [pk_cl i]
          refine ⟨pk_in i 60 (by omega), fun X3 e3 => ⟨pk_in i 60 (by omega), fun X4 e4 => ⟨pk_in i 60 (by omega), fun X5 e5 => ⟨pk_in i 60 (by omega), pk_in i 60 (by omega), fun X6 e6 => ?_⟩⟩⟩⟩
          have p : ∀ k, k ≠ 21 → k ≠ 23 → k ≠ 24 → k ≠ 25 → X6 k = X2 k := by
            intro k h1 h2 h3 h4
            rw [e6, e5, e4, e3]
            simp [va_up, h1, h2, h3, h4]
          have p21 : X6 21 = upd (X2 21) i 2 := by rw [e6, e5, e4, e3]; simp [va_up]
          have p23 : X6 23 = upd (X2 23) i (nI (if u < 48 then u else 1000)) := by rw [e6, e5, e4, e3]; simp [va_up]
          have p24 : X6 24 = upd (X2 24) i (nI now + nI (gln G (s.1 i 4) u)) := by rw [e6, e5, e4, e3]; simp [va_up]
          have p25 : X6 25 = upd (X2 25) i (X2 25 i + 1) := by rw [e6, e5, e4, e3]; simp [va_up]
          refine hq _ X6 (m + 1) (fun k hk => pk_un hk) (fun k hk => by rw [p k (by omega) (by omega) (by omega) (by omega), o k (by omega) (by omega), k1 k (by omega) (by omega)]) ?_ ?_ ?_ (Nat.le_refl _)
          · exact rK_congr hK' (by rw [p 14 (by decide) (by decide) (by decide) (by decide), o 14 (by decide) (by decide)]) (by rw [p 15 (by decide) (by decide) (by decide) (by decide), o 15 (by decide) (by decide)])
          · have h2 : rLM nl now s.1 (upd I 32 (nI (m + 1))) X2 := rLM_congr h' rfl rfl (fun k h1 h2 => o k (by omega) (by omega))
            obtain ⟨_, _, g3, _⟩ := id h2
            obtain ⟨r0, r1, r2, r3, r7, r8, r9, r40, r41, r42⟩ := g3 i hi
            refine rLM_set (i := i) h2 hi (fun k a h1 h2 ha => ?_) (fun a k ha => eM1_ne ha k) ?_
            · by_cases d21 : k = 21
              · subst d21; rw [p21, pk_un ha]
              · by_cases d23 : k = 23
                · subst d23; rw [p23, pk_un ha]
                · by_cases d24 : k = 24
                  · subst d24; rw [p24, pk_un ha]
                  · by_cases d25 : k = 25
                    · subst d25; rw [p25, pk_un ha]
                    · rw [p k d21 d23 d24 d25]
            · have z3 : (eM1 G now s i).1 i 3 = 2 := by unfold eM1; rw [if_pos cc]; show (if i = i then (if 3 = 3 then 2 else _) else _) = 2; rw [if_pos rfl, if_pos rfl]
              have z5 : (eM1 G now s i).1 i 5 = u := by unfold eM1; rw [if_pos cc, ← eu]; show (if i = i then (if 5 = 3 then 2 else if 5 = 5 then u else _) else _) = u; rw [if_pos rfl, if_neg (by decide), if_pos rfl]
              have z6 : (eM1 G now s i).1 i 6 = now + gln G (s.1 i 4) u := by unfold eM1; rw [if_pos cc, ← eu]; show (if i = i then (if 6 = 3 then 2 else if 6 = 5 then u else if 6 = 6 then now + gln G (s.1 i 4) u else _) else _) = _; rw [if_pos rfl, if_neg (by decide), if_neg (by decide), if_pos rfl]
              have z7 : (eM1 G now s i).1 i 7 = s.1 i 7 + 1 := by unfold eM1; rw [if_pos cc, ← eu]; show (if i = i then (if 7 = 3 then 2 else if 7 = 5 then u else if 7 = 6 then now + gln G (s.1 i 4) u else if 7 = 7 then s.1 i 7 + 1 else _) else _) = _; rw [if_pos rfl, if_neg (by decide), if_neg (by decide), if_neg (by decide), if_pos rfl]
              rw [z3, z5, z6, z7, eM1_k (k := 0) (by decide) (by decide) (by decide) (by decide), eM1_k (k := 1) (by decide) (by decide) (by decide) (by decide), eM1_k (k := 2) (by decide) (by decide) (by decide) (by decide), eM1_k (k := 4) (by decide) (by decide) (by decide) (by decide), eM1_k (k := 8) (by decide) (by decide) (by decide) (by decide), eM1_k (k := 9) (by decide) (by decide) (by decide) (by decide)]
              rw [p 19 (by decide) (by decide) (by decide) (by decide), p 20 (by decide) (by decide) (by decide) (by decide), p 22 (by decide) (by decide) (by decide) (by decide), p 26 (by decide) (by decide) (by decide) (by decide), p 27 (by decide) (by decide) (by decide) (by decide), p 28 (by decide) (by decide) (by decide) (by decide), p21, p23, p24, p25, pk_us, pk_us, pk_us, pk_us]
              refine ⟨r0, r1, r2, rfl, by rw [r7]; exact nI_1 _, r8, r9, fun z => by omega, fun z => by omega, fun _ => ⟨?_, rfl, nI_add _ _⟩⟩
              have : s.1 i 3 = 0 ∨ s.1 i 3 = 1 := by omega
              rcases this with z | z
              · rw [if_neg (by rw [x4 z]; omega)]; exact r40 z
              · rw [if_pos (by have := x5 z; omega)]; exact r41 z
          · have e : (eM1 G now s i).2 = fun a b => if a = s.1 i 4 ∧ b = u then true else s.2 a b := by unfold eM1; rw [if_pos cc, ← eu]
            obtain ⟨t1, t2, t3⟩ := hT'
            unfold kTk
            rw [e, p 29 (by decide) (by decide) (by decide) (by decide), p 30 (by decide) (by decide) (by decide) (by decide), o29, o30]
            refine ⟨pk_us, fun k hk => ?_, fun a b ha hb => ?_⟩
            · by_cases d : k = m
              · rw [d, pk_us, pk_us]; exact ⟨_, _, v56, u56, rfl, rfl⟩
              · rw [pk_un d, pk_un d]; exact t2 k (by omega)
            · have e1 := en_lt ha
              have e2 := en_lt hb
              have e3 := en_lt v56
              have e4 := en_lt u56
              show (if a = s.1 i 4 ∧ b = u then true else s.2 a b) = true ↔ _
              by_cases d : a = s.1 i 4 ∧ b = u
              · rw [if_pos d]
                refine ⟨fun _ => ⟨m, by omega, ?_, ?_⟩, fun _ => rfl⟩
                · rw [pk_us, d.1]
                · rw [pk_us, d.2]
              · rw [if_neg d, t3 a b ha hb]
                refine ⟨fun ⟨k, g1, g2, g3⟩ => ⟨k, by omega, by rw [pk_un (by omega)]; exact g2, by rw [pk_un (by omega)]; exact g3⟩, fun ⟨k, g1, g2, g3⟩ => ?_⟩
                by_cases dk : k = m
                · rw [dk, pk_us] at g2 g3
                  have w1 := en_inj v56 ha ((nI_eq (by omega) (by omega)).mp g2)
                  have w2 := en_inj u56 hb ((nI_eq (by omega) (by omega)).mp g3)
                  exact absurd ⟨w1.symm, w2.symm⟩ d
                · rw [pk_un dk] at g2 g3
                  exact ⟨k, by omega, g2, g3⟩
        rw [pk_cl i, o 21 (by decide) (by decide), o 22 (by decide) (by decide), q3, i1]
        unfold fX6_moves_b131
        refine ⟨fun z => ?_, fun z => ⟨fun y => ⟨pk_in i 60 (by omega), ?_⟩, fun y => ?_⟩⟩
        · have s0 : s.1 i 3 = 0 := (nI_is0 (by omega)).mp z
          have l1 : gln G (s.1 i 4) u = 1 := gln_p G (by rw [x4 s0]; omega)
          rw [l1] at fin
          exact fin
        · have n0 : s.1 i 3 ≠ 0 := fun w => z (by rw [w]; rfl)
          have s1 : s.1 i 3 = 1 := by omega
          have u48 : u < 48 := by
            by_cases w : u < 48
            · exact w
            · exact absurd (by rw [if_neg w]; rfl) y
          rw [q41 s1]
          rw [if_pos u48] at fin ⊢
          refine r6_taken hG hM2 (x5 s1) (by omega) (by omega) ?_
          rw [if_pos (ct u48)]
          exact fin
        · have u48 : ¬ u < 48 := by
            intro w
            rw [if_pos w] at y
            have := (nI_eq (b := 1000) (by omega) (by decide)).mp y
            omega
          have l1 : gln G (s.1 i 4) u = 1 := by unfold gln; rw [if_neg (fun w => u48 w.2.1)]
          rw [l1] at fin
          exact fin
    have go40 : fX6_moves_b40 Q I X' (nI i) (nI (if u < 48 then u else 1000)) (nI (en (s.1 i 4))) := by
      unfold fX6_moves_b40
      rw [pk_cl i, q1]
      refine ⟨fun y => ?_, fun y => ⟨pk_in i 60 (by omega), ?_⟩⟩
      · have u48 : u < 48 := by
          by_cases w : u < 48
          · exact w
          · exact absurd (by rw [if_neg w]; rfl) y
        have : en u = if u < 48 then u else 1000 := by unfold en; rw [if_pos u48, if_pos u48]
        rw [this] at go
        exact go
      · have u48 : ¬ u < 48 := by
          intro w
          rw [if_pos w] at y
          have := (nI_eq (b := 1000) (by omega) (by decide)).mp y
          omega
        have : (1000 : Int32) + nI (s.1 i 1) = nI (en u) := by
          rw [show (1000 : Int32) + nI (s.1 i 1) = nI (1000 + s.1 i 1) from nI_add 1000 _]
          congr 1
          unfold en
          rw [if_neg u48]
          omega
        rw [this]
        exact go
    refine ⟨fun z => ⟨pk_in i 60 (by omega), ?_⟩, fun z => ⟨pk_in i 60 (by omega), ?_⟩⟩
    · have n0 : s.1 i 3 ≠ 0 := fun w => z (by rw [w]; rfl)
      have s1 : s.1 i 3 = 1 := by omega
      have : en (s.1 i 4) = s.1 i 4 := by unfold en; rw [if_pos (by have := x5 s1; omega)]
      rw [q41 s1]
      rw [this] at go40
      exact go40
    · have s0 : s.1 i 3 = 0 := (nI_is0 (by omega)).mp z
      have : (1000 : Int32) + nI (s.1 i 0) = nI (en (s.1 i 4)) := by
        rw [show (1000 : Int32) + nI (s.1 i 0) = nI (1000 + s.1 i 0) from nI_add 1000 _]
        congr 1
        unfold en
        rw [x4 s0, if_neg (by omega)]
        omega
      rw [this]
      exact go40
/-- one step -/
theorem r6_step {G : Geo} {nl now : Nat} {E : Let} {I : Nat → Int32} {X : Nat → Nat → Int32} {y1 y2 : Int32} {Q : Int32 → (Nat → Int32) → (Nat → Nat → Int32) → Prop} (G32 : (Nat → Int32) → (Nat → Nat → Int32) → Int32 → Int32 → Prop) (hG : gok G) (hM : rM G I X) (hK : rK G X) (hE : eOK G nl now E) (h : rLM nl now E I X) (hn : now + 1 < 2 ^ 20) (hq : ∀ I' X', (∀ k, k ≠ 1 → k ≠ 32 → I' k = I k) → rM G I' X' → rK G X' → rLM nl (now + 1) (eStep G nl now E) I' X' → G32 I' X' y1 (y2 + 1)) : ∃ n, fX6_steps_h44 G32 Q n (upd I 32 0) X y1 y2 0 := by
  have n8 := gok_ns hG
  have n48 := gok_nr hG
  obtain ⟨c1, c2, c3⟩ := id hE
  have m31 : I 31 = nI nl := h.2.1
  refine pk_loop (σ := (Nat → Int32) × (Nat → Nat → Int32)) (fun n i s => fX6_steps_h44 G32 Q n s.1 s.2 y1 y2 (nI i)) (fun i s => (∀ k, k ≠ 32 → s.1 k = I k) ∧ rM G s.1 s.2 ∧ rK G s.2 ∧ rLM nl now (eMs G now E i).1 s.1 s.2 ∧ ∃ m, m ≤ i ∧ kTk (eMs G now E i).2 m s.1 s.2) nl 0 (upd I 32 0, X) (Nat.zero_le _) ⟨fun k hk => pk_un hk, rM_congr hM rfl rfl rfl (fun _ _ => rfl), hK, rLM_congr h rfl rfl (fun _ _ _ => rfl), 0, Nat.le_refl _, ?_⟩ ?_ ?_
  · refine ⟨show upd I 32 0 32 = nI 0 from pk_us, fun k hk => by omega, fun v u _ _ => ⟨fun z => Bool.noConfusion z, fun ⟨k, hk, _⟩ => by omega⟩⟩
  · intro n s ⟨a1, a2, a3, a4, _⟩
    have s31 : s.1 31 = nI nl := by rw [a1 31 (by decide)]; exact m31
    unfold fX6_steps_h44
    rw [s31]
    refine ⟨fun _ => ?_, fun z => absurd (nI_le (Nat.le_refl _) (by omega)) z⟩
    refine nm_r (e' := upd s.1 1 (nI (now + 1))) (by rw [a4.1, nI_1]) ?_
    have hE1 := eOK_Ms (n := nl) hE
    have hE2 := eOK_Ar hG hE1 hn
    obtain ⟨_, _, d3⟩ := id hE1
    have j1 : upd s.1 1 (nI (now + 1)) 1 = nI (now + 1) := pk_us
    have j31 : upd s.1 1 (nI (now + 1)) 31 = nI nl := s31
    have hM1 : rM G (upd s.1 1 (nI (now + 1))) s.2 := rM_congr a2 rfl rfl rfl (fun _ _ => rfl)
    refine pk_loop (σ := Nat → Nat → Int32) (fun m i u => fX6_steps_h94 G32 Q m (upd s.1 1 (nI (now + 1))) u y1 y2 (nI i)) (fun i u => (∀ k, k < 19 → u k = s.2 k) ∧ rLM nl (now + 1) (fun a k => if a < i then eAr (now + 1) (eMs G now E nl).1 a k else (eMs G now E nl).1 a k) (upd s.1 1 (nI (now + 1))) u) nl 0 s.2 (Nat.zero_le _) ⟨fun _ _ => rfl, j1, j31, a4.2.2.1, a4.2.2.2⟩ ?_ ?_
    · intro m u ⟨b1, b2⟩
      unfold fX6_steps_h94
      rw [j31]
      refine ⟨fun _ => ?_, fun z => absurd (nI_le (Nat.le_refl _) (by omega)) z⟩
      have b3 : rLM nl (now + 1) (eAr (now + 1) (eMs G now E nl).1) (upd s.1 1 (nI (now + 1))) u := by
        obtain ⟨g1, g2, g3, g4⟩ := b2
        refine ⟨g1, g2, fun a ha => ?_, g4⟩
        have := g3 a ha
        simp only [if_pos ha] at this
        exact this
      refine r6_handsOut hG hE2 b3 (fun X' g1 g2 => nm_e (hq _ X' (fun k h1 h2 => ?_) ?_ ?_ g2))
      · rw [pk_un h1, a1 k h2]
      · exact rM_congr hM1 rfl rfl rfl (fun k hk => by rw [g1 k (by omega) (by omega), b1 k (by omega)])
      · exact rK_congr a3 (by rw [g1 14 (by decide) (by decide), b1 14 (by decide)]) (by rw [g1 15 (by decide) (by decide), b1 15 (by decide)])
    · intro m i u hi ⟨b1, b2⟩ ih
      obtain ⟨x0, x1, x2, x3, x4, x5, x6⟩ := d3 i hi
      obtain ⟨q0, q1, q2, q3, q7, q8, q9, q40, q41, q42⟩ := b2.2.2.1 i hi
      simp only [Nat.lt_irrefl, if_false] at q0 q1 q2 q3 q7 q8 q9 q40 q41 q42
      have other : ∀ a k, a ≠ i → (if a < i + 1 then eAr (now + 1) (eMs G now E nl).1 a k else (eMs G now E nl).1 a k) = (if a < i then eAr (now + 1) (eMs G now E nl).1 a k else (eMs G now E nl).1 a k) := by
        intro a k ha
        by_cases q : a < i
        · rw [if_pos q, if_pos (by omega)]
        · rw [if_neg q, if_neg (by omega)]
      have self : ∀ k, (if i < i + 1 then eAr (now + 1) (eMs G now E nl).1 i k else (eMs G now E nl).1 i k) = eAr (now + 1) (eMs G now E nl).1 i k := fun k => if_pos (by omega)
      have keep : ¬ ((eMs G now E nl).1 i 3 = 2 ∧ (eMs G now E nl).1 i 6 ≤ now + 1) → fX6_steps_h94 G32 Q m (upd s.1 1 (nI (now + 1))) u y1 y2 (nI (i + 1)) := by
        intro hno
        refine ih u ⟨b1, ?_⟩
        obtain ⟨g1, g2, g3, g4⟩ := b2
        refine ⟨g1, g2, fun a ha => ?_, g4⟩
        have := g3 a ha
        by_cases q : a = i
        · subst q
          simp only [Nat.lt_irrefl, if_false] at this
          simp only [self]
          rw [eAr_f hno, eAr_f hno, eAr_f hno, eAr_f hno, eAr_f hno, eAr_f hno, eAr_f hno, eAr_f hno, eAr_f hno, eAr_f hno]
          exact this
        · simp only [other a _ q]
          exact this
      unfold fX6_steps_h94 fX6_steps_b206
      rw [j31]
      refine ⟨fun z => absurd z (nI_ge hi (by omega)), fun _ => ⟨pk_in i 60 (by omega), ?_⟩⟩
      rw [pk_cl i, q3, j1]
      refine ⟨fun z => nm_r (nI_1 i) (keep (fun y => z (by rw [y.1]; rfl))), fun z => ⟨pk_in i 60 (by omega), ?_⟩⟩
      have s2 : (eMs G now E nl).1 i 3 = 2 := (nI_eq (b := 2) (by omega) (by decide)).mp z
      obtain ⟨t1, t2, t3⟩ := q42 s2
      obtain ⟨w1, w2, w3, w4⟩ := x6 s2
      rw [t3, t2]
      refine pk_eq ((eMs G now E nl).1 i 6) (now + 1) (fun w => ⟨pk_in i 60 (by omega), ?_⟩) (fun w => nm_r (nI_1 i) (keep (fun y => by omega)))
      have cc : (eMs G now E nl).1 i 3 = 2 ∧ (eMs G now E nl).1 i 6 ≤ now + 1 := ⟨s2, by omega⟩
      unfold fX6_steps_b145 fX6_steps_b162 fX6_steps_b183 fX6_steps_b206
      rw [pk_cl i]
      by_cases r5 : (eMs G now E nl).1 i 5 < 48
      · rw [if_pos r5]
        refine ⟨fun _ => ⟨fun _ => ⟨pk_in i 60 (by omega), fun X1 e1 => ⟨fun _ => ⟨pk_in i 60 (by omega), pk_in i 60 (by omega), fun X2 e2 => ⟨pk_in i 60 (by omega), fun X3 e3 => ⟨fun _ => nm_r (nI_1 i) (ih X3 ⟨fun k hk => ?_, ?_⟩), fun y => absurd rfl y⟩⟩⟩, fun y => absurd rfl y⟩⟩, fun y => absurd rfl y⟩, fun y => ?_⟩
        · rw [e3, e2, e1]
          simp only [va_up, if_neg (show ¬ k = 23 by omega), if_neg (show ¬ k = 22 by omega), if_neg (show ¬ k = 21 by omega)]
          exact b1 k hk
        · have o : ∀ k, k ≠ 21 → k ≠ 22 → k ≠ 23 → X3 k = u k := by
            intro k h1 h2 h3
            rw [e3, e2, e1]; simp [va_up, h1, h2, h3]
          have o21 : X3 21 = upd (u 21) i 1 := by rw [e3, e2, e1]; simp [va_up]
          have o22 : X3 22 = upd (u 22) i (u 23 i) := by rw [e3, e2, e1]; simp [va_up]
          have o23 : X3 23 = upd (u 23) i (-1) := by rw [e3, e2, e1]; simp [va_up]
          refine rLM_set (i := i) b2 hi (fun k a h1 h2 ha => ?_) (fun a k ha => other a k ha) ?_
          · by_cases d21 : k = 21
            · subst d21; rw [o21, pk_un ha]
            · by_cases d22 : k = 22
              · subst d22; rw [o22, pk_un ha]
              · by_cases d23 : k = 23
                · subst d23; rw [o23, pk_un ha]
                · rw [o k d21 d22 d23]
          · simp only [self]
            rw [eAr_3 cc, eAr_4 cc, eAr_8 cc, if_pos r5, if_pos r5, eAr_k (k := 0) (by decide) (by decide) (by decide), eAr_k (k := 1) (by decide) (by decide) (by decide), eAr_k (k := 2) (by decide) (by decide) (by decide), eAr_k (k := 5) (by decide) (by decide) (by decide), eAr_k (k := 6) (by decide) (by decide) (by decide), eAr_k (k := 7) (by decide) (by decide) (by decide), eAr_k (k := 9) (by decide) (by decide) (by decide)]
            rw [o 19 (by decide) (by decide) (by decide), o 20 (by decide) (by decide) (by decide), o 24 (by decide) (by decide) (by decide), o 25 (by decide) (by decide) (by decide), o 26 (by decide) (by decide) (by decide), o 27 (by decide) (by decide) (by decide), o 28 (by decide) (by decide) (by decide), o21, o22, o23, pk_us, pk_us, pk_us]
            refine ⟨q0, q1, q2, rfl, q7, q8, q9, fun y => absurd y (by decide), fun _ => ?_, fun y => absurd y (by decide)⟩
            rw [t2, if_pos r5]
        · have := (nI_eq (b := 1000) (by omega) (by decide)).mp y
          omega
      · rw [if_neg r5]
        refine ⟨fun y => absurd rfl y, fun _ => ⟨fun y => absurd y (by decide), fun _ => ⟨pk_in i 60 (by omega), fun X1 e1 => ⟨fun y => absurd y (by decide), fun _ => ⟨pk_in i 60 (by omega), fun X2 e2 => ⟨pk_in i 60 (by omega), fun X3 e3 => ⟨fun y => absurd y (by decide), fun _ => ⟨pk_in i 60 (by omega), fun X4 e4 => nm_r (nI_1 i) (ih X4 ⟨fun k hk => ?_, ?_⟩)⟩⟩⟩⟩⟩⟩⟩⟩
        · rw [e4, e3, e2, e1]
          simp only [va_up, if_neg (show ¬ k = 27 by omega), if_neg (show ¬ k = 23 by omega), if_neg (show ¬ k = 22 by omega), if_neg (show ¬ k = 21 by omega)]
          exact b1 k hk
        · have o : ∀ k, k ≠ 21 → k ≠ 22 → k ≠ 23 → k ≠ 27 → X4 k = u k := by
            intro k h1 h2 h3 h4
            rw [e4, e3, e2, e1]; simp [va_up, h1, h2, h3, h4]
          have o21 : X4 21 = upd (u 21) i 3 := by rw [e4, e3, e2, e1]; simp [va_up]
          have o22 : X4 22 = upd (u 22) i (-1) := by rw [e4, e3, e2, e1]; simp [va_up]
          have o23 : X4 23 = upd (u 23) i (-1) := by rw [e4, e3, e2, e1]; simp [va_up]
          have o27 : X4 27 = upd (u 27) i (nI (now + 1)) := by rw [e4, e3, e2, e1, j1]; simp [va_up]
          refine rLM_set (i := i) b2 hi (fun k a h1 h2 ha => ?_) (fun a k ha => other a k ha) ?_
          · by_cases d21 : k = 21
            · subst d21; rw [o21, pk_un ha]
            · by_cases d22 : k = 22
              · subst d22; rw [o22, pk_un ha]
              · by_cases d23 : k = 23
                · subst d23; rw [o23, pk_un ha]
                · by_cases d27 : k = 27
                  · subst d27; rw [o27, pk_un ha]
                  · rw [o k d21 d22 d23 d27]
          · simp only [self]
            rw [eAr_3 cc, eAr_4 cc, eAr_8 cc, if_neg r5, if_neg r5, eAr_k (k := 0) (by decide) (by decide) (by decide), eAr_k (k := 1) (by decide) (by decide) (by decide), eAr_k (k := 2) (by decide) (by decide) (by decide), eAr_k (k := 5) (by decide) (by decide) (by decide), eAr_k (k := 6) (by decide) (by decide) (by decide), eAr_k (k := 7) (by decide) (by decide) (by decide), eAr_k (k := 9) (by decide) (by decide) (by decide)]
            rw [o 19 (by decide) (by decide) (by decide) (by decide), o 20 (by decide) (by decide) (by decide) (by decide), o 24 (by decide) (by decide) (by decide) (by decide), o 25 (by decide) (by decide) (by decide) (by decide), o 26 (by decide) (by decide) (by decide) (by decide), o 28 (by decide) (by decide) (by decide) (by decide), o21, o22, o23, o27, pk_us, pk_us, pk_us, pk_us]
            refine ⟨q0, q1, q2, rfl, q7, rfl, q9, fun y => absurd y (by decide), fun y => absurd y (by decide), fun y => absurd y (by decide)⟩
  · intro n i s hi ⟨a1, a2, a3, a4, m, a5, a6⟩ ih
    have s31 : s.1 31 = nI nl := by rw [a1 31 (by decide)]; exact m31
    have e3 := eMs_ge (G := G) (now := now) (E := E) (Nat.le_refl i) 3
    obtain ⟨q0, q1, q2, q3, q7, q8, q9, q40, q41, q42⟩ := a4.2.2.1 i hi
    obtain ⟨x0, x1, x2, x3, x4, x5, x6⟩ := c3 i hi
    unfold fX6_steps_h44 fX6_steps_b71 fX6_steps_b76
    rw [s31]
    refine ⟨fun z => absurd z (nI_ge hi (by omega)), fun _ => ⟨pk_in i 60 (by omega), ?_⟩⟩
    rw [pk_cl i, q3, e3]
    have go : E i 3 ≤ 1 → fX6_moves (fun I_16 X_17 => ∀ x3_18 : Int32, x3_18 = nI i + (1 : Int32) → (fun a0 a1 a2 a3 a4 => fX6_steps_h44 G32 Q n a0 a1 a2 a3 a4) I_16 X_17 y1 y2 x3_18) s.1 s.2 (nI i) := by
      intro h1
      refine r6_moves hG a2 a3 (eOK_Ms (n := i) hE) a4 a6 (by omega) hi (by rw [e3]; exact h1) (fun I' X' m' g1 g2 g3 g4 g5 g6 => ?_)
      refine nm_r (nI_1 i) (ih (I', X') ⟨fun k hk => ?_, ?_, g3, g4, m', by omega, g5⟩)
      · show I' k = I k
        rw [g1 k hk, a1 k hk]
      · exact rM_congr a2 (g1 6 (by decide)) (g1 9 (by decide)) (g1 13 (by decide)) g2
    have stay : ¬ E i 3 ≤ 1 → fX6_steps_h44 G32 Q n s.1 s.2 y1 y2 (nI (i + 1)) := by
      intro h1
      have e : eMs G now E (i + 1) = eMs G now E i := by
        show eM1 G now (eMs G now E i) i = _
        unfold eM1
        rw [if_neg (fun z => h1 (by rw [e3] at z; exact z.1))]
      refine ih s ?_
      rw [e]
      exact ⟨a1, a2, a3, a4, m, by omega, a6⟩
    refine ⟨fun z => go ?_, fun z => ⟨pk_in i 60 (by omega), ⟨fun y => nm_r (nI_1 i) (stay ?_), fun y => go ?_⟩⟩⟩
    · have : E i 3 = 0 := (nI_is0 (by omega)).mp z
      omega
    · have n0 : E i 3 ≠ 0 := fun w => z (by rw [w]; rfl)
      have n1 : E i 3 ≠ 1 := fun w => y (by rw [w]; rfl)
      omega
    · have : E i 3 = 1 := (nI_eq (b := 1) (by omega) (by decide)).mp y
      omega
theorem r6_run {G : Geo} {nl now k : Nat} {E : Let} {I : Nat → Int32} {X : Nat → Nat → Int32} {Q : Int32 → (Nat → Int32) → (Nat → Nat → Int32) → Prop} (hG : gok G) (hM : rM G I X) (hK : rK G X) (hE : eOK G nl now E) (h : rLM nl now E I X) (hn : now + k < 2 ^ 20) (hq : ∀ I' X', (∀ k, k ≠ 1 → k ≠ 32 → I' k = I k) → rM G I' X' → rK G X' → rLM nl (now + k) (eRun G nl now E k) I' X' → Q (nI (now + k)) I' X') : ∃ n, fX6_steps_h32 Q n I X (nI k) 0 := by
  refine pk_loop (σ := (Nat → Int32) × (Nat → Nat → Int32)) (fun n i s => fX6_steps_h32 Q n s.1 s.2 (nI k) (nI i)) (fun i s => (∀ k, k ≠ 1 → k ≠ 32 → s.1 k = I k) ∧ rM G s.1 s.2 ∧ rK G s.2 ∧ rLM nl (now + i) (eRun G nl now E i) s.1 s.2) k 0 (I, X) (Nat.zero_le _) ⟨fun _ _ _ => rfl, hM, hK, h⟩ ?_ ?_
  · intro n s ⟨a1, a2, a3, a4⟩
    unfold fX6_steps_h32
    refine ⟨fun _ => ?_, fun z => absurd (nI_le (Nat.le_refl _) (by omega)) z⟩
    rw [a4.1]
    exact hq s.1 s.2 a1 a2 a3 a4
  · intro n i s hi ⟨a1, a2, a3, a4⟩ ih
    unfold fX6_steps_h32
    refine ⟨fun z => absurd z (nI_ge hi (by omega)), fun _ => nm_e ?_⟩
    refine r6_step (fun a0 a1 a2 a3 => fX6_steps_h32 Q n a0 a1 a2 a3) hG a2 a3 (eOK_Run hG hE (by omega)) a4 (by omega) (fun I' X' g1 g2 g3 g4 => ?_)
    rw [nI_1]
    exact ih (I', X') ⟨fun k h1 h2 => by show I' k = I k; rw [g1 k h1 h2, a1 k h1 h2], g2, g3, g4⟩

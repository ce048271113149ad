/-! the reference's public methods that change its sky and its letters -/
theorem r6_forgets {I : Nat → Int32} {X : Nat → Nat → Int32} {Q : (Nat → Int32) → (Nat → Nat → Int32) → Prop} (hq : ∀ X', (∀ k, k ≠ 15 → X' k = X k) → (∀ p, p < 8 → X' 15 p = 0) → Q I X') : fX6_forgets Q I X := by
  have e0 : vp_nar .boolean (0 : Int32) = 0 := by decide
  unfold fX6_forgets
  refine pk_loop (σ := Nat → Nat → Int32) (fun n i s => fX6_forgets_h2 Q n I s (nI i)) (fun i s => (∀ k, k ≠ 15 → s k = X k) ∧ ∀ p, p < i → s 15 p = 0) 8 0 X (by decide) ⟨fun _ _ => rfl, fun p hp => by omega⟩ ?_ ?_
  · intro n s ⟨a1, a2⟩
    unfold fX6_forgets_h2
    exact ⟨fun _ => hq s a1 a2, fun z => absurd (by decide) z⟩
  · intro n i s hi ⟨a1, a2⟩ ih
    unfold fX6_forgets_h2
    refine ⟨fun z => absurd z (nI_ge (b := 8) hi (by decide)), fun _ => ⟨pk_in i 8 hi, ?_⟩⟩
    rw [pk_cl i, e0]
    refine nm_e (nm_r (nI_1 i) (ih _ ⟨fun k hk => ?_, fun p hp => ?_⟩))
    · simp only [va_up, if_neg hk]; exact a1 k hk
    · simp only [va_up, if_true]
      by_cases e : p = i
      · rw [e, pk_us]
      · rw [pk_un e]; exact a2 p (by omega)
theorem bt_lo {x : Int32} {l n : Nat} (hl : l < 2 ^ 31) (hn : n < 2 ^ 31) : bt x (nI l) (nI n) → ∃ a, l ≤ a ∧ a ≤ n ∧ x = nI a := by
  intro h
  have p : ¬ x < 0 := fun z => h.1 (Int32.lt_of_lt_of_le z (nI_pos' hl))
  obtain ⟨j, hj, rfl⟩ := nI_of p
  refine ⟨j, ?_, ?_, rfl⟩
  · by_cases q : l ≤ j
    · exact q
    · exact absurd (nI_lt (by omega) hl) h.1
  · by_cases q : j ≤ n
    · exact q
    · exact absurd (nI_lt (by omega) hj) h.2
theorem bt_sp {x : Int32} (h : bt x (-3) 3) : ∃ sp, 29 ≤ sp ∧ sp ≤ 35 ∧ x + 32 = nI sp := by
  have a : ¬ x.toInt < -3 := fun z => h.1 (Int32.lt_iff_toInt_lt.mpr z)
  have b : ¬ 3 < x.toInt := fun z => h.2 (Int32.lt_iff_toInt_lt.mpr z)
  refine ⟨(x.toInt + 32).toNat, by omega, by omega, ?_⟩
  refine Int32.toInt_inj.mp ?_
  rw [nI_toInt (by omega), Int32.toInt_add, show (32 : Int32).toInt = 32 from by decide, Int.bmod_eq_of_le (by omega) (by omega)]
  omega
theorem nI_nle0 {n : Nat} (h : n < 2 ^ 31) : nI n ≤ 0 ↔ n = 0 := by
  constructor
  · intro z
    by_cases q : n = 0
    · exact q
    · exact absurd z (nI_nle (by omega) h)
  · intro z; rw [z]; decide
theorem gAQ_sz {G : Geo} {n ph sp p : Nat} (hG : gok G) (h6 : G 0 0 < 6) (hp : p < G 0 0 + 1) : gsz (gAQ G n ph sp) p = if p = G 0 0 then n else gsz G p := by
  have l0 := gok_l hG (p := G 0 0) (Nat.le_refl _) (by omega)
  unfold gsz
  rw [gAQ_5, gAQ_5]
  by_cases e : p = G 0 0
  · rw [if_pos e, if_pos (by omega), if_neg (by omega), e, l0]; omega
  · rw [if_neg e, if_neg (by omega), if_neg (by omega)]
theorem q_plane {G : Geo} {nl : Nat} {I : Nat → Int32} {X : Nat → Nat → Int32} {Q : Int32 → (Nat → Int32) → (Nat → Nat → Int32) → Prop} {x1 x2 x3 : Int32} (hG : gok G) (hM : rM G I X) (h31 : I 31 = nI nl) (hnl : nl ≤ 60) (h1 : 0 < nl → ∀ I', sI I I' 1 → Q 0 I' X) (h2 : nl = 0 → ¬ (bt x1 1 8 ∧ bt x2 0 31 ∧ bt x3 (-3) 3) → ∀ I', sI I I' 2 → Q 0 I' X) (h3 : nl = 0 → (bt x1 1 8 ∧ bt x2 0 31 ∧ bt x3 (-3) 3) → G 0 0 = 6 → ∀ I', sI I I' 3 → Q 0 I' X) (h0 : nl = 0 → (bt x1 1 8 ∧ bt x2 0 31 ∧ bt x3 (-3) 3) → G 0 0 < 6 → ∀ n ph sp, x1 = nI n → 1 ≤ n → n ≤ 8 → x2 = nI ph → ph < 32 → 29 ≤ sp → sp ≤ 35 → x3 + 32 = nI sp → ∀ I' X', I' 0 = 0 → (∀ k, k ≠ 0 → k ≠ 6 → k ≠ 9 → I' k = I k) → rM (gAQ G n ph sp) I' X' → (∀ p, p < 8 → X' 15 p = 0) → (∀ k, 16 ≤ k → X' k = X k) → Q (nI (G 0 0)) I' X') : fX6_plane Q I X x1 x2 x3 := by
  have n6 := gok_np hG
  have i31 : upd I 0 0 31 = nI nl := h31
  have i6 : upd I 0 0 6 = nI (G 0 0) := hM.1
  unfold fX6_plane fX6_plane_b18 fX6_plane_b56 fX6_plane_b61 fX6_plane_b83
  refine nm_e ?_
  rw [i31, nI_nle0 (by omega)]
  refine ⟨fun z => r_th0 ⟨fun y => absurd rfl y, fun _ => ?_⟩, fun z => r_th1 ⟨fun _ => h1 (by omega) _ sI_1, fun y => absurd y (by decide)⟩⟩
  have bad : ¬ (bt x1 1 8 ∧ bt x2 0 31 ∧ bt x3 (-3) 3) → fX6_throwsIf (fun r_15 I_13 X_14 => ((¬ r_15 = 0 → Q (0 : Int32) I_13 X_14) ∧ (r_15 = 0 → ((¬ (I_13 6) = (6 : Int32) → fX6_plane_b83 Q I_13 X_14 x1 x2 x3 (0 : Int32)) ∧ ((I_13 6) = (6 : Int32) → fX6_plane_b83 Q I_13 X_14 x1 x2 x3 (1 : Int32)))))) (upd I 0 0) X 1 2 := fun y => r_th1 ⟨fun _ => h2 z y _ sI_1, fun w => absurd w (by decide)⟩
  refine r_in (fun o1 => ⟨fun y => absurd y (by decide), fun _ => r_in (fun o2 => ⟨fun y => absurd y (by decide), fun _ => r_in (fun o3 => ⟨fun _ => ?_, fun y => absurd y (by decide)⟩) (fun o3 => ⟨fun y => absurd rfl y, fun _ => bad (fun w => o3 w.2.2)⟩)⟩) (fun o2 => ⟨fun _ => bad (fun w => o2 w.2.1), fun y => absurd rfl y⟩)⟩) (fun o1 => ⟨fun _ => bad (fun w => o1 w.1), fun y => absurd rfl y⟩)
  refine r_th0 ⟨fun y => absurd rfl y, fun _ => ?_⟩
  rw [i6]
  refine ⟨fun y => ?_, fun y => r_th1 ⟨fun w => absurd w (by decide), fun _ => h3 z ⟨o1, o2, o3⟩ ((nI_eq (b := 6) (by omega) (by decide)).mp y) _ sI_1⟩⟩
  have lt : G 0 0 < 6 := by
    have : G 0 0 ≠ 6 := fun w => y (by rw [w]; rfl)
    omega
  obtain ⟨n, n1, n2, rfl⟩ := bt_lo (l := 1) (n := 8) (by decide) (by decide) o1
  obtain ⟨ph, p1, rfl⟩ := (bt_k (n := 31) (by decide)).mp o2
  obtain ⟨sp, sp1, sp2, sp3⟩ := bt_sp o3
  have hG' := gAQ_ok (G := G) (n := n) (ph := ph) (sp := sp) hG lt n1 n2 (by omega) sp1 sp2
  have n48' := gok_nr hG'
  rw [gAQ_1] at n48'
  have l0 := gok_l hG (p := G 0 0) (Nat.le_refl _) (by omega)
  refine r_th0 ⟨fun _ => ?_, fun w => absurd rfl w⟩
  rw [i6, pk_cl (G 0 0)]
  refine ⟨pk_in (G 0 0) 6 lt, fun X1 e1 => ⟨pk_in (G 0 0) 6 lt, fun X2 e2 => ⟨pk_in (G 0 0) 6 lt, fun X3 e3 => ⟨pk_in (G 0 0) 6 lt, fun X4 e4 => ?_⟩⟩⟩⟩
  have o : ∀ k, k ≠ 2 → k ≠ 3 → k ≠ 4 → k ≠ 5 → X4 k = X k := by
    intro k a b c d
    rw [e4, e3, e2, e1]; simp [va_up, a, b, c, d]
  have g2 : X4 2 = upd (X 2) (G 0 0) (nI n) := by rw [e4, e3, e2, e1]; simp [va_up]
  have g3 : X4 3 = upd (X 3) (G 0 0) (nI ph) := by rw [e4, e3, e2, e1]; simp [va_up]
  have g4 : X4 4 = upd (X 4) (G 0 0) x3 := by rw [e4, e3, e2, e1]; simp [va_up]
  have g5 : X4 5 = upd (X 5) (G 0 0) (upd I 0 0 9) := by rw [e4, e3, e2, e1]; simp [va_up]
  have i9 : upd I 0 0 9 = nI (G 0 1) := hM.2.1
  rw [i9] at g5
  refine pk_loop (σ := (Nat → Int32) × (Nat → Nat → Int32)) (fun m k s => fX6_plane_h138 Q m s.1 s.2 (nI n) (nI k)) (fun k s => (∀ a, a ≠ 9 → s.1 a = upd I 0 0 a) ∧ s.1 9 = nI (G 0 1 + k) ∧ (∀ a, a ≠ 7 → s.2 a = X4 a) ∧ (∀ r, r < G 0 1 → s.2 7 r = X 7 r) ∧ (∀ j, j < k → s.2 7 (G 0 1 + j) = nI (G 0 0))) n 0 (upd I 0 0, X4) (Nat.zero_le _) ⟨fun _ _ => rfl, i9, fun _ _ => rfl, fun r _ => by show X4 7 r = X 7 r; rw [o 7 (by decide) (by decide) (by decide) (by decide)], fun j hj => by omega⟩ ?_ ?_
  · intro m s ⟨a1, a2, a3, a4, a5⟩
    unfold fX6_plane_h138
    refine ⟨fun _ => ?_, fun w => absurd (nI_le (Nat.le_refl _) (by omega)) w⟩
    have s6 : s.1 6 = nI (G 0 0) := by rw [a1 6 (by decide)]; exact i6
    refine nm_r (e' := upd s.1 6 (nI (G 0 0 + 1))) (by rw [s6, nI_1]) (r6_forgets (fun X' f1 f2 => ?_))
    have ans : upd s.1 6 (nI (G 0 0 + 1)) 6 - (1 : Int32) = nI (G 0 0) := by rw [pk_us]; exact nI_pred _
    rw [ans]
    refine h0 z ⟨o1, o2, o3⟩ lt n ph sp rfl n1 n2 rfl (by omega) sp1 sp2 sp3 _ X' ?_ (fun k b1 b2 b3 => ?_) ?_ f2 (fun k hk => ?_)
    · show s.1 0 = 0
      rw [a1 0 (by decide)]; exact pk_us
    · rw [pk_un b2, a1 k b3, pk_un b1]
    · refine ⟨?_, ?_, ?_, fun p hp => ?_, fun r hr => ?_, fun r hr => ?_, fun j hj => ?_⟩
      · rw [gAQ_0]; exact pk_us
      · rw [gAQ_1]
        show s.1 9 = _
        exact a2
      · rw [gAQ_2]
        show s.1 13 = _
        rw [a1 13 (by decide)]; exact hM.2.2.1
      · rw [gAQ_0] at hp
        rw [gAQ_sz hG lt hp, gAQ_3, gAQ_4, gAQ_5, if_neg (show ¬ G 0 0 < p by omega), f1 2 (by decide), f1 3 (by decide), f1 4 (by decide), f1 5 (by decide), a3 2 (by decide), a3 3 (by decide), a3 4 (by decide), a3 5 (by decide), g2, g3, g4, g5]
        by_cases e : p = G 0 0
        · rw [if_pos e, if_pos e, if_pos e, e, pk_us, pk_us, pk_us, pk_us, l0]
          exact ⟨rfl, rfl, sp3, rfl⟩
        · rw [if_neg e, if_neg e, if_neg e, pk_un e, pk_un e, pk_un e, pk_un e]
          exact hM.2.2.2.1 p (by omega)
      · rw [gAQ_1] at hr
        rw [f1 7 (by decide), gAQ_7]
        by_cases e : G 0 1 ≤ r
        · rw [if_pos e]
          have := a5 (r - G 0 1) (by omega)
          rw [show G 0 1 + (r - G 0 1) = r by omega] at this
          exact this
        · rw [if_neg e, a4 r (by omega)]; exact hM.2.2.2.2.1 r (by omega)
      · rw [gAQ_h (by decide), f1 8 (by decide), a3 8 (by decide), o 8 (by decide) (by decide) (by decide) (by decide)]
        exact hM.2.2.2.2.2.1 r hr
      · rw [gAQ_2] at hj
        rw [gAQ_h (by decide), gAQ_h (by decide), gAQ_h (by decide), f1 10 (by decide), f1 11 (by decide), f1 12 (by decide), a3 10 (by decide), a3 11 (by decide), a3 12 (by decide), o 10 (by decide) (by decide) (by decide) (by decide), o 11 (by decide) (by decide) (by decide) (by decide), o 12 (by decide) (by decide) (by decide) (by decide)]
        exact hM.2.2.2.2.2.2 j hj
    · rw [f1 k (by omega), a3 k (by omega), o k (by omega) (by omega) (by omega) (by omega)]
  · intro m k s hk ⟨a1, a2, a3, a4, a5⟩ ih
    have s6 : s.1 6 = nI (G 0 0) := by rw [a1 6 (by decide)]; exact i6
    unfold fX6_plane_h138
    refine ⟨fun w => absurd w (nI_ge hk (by omega)), fun _ => ?_⟩
    rw [a2, s6, pk_cl (G 0 1 + k)]
    refine ⟨pk_in (G 0 1 + k) 48 (by omega), fun X5 e5 => nm_r (e' := upd s.1 9 (nI (G 0 1 + (k + 1)))) (by rw [nI_1]; rfl) (nm_r (nI_1 k) (ih (upd s.1 9 (nI (G 0 1 + (k + 1))), X5) ⟨fun a ha => ?_, ?_, fun a ha => ?_, fun r hr => ?_, fun j hj => ?_⟩))⟩
    · show upd s.1 9 _ a = _
      rw [pk_un ha]; exact a1 a ha
    · show upd s.1 9 (nI (G 0 1 + (k + 1))) 9 = _
      exact pk_us
    · show X5 a = X4 a
      rw [e5]; simp only [va_up, if_neg ha]; exact a3 a ha
    · show X5 7 r = X 7 r
      rw [e5]; simp only [va_up, if_true]
      rw [pk_un (by omega)]; exact a4 r hr
    · show X5 7 (G 0 1 + j) = _
      rw [e5]; simp only [va_up, if_true]
      by_cases e : j = k
      · rw [e, pk_us]
      · rw [pk_un (by omega)]; exact a5 j (by omega)
theorem q_post {G : Geo} {nl : Nat} {I : Nat → Int32} {X : Nat → Nat → Int32} {Q : Int32 → (Nat → Int32) → (Nat → Nat → Int32) → Prop} {x1 x2 x3 : Int32} (hG : gok G) (hM : rM G I X) (h31 : I 31 = nI nl) (hnl : nl ≤ 60) (h1 : 0 < nl → ∀ I', sI I I' 1 → Q 0 I' X) (h2 : nl = 0 → ¬ (bt x1 0 31 ∧ bt x2 0 5 ∧ bt x3 0 8) → ∀ I', sI I I' 2 → Q 0 I' X) (h3 : nl = 0 → (bt x1 0 31 ∧ bt x2 0 5 ∧ bt x3 0 8) → G 0 2 = 8 → ∀ I', sI I I' 3 → Q 0 I' X) (h0 : nl = 0 → (bt x1 0 31 ∧ bt x2 0 5 ∧ bt x3 0 8) → G 0 2 < 8 → ∀ a b c, x1 = nI a → a < 32 → x2 = nI b → b < 6 → x3 = nI c → c ≤ 8 → ∀ I' X', I' 0 = 0 → (∀ k, k ≠ 0 → k ≠ 13 → I' k = I k) → rM (gAP G a b c) I' X' → (∀ p, p < 8 → X' 15 p = 0) → (∀ k, 16 ≤ k → X' k = X k) → Q (nI (G 0 2)) I' X') : fX6_post Q I X x1 x2 x3 := by
  have n8 := gok_ns hG
  have i31 : upd I 0 0 31 = nI nl := h31
  have i13 : upd I 0 0 13 = nI (G 0 2) := hM.2.2.1
  unfold fX6_post fX6_post_b18 fX6_post_b55 fX6_post_b60 fX6_post_b82
  refine nm_e ?_
  rw [i31, nI_nle0 (by omega)]
  refine ⟨fun z => r_th0 ⟨fun y => absurd rfl y, fun _ => ?_⟩, fun z => r_th1 ⟨fun _ => h1 (by omega) _ sI_1, fun y => absurd y (by decide)⟩⟩
  have bad : ¬ (bt x1 0 31 ∧ bt x2 0 5 ∧ bt x3 0 8) → fX6_throwsIf (fun r_15 I_13 X_14 => ((¬ r_15 = 0 → Q (0 : Int32) I_13 X_14) ∧ (r_15 = 0 → ((¬ (I_13 13) = (8 : Int32) → fX6_post_b82 Q I_13 X_14 x1 x2 x3 (0 : Int32)) ∧ ((I_13 13) = (8 : Int32) → fX6_post_b82 Q I_13 X_14 x1 x2 x3 (1 : Int32)))))) (upd I 0 0) X 1 2 := fun y => r_th1 ⟨fun _ => h2 z y _ sI_1, fun w => absurd w (by decide)⟩
  refine r_in (fun o1 => ⟨fun y => absurd y (by decide), fun _ => r_in (fun o2 => ⟨fun y => absurd y (by decide), fun _ => r_in (fun o3 => ⟨fun _ => ?_, fun y => absurd y (by decide)⟩) (fun o3 => ⟨fun y => absurd rfl y, fun _ => bad (fun w => o3 w.2.2)⟩)⟩) (fun o2 => ⟨fun _ => bad (fun w => o2 w.2.1), fun y => absurd rfl y⟩)⟩) (fun o1 => ⟨fun _ => bad (fun w => o1 w.1), fun y => absurd rfl y⟩)
  refine r_th0 ⟨fun y => absurd rfl y, fun _ => ?_⟩
  rw [i13]
  refine ⟨fun y => ?_, fun y => r_th1 ⟨fun w => absurd w (by decide), fun _ => h3 z ⟨o1, o2, o3⟩ ((nI_eq (b := 8) (by omega) (by decide)).mp y) _ sI_1⟩⟩
  have lt : G 0 2 < 8 := by
    have : G 0 2 ≠ 8 := fun w => y (by rw [w]; rfl)
    omega
  obtain ⟨a, a1, rfl⟩ := (bt_k (n := 31) (by decide)).mp o1
  obtain ⟨b, b1, rfl⟩ := (bt_k (n := 5) (by decide)).mp o2
  obtain ⟨c, c1, rfl⟩ := (bt_k (n := 8) (by decide)).mp o3
  refine r_th0 ⟨fun _ => ?_, fun w => absurd rfl w⟩
  rw [i13, pk_cl (G 0 2)]
  refine ⟨pk_in (G 0 2) 8 lt, fun X1 e1 => ⟨pk_in (G 0 2) 8 lt, fun X2 e2 => ⟨pk_in (G 0 2) 8 lt, fun X3 e3 => ?_⟩⟩⟩
  refine nm_r (e' := upd (upd I 0 0) 13 (nI (G 0 2 + 1))) (by rw [nI_1]) (r6_forgets (fun X' f1 f2 => ?_))
  have o : ∀ k, k ≠ 10 → k ≠ 11 → k ≠ 12 → X3 k = X k := by
    intro k a b c
    rw [e3, e2, e1]; simp [va_up, a, b, c]
  have g10 : X3 10 = upd (X 10) (G 0 2) (nI a) := by rw [e3, e2, e1]; simp [va_up]
  have g11 : X3 11 = upd (X 11) (G 0 2) (nI b) := by rw [e3, e2, e1]; simp [va_up]
  have g12 : X3 12 = upd (X 12) (G 0 2) (nI c) := by rw [e3, e2, e1]; simp [va_up]
  have ans : upd (upd I 0 0) 13 (nI (G 0 2 + 1)) 13 - (1 : Int32) = nI (G 0 2) := by rw [pk_us]; exact nI_pred _
  rw [ans]
  refine h0 z ⟨o1, o2, o3⟩ lt a b c rfl (by omega) rfl (by omega) rfl c1 _ X' rfl (fun k d1 d2 => ?_) ?_ f2 (fun k hk => ?_)
  · rw [pk_un d2, pk_un d1]
  · have e1' : gAP G a b c 0 1 = G 0 1 := gAP_k (by omega) (by omega)
    have e0' : gAP G a b c 0 0 = G 0 0 := gAP_k (by omega) (by omega)
    refine ⟨?_, ?_, ?_, fun p hp => ?_, fun r hr => ?_, fun r hr => ?_, fun j hj => ?_⟩
    · rw [e0']; exact hM.1
    · rw [e1']; exact hM.2.1
    · rw [gAP_2]; exact pk_us
    · rw [e0'] at hp
      have sz : gsz (gAP G a b c) p = gsz G p := by unfold gsz; rw [gAP_fn (k := 5) (by decide) (by decide)]
      rw [sz, gAP_fn (k := 3) (by decide) (by decide), gAP_fn (k := 4) (by decide) (by decide), gAP_fn (k := 5) (by decide) (by decide), f1 2 (by decide), f1 3 (by decide), f1 4 (by decide), f1 5 (by decide), o 2 (by decide) (by decide) (by decide), o 3 (by decide) (by decide) (by decide), o 4 (by decide) (by decide) (by decide), o 5 (by decide) (by decide) (by decide)]
      exact hM.2.2.2.1 p hp
    · rw [e1'] at hr
      rw [gAP_fn (k := 7) (by decide) (by decide), f1 7 (by decide), o 7 (by decide) (by decide) (by decide)]
      exact hM.2.2.2.2.1 r hr
    · rw [gAP_fn (k := 8) (by decide) (by decide), f1 8 (by decide), o 8 (by decide) (by decide) (by decide)]
      exact hM.2.2.2.2.2.1 r hr
    · rw [gAP_2] at hj
      rw [f1 10 (by decide), f1 11 (by decide), f1 12 (by decide), g10, g11, g12]
      by_cases e : j = G 0 2
      · rw [e, pk_us, pk_us, pk_us, gAP_10, gAP_11, gAP_12]; exact ⟨rfl, rfl, rfl⟩
      · rw [pk_un e, pk_un e, pk_un e, gAP_o (by omega) e, gAP_o (by omega) e, gAP_o (by omega) e]
        exact hM.2.2.2.2.2.2 j (by omega)
  · rw [f1 k (by omega), o k (by omega) (by omega) (by omega)]
theorem q_dead {G : Geo} {nl now d : Nat} {E : Let} {I : Nat → Int32} {X : Nat → Nat → Int32} {Q : Int32 → (Nat → Int32) → (Nat → Nat → Int32) → Prop} {x1 x2 : Int32} (hG : gok G) (hM : rM G I X) (hE : eOK G nl now E) (h : rLM nl now E I X) (hd : d ≤ 1) (hx : x2 = nI d) (h1 : ¬ okR G x1 → ∀ I', sI I I' 1 → Q 0 I' X) (hs : ∀ a, a < G 0 1 → x1 = nI a → G 8 a = d → ∀ I' X', sI I I' 0 → rM G I' X' → (∀ k, k ≠ 8 → X' k = X k) → Q 0 I' X') (hn : ∀ a, a < G 0 1 → x1 = nI a → G 8 a ≠ d → ∀ I' X', sI I I' 0 → rM (gDd G a d) I' X' → (∀ p, p < 8 → X' 15 p = 0) → rLM nl now (if d = 0 then E else eHO now (eLo a E) nl) I' X' → Q 1 I' X') : fX6_dead Q I X x1 x2 := by
  have n48 := gok_nr hG
  subst hx
  unfold fX6_dead
  refine nm_e (r_noRelay hG hM.2.1 (fun o1 => r_th0 ⟨fun _ => ?_, fun z => absurd rfl z⟩) (fun o1 => r_th1 ⟨fun z => absurd z (by decide), fun _ => h1 o1 _ sI_1⟩))
  obtain ⟨a, a1, rfl⟩ := o1
  have da := gok_d hG (r := a) (by omega)
  have en : vp_nar .boolean (nI d) = nI d := by
    have : d = 0 ∨ d = 1 := by omega
    rcases this with rfl | rfl <;> decide
  rw [pk_cl a, en]
  refine ⟨pk_in a 48 (by omega), nm_r (hM.2.2.2.2.2.1 a (by omega)) ⟨pk_in a 48 (by omega), fun X1 e1 => ?_⟩⟩
  have g8 : X1 8 = upd (X 8) a (nI d) := by rw [e1]; simp [va_up]
  have go : ∀ k, k ≠ 8 → X1 k = X k := fun k hk => by rw [e1]; simp [va_up, hk]
  refine ⟨fun z => ?_, fun z => ?_⟩
  · have ne : G 8 a ≠ d := fun y => z (by rw [y])
    refine r6_forgets (fun X2 f1 f2 => ?_)
    have hM2 : rM (gDd G a d) (upd I 0 0) X2 := by
      obtain ⟨m6, m9, m13, mp, m7, m8, mj⟩ := hM
      unfold rM gsz
      rw [gDd_fn (k := 0) (by decide), gDd_fn (k := 3) (by decide), gDd_fn (k := 4) (by decide), gDd_fn (k := 5) (by decide), gDd_fn (k := 7) (by decide), gDd_fn (k := 10) (by decide), gDd_fn (k := 11) (by decide), gDd_fn (k := 12) (by decide)]
      rw [f1 2 (by decide), f1 3 (by decide), f1 4 (by decide), f1 5 (by decide), f1 7 (by decide), f1 8 (by decide), f1 10 (by decide), f1 11 (by decide), f1 12 (by decide), go 2 (by decide), go 3 (by decide), go 4 (by decide), go 5 (by decide), go 7 (by decide), go 10 (by decide), go 11 (by decide), go 12 (by decide), g8]
      refine ⟨m6, m9, m13, mp, m7, fun r hr => ?_, mj⟩
      by_cases e : r = a
      · rw [e, pk_us, gDd_8]
      · rw [pk_un e, gDd_o (fun y => e y.2)]; exact m8 r hr
    have h2 : rLM nl now E (upd I 0 0) X2 := rLM_congr h rfl rfl (fun k b1 b2 => by rw [f1 k (by omega), go k (by omega)])
    have hn := hn a a1 rfl ne
    refine ⟨fun w => ?_, fun w => ?_⟩
    · have d1 : d ≠ 0 := fun y => w (by rw [y]; rfl)
      rw [if_neg d1] at hn
      obtain ⟨c1, c2, c3⟩ := id hE
      have m31 : upd I 0 0 31 = nI nl := h.2.1
      refine pk_loop (σ := Nat → Nat → Int32) (fun n i s => fX6_dead_h54 Q n (upd I 0 0) s (nI a) (nI i)) (fun i s => (∀ k, k ≠ 21 → s k = X2 k) ∧ rLM nl now (fun b k => if b < i then eLo a E b k else E b k) (upd I 0 0) s) nl 0 X2 (Nat.zero_le _) ⟨fun _ _ => rfl, h2⟩ ?_ ?_
      · intro n s ⟨k1, k2⟩
        unfold fX6_dead_h54
        rw [m31]
        refine ⟨fun _ => ?_, fun y => absurd (nI_le (Nat.le_refl _) (by omega)) y⟩
        have k3 : rLM nl now (eLo a E) (upd I 0 0) s := by
          obtain ⟨u1, u2, u3, u4⟩ := k2
          refine ⟨u1, u2, fun b hb => ?_, u4⟩
          have := u3 b hb
          simp only [if_pos hb] at this
          exact this
        refine r6_handsOut hG (eOK_Lo hE) k3 (fun X3 j1 j2 => hn _ X3 sI_0 ?_ (fun p hp => ?_) j2)
        · exact rM_congr hM2 rfl rfl rfl (fun k hk => by rw [j1 k (by omega) (by omega), k1 k (by omega)])
        · rw [j1 15 (by decide) (by decide), k1 15 (by decide)]; exact f2 p hp
      · intro n i s hi ⟨k1, k2⟩ ih
        obtain ⟨x0, x1, x2, x3, x4, x5, x6⟩ := c3 i hi
        obtain ⟨q0, q1, q2, q3, q7, q8, q9, q40, q41, q42⟩ := k2.2.2.1 i hi
        simp only [Nat.lt_irrefl, if_false] at q0 q1 q2 q3 q7 q8 q9 q40 q41 q42
        have other : ∀ b k, b ≠ i → (if b < i + 1 then eLo a E b k else E b k) = (if b < i then eLo a E b k else E b k) := by
          intro b k hb
          by_cases q : b < i
          · rw [if_pos q, if_pos (by omega)]
          · rw [if_neg q, if_neg (by omega)]
        have self : ∀ k, (if i < i + 1 then eLo a E i k else E i k) = eLo a E i k := fun k => if_pos (by omega)
        have keep : ¬ ((E i 3 = 1 ∧ E i 4 = a) ∨ (E i 3 = 2 ∧ (E i 4 = a ∨ E i 5 = a))) → fX6_dead_b122 (fun a0 a1 a2 a3 => fX6_dead_h54 Q n a0 a1 a2 a3) Q (upd I 0 0) s (nI a) (nI i) := by
          intro hno
          unfold fX6_dead_b122 fX6_dead_b123 fX6_dead_b138
          refine ⟨fun _ => nm_r (nI_1 i) (ih s ⟨k1, rLM_set (i := i) k2 hi (fun _ _ _ _ _ => rfl) (fun b k hb => other b k hb) ?_⟩), fun y => absurd rfl y⟩
          simp only [self]
          rw [eLo_f hno, eLo_k (k := 0) (by decide), eLo_k (k := 1) (by decide), eLo_k (k := 2) (by decide), eLo_k (k := 4) (by decide), eLo_k (k := 5) (by decide), eLo_k (k := 6) (by decide), eLo_k (k := 7) (by decide), eLo_k (k := 8) (by decide), eLo_k (k := 9) (by decide)]
          exact ⟨q0, q1, q2, q3, q7, q8, q9, q40, q41, q42⟩
        have lost : ((E i 3 = 1 ∧ E i 4 = a) ∨ (E i 3 = 2 ∧ (E i 4 = a ∨ E i 5 = a))) → fX6_dead_b118 (fun a0 a1 a2 a3 => fX6_dead_h54 Q n a0 a1 a2 a3) Q (upd I 0 0) s (nI a) (nI i) := by
          intro hy
          unfold fX6_dead_b118 fX6_dead_b123 fX6_dead_b138
          refine ⟨fun y => absurd y (by decide), fun _ => ⟨pk_in i 60 (by omega), fun X3 e3 => nm_r (nI_1 i) (ih X3 ⟨fun k hk => ?_, rLM_set (i := i) k2 hi (fun k b _ _ hb => ?_) (fun b k hb => other b k hb) ?_⟩)⟩⟩
          · rw [e3]; simp only [va_up, if_neg hk]; exact k1 k hk
          · rw [e3, pk_cl i]
            by_cases e : k = 21
            · subst e; simp [va_up, upd, hb]
            · simp [va_up, e]
          · simp only [self]
            rw [eLo_t hy, eLo_k (k := 0) (by decide), eLo_k (k := 1) (by decide), eLo_k (k := 2) (by decide), eLo_k (k := 4) (by decide), eLo_k (k := 5) (by decide), eLo_k (k := 6) (by decide), eLo_k (k := 7) (by decide), eLo_k (k := 8) (by decide), eLo_k (k := 9) (by decide)]
            rw [e3, pk_cl i]
            have o : ∀ k, k ≠ 21 → va_up s 21 (upd (s 21) i 5) k = s k := fun k hk => by simp [va_up, hk]
            rw [o 19 (by decide), o 20 (by decide), o 22 (by decide), o 23 (by decide), o 24 (by decide), o 25 (by decide), o 26 (by decide), o 27 (by decide), o 28 (by decide)]
            refine ⟨q0, q1, q2, ?_, q7, q8, q9, fun y => absurd y (by decide), fun y => absurd y (by decide), fun y => absurd y (by decide)⟩
            simp only [va_up, if_true]
            rw [pk_us]; rfl
        unfold fX6_dead_h54
        rw [m31]
        refine ⟨fun y => absurd y (nI_ge hi (by omega)), fun _ => ⟨pk_in i 60 (by omega), ?_⟩⟩
        rw [pk_cl i, q3]
        have at2 : ¬ (E i 3 = 1 ∧ E i 4 = a) → fX6_dead_b85 (fun a0 a1 a2 a3 => fX6_dead_h54 Q n a0 a1 a2 a3) Q (upd I 0 0) s (nI a) (nI i) := by
          intro n1
          unfold fX6_dead_b85
          rw [pk_cl i, q3]
          refine ⟨pk_in i 60 (by omega), ⟨fun y => keep (fun u => ?_), fun y => ⟨pk_in i 60 (by omega), ?_⟩⟩⟩
          · rcases u with u | u
            · exact n1 u
            · exact y (by rw [u.1]; rfl)
          · have s2 : E i 3 = 2 := (nI_eq (b := 2) (by omega) (by decide)).mp y
            obtain ⟨t1, t2, t3⟩ := q42 s2
            obtain ⟨w1, w2, _⟩ := x6 s2
            have n8 := gok_ns hG
            rw [t1, t2]
            have i4 : (if E i 4 < 48 then nI (E i 4) else -1) = nI a ↔ E i 4 = a := by
              by_cases y : E i 4 < 48
              · rw [if_pos y]; exact nI_eq (by omega) (by omega)
              · rw [if_neg y]
                exact ⟨fun u => absurd u.symm (nI_m1 (by omega)), fun u => by omega⟩
            have i5 : nI (if E i 5 < 48 then E i 5 else 1000) = nI a ↔ E i 5 = a := by
              by_cases y : E i 5 < 48
              · rw [if_pos y]; exact nI_eq (by omega) (by omega)
              · rw [if_neg y, nI_eq (by omega) (by omega)]
                exact ⟨fun u => by omega, fun u => by omega⟩
            rw [i4, i5]
            refine ⟨fun u => lost (Or.inr ⟨s2, Or.inl u⟩), fun u => ⟨pk_in i 60 (by omega), ⟨fun v => keep (fun g => ?_), fun v => lost (Or.inr ⟨s2, Or.inr v⟩)⟩⟩⟩
            rcases g with g | g
            · omega
            · rcases g.2 with g | g
              · exact u g
              · exact v g
        refine ⟨fun y => at2 (fun u => y (by rw [u.1]; rfl)), fun y => ⟨pk_in i 60 (by omega), ?_⟩⟩
        have s1 : E i 3 = 1 := (nI_eq (b := 1) (by omega) (by decide)).mp y
        have v1 := x5 s1
        rw [q41 s1]
        exact pk_eq (E i 4) a (fun u => lost (Or.inl ⟨s1, u⟩)) (fun u => at2 (fun g => u g.2))
    · have d0 : d = 0 := (nI_is0 (by omega)).mp w
      rw [if_pos d0] at hn
      exact hn _ X2 sI_0 hM2 f2 h2
  · have e : G 8 a = d := (nI_eq (by omega) (by omega)).mp z
    refine hs a a1 rfl e _ X1 sI_0 ?_ go
    obtain ⟨m6, m9, m13, mp, m7, m8, mj⟩ := hM
    refine ⟨m6, m9, m13, ?_, ?_, fun r hr => ?_, ?_⟩
    · rw [go 2 (by decide), go 3 (by decide), go 4 (by decide), go 5 (by decide)]; exact mp
    · rw [go 7 (by decide)]; exact m7
    · rw [g8]
      by_cases er : r = a
      · rw [er, pk_us, e]
      · rw [pk_un er]; exact m8 r hr
    · rw [go 10 (by decide), go 11 (by decide), go 12 (by decide)]; exact mj
/-- a letter is sent -/
def eNw (E : Let) (nl f g now : Nat) : Let := fun a k => if a = nl then (if k = 0 then f else if k = 1 then g else if k = 2 then now else if k = 4 then 48 + f else 0) else E a k
theorem eNw_o {E : Let} {nl f g now a k : Nat} (h : a ≠ nl) : eNw E nl f g now a k = E a k := by unfold eNw; rw [if_neg h]
theorem eNw_n {E : Let} {nl f g now k : Nat} : eNw E nl f g now nl k = (if k = 0 then f else if k = 1 then g else if k = 2 then now else if k = 4 then 48 + f else 0) := by unfold eNw; rw [if_pos rfl]
theorem q_send {G : Geo} {nl now : Nat} {E : Let} {I : Nat → Int32} {X : Nat → Nat → Int32} {Q : Int32 → (Nat → Int32) → (Nat → Nat → Int32) → Prop} {x1 x2 : Int32} (hG : gok G) (hM : rM G I X) (hnl : nl ≤ 60) (h : rLM nl now E I X) (h1 : ¬ (okP G x1 ∧ okP G x2) → ∀ I', sI I I' 1 → Q 0 I' X) (h2 : okP G x1 → okP G x2 → x1 = x2 → ∀ I', sI I I' 2 → Q 0 I' X) (h3 : okP G x1 → okP G x2 → x1 ≠ x2 → nl = 60 → ∀ I', sI I I' 3 → Q 0 I' X) (h0 : ∀ a b, a < G 0 2 → b < G 0 2 → a ≠ b → x1 = nI a → x2 = nI b → nl < 60 → ∀ I' X', I' 0 = 0 → (∀ k, k ≠ 0 → k ≠ 31 → I' k = I k) → (∀ k, k < 19 → X' k = X k) → rLM (nl + 1) now (eNw E nl a b now) I' X' → Q (nI nl) I' X') : fX6_send Q I X x1 x2 := by
  have n8 := gok_ns hG
  have i31 : upd I 0 0 31 = nI nl := h.2.1
  have i1 : upd I 0 0 1 = nI now := h.1
  unfold fX6_send fX6_send_b22 fX6_send_b27 fX6_send_b45 fX6_send_b67
  refine nm_e (r_noPost hG hM.2.2.1 (fun o1 => ⟨fun z => absurd rfl z, fun _ => r_noPost hG hM.2.2.1 (fun o2 => ⟨fun _ => r_th0 ⟨fun z => absurd rfl z, fun _ => ⟨fun ne => r_th0 ⟨fun z => absurd rfl z, fun _ => ?_⟩, fun eq => r_th1 ⟨fun _ => h2 o1 o2 eq _ sI_1, fun z => absurd z (by decide)⟩⟩⟩, fun z => absurd rfl z⟩) (fun o2 => ⟨fun z => absurd z (by decide), fun _ => r_th1 ⟨fun _ => h1 (fun y => o2 y.2) _ sI_1, fun z => absurd z (by decide)⟩⟩)⟩) (fun o1 => ⟨fun _ => r_th1 ⟨fun _ => h1 (fun y => o1 y.1) _ sI_1, fun z => absurd z (by decide)⟩, fun z => absurd z (by decide)⟩))
  rw [i31]
  refine ⟨fun y => ?_, fun y => r_th1 ⟨fun w => absurd w (by decide), fun _ => h3 o1 o2 ne ((nI_eq (b := 60) (by omega) (by decide)).mp y) _ sI_1⟩⟩
  have lt : nl < 60 := by
    have : nl ≠ 60 := fun w => y (by rw [w]; rfl)
    omega
  obtain ⟨a, a1, rfl⟩ := o1
  obtain ⟨b, b1, rfl⟩ := o2
  refine r_th0 ⟨fun _ => ?_, fun w => absurd rfl w⟩
  rw [i31, i1, pk_cl nl]
  refine ⟨pk_in nl 60 lt, fun X1 e1 => ⟨pk_in nl 60 lt, fun X2 e2 => ⟨pk_in nl 60 lt, fun X3 e3 => ⟨pk_in nl 60 lt, fun X4 e4 => ⟨pk_in nl 60 lt, fun X5 e5 => ⟨pk_in nl 60 lt, fun X6 e6 => ⟨pk_in nl 60 lt, fun X7 e7 => ⟨pk_in nl 60 lt, fun X8 e8 => ?_⟩⟩⟩⟩⟩⟩⟩⟩
  refine nm_r (e' := upd (upd I 0 0) 31 (nI (nl + 1))) (by rw [nI_1]) ?_
  have ans : upd (upd I 0 0) 31 (nI (nl + 1)) 31 - (1 : Int32) = nI nl := by rw [pk_us]; exact nI_pred _
  rw [ans]
  have o : ∀ k, k ≠ 19 → k ≠ 20 → k ≠ 21 → k ≠ 22 → k ≠ 23 → k ≠ 26 → k ≠ 27 → k ≠ 28 → X8 k = X k := by
    intro k c1 c2 c3 c4 c5 c6 c7 c8
    rw [e8, e7, e6, e5, e4, e3, e2, e1]; simp [va_up, c1, c2, c3, c4, c5, c6, c7, c8]
  have g19 : X8 19 = upd (X 19) nl (nI a) := by rw [e8, e7, e6, e5, e4, e3, e2, e1]; simp [va_up]
  have g20 : X8 20 = upd (X 20) nl (nI b) := by rw [e8, e7, e6, e5, e4, e3, e2, e1]; simp [va_up]
  have g21 : X8 21 = upd (X 21) nl 0 := by rw [e8, e7, e6, e5, e4, e3, e2, e1]; simp [va_up]
  have g22 : X8 22 = upd (X 22) nl (-1) := by rw [e8, e7, e6, e5, e4, e3, e2, e1]; simp [va_up]
  have g23 : X8 23 = upd (X 23) nl (-1) := by rw [e8, e7, e6, e5, e4, e3, e2, e1]; simp [va_up]
  have g26 : X8 26 = upd (X 26) nl (nI now) := by rw [e8, e7, e6, e5, e4, e3, e2, e1]; simp [va_up]
  have g27 : X8 27 = upd (X 27) nl (-1) := by rw [e8, e7, e6, e5, e4, e3, e2, e1]; simp [va_up]
  have g28 : X8 28 = upd (X 28) nl (-1) := by rw [e8, e7, e6, e5, e4, e3, e2, e1]; simp [va_up]
  refine h0 a b a1 b1 (fun w => ne (by rw [w])) rfl rfl lt _ X8 rfl (fun k c1 c2 => by rw [pk_un c2, pk_un c1]) (fun k hk => o k (by omega) (by omega) (by omega) (by omega) (by omega) (by omega) (by omega) (by omega)) ?_
  obtain ⟨u1, u2, u3, u4⟩ := h
  refine ⟨u1, pk_us, fun i hi => ?_, fun i c1 c2 => ?_⟩
  · rw [g19, g20, g21, g22, g23, g26, g27, g28, o 24 (by decide) (by decide) (by decide) (by decide) (by decide) (by decide) (by decide) (by decide), o 25 (by decide) (by decide) (by decide) (by decide) (by decide) (by decide) (by decide) (by decide)]
    by_cases e : i = nl
    · rw [e, pk_us, pk_us, pk_us, pk_us, pk_us, pk_us, pk_us, pk_us]
      rw [eNw_n, eNw_n, eNw_n, eNw_n, eNw_n, eNw_n, eNw_n, eNw_n, eNw_n, eNw_n, u4 nl (Nat.le_refl _) lt]
      exact ⟨rfl, rfl, rfl, rfl, rfl, rfl, rfl, fun _ => rfl, fun w => absurd (show (0 : Nat) = 1 from w) (by decide), fun w => absurd (show (0 : Nat) = 2 from w) (by decide)⟩
    · rw [pk_un e, pk_un e, pk_un e, pk_un e, pk_un e, pk_un e, pk_un e, pk_un e, eNw_o e, eNw_o e, eNw_o e, eNw_o e, eNw_o e, eNw_o e, eNw_o e, eNw_o e, eNw_o e, eNw_o e]
      exact u3 i (by omega)
  · rw [o 25 (by decide) (by decide) (by decide) (by decide) (by decide) (by decide) (by decide) (by decide)]
    exact u4 i (by omega) c2
/-- what is seen of a letter -/
def eLk (E : Let) (i k : Nat) : Int32 := if k = 0 then nI (E i 3) else if k = 1 then (if E i 3 = 1 then nI (E i 4) else if E i 3 = 2 ∧ E i 5 < 48 then nI (E i 5) else -1) else if k = 2 then nI (E i 7) else if k = 3 then nI (E i 2) else if k = 4 then oI (E i 8) else oI (E i 9)
theorem q_look {G : Geo} {nl now : Nat} {E : Let} {I : Nat → Int32} {X : Nat → Nat → Int32} {Q : Int32 → (Nat → Int32) → (Nat → Nat → Int32) → Prop} {x1 x2 : Int32} (hG : gok G) (hE : eOK G nl now E) (h : rLM nl now E I X) (h1 : (¬ ∃ i, i < nl ∧ x1 = nI i) → ∀ I', sI I I' 1 → Q 0 I' X) (h2 : (∃ i, i < nl ∧ x1 = nI i) → (∀ k, k < 6 → x2 ≠ nI k) → ∀ I', sI I I' 2 → Q 0 I' X) (h0 : ∀ i k, i < nl → k < 6 → x1 = nI i → x2 = nI k → ∀ I', sI I I' 0 → Q (eLk E i k) I' X) : fX6_look Q I X x1 x2 := by
  have n48 := gok_nr hG
  have n8 := gok_ns hG
  obtain ⟨c1, c2, c3⟩ := id hE
  have i31 : upd I 0 0 31 = nI nl := h.2.1
  unfold fX6_look fX6_look_b25
  refine nm_e ?_
  rw [i31]
  refine r_in (fun o => ⟨fun _ => r_th0 ⟨fun _ => ?_, fun z => absurd rfl z⟩, fun z => absurd z (by decide)⟩) (fun o => ⟨fun z => absurd rfl z, fun _ => r_th1 ⟨fun z => absurd z (by decide), fun _ => h1 (fun y => o ((bt_n (by omega)).mpr y)) _ sI_1⟩⟩)
  obtain ⟨i, hi, rfl⟩ := (bt_n (by omega)).mp o
  obtain ⟨x0, x1', x2', x3, x4, x5, x6⟩ := c3 i hi
  obtain ⟨q0, q1, q2, q3, q7, q8, q9, q40, q41, q42⟩ := h.2.2.1 i hi
  have h0 := fun k hk e => h0 i k hi hk rfl e (upd I 0 0) sI_0
  rw [pk_cl i, q3, q7, q2, q8, q9]
  refine ⟨fun z => ⟨pk_in i 60 (by omega), h0 0 (by decide) z⟩, fun z0 => ⟨fun z => ⟨pk_in i 60 (by omega), ?_⟩, fun z1 => ⟨fun z => ⟨pk_in i 60 (by omega), h0 2 (by decide) z⟩, fun z2 => ⟨fun z => ⟨pk_in i 60 (by omega), h0 3 (by decide) z⟩, fun z3 => ⟨fun z => ⟨pk_in i 60 (by omega), h0 4 (by decide) z⟩, fun z4 => ⟨fun z => ⟨pk_in i 60 (by omega), h0 5 (by decide) z⟩, fun z5 => nm_e (h2 ⟨i, hi, rfl⟩ (fun k hk e => ?_) _ sI_1)⟩⟩⟩⟩⟩⟩
  · have h0 := h0 1 (by decide) z
    have ee : eLk E i 1 = (if E i 3 = 1 then nI (E i 4) else if E i 3 = 2 ∧ E i 5 < 48 then nI (E i 5) else -1) := rfl
    rw [ee] at h0
    refine ⟨fun w => ⟨pk_in i 60 (by omega), ?_⟩, fun w => ⟨pk_in i 60 (by omega), ?_⟩⟩
    · have n1 : E i 3 ≠ 1 := fun u => w (by rw [u]; rfl)
      rw [if_neg n1] at h0
      refine ⟨fun u => ?_, fun u => ⟨pk_in i 60 (by omega), ?_⟩⟩
      · rw [if_neg (fun g => u (by rw [g.1]; rfl))] at h0; exact h0
      · have s2 : E i 3 = 2 := (nI_eq (b := 2) (by omega) (by decide)).mp u
        rw [(q42 s2).2.1]
        have w2 := (x6 s2).2.1
        by_cases g : E i 5 < 48
        · rw [if_pos ⟨s2, g⟩] at h0
          rw [if_pos g]
          exact ⟨fun v => by have := (nI_eq (b := 1000) (by omega) (by decide)).mp v; omega, fun _ => ⟨pk_in i 60 (by omega), h0⟩⟩
        · rw [if_neg (fun v => g v.2)] at h0
          rw [if_neg g]
          exact ⟨fun _ => h0, fun v => absurd rfl v⟩
    · have s1 : E i 3 = 1 := (nI_eq (b := 1) (by omega) (by decide)).mp w
      rw [if_pos s1] at h0
      rw [q41 s1]; exact h0
  · have : k = 0 ∨ k = 1 ∨ k = 2 ∨ k = 3 ∨ k = 4 ∨ k = 5 := by omega
    rcases this with rfl | rfl | rfl | rfl | rfl | rfl
    · exact z0 e
    · exact z1 e
    · exact z2 e
    · exact z3 e
    · exact z4 e
    · exact z5 e

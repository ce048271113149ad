/-! the class's planes, posts and the dead, as the law's wrappers give them -/
theorem p_plane {G : Geo} {nl now : Nat} {E : Let} {MI : Nat → Int32} {TT : Nat → Int64} {AW : Nat → Int32} {nE : Nat} {LT : Nat → Nat → Int32} {la : Nat → Nat} {Q : Int32 → (Nat → Int32) → (Nat → Nat → Int32) → (Nat → Int64) → Prop} {SI : Nat → Int32} {SX : Nat → Nat → Int32} {O : Nat → Int64} {x1 x2 x3 : Int32} (hG : gok G) (hS : rS G SI SX) (hnl : nl ≤ 60) (h : rLC nl now E MI nE LT) (h1 : 0 < nl → Q 1 SI SX O) (h2 : nl = 0 → ¬ (bt x1 1 8 ∧ bt x2 0 31 ∧ bt x3 (-3) 3) → Q 2 SI SX O) (h3 : nl = 0 → (bt x1 1 8 ∧ bt x2 0 31 ∧ bt x3 (-3) 3) → G 0 0 = 6 → Q 3 SI SX O) (h0 : nl = 0 → (bt x1 1 8 ∧ bt x2 0 31 ∧ bt x3 (-3) 3) → G 0 0 < 6 → ∀ n ph sp, x1 = nI n → 1 ≤ n → n ≤ 8 → x2 = nI ph → ph < 32 → 29 ≤ sp → sp ≤ 35 → x3 + 32 = nI sp → ∀ SI' SX' O', rS (gAQ G n ph sp) SI' SX' → SI' 3 = SI 3 + 1 → O' 0 = (nI (G 0 0)).toInt64 → Q 0 SI' SX' O') : fL_plane MI TT AW nE LT la Q SI SX O x1 x2 x3 := by
  have n6 := gok_np hG
  have m1 : MI 1 = nI nl := h.2.1
  unfold fL_plane fX5_plane fX5_needNoLetter
  rw [m1, nI_nle0 (by omega)]
  refine ⟨fun z => ?_, fun z => Or.inl ⟨rfl, h1 (by omega)⟩⟩
  refine n_between (fun o1 => n_between (fun o2 => n_between (fun o3 => ?_) (fun o3 => Or.inr (Or.inl ⟨rfl, h2 z (fun y => o3 y.2.2)⟩))) (fun o2 => Or.inr (Or.inl ⟨rfl, h2 z (fun y => o2 y.2.1)⟩))) (fun o1 => Or.inr (Or.inl ⟨rfl, h2 z (fun y => o1 y.1)⟩))
  rw [hS.1.1]
  refine pk_lt (G 0 0) 6 (fun w => ?_) (fun w => Or.inr (Or.inr ⟨rfl, h3 z ⟨o1, o2, o3⟩ (by omega)⟩))
  obtain ⟨n, n1, n2, rfl⟩ := bt_lo (l := 1) (n := 8) (by decide) (by decide) o1
  obtain ⟨ph, p1, rfl⟩ := (bt_k (n := 31) (by decide)).mp o2
  obtain ⟨sp, sp1, sp2, sp3⟩ := bt_sp o3
  exact r3_addPlane hG hS w n1 n2 (by omega) sp1 sp2 sp3 (fun SI' SX' f1 f2 => ⟨in01, nm_e (h0 z ⟨o1, o2, o3⟩ w n ph sp rfl n1 n2 rfl (by omega) sp1 sp2 sp3 SI' SX' _ f1 f2 O_0)⟩)
theorem p_post {G : Geo} {c nl now : Nat} {E : Let} {MI : Nat → Int32} {TT : Nat → Int64} {AW : Nat → Int32} {nE : Nat} {LT : Nat → Nat → Int32} {la : Nat → Nat} {Q : Int32 → (Nat → Int32) → (Nat → Nat → Int32) → Nat → (Nat → Nat → Int32) → (Nat → Nat → Nat) → (Nat → Nat → Int32) → (Nat → Nat → Nat → Int32) → (Nat → Nat → Nat) → (Nat → Int64) → Prop} {SI : Nat → Int32} {SX : Nat → Nat → Int32} {nW : Nat} {WI : Nat → Nat → Int32} {WR : Nat → Nat → Nat} {WL : Nat → Nat → Int32} {WX : Nat → Nat → Nat → Int32} {wd : Nat → Nat → Nat} {O : Nat → Int64} {x1 x2 x3 : Int32} (hG : gok G) (hS : rS G SI SX) (hnl : nl ≤ 60) (h : rLC nl now E MI nE LT) (hY : rY G c nW WI WR WL) (h1 : 0 < nl → Q 1 SI SX nW WI WR WL WX wd O) (h2 : nl = 0 → ¬ (bt x1 0 31 ∧ bt x2 0 5 ∧ bt x3 0 8) → Q 2 SI SX nW WI WR WL WX wd O) (h3 : nl = 0 → (bt x1 0 31 ∧ bt x2 0 5 ∧ bt x3 0 8) → G 0 2 = 8 → Q 3 SI SX nW WI WR WL WX wd O) (h0 : nl = 0 → (bt x1 0 31 ∧ bt x2 0 5 ∧ bt x3 0 8) → G 0 2 < 8 → ∀ a b d, x1 = nI a → a < 32 → x2 = nI b → b < 6 → x3 = nI d → d ≤ 8 → ∀ SI' SX' nW' WI' WR' WL' WX' wd' O', rS (gAP G a b d) SI' SX' → SI' 3 = SI 3 + 1 → nW' = nW + 1 → WI' = va_up WI nW (way0 (nI (G 0 2))) → WR' = va_up WR nW wr0 → WL' = va_up WL nW (fun _ => 0) → O' 0 = (nI (G 0 2)).toInt64 → Q 0 SI' SX' nW' WI' WR' WL' WX' wd' O') : fL_post MI TT AW nE LT la Q SI SX nW WI WR WL WX wd O x1 x2 x3 := by
  have n8 := gok_ns hG
  have m1 : MI 1 = nI nl := h.2.1
  have hn := hY.1
  unfold fL_post fX5_post fX5_needNoLetter
  rw [m1, nI_nle0 (by omega)]
  refine ⟨fun z => ?_, fun z => Or.inl ⟨rfl, h1 (by omega)⟩⟩
  refine n_between (fun o1 => n_between (fun o2 => n_between (fun o3 => ?_) (fun o3 => Or.inr (Or.inl ⟨rfl, h2 z (fun y => o3 y.2.2)⟩))) (fun o2 => Or.inr (Or.inl ⟨rfl, h2 z (fun y => o2 y.2.1)⟩))) (fun o1 => Or.inr (Or.inl ⟨rfl, h2 z (fun y => o1 y.1)⟩))
  rw [hS.1.2.2.1]
  refine pk_lt (G 0 2) 8 (fun w => ?_) (fun w => Or.inr (Or.inr ⟨rfl, h3 z ⟨o1, o2, o3⟩ (by omega)⟩))
  obtain ⟨a, a1, rfl⟩ := (bt_k (n := 31) (by decide)).mp o1
  obtain ⟨b, b1, rfl⟩ := (bt_k (n := 5) (by decide)).mp o2
  obtain ⟨d, d1, rfl⟩ := (bt_k (n := 8) (by decide)).mp o3
  refine r3_addPost hG hS w (by omega) (by omega) d1 (fun SI' SX' f1 f2 => ⟨pk_in (G 0 2) 8 w, ?_, fun nW' WI' WR' WL' WX' wd' e1 e2 e3 e4 e5 => ⟨in01, nm_e (h0 z ⟨o1, o2, o3⟩ w a b d rfl (by omega) rfl (by omega) rfl d1 SI' SX' nW' WI' WR' WL' WX' wd' _ f1 f2 e1 e2 e3 e4 O_0)⟩⟩)
  rw [nI_clamp (by omega)]; exact hn.symm
theorem p_dead {G : Geo} {nl now d : Nat} {E : Let} {nE : Nat} {la : Nat → Nat} {Q : Int32 → (Nat → Int32) → (Nat → Nat → Int32) → (Nat → Int32) → (Nat → Int64) → (Nat → Int32) → (Nat → Nat → Int32) → (Nat → Int64) → Prop} {SI : Nat → Int32} {SX : Nat → Nat → Int32} {MI : Nat → Int32} {TT : Nat → Int64} {AW : Nat → Int32} {LT : Nat → Nat → Int32} {O : Nat → Int64} {x1 : Int32} (hG : gok G) (hS : rS G SI SX) (hE : eOK G nl now E) (h : rLC nl now E MI nE LT) (hd : d ≤ 1) (h1 : ¬ okR G x1 → Q 1 SI SX MI TT AW LT O) (hs : ∀ a, a < G 0 1 → x1 = nI a → G 8 a = d → ∀ O', O' 0 = 0 → Q 0 SI SX MI TT AW LT O') (hn : ∀ a, a < G 0 1 → x1 = nI a → G 8 a ≠ d → ∀ SI' SX' AW' LT' O', rS (gDd G a d) SI' SX' → SI' 3 = SI 3 + 1 → rLC nl now (if d = 0 then E else eHO now (eLo a E) nl) MI nE LT' → O' 0 = 1 → Q 0 SI' SX' MI TT AW' LT' O') : fL_dead nE la Q SI SX MI TT AW LT O x1 (nI d) := by
  have n48 := gok_nr hG
  unfold fL_dead fX5_dead
  refine n_relay hG hS.1.2.1 (fun o1 => ?_) (fun o1 => ⟨rfl, h1 o1⟩)
  obtain ⟨a, a1, rfl⟩ := o1
  have z0 : vz 0 := by unfold vz; decide
  have z1 : vz 1 := by unfold vz; decide
  refine r3_turnDead hG hS a1 hd (fun e => ?_) (fun e SI' SX' f1 f2 => ?_)
  · unfold fL_dead_b16
    exact ⟨fun _ => ⟨z0, ⟨fun _ => ⟨in01, nm_e (hs a a1 rfl e _ O_0)⟩, fun y => absurd rfl y⟩⟩, fun y => absurd rfl y⟩
  · have hn := hn a a1 rfl e SI' SX'
    unfold fL_dead_b16
    refine ⟨fun y => absurd y (by decide), fun _ => ⟨fun y => ?_, fun y => ?_⟩⟩
    · have d0 : d = 0 := (nI_is0 (by omega)).mp y
      rw [if_pos d0] at hn
      exact ⟨z1, ⟨fun w => absurd w (by decide), fun _ => ⟨in01, nm_e (hn AW LT _ f1 f2 h O_0)⟩⟩⟩
    · have d1 : d ≠ 0 := fun w => y (by rw [w]; rfl)
      rw [if_neg d1] at hn
      refine r2_lose hG hE h (by omega) (fun AW' LT' g => ?_)
      exact ⟨z1, ⟨fun w => absurd w (by decide), fun _ => ⟨in01, nm_e (hn AW' LT' _ f1 f2 g O_0)⟩⟩⟩
/-! what holds between two calls -/
def gInv (j : Nat) (SI : Nat → Int32) (SX : Nat → Nat → Int32) (MI : Nat → Int32) (nE : Nat) (LT : Nat → Nat → Int32) (nW : Nat) (WI : Nat → Nat → Int32) (WR : Nat → Nat → Nat) (WL : Nat → Nat → Int32) (I : Nat → Int32) (X : Nat → Nat → Int32) : Prop := ∃ (G : Geo) (nl now : Nat) (E : Let) (c : Nat), gok G ∧ rM G I X ∧ rS G SI SX ∧ rK G X ∧ c ≤ j ∧ SI 3 = nI c ∧ rY G c nW WI WR WL ∧ eOK G nl now E ∧ eHOK nl E ∧ rLC nl now E MI nE LT ∧ rLM nl now E I X ∧ now ≤ 100 * j
theorem rLM_sI {nl now : Nat} {E : Let} {I I' : Nat → Int32} {X : Nat → Nat → Int32} {c : Int32} (h : rLM nl now E I X) (s : sI I I' c) : rLM nl now E I' X := rLM_congr h (s.1 1 (by decide)) (s.1 31 (by decide)) (fun _ _ _ => rfl)
/-- the ways, when the sky has changed -/
theorem rY_next {G G' : Geo} {c nW : Nat} {WI : Nat → Nat → Int32} {WR : Nat → Nat → Nat} {WL : Nat → Nat → Int32} (h : rY G c nW WI WR WL) (hc : c < 1000) (e : G' 0 2 = G 0 2) : rY G' (c + 1) nW WI WR WL := by
  obtain ⟨a, b⟩ := h
  refine ⟨by rw [e]; exact a, fun j hj => ?_⟩
  obtain ⟨k1, k2, k3, k4⟩ := b j hj
  refine ⟨k1, k2, ?_, fun z => ?_⟩
  · rcases k3 with y | ⟨c', y1, y2⟩
    · exact Or.inl y
    · exact Or.inr ⟨c', by omega, y2⟩
  · rcases k3 with y | ⟨c', y1, y2⟩
    · rw [y] at z; exact absurd z.symm (nI_m1 (by omega))
    · rw [y2] at z
      have := (nI_eq (by omega) (by omega)).mp z
      omega
theorem rK_none {G : Geo} {X : Nat → Nat → Int32} (hG : gok G) (h : ∀ p, p < 8 → X 15 p = 0) : rK G X := fun j hj h0 => absurd (h j (by have := gok_ns hG; omega)) h0
theorem eOK_0 {G G' : Geo} {now : Nat} {E : Let} (h : eOK G 0 now E) : eOK G' 0 now E := ⟨h.1, h.2.1, fun i hi => by omega⟩
theorem eHOK_Lo {now nl a : Nat} {E : Let} : eHOK nl (eHO now (eLo a E) nl) := eHO_ok
theorem eOK_Dd {G : Geo} {nl now a d : Nat} {E : Let} (h : eOK G nl now E) : eOK (gDd G a d) nl now E := by
  unfold eOK at h ⊢
  rw [gDd_fn (k := 0) (by decide)]
  exact h
theorem eOK_Nw {G : Geo} {nl now a b : Nat} {E : Let} (h : eOK G nl now E) (hl : nl < 60) (ha : a < G 0 2) (hb : b < G 0 2) (hab : a ≠ b) : eOK G (nl + 1) now (eNw E nl a b now) := by
  obtain ⟨h1, h2, h3⟩ := h
  refine ⟨by omega, h2, fun i hi => ?_⟩
  by_cases e : i = nl
  · rw [e, eNw_n, eNw_n, eNw_n, eNw_n, eNw_n, eNw_n]
    exact ⟨ha, hb, hab, Nat.zero_le _, fun _ => rfl, fun z => absurd (show (0 : Nat) = 1 from z) (by decide), fun z => absurd (show (0 : Nat) = 2 from z) (by decide)⟩
  · rw [eNw_o e, eNw_o e, eNw_o e, eNw_o e, eNw_o e, eNw_o e]
    exact h3 i (by omega)
theorem eHOK_Nw {nl now a b : Nat} {E : Let} (h : eHOK nl E) : eHOK (nl + 1) (eNw E nl a b now) := by
  intro i hi h3
  by_cases e : i = nl
  · rw [e, eNw_n] at h3
    exact absurd (show (0 : Nat) = 3 from h3) (by decide)
  · rw [eNw_o e] at h3
    obtain ⟨k, k1, k2, k3, k4, k5⟩ := h i (by omega) h3
    have ek : k ≠ nl := by omega
    refine ⟨k, k1, ?_, ?_, ?_, ?_⟩
    · rw [eNw_o ek, eNw_o e]; exact k2
    · rw [eNw_o ek, eNw_o e]; exact k3
    · rw [eNw_o ek]; exact k4
    · rw [eNw_o ek]; exact k5
theorem rY_new {G : Geo} {c nW a b d : Nat} {WI : Nat → Nat → Int32} {WR : Nat → Nat → Nat} {WL : Nat → Nat → Int32} (h : rY G c nW WI WR WL) (hc : c < 1000) : rY (gAP G a b d) (c + 1) (nW + 1) (va_up WI nW (way0 (nI (G 0 2)))) (va_up WR nW wr0) (va_up WL nW (fun _ => 0)) := by
  obtain ⟨e, f⟩ := h
  refine ⟨by rw [gAP_2, e], fun j hj => ?_⟩
  by_cases q : j = nW
  · have e1 : va_up WI nW (way0 (nI (G 0 2))) j = way0 (nI (G 0 2)) := by simp [va_up, q]
    have e2 : va_up WR nW wr0 j = wr0 := by simp [va_up, q]
    rw [e1, e2]
    have w1 : way0 (nI (G 0 2)) 1 = nI (48 + j) := by rw [q, e]; exact nI_add 48 (G 0 2)
    have w3 : way0 (nI (G 0 2)) 3 = -1 := rfl
    rw [w1, w3]
    refine ⟨rfl, ⟨Or.inl rfl, Or.inr (Or.inl rfl), Or.inr (Or.inr rfl), by decide, by decide, by decide⟩, Or.inl rfl, fun z => absurd z.symm (nI_m1 (by omega))⟩
  · have e1 : va_up WI nW (way0 (nI (G 0 2))) j = WI j := by simp [va_up, q]
    have e2 : va_up WR nW wr0 j = WR j := by simp [va_up, q]
    have e3 : va_up WL nW (fun _ => 0) j = WL j := by simp [va_up, q]
    rw [e1, e2, e3]
    obtain ⟨k1, k2, k3, k4⟩ := f j (by omega)
    refine ⟨k1, k2, ?_, fun z => ?_⟩
    · rcases k3 with y | ⟨c', y1, y2⟩
      · exact Or.inl y
      · exact Or.inr ⟨c', by omega, y2⟩
    · rcases k3 with y | ⟨c', y1, y2⟩
      · rw [y] at z; exact absurd z.symm (nI_m1 (by omega))
      · rw [y2] at z
        have := (nI_eq (by omega) (by omega)).mp z
        omega

/-! the law's call of dead, one round of its loop, and the loop -/
theorem b_dead {L : Nat} {xs : Nat → Int32} {j : Nat} (hL : 4 * j + 4 ≤ L) (hL2 : L ≤ 2048) {G23 : (Nat → Int32) → (Nat → Nat → Int32) → (Int64) → (Int32) → (Nat → Nat → Int64) → (Nat → Nat → Int32) → (Nat → Int32) → (Nat → Int64) → (Nat → Int32) → (Nat) → (Nat → Nat → Int32) → (Nat → Nat) → (Nat) → (Nat → Nat → Int32) → (Nat → Nat → Nat) → (Nat → Nat → Int32) → (Nat → Nat → Nat → Int32) → (Nat → Nat → Nat) → (Nat → Int32) → (Nat → Nat → Int32) → (Nat → Int64) → Int32 → Prop} {SI : Nat → Int32} {SX : Nat → Nat → Int32} {CU : Int64} {CQ : Int32} {CJ : Nat → Nat → Int64} {CX : Nat → Nat → Int32} {MI : Nat → Int32} {TT : Nat → Int64} {AW : Nat → Int32} {nE : Nat} {LT : Nat → Nat → Int32} {la : Nat → Nat} {nW : Nat} {WI : Nat → Nat → Int32} {WR : Nat → Nat → Nat} {WL : Nat → Nat → Int32} {WX : Nat → Nat → Nat → Int32} {wd : Nat → Nat → Nat} {I : Nat → Int32} {X : Nat → Nat → Int32} {O : Nat → Int64} (hI : gInv j SI SX MI nE LT nW WI WR WL I X) (hN : ∀ (SI' : Nat → Int32) (SX' : Nat → Nat → Int32) (CU' : Int64) (CQ' : Int32) (CJ' : Nat → Nat → Int64) (CX' : Nat → Nat → Int32) (MI' : Nat → Int32) (TT' : Nat → Int64) (AW' : Nat → Int32) (nE' : Nat) (LT' : Nat → Nat → Int32) (la' : Nat → Nat) (nW' : Nat) (WI' : Nat → Nat → Int32) (WR' : Nat → Nat → Nat) (WL' : Nat → Nat → Int32) (WX' : Nat → Nat → Nat → Int32) (wd' : Nat → Nat → Nat) (I' : Nat → Int32) (X' : Nat → Nat → Int32) (O' : Nat → Int64), gInv (j + 1) SI' SX' MI' nE' LT' nW' WI' WR' WL' I' X' → G23 SI' SX' CU' CQ' CJ' CX' MI' TT' AW' nE' LT' la' nW' WI' WR' WL' WX' wd' I' X' O' (nI (4 * (j + 1)))) : fL_law_336 L xs G23 SI SX CU CQ CJ CX MI TT AW nE LT la nW WI WR WL WX wd I X O (nI (4 * j)) := by
  obtain ⟨G, nl, now, E, c, hG, hM, hS, hK, hc, h3, hY, hE, hH, hC, hR, hnow⟩ := hI
  have hnl : nl ≤ 60 := hE.1
  have n48 := gok_nr hG
  have n8 := gok_ns hG
  have n6 := gok_np hG
  have v1 : vp_in (nI (4 * j) + (1 : Int32)) L := by rw [nI_1]; exact vp_in_nI (by omega) (by omega)
  have v2 : vp_in (nI (4 * j) + (2 : Int32)) L := by rw [show nI (4 * j) + (2 : Int32) = nI (4 * j + 2) from nI_add _ 2]; exact vp_in_nI (by omega) (by omega)
  have v3 : vp_in (nI (4 * j) + (3 : Int32)) L := by rw [show nI (4 * j) + (3 : Int32) = nI (4 * j + 3) from nI_add _ 3]; exact vp_in_nI (by omega) (by omega)
  have e4 : nI (4 * j) + (4 : Int32) = nI (4 * (j + 1)) := nI_add (4 * j) 4
  have s3 : nI c + 1 = nI (c + 1) := nI_1 c
  have nx : ∀ {SI' : Nat → Int32} {SX' : Nat → Nat → Int32} {CU' : Int64} {CQ' : Int32} {CJ' : Nat → Nat → Int64} {CX' : Nat → Nat → Int32} {MI' : Nat → Int32} {TT' : Nat → Int64} {AW' : Nat → Int32} {nE' : Nat} {LT' : Nat → Nat → Int32} {la' : Nat → Nat} {nW' : Nat} {WI' : Nat → Nat → Int32} {WR' : Nat → Nat → Nat} {WL' : Nat → Nat → Int32} {WX' : Nat → Nat → Nat → Int32} {wd' : Nat → Nat → Nat} {I' : Nat → Int32} {X' : Nat → Nat → Int32} {O' : Nat → Int64}, gInv (j + 1) SI' SX' MI' nE' LT' nW' WI' WR' WL' I' X' → ∀ x4 : Int32, x4 = nI (4 * j) + (4 : Int32) → G23 SI' SX' CU' CQ' CJ' CX' MI' TT' AW' nE' LT' la' nW' WI' WR' WL' WX' wd' I' X' O' x4 := fun {SI'} {SX'} {CU'} {CQ'} {CJ'} {CX'} {MI'} {TT'} {AW'} {nE'} {LT'} {la'} {nW'} {WI'} {WR'} {WL'} {WX'} {wd'} {I'} {X'} {O'} h => nm_r e4 (hN SI' SX' CU' CQ' CJ' CX' MI' TT' AW' nE' LT' la' nW' WI' WR' WL' WX' wd' I' X' O' h)
  have core : ∀ d : Nat, d ≤ 1 → fL_dead nE la (fun r_83 SI_76 SX_77 MI_78 TT_79 AW_80 LT_81 O_82 => fX6_dead (fun r_89 I_87 X_88 => fX6_thrown I_87 X_88 (fun r_90 => ((r_90 = r_83 → ((¬ r_83 = 0 → ∀ x4 : Int32, x4 = nI (4 * j) + (4 : Int32) → G23 SI_76 SX_77 CU CQ CJ CX MI_78 TT_79 AW_80 nE LT_81 la nW WI WR WL WX wd I_87 X_88 O_82 x4) ∧ (r_83 = 0 → vp_in (0 : Int32) 1 ∧ ((r_89 = 0 → (((lg_cmp (O_82 (0 : Int32).toNatClampNeg) (0 : Int64)) = 0 → ∀ x4 : Int32, x4 = nI (4 * j) + (4 : Int32) → G23 SI_76 SX_77 CU CQ CJ CX MI_78 TT_79 AW_80 nE LT_81 la nW WI WR WL WX wd I_87 X_88 O_82 x4) ∧ (¬ ((lg_cmp (O_82 (0 : Int32).toNatClampNeg) (0 : Int64)) = 0) → False))) ∧ (¬ (r_89 = 0) → (((lg_cmp (O_82 (0 : Int32).toNatClampNeg) (1 : Int64)) = 0 → ∀ x4 : Int32, x4 = nI (4 * j) + (4 : Int32) → G23 SI_76 SX_77 CU CQ CJ CX MI_78 TT_79 AW_80 nE LT_81 la nW WI WR WL WX wd I_87 X_88 O_82 x4) ∧ (¬ ((lg_cmp (O_82 (0 : Int32).toNatClampNeg) (1 : Int64)) = 0) → False))))))) ∧ (¬ (r_90 = r_83) → False)))) I X (xs (nI (4 * j) + (1 : Int32)).toNatClampNeg) (nI d)) SI SX MI TT AW LT O (xs (nI (4 * j) + (1 : Int32)).toNatClampNeg) (nI d) := by
    intro d hd
    unfold fX6_thrown
    refine p_dead hG hS hE hC hd (fun o => q_dead hG hM hE hR hd rfl (fun _ I' s => chkB s.2 (fun z => absurd z (by decide)) (nx ⟨G, nl, now, E, c, hG, rM_sI hM s, hS, hK, by omega, h3, hY, hE, hH, hC, rLM_sI hR s, by omega⟩)) (fun a a1 e => absurd ⟨a, a1, e⟩ o) (fun a a1 e => absurd ⟨a, a1, e⟩ o)) (fun a a1 e ed O' eO => q_dead hG hM hE hR hd rfl (fun o => absurd ⟨a, a1, e⟩ o) (fun a' a1' e' ed' I' X' s g1 g2 => chkB s.2 (fun _ => ⟨fun _ => eO, fun z => absurd rfl z⟩) (nx ⟨G, nl, now, E, c, hG, g1, hS, rK_congr hK (g2 14 (by decide)) (g2 15 (by decide)), by omega, h3, hY, hE, hH, hC, rLM_congr (rLM_sI hR s) rfl rfl (fun k u1 u2 => g2 k (by omega)), by omega⟩)) (fun a' a1' e' ed' => absurd ed (by rw [nIi e e' (by omega) (by omega)]; exact ed'))) (fun a a1 e ed SI' SX' AW' LT' O' f1 f2 f3 eO => q_dead hG hM hE hR hd rfl (fun o => absurd ⟨a, a1, e⟩ o) (fun a' a1' e' ed' => absurd ed' (by rw [← nIi e e' (by omega) (by omega)]; exact ed)) (fun a' a1' e' ed' I' X' s g1 g2 g3 => ?_))
    have qa := nIi e e' (by omega) (by omega)
    subst qa
    have hG' := gDd_ok (r := a) (d := d) hG a1 hd
    refine chkB s.2 (fun _ => ⟨fun z => absurd z (by decide), fun _ => eO⟩) (nx ⟨gDd G a d, nl, now, (if d = 0 then E else eHO now (eLo a E) nl), c + 1, hG', g1, f1, rK_none hG' g2, by omega, by rw [f2, h3, s3], rY_next hY (by omega) (by rw [gDd_fn (k := 0) (by decide)]), ?_, ?_, f3, g3, by omega⟩)
    · by_cases d0 : d = 0
      · rw [if_pos d0]; exact eOK_Dd hE
      · rw [if_neg d0]; exact eOK_Dd (eOK_HO (eOK_Lo hE))
    · by_cases d0 : d = 0
      · rw [if_pos d0]; exact hH
      · rw [if_neg d0]; exact eHOK_Lo
  unfold fL_law_336 fL_law_357 fL_law_384 fL_law_418 fL_law_424 fL_law_1123
  refine ⟨v1, v2, ⟨fun z => ?_, fun z => ?_⟩⟩
  · have := core 0 (by decide)
    rw [nI_0] at this
    unfold fL_dead fX5_dead at this ⊢
    simp only [v1, v2, z, true_and, not_true, false_implies, and_true, forall_const, true_implies] at this ⊢
    exact this
  · have := core 1 (by decide)
    unfold fL_dead fX5_dead at this ⊢
    simp only [v1, v2, z, true_and, not_false_eq_true, false_implies, and_true, true_implies] at this ⊢
    exact this

theorem b_round {L : Nat} {xs : Nat → Int32} {j : Nat} (hL : 4 * j + 4 ≤ L) (hL2 : L ≤ 2048) {G23 : (Nat → Int32) → (Nat → Nat → Int32) → (Int64) → (Int32) → (Nat → Nat → Int64) → (Nat → Nat → Int32) → (Nat → Int32) → (Nat → Int64) → (Nat → Int32) → (Nat) → (Nat → Nat → Int32) → (Nat → Nat) → (Nat) → (Nat → Nat → Int32) → (Nat → Nat → Nat) → (Nat → Nat → Int32) → (Nat → Nat → Nat → Int32) → (Nat → Nat → Nat) → (Nat → Int32) → (Nat → Nat → Int32) → (Nat → Int64) → Int32 → Prop} {SI : Nat → Int32} {SX : Nat → Nat → Int32} {CU : Int64} {CQ : Int32} {CJ : Nat → Nat → Int64} {CX : Nat → Nat → Int32} {MI : Nat → Int32} {TT : Nat → Int64} {AW : Nat → Int32} {nE : Nat} {LT : Nat → Nat → Int32} {la : Nat → Nat} {nW : Nat} {WI : Nat → Nat → Int32} {WR : Nat → Nat → Nat} {WL : Nat → Nat → Int32} {WX : Nat → Nat → Nat → Int32} {wd : Nat → Nat → Nat} {I : Nat → Int32} {X : Nat → Nat → Int32} {O : Nat → Int64} (hI : gInv j SI SX MI nE LT nW WI WR WL I X) (hN : ∀ (SI' : Nat → Int32) (SX' : Nat → Nat → Int32) (CU' : Int64) (CQ' : Int32) (CJ' : Nat → Nat → Int64) (CX' : Nat → Nat → Int32) (MI' : Nat → Int32) (TT' : Nat → Int64) (AW' : Nat → Int32) (nE' : Nat) (LT' : Nat → Nat → Int32) (la' : Nat → Nat) (nW' : Nat) (WI' : Nat → Nat → Int32) (WR' : Nat → Nat → Nat) (WL' : Nat → Nat → Int32) (WX' : Nat → Nat → Nat → Int32) (wd' : Nat → Nat → Nat) (I' : Nat → Int32) (X' : Nat → Nat → Int32) (O' : Nat → Int64), gInv (j + 1) SI' SX' MI' nE' LT' nW' WI' WR' WL' I' X' → G23 SI' SX' CU' CQ' CJ' CX' MI' TT' AW' nE' LT' la' nW' WI' WR' WL' WX' wd' I' X' O' (nI (4 * (j + 1)))) : fL_law_23 L xs G23 SI SX CU CQ CJ CX MI TT AW nE LT la nW WI WR WL WX wd I X O (nI (4 * j)) := by
  have v0 : vp_in (nI (4 * j)) L := vp_in_nI (by omega) (by omega)
  unfold fL_law_23
  refine ⟨fun _ => trivial, fun _ => ⟨v0, ?_⟩⟩
  exact ⟨fun _ => b_plane hL hL2 hI hN, fun _ => ⟨fun _ => b_post hL hL2 hI hN, fun _ => ⟨fun _ => b_over hL hL2 hI hN, fun _ => ⟨fun _ => b_dead hL hL2 hI hN, fun _ => ⟨fun _ => b_link hL hL2 hI hN, fun _ => ⟨fun _ => b_sees hL hL2 hI hN, fun _ => ⟨fun _ => b_earliest hL hL2 hI hN, fun _ => ⟨fun _ => b_late hL hL2 hI hN, fun _ => ⟨fun _ => b_meets hL hL2 hI hN, fun _ => ⟨fun _ => b_part hL hL2 hI hN, fun _ => ⟨fun _ => b_send hL hL2 hI hN, fun _ => ⟨fun _ => b_steps hL hL2 hI hN, fun _ => ⟨fun _ => b_look hL hL2 hI hN, fun _ => ⟨fun _ => b_count hL hL2 hI hN, fun _ => b_none hL hL2 hI hN⟩⟩⟩⟩⟩⟩⟩⟩⟩⟩⟩⟩⟩⟩

/-- the loop: from every state that the law can be in, it goes to its end -/
theorem b_loop {L : Nat} {xs : Nat → Int32} (hL : L ≤ 2048) : ∀ (n j : Nat), j + n = 513 → ∀ (SI : Nat → Int32) (SX : Nat → Nat → Int32) (CU : Int64) (CQ : Int32) (CJ : Nat → Nat → Int64) (CX : Nat → Nat → Int32) (MI : Nat → Int32) (TT : Nat → Int64) (AW : Nat → Int32) (nE : Nat) (LT : Nat → Nat → Int32) (la : Nat → Nat) (nW : Nat) (WI : Nat → Nat → Int32) (WR : Nat → Nat → Nat) (WL : Nat → Nat → Int32) (WX : Nat → Nat → Nat → Int32) (wd : Nat → Nat → Nat) (I : Nat → Int32) (X : Nat → Nat → Int32) (O : Nat → Int64), gInv j SI SX MI nE LT nW WI WR WL I X → fL_loop L xs (n + 1) SI SX CU CQ CJ CX MI TT AW nE LT la nW WI WR WL WX wd I X O (nI (4 * j)) := by
  intro n
  induction n with
  | zero =>
    intro j hj SI SX CU CQ CJ CX MI TT AW nE LT la nW WI WR WL WX wd I X O hI
    unfold fL_loop fL_law_23
    refine ⟨fun _ => trivial, fun z => absurd ?_ z⟩
    have e : (nI L - nI 4).toInt = (L : Int) - (4 : Nat) := pk_sub_toInt (by omega) (by decide)
    rw [Int32.lt_iff_toInt_lt]
    show (nI L - nI 4).toInt < (nI (4 * j)).toInt
    rw [e, nI_toInt (by omega)]
    omega
  | succ n ih =>
    intro j hj SI SX CU CQ CJ CX MI TT AW nE LT la nW WI WR WL WX wd I X O hI
    unfold fL_loop
    by_cases q : 4 * j + 4 ≤ L
    · exact b_round q hL hI (fun SI' SX' CU' CQ' CJ' CX' MI' TT' AW' nE' LT' la' nW' WI' WR' WL' WX' wd' I' X' O' hI' => ih (j + 1) (by omega) SI' SX' CU' CQ' CJ' CX' MI' TT' AW' nE' LT' la' nW' WI' WR' WL' WX' wd' I' X' O' hI')
    · unfold fL_law_23
      refine ⟨fun _ => trivial, fun z => absurd ?_ z⟩
      have e : (nI L - nI 4).toInt = (L : Int) - (4 : Nat) := pk_sub_toInt (by omega) (by decide)
      rw [Int32.lt_iff_toInt_lt]
      show (nI L - nI 4).toInt < (nI (4 * j)).toInt
      rw [e, nI_toInt (by omega)]
      omega

/-- the empty sky -/
def gZ : Geo := fun _ _ => 0
theorem gZ_ok : gok gZ := by
  refine ⟨by decide, by decide, by decide, rfl, fun p hp => ?_, fun p _ _ => rfl, fun r hr => ?_, fun r _ => Nat.zero_le _, fun r _ _ => rfl, fun j hj => ?_⟩
  · exact absurd hp (Nat.not_lt_zero _)
  · exact absurd hr (Nat.not_lt_zero _)
  · exact absurd hj (Nat.not_lt_zero _)
theorem gInv_0 {SI : Nat → Int32} {SX : Nat → Nat → Int32} {MI : Nat → Int32} {LT : Nat → Nat → Int32} {WI : Nat → Nat → Int32} {WR : Nat → Nat → Nat} {WL : Nat → Nat → Int32} {I : Nat → Int32} {X : Nat → Nat → Int32} (hSI : ∀ k, k < 4 → SI k = 0) (hSX : ∀ k i, SX k i = 0) (hMI : ∀ k, k < 2 → MI k = 0) (hI : ∀ k, I k = 0) (hX : ∀ k i, X k i = 0) : gInv 0 SI SX MI 0 LT 0 WI WR WL I X := by
  have z : ∀ a b, gZ a b = 0 := fun _ _ => rfl
  refine ⟨gZ, 0, 0, fun _ _ => 0, 0, gZ_ok, ?_, ?_, ?_, Nat.le_refl _, hSI 3 (by decide), ⟨rfl, fun j hj => absurd hj (Nat.not_lt_zero _)⟩, ⟨by decide, by decide, fun i hi => absurd hi (Nat.not_lt_zero _)⟩, fun i hi => absurd hi (Nat.not_lt_zero _), ⟨hMI 0 (by decide), hMI 1 (by decide), rfl, fun i hi => absurd hi (Nat.not_lt_zero _)⟩, ⟨hI 1, hI 31, fun i hi => absurd hi (Nat.not_lt_zero _), fun i _ _ => hX 25 i⟩, by decide⟩
  · exact ⟨hI 6, hI 9, hI 13, fun p hp => absurd hp (Nat.not_lt_zero _), fun r hr => absurd hr (Nat.not_lt_zero _), fun r _ => hX 8 r, fun j hj => absurd hj (Nat.not_lt_zero _)⟩
  · refine ⟨⟨hSI 0 (by decide), hSI 1 (by decide), hSI 2 (by decide), fun p _ => hSX 5 p, fun v hv => ?_, fun r hr => absurd hr (Nat.not_lt_zero _), fun j hj => absurd hj (Nat.not_lt_zero _), fun j _ => hSX 8 _⟩, fun v r hv hr => absurd hr (Nat.not_lt_zero _), fun r _ => ⟨hSX 10 _, hSX 11 _⟩⟩
    rw [hSX]
    have : ¬ gup gZ v = true := by
      intro y
      rcases of_decide_eq_true y with w | w
      · exact absurd w.1 (Nat.not_lt_zero _)
      · have := w.2
        rw [z] at this
        omega
    rw [if_neg this]; rfl
  · intro j hj
    exact absurd hj (Nat.not_lt_zero _)

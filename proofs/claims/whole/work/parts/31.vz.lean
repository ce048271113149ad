def rX5_look : Room := { frames := 6, cells := 1, slots := 6, locals := 90 }
theorem hdvX5_look : yX5_look.cls = RX5 ∧ yX5_look.cls ≠ "java/lang/invoke/MethodHandle" ∧ yX5_look.cls ≠ "java/lang/invoke/VarHandle" ∧ (parseMethodDescriptor yX5_look.desc).map (fun d => d.parameters.length) = some 2 := by decide +kernel
theorem inX5_look_wsX10 : ∀ w ∈ wsX10, w ∈ wsX5_look9 := (fun _ h => List.mem_cons_of_mem _ (List.mem_append_left _ (List.mem_append_left _ (List.mem_append_right _ h))))
theorem inX5_look_wsX20 : ∀ w ∈ wsX20, w ∈ wsX5_look9 := (fun _ h => List.mem_cons_of_mem _ (List.mem_append_left _ (List.mem_append_left _ (List.mem_append_left _ (List.mem_append_right _ h)))))
theorem inX5_look_wsX50 : ∀ w ∈ wsX50, w ∈ wsX5_look9 := (fun _ h => List.mem_cons_of_mem _ (List.mem_append_left _ (List.mem_append_left _ (List.mem_append_left _ (List.mem_append_left _ (List.mem_append_right _ h))))))
set_option maxHeartbeats 4000000 in
set_option maxRecDepth 100000 in
theorem vX5_look_b15 {p : Program} {l : Launch} {e : Env} {s : State} {m : MethodId} {args : Array Value} {below : List Frame} {meth : Method} {c : Code} {D : va_G} {B : Nat → Nat} {A : Nat → Prop} {S : sS} {K : sK} {Y : sY} {M : sM} {O : sO} {post : Int32 → sG → Prop} {px : String → sG → Prop} {MI : Nat → Int32} {TT : Nat → Int64} {AW : Nat → Int32} {nE : Nat} {LT : Nat → Nat → Int32} {la : Nat → Nat} {Q : Int32 → Prop} {EX : String → Prop} (C : gX p s m args meth c cX5_look 4 (some .int) wsX5_look9 RX5 D B A) (hE : gE l A s s.heap) (hT : ∀ x ∈ c.exceptionTable.toList, False) (hpost : ∀ (v : Int32) , Q v  → post v (S, K, (MI, TT, AW, nE, LT, la), Y, M, O)) (hpx : ∀ (E : String) , EX E  → px E (S, K, (MI, TT, AW, nE, LT, la), Y, M, O))    (H : Heap) (locs : List Loc) (ls : Array Slot) (hf : fX5_look_b15 MI TT AW nE LT la Q EX) (hG : GS D B A s.heap (S, K, (MI, TT, AW, nE, LT, la), Y, M, O) H locs) (hl : lv_has ls 4 []) : W p l e (headSpec wsX5_look9 rX5_look).room s m args below meth c H locs 0 0 (vx_MQ below (va_Qi post (gB D B A) A) (gQX D B A px) args s 1 6 A) (F0 m 15 ls []) := by
  obtain ⟨hx, hb, hml, hown, hts, hK, hr, hlk, hA, hN⟩ := id C
  unfold fX5_look_b15 at hf
  exact gx_throw (ik := 148) (is := 150) (ic := 152) (cls := "java/lang/IndexOutOfBoundsException") (text := "no such letter") C hE hT hG hl.1 (by decide +kernel) (hts _ (List.mem_of_getElem? (i := 1) rfl)) (hts _ (List.mem_of_getElem? (i := 2) rfl)) (List.mem_of_getElem? (i := 4) rfl) (fun w h => hts w ((fun _ h => List.mem_cons_of_mem _ (List.mem_append_left _ (List.mem_append_right _ h))) w h)) zb_152 zg_152 dX5_look_15 dX5_look_18 dX5_look_19 dX5_look_21 dX5_look_24 (Nat.le_of_ble_eq_true rfl) (Nat.le_of_ble_eq_true rfl) (Nat.le_of_ble_eq_true rfl) (Nat.le_of_ble_eq_true rfl) (hpx _  hf) (Nat.le_of_ble_eq_true rfl) (Nat.le_of_ble_eq_true rfl)
set_option maxHeartbeats 4000000 in
set_option maxRecDepth 100000 in
theorem vX5_look_b0 {p : Program} {l : Launch} {e : Env} {s : State} {m : MethodId} {args : Array Value} {below : List Frame} {meth : Method} {c : Code} {D : va_G} {B : Nat → Nat} {A : Nat → Prop} {S : sS} {K : sK} {Y : sY} {M : sM} {O : sO} {post : Int32 → sG → Prop} {px : String → sG → Prop} {MI : Nat → Int32} {TT : Nat → Int64} {AW : Nat → Int32} {nE : Nat} {LT : Nat → Nat → Int32} {la : Nat → Nat} {Q : Int32 → Prop} {EX : String → Prop} (C : gX p s m args meth c cX5_look 4 (some .int) wsX5_look9 RX5 D B A) (hE : gE l A s s.heap) (hT : ∀ x ∈ c.exceptionTable.toList, False) (hpost : ∀ (v : Int32) , Q v  → post v (S, K, (MI, TT, AW, nE, LT, la), Y, M, O)) (hpx : ∀ (E : String) , EX E  → px E (S, K, (MI, TT, AW, nE, LT, la), Y, M, O))   (x1 : Int32) (x2 : Int32) (H : Heap) (locs : List Loc) (ls : Array Slot) (hf : fX5_look MI TT AW nE LT la Q EX x1 x2) (hG : GS D B A s.heap (S, K, (MI, TT, AW, nE, LT, la), Y, M, O) H locs) (hl : lv_has ls 4 [(0, .ref (B 1)), (1, .int x1), (2, .int x2)]) : W p l e (headSpec wsX5_look9 rX5_look).room s m args below meth c H locs 0 0 (vx_MQ below (va_Qi post (gB D B A) A) (gQX D B A px) args s 1 6 A) (F0 m 0 ls []) := by
  obtain ⟨hx, hb, hml, hown, hts, hK, hr, hlk, hA, hN⟩ := id C
  unfold fX5_look at hf
  refine lv_iload_n hx hb dX5_look_0 rfl (lv_at hl 1 rfl) ?_
  refine lv_if_lt (tgt := 15) hx hb dX5_look_1 (by decide) (fun c_1 => ?_) (fun c_1 => ?_)
  · replace hf := hf.1 c_1
    exact vX5_look_b15 C hE hT hpost hpx   _ _ _ hf hG (lv_sub hl [] rfl)
  · replace hf := hf.2 c_1
    refine lv_iload_n hx hb dX5_look_4 rfl (lv_at hl 1 rfl) ?_
    refine lv_aload_n hx hb dX5_look_5 rfl (lv_at hl 0 rfl) ?_
    refine gg_R_3 C hG inX5_look_wsX50 (hts _ (List.mem_of_getElem? (i := 5) rfl)) dX5_look_6 ?_
    refine gg_L_1 C hG inX5_look_wsX20 (hts _ (List.mem_of_getElem? (i := 6) rfl)) dX5_look_9 ?_
    refine lv_icmp_lt (tgt := 25) hx hb dX5_look_12 (by decide) (fun c_2 => ?_) (fun c_2 => ?_)
    · replace hf := hf.1 c_2
      refine lv_aload_n hx hb dX5_look_25 rfl (lv_at hl 0 rfl) ?_
      refine gg_R_3 C hG inX5_look_wsX50 (hts _ (List.mem_of_getElem? (i := 5) rfl)) dX5_look_26 ?_
      refine gg_L_2 C hG inX5_look_wsX20 (hts _ (List.mem_of_getElem? (i := 7) rfl)) dX5_look_29 ?_
      refine lv_iload_n hx hb dX5_look_32 rfl (lv_at hl 1 rfl) ?_
      obtain ⟨h_3, hf⟩ := hf
      obtain ⟨z_5, hz_5, h_4, hf⟩ := hf
      refine ga_La C hG h_3 hz_5 h_4 dX5_look_33 ?_
      refine lv_astore_n (lv' := [(3, .ref (la z_5)), (0, .ref (B 1)), (1, .int x1), (2, .int x2)]) hx hb dX5_look_34 rfl hl (by decide) rfl (fun ls hl => ?_)
      refine lv_iload_n hx hb dX5_look_35 rfl (lv_at hl 3 rfl) ?_
      by_cases q_6 : x2 = (0 : Int32)
      · refine lv_tableIn (tgt := 76) (off := 40) hx hb dX5_look_36 (by rw [q_6]; decide) (by rw [q_6]; decide) (by rw [q_6]; decide) (by decide) ?_
        replace hf := hf.1 q_6
        refine lv_aload_n hx hb dX5_look_76 rfl (lv_at hl 0 rfl) ?_
        obtain ⟨h_7, hf⟩ := hf
        refine gg_e_3 C hG h_7 inX5_look_wsX10 (hts _ (List.mem_of_getElem? (i := 8) rfl)) dX5_look_77 ?_
        exact gx_iret C hG (hpost _ hf) dX5_look_80 (Nat.le_of_ble_eq_true rfl) (Nat.le_of_ble_eq_true rfl)
      replace hf := hf.2 q_6
      by_cases q_8 : x2 = (1 : Int32)
      · refine lv_tableIn (tgt := 81) (off := 45) hx hb dX5_look_36 (by rw [q_8]; decide) (by rw [q_8]; decide) (by rw [q_8]; decide) (by decide) ?_
        replace hf := hf.1 q_8
        refine lv_aload_n hx hb dX5_look_81 rfl (lv_at hl 0 rfl) ?_
        obtain ⟨h_10, hf⟩ := hf
        refine g_callVi0 (As := []) C hG (kX1_relay hf) (cwV 0 hts gX5_look9_X1_relay rfl rfl rfl hdvX1_relay ⟨Nat.le_of_ble_eq_true rfl, Nat.le_of_ble_eq_true rfl⟩) (g_recv_e hK hG h_10) rfl hl.1 rfl (Nat.le_of_ble_eq_true rfl) dX5_look_82 ⟨Nat.le_of_ble_eq_true rfl, Nat.le_of_ble_eq_true rfl⟩ (fun r_9 g1 H locs hq hG => ?_)
        obtain ⟨rfl, hf⟩ := hq
        exact gx_iret C hG (hpost _ hf) dX5_look_85 (Nat.le_of_ble_eq_true rfl) (Nat.le_of_ble_eq_true rfl)
      replace hf := hf.2 q_8
      by_cases q_11 : x2 = (2 : Int32)
      · refine lv_tableIn (tgt := 86) (off := 50) hx hb dX5_look_36 (by rw [q_11]; decide) (by rw [q_11]; decide) (by rw [q_11]; decide) (by decide) ?_
        replace hf := hf.1 q_11
        refine lv_aload_n hx hb dX5_look_86 rfl (lv_at hl 0 rfl) ?_
        obtain ⟨h_12, hf⟩ := hf
        refine gg_e_7 C hG h_12 inX5_look_wsX10 (hts _ (List.mem_of_getElem? (i := 9) rfl)) dX5_look_87 ?_
        exact gx_iret C hG (hpost _ hf) dX5_look_90 (Nat.le_of_ble_eq_true rfl) (Nat.le_of_ble_eq_true rfl)
      replace hf := hf.2 q_11
      by_cases q_13 : x2 = (3 : Int32)
      · refine lv_tableIn (tgt := 91) (off := 55) hx hb dX5_look_36 (by rw [q_13]; decide) (by rw [q_13]; decide) (by rw [q_13]; decide) (by decide) ?_
        replace hf := hf.1 q_13
        refine lv_aload_n hx hb dX5_look_91 rfl (lv_at hl 0 rfl) ?_
        obtain ⟨h_14, hf⟩ := hf
        refine gg_e_2 C hG h_14 inX5_look_wsX10 (hts _ (List.mem_of_getElem? (i := 10) rfl)) dX5_look_92 ?_
        exact gx_iret C hG (hpost _ hf) dX5_look_95 (Nat.le_of_ble_eq_true rfl) (Nat.le_of_ble_eq_true rfl)
      replace hf := hf.2 q_13
      by_cases q_15 : x2 = (4 : Int32)
      · refine lv_tableIn (tgt := 96) (off := 60) hx hb dX5_look_36 (by rw [q_15]; decide) (by rw [q_15]; decide) (by rw [q_15]; decide) (by decide) ?_
        replace hf := hf.1 q_15
        refine lv_aload_n hx hb dX5_look_96 rfl (lv_at hl 0 rfl) ?_
        obtain ⟨h_16, hf⟩ := hf
        refine gg_e_8 C hG h_16 inX5_look_wsX10 (hts _ (List.mem_of_getElem? (i := 11) rfl)) dX5_look_97 ?_
        exact gx_iret C hG (hpost _ hf) dX5_look_100 (Nat.le_of_ble_eq_true rfl) (Nat.le_of_ble_eq_true rfl)
      replace hf := hf.2 q_15
      by_cases q_17 : x2 = (5 : Int32)
      · refine lv_tableIn (tgt := 101) (off := 65) hx hb dX5_look_36 (by rw [q_17]; decide) (by rw [q_17]; decide) (by rw [q_17]; decide) (by decide) ?_
        replace hf := hf.1 q_17
        refine lv_aload_n hx hb dX5_look_101 rfl (lv_at hl 0 rfl) ?_
        obtain ⟨h_18, hf⟩ := hf
        refine gg_e_9 C hG h_18 inX5_look_wsX10 (hts _ (List.mem_of_getElem? (i := 12) rfl)) dX5_look_102 ?_
        exact gx_iret C hG (hpost _ hf) dX5_look_105 (Nat.le_of_ble_eq_true rfl) (Nat.le_of_ble_eq_true rfl)
      replace hf := hf.2 q_17
      have nq_6 := lv_neT q_6 (show ((0 : Int32)).toInt = (0 : Int) by decide)
      have nq_8 := lv_neT q_8 (show ((1 : Int32)).toInt = (1 : Int) by decide)
      have nq_11 := lv_neT q_11 (show ((2 : Int32)).toInt = (2 : Int) by decide)
      have nq_13 := lv_neT q_13 (show ((3 : Int32)).toInt = (3 : Int) by decide)
      have nq_15 := lv_neT q_15 (show ((4 : Int32)).toInt = (4 : Int) by decide)
      have nq_17 := lv_neT q_17 (show ((5 : Int32)).toInt = (5 : Int) by decide)
      refine lv_tableOut (tgt := 106) hx hb dX5_look_36 (by omega) (by decide) ?_
      exact gx_throwN (ik := 178) (is := 180) (ic := 182) (cls := "java/util/NoSuchElementException") (text := "nothing of a letter has this number") C hE hT hG hl.1 (by decide +kernel) (hts _ (List.mem_of_getElem? (i := 3) rfl)) (hts _ (List.mem_of_getElem? (i := 4) rfl)) (List.mem_of_getElem? (i := 5) rfl) (fun w h => hts w ((fun _ h => List.mem_cons_of_mem _ (List.mem_append_right _ h)) w h)) zb_182 zg_182 dX5_look_106 dX5_look_109 dX5_look_110 dX5_look_112 dX5_look_115 (Nat.le_of_ble_eq_true rfl) (Nat.le_of_ble_eq_true rfl) (Nat.le_of_ble_eq_true rfl) (Nat.le_of_ble_eq_true rfl) (hpx _  hf) (Nat.le_of_ble_eq_true rfl) (Nat.le_of_ble_eq_true rfl)
    · replace hf := hf.2 c_2
      exact vX5_look_b15 C hE hT hpost hpx   _ _ _ hf hG (lv_sub hl [] rfl)
set_option maxRecDepth 100000 in
theorem kX5_look {l : Launch} {D : va_G} {B : Nat → Nat} {S : sS} {K : sK} {Y : sY} {M : sM} {O : sO} {MI : Nat → Int32} {TT : Nat → Int64} {AW : Nat → Int32} {nE : Nat} {LT : Nat → Nat → Int32} {la : Nat → Nat} {Q : Int32 → Prop} {EX : String → Prop} {x1 : Int32} {x2 : Int32} (hf : fX5_look MI TT AW nE LT la Q EX x1 x2) : gXi D B l yX5_look wsX5_look9 rX5_look 1 6 [.ref (B 1), .int x1, .int x2] (S, K, (MI, TT, AW, nE, LT, la), Y, M, O) (fun r g1 => g1 = (S, K, (MI, TT, AW, nE, LT, la), Y, M, O) ∧ Q r ) (fun E g1 => g1 = (S, K, (MI, TT, AW, nE, LT, la), Y, M, O) ∧ EX E ) := by
  refine gXi_of (cc := cX5_look) (maxL := 4) (ret := some .int) (by decide +kernel) rfl (Nat.le_of_ble_eq_true rfl) ?_
  intro p e s m below meth c A hA0 C hE hT hG ls hl
  exact vX5_look_b0 C hE hT (fun v  hq => ⟨rfl, hq⟩) (fun E  hq => ⟨rfl, hq⟩) x1 x2 _ _ _ hf hG hl

def rX2_accept : Room := { frames := 2, cells := 1, slots := 10, locals := 44 }
theorem hdvX2_accept : yX2_accept.cls = RX2 ∧ yX2_accept.cls ≠ "java/lang/invoke/MethodHandle" ∧ yX2_accept.cls ≠ "java/lang/invoke/VarHandle" ∧ (parseMethodDescriptor yX2_accept.desc).map (fun d => d.parameters.length) = some 2 := by decide +kernel
theorem inX2_accept_wsX10 : ∀ w ∈ wsX10, w ∈ wsX2_accept := (fun _ h => List.mem_cons_of_mem _ (List.mem_append_right _ h))
theorem inX2_accept_wsX20 : ∀ w ∈ wsX20, w ∈ wsX2_accept := (fun _ h => List.mem_cons_of_mem _ (List.mem_append_left _ (List.mem_append_right _ h)))
set_option maxHeartbeats 4000000 in
set_option maxRecDepth 100000 in
theorem vX2_accept_b0 {p : Program} {l : Launch} {e : Env} {s : State} {m : MethodId} {args : Array Value} {below : List Frame} {meth : Method} {c : Code} {D : va_G} {B : Nat → Nat} {A : Nat → Prop} {S : sS} {K : sK} {Y : sY} {M : sM} {O : sO} {post : Int32 → sG → Prop} {Q : Int32 → (Nat → Int32) → (Nat → Int64) → (Nat → Int32) → (Nat) → (Nat → Nat → Int32) → (Nat → Nat) → Prop} (C : gX p s m args meth c cX2_accept 4 (some .int) wsX2_accept RX2 D B A) (hpost : ∀ (v : Int32) (MI : Nat → Int32) (TT : Nat → Int64) (AW : Nat → Int32) (nE : Nat) (LT : Nat → Nat → Int32) (la : Nat → Nat), Q v MI TT AW nE LT la → post v (S, K, (MI, TT, AW, nE, LT, la), Y, M, O))  (MI : Nat → Int32) (TT : Nat → Int64) (AW : Nat → Int32) (nE : Nat) (LT : Nat → Nat → Int32) (la : Nat → Nat) (x1 : Int32) (x2 : Int32) (H : Heap) (locs : List Loc) (ls : Array Slot) (hf : fX2_accept Q MI TT AW nE LT la x1 x2) (hG : GS D B A s.heap (S, K, (MI, TT, AW, nE, LT, la), Y, M, O) H locs) (hl : lv_has ls 4 [(0, .ref (B 4)), (1, .int x1), (2, .int x2)]) : W p l e (headSpec wsX2_accept rX2_accept).room s m args below meth c H locs 0 0 (MQ below (va_Qi post (gB D B A) A) args s 1 10 A) (F0 m 0 ls []) := by
  obtain ⟨hx, hb, hml, hown, hts, hK, hr, hlk, hA, hN⟩ := id C
  unfold fX2_accept at hf
  refine lv_aload_n hx hb dX2_accept_0 rfl (lv_at hl 0 rfl) ?_
  refine gg_L_1 C hG inX2_accept_wsX20 (hts _ (List.mem_of_getElem? (i := 1) rfl)) dX2_accept_1 ?_
  refine lv_topi (fun x3_1 ex3_1 => ?_)
  replace hf := hf x3_1 ex3_1
  refine lv_istore_n (lv' := [(3, .int x3_1), (0, .ref (B 4)), (1, .int x1), (2, .int x2)]) hx hb dX2_accept_4 rfl hl (by decide) rfl (fun ls hl => ?_)
  refine lv_aload_n hx hb dX2_accept_5 rfl (lv_at hl 1 rfl) ?_
  refine gg_L_2 C hG inX2_accept_wsX20 (hts _ (List.mem_of_getElem? (i := 2) rfl)) dX2_accept_6 ?_
  refine lv_iload_n hx hb dX2_accept_9 rfl (lv_at hl 0 rfl) ?_
  obtain ⟨h_2, h_3, hf⟩ := hf
  refine g_mkLetter C hG inX2_accept_wsX10 inX2_accept_wsX20 (hts _ (List.mem_of_getElem? (i := 3) rfl)) (hts _ (List.mem_of_getElem? (i := 4) rfl)) (hts _ (List.mem_of_getElem? (i := 5) rfl)) (hts _ (List.mem_of_getElem? (i := 6) rfl)) (cwI 3 hts gX2_accept_X1_init rfl rfl rfl (hts _ (List.mem_of_getElem? (i := 5) rfl)) (hts _ (List.mem_of_getElem? (i := 7) rfl)) (hts _ (List.mem_of_getElem? (i := 8) rfl)) rfl hdcX1_init ⟨Nat.le_of_ble_eq_true rfl, Nat.le_of_ble_eq_true rfl⟩) h_2 h_3 hl.1 (lv_at hl 1 rfl) (lv_at hl 2 rfl) (lv_at hl 3 rfl) rfl dX2_accept_10 dX2_accept_13 dX2_accept_14 dX2_accept_15 dX2_accept_16 dX2_accept_17 dX2_accept_20 dX2_accept_23 (Nat.le_of_ble_eq_true rfl) (Nat.le_of_ble_eq_true rfl) (fun nE_4 LT_5 la_6 H locs enE_4 eLT_5 hG => ?_)
  replace hf := hf nE_4 LT_5 la_6 enE_4 eLT_5
  refine lv_aload_n hx hb dX2_accept_24 rfl (lv_at hl 1 rfl) ?_
  refine lv_iload_n hx hb dX2_accept_25 rfl (lv_at hl 0 rfl) ?_
  refine lv_iconst (v := (1 : Int32)) hx hb dX2_accept_26 (by decide) ?_
  refine lv_iadd hx hb dX2_accept_27 ?_
  refine gp_L_1 C hG inX2_accept_wsX20 (hts _ (List.mem_of_getElem? (i := 1) rfl)) dX2_accept_28 (fun MI_7 H locs eMI_7 hG => ?_)
  replace hf := hf MI_7 eMI_7
  refine lv_iload_n hx hb dX2_accept_31 rfl (lv_at hl 0 rfl) ?_
  exact g_iret C hG (hpost _ _ _ _ _ _ _ hf) dX2_accept_32
set_option maxRecDepth 100000 in
theorem kX2_accept {l : Launch} {D : va_G} {B : Nat → Nat} {S : sS} {K : sK} {Y : sY} {M : sM} {O : sO}  {Q : Int32 → (Nat → Int32) → (Nat → Int64) → (Nat → Int32) → (Nat) → (Nat → Nat → Int32) → (Nat → Nat) → Prop} {MI : Nat → Int32} {TT : Nat → Int64} {AW : Nat → Int32} {nE : Nat} {LT : Nat → Nat → Int32} {la : Nat → Nat} {x1 : Int32} {x2 : Int32} (hf : fX2_accept Q MI TT AW nE LT la x1 x2) : gMi D B l yX2_accept wsX2_accept rX2_accept 1 10 [.ref (B 4), .int x1, .int x2] (S, K, (MI, TT, AW, nE, LT, la), Y, M, O) (fun r g1 => ∃ (MI1 : Nat → Int32) (TT1 : Nat → Int64) (AW1 : Nat → Int32) (nE1 : Nat) (LT1 : Nat → Nat → Int32) (la1 : Nat → Nat), g1 = (S, K, (MI1, TT1, AW1, nE1, LT1, la1), Y, M, O) ∧ Q r MI1 TT1 AW1 nE1 LT1 la1) := by
  refine gMi_of (cc := cX2_accept) (maxL := 4) (ret := some .int) (by decide +kernel) rfl (Nat.le_of_ble_eq_true rfl) ?_
  intro p e s m below meth c A hA0 C hG ls hl
  exact vX2_accept_b0 C (fun v MI TT AW nE LT la hq => ⟨MI, TT, AW, nE, LT, la, rfl, hq⟩) MI TT AW nE LT la x1 x2 _ _ _ hf hG hl
def rX5_send : Room := { frames := 7, cells := 3, slots := 22, locals := 111 }
theorem hdvX5_send : yX5_send.cls = RX5 ∧ yX5_send.cls ≠ "java/lang/invoke/MethodHandle" ∧ yX5_send.cls ≠ "java/lang/invoke/VarHandle" ∧ (parseMethodDescriptor yX5_send.desc).map (fun d => d.parameters.length) = some 2 := by decide +kernel
theorem inX5_send_wsX20 : ∀ w ∈ wsX20, w ∈ wsX5_send := (fun _ h => List.mem_cons_of_mem _ (List.mem_append_left _ (List.mem_append_left _ (List.mem_append_left _ (List.mem_append_left _ (List.mem_append_left _ (List.mem_append_right _ h)))))))
theorem inX5_send_wsX50 : ∀ w ∈ wsX50, w ∈ wsX5_send := (fun _ h => List.mem_cons_of_mem _ (List.mem_append_left _ (List.mem_append_left _ (List.mem_append_left _ (List.mem_append_left _ (List.mem_append_left _ (List.mem_append_left _ (List.mem_append_right _ h))))))))
set_option maxHeartbeats 4000000 in
set_option maxRecDepth 100000 in
theorem vX5_send_b0 {p : Program} {l : Launch} {e : Env} {s : State} {m : MethodId} {args : Array Value} {below : List Frame} {meth : Method} {c : Code} {D : va_G} {B : Nat → Nat} {A : Nat → Prop} {K : sK} {Y : sY} {M : sM} {O : sO} {post : Int32 → sG → Prop} {px : String → sG → Prop} {SI : Nat → Int32} {SX : Nat → Nat → Int32} {Q : Int32 → (Nat → Int32) → (Nat → Int64) → (Nat → Int32) → (Nat) → (Nat → Nat → Int32) → (Nat → Nat) → Prop} {EX : String → (Nat → Int32) → (Nat → Int64) → (Nat → Int32) → (Nat) → (Nat → Nat → Int32) → (Nat → Nat) → Prop} (C : gX p s m args meth c cX5_send 3 (some .int) wsX5_send RX5 D B A) (hE : gE l A s s.heap) (hT : ∀ x ∈ c.exceptionTable.toList, False) (hpost : ∀ (v : Int32) (MI : Nat → Int32) (TT : Nat → Int64) (AW : Nat → Int32) (nE : Nat) (LT : Nat → Nat → Int32) (la : Nat → Nat), Q v MI TT AW nE LT la → post v ((SI, SX), K, (MI, TT, AW, nE, LT, la), Y, M, O)) (hpx : ∀ (E : String) (MI : Nat → Int32) (TT : Nat → Int64) (AW : Nat → Int32) (nE : Nat) (LT : Nat → Nat → Int32) (la : Nat → Nat), EX E MI TT AW nE LT la → px E ((SI, SX), K, (MI, TT, AW, nE, LT, la), Y, M, O))  (MI : Nat → Int32) (TT : Nat → Int64) (AW : Nat → Int32) (nE : Nat) (LT : Nat → Nat → Int32) (la : Nat → Nat) (x1 : Int32) (x2 : Int32) (H : Heap) (locs : List Loc) (ls : Array Slot) (hf : fX5_send SI SX Q EX MI TT AW nE LT la x1 x2) (hG : GS D B A s.heap ((SI, SX), K, (MI, TT, AW, nE, LT, la), Y, M, O) H locs) (hl : lv_has ls 3 [(0, .ref (B 1)), (1, .int x1), (2, .int x2)]) : W p l e (headSpec wsX5_send rX5_send).room s m args below meth c H locs 0 0 (vx_MQ below (va_Qi post (gB D B A) A) (gQX D B A px) args s 3 22 A) (F0 m 0 ls []) := by
  obtain ⟨hx, hb, hml, hown, hts, hK, hr, hlk, hA, hN⟩ := id C
  unfold fX5_send at hf
  refine lv_aload_n hx hb dX5_send_0 rfl (lv_at hl 0 rfl) ?_
  refine lv_iload_n hx hb dX5_send_1 rfl (lv_at hl 1 rfl) ?_
  refine gx_callVvo (As := [.int x1]) (px0 := px) C hE hT hG (kX5_needPost hf) (cwV 1 hts gX5_send_X5_needPost rfl rfl rfl hdvX5_needPost ⟨Nat.le_of_ble_eq_true rfl, Nat.le_of_ble_eq_true rfl⟩) (va_recv hK hG.1 (ci := 5) (q0 := 41) rfl rfl) rfl hl.1 rfl (Nat.le_of_ble_eq_true rfl) dX5_send_2 ⟨Nat.le_of_ble_eq_true rfl, Nat.le_of_ble_eq_true rfl⟩ (fun E g1 hq => ?_) (Nat.le_of_ble_eq_true rfl) (Nat.le_of_ble_eq_true rfl) (fun g1 H locs hq hG => ?_)
  · obtain ⟨rfl, hf⟩ := hq
    exact hpx E _ _ _ _ _ _ hf
  obtain ⟨rfl, hf⟩ := hq
  refine lv_aload_n hx hb dX5_send_5 rfl (lv_at hl 0 rfl) ?_
  refine lv_iload_n hx hb dX5_send_6 rfl (lv_at hl 2 rfl) ?_
  refine gx_callVvo (As := [.int x2]) (px0 := px) C hE hT hG (kX5_needPost hf) (cwV 1 hts gX5_send_X5_needPost rfl rfl rfl hdvX5_needPost ⟨Nat.le_of_ble_eq_true rfl, Nat.le_of_ble_eq_true rfl⟩) (va_recv hK hG.1 (ci := 5) (q0 := 41) rfl rfl) rfl hl.1 rfl (Nat.le_of_ble_eq_true rfl) dX5_send_7 ⟨Nat.le_of_ble_eq_true rfl, Nat.le_of_ble_eq_true rfl⟩ (fun E g1 hq => ?_) (Nat.le_of_ble_eq_true rfl) (Nat.le_of_ble_eq_true rfl) (fun g1 H locs hq hG => ?_)
  · obtain ⟨rfl, hf⟩ := hq
    exact hpx E _ _ _ _ _ _ hf
  obtain ⟨rfl, hf⟩ := hq
  refine lv_iload_n hx hb dX5_send_10 rfl (lv_at hl 1 rfl) ?_
  refine lv_iload_n hx hb dX5_send_11 rfl (lv_at hl 2 rfl) ?_
  refine lv_icmp_ne (tgt := 25) hx hb dX5_send_12 (by decide) (fun c_1 => ?_) (fun c_1 => ?_)
  · replace hf := hf.1 c_1
    refine lv_aload_n hx hb dX5_send_25 rfl (lv_at hl 0 rfl) ?_
    refine gg_R_3 C hG inX5_send_wsX50 (hts _ (List.mem_of_getElem? (i := 5) rfl)) dX5_send_26 ?_
    refine gg_L_1 C hG inX5_send_wsX20 (hts _ (List.mem_of_getElem? (i := 6) rfl)) dX5_send_29 ?_
    refine lv_bipush (v := (60 : Int32)) hx hb dX5_send_32 (by decide) ?_
    refine lv_icmp_lt (tgt := 47) hx hb dX5_send_34 (by decide) (fun c_2 => ?_) (fun c_2 => ?_)
    · replace hf := hf.1 c_2
      refine lv_aload_n hx hb dX5_send_47 rfl (lv_at hl 0 rfl) ?_
      refine gg_R_3 C hG inX5_send_wsX50 (hts _ (List.mem_of_getElem? (i := 5) rfl)) dX5_send_48 ?_
      refine lv_iload_n hx hb dX5_send_51 rfl (lv_at hl 1 rfl) ?_
      refine lv_iload_n hx hb dX5_send_52 rfl (lv_at hl 2 rfl) ?_
      refine g_callVi (As := [.int x1, .int x2]) C hG (kX2_accept hf) (cwV 2 hts gX5_send_X2_accept rfl rfl rfl hdvX2_accept ⟨Nat.le_of_ble_eq_true rfl, Nat.le_of_ble_eq_true rfl⟩) (va_recv hK hG.1 (ci := 2) (q0 := 43) rfl rfl) rfl hl.1 rfl (Nat.le_of_ble_eq_true rfl) dX5_send_53 ⟨Nat.le_of_ble_eq_true rfl, Nat.le_of_ble_eq_true rfl⟩ (fun r_9 g1 H locs hq hG => ?_)
      obtain ⟨MI_3, TT_4, AW_5, nE_6, LT_7, la_8, rfl, hf⟩ := hq
      exact gx_iret C hG (hpost _ _ _ _ _ _ _ hf) dX5_send_56 (Nat.le_of_ble_eq_true rfl) (Nat.le_of_ble_eq_true rfl)
    · replace hf := hf.2 c_2
      exact gx_throw (ik := 51) (is := 137) (ic := 55) (cls := "java/lang/UnsupportedOperationException") (text := "there are 60 letters") C hE hT hG hl.1 (by decide +kernel) (hts _ (List.mem_of_getElem? (i := 3) rfl)) (hts _ (List.mem_of_getElem? (i := 4) rfl)) (List.mem_of_getElem? (i := 3) rfl) (fun w h => hts w ((fun _ h => List.mem_cons_of_mem _ (List.mem_append_left _ (List.mem_append_right _ h))) w h)) zb_55 zg_55 dX5_send_37 dX5_send_40 dX5_send_41 dX5_send_43 dX5_send_46 (Nat.le_of_ble_eq_true rfl) (Nat.le_of_ble_eq_true rfl) (Nat.le_of_ble_eq_true rfl) (Nat.le_of_ble_eq_true rfl) (hpx _ _ _ _ _ _ _ hf) (Nat.le_of_ble_eq_true rfl) (Nat.le_of_ble_eq_true rfl)
  · replace hf := hf.2 c_1
    exact gx_throw (ik := 129) (is := 131) (ic := 133) (cls := "java/lang/IllegalArgumentException") (text := "both posts are one") C hE hT hG hl.1 (by decide +kernel) (hts _ (List.mem_of_getElem? (i := 1) rfl)) (hts _ (List.mem_of_getElem? (i := 2) rfl)) (List.mem_of_getElem? (i := 2) rfl) (fun w h => hts w ((fun _ h => List.mem_cons_of_mem _ (List.mem_append_left _ (List.mem_append_left _ (List.mem_append_right _ h)))) w h)) zb_133 zg_133 dX5_send_15 dX5_send_18 dX5_send_19 dX5_send_21 dX5_send_24 (Nat.le_of_ble_eq_true rfl) (Nat.le_of_ble_eq_true rfl) (Nat.le_of_ble_eq_true rfl) (Nat.le_of_ble_eq_true rfl) (hpx _ _ _ _ _ _ _ hf) (Nat.le_of_ble_eq_true rfl) (Nat.le_of_ble_eq_true rfl)
set_option maxRecDepth 100000 in
theorem kX5_send {l : Launch} {D : va_G} {B : Nat → Nat} {K : sK} {Y : sY} {M : sM} {O : sO} {SI : Nat → Int32} {SX : Nat → Nat → Int32} {Q : Int32 → (Nat → Int32) → (Nat → Int64) → (Nat → Int32) → (Nat) → (Nat → Nat → Int32) → (Nat → Nat) → Prop} {EX : String → (Nat → Int32) → (Nat → Int64) → (Nat → Int32) → (Nat) → (Nat → Nat → Int32) → (Nat → Nat) → Prop} {MI : Nat → Int32} {TT : Nat → Int64} {AW : Nat → Int32} {nE : Nat} {LT : Nat → Nat → Int32} {la : Nat → Nat} {x1 : Int32} {x2 : Int32} (hf : fX5_send SI SX Q EX MI TT AW nE LT la x1 x2) : gXi D B l yX5_send wsX5_send rX5_send 3 22 [.ref (B 1), .int x1, .int x2] ((SI, SX), K, (MI, TT, AW, nE, LT, la), Y, M, O) (fun r g1 => ∃ (MI1 : Nat → Int32) (TT1 : Nat → Int64) (AW1 : Nat → Int32) (nE1 : Nat) (LT1 : Nat → Nat → Int32) (la1 : Nat → Nat), g1 = ((SI, SX), K, (MI1, TT1, AW1, nE1, LT1, la1), Y, M, O) ∧ Q r MI1 TT1 AW1 nE1 LT1 la1) (fun E g1 => ∃ (MI1 : Nat → Int32) (TT1 : Nat → Int64) (AW1 : Nat → Int32) (nE1 : Nat) (LT1 : Nat → Nat → Int32) (la1 : Nat → Nat), g1 = ((SI, SX), K, (MI1, TT1, AW1, nE1, LT1, la1), Y, M, O) ∧ EX E MI1 TT1 AW1 nE1 LT1 la1) := by
  refine gXi_of (cc := cX5_send) (maxL := 3) (ret := some .int) (by decide +kernel) rfl (Nat.le_of_ble_eq_true rfl) ?_
  intro p e s m below meth c A hA0 C hE hT hG ls hl
  exact vX5_send_b0 C hE hT (fun v MI TT AW nE LT la hq => ⟨MI, TT, AW, nE, LT, la, rfl, hq⟩) (fun E MI TT AW nE LT la hq => ⟨MI, TT, AW, nE, LT, la, rfl, hq⟩) MI TT AW nE LT la x1 x2 _ _ _ hf hG hl
def rX5_post : Room := { frames := 7, cells := 9, slots := 1991, locals := 120 }
theorem hdvX5_post : yX5_post.cls = RX5 ∧ yX5_post.cls ≠ "java/lang/invoke/MethodHandle" ∧ yX5_post.cls ≠ "java/lang/invoke/VarHandle" ∧ (parseMethodDescriptor yX5_post.desc).map (fun d => d.parameters.length) = some 3 := by decide +kernel
theorem inX5_post_wsX30 : ∀ w ∈ wsX30, w ∈ wsX5_post := (fun _ h => List.mem_cons_of_mem _ (List.mem_append_left _ (List.mem_append_left _ (List.mem_append_left _ (List.mem_append_left _ (List.mem_append_left _ (List.mem_append_right _ h)))))))
theorem inX5_post_wsX40 : ∀ w ∈ wsX40, w ∈ wsX5_post := (fun _ h => List.mem_cons_of_mem _ (List.mem_append_left _ (List.mem_append_left _ (List.mem_append_left _ (List.mem_append_left _ (List.mem_append_right _ h))))))
theorem inX5_post_wsX50 : ∀ w ∈ wsX50, w ∈ wsX5_post := (fun _ h => List.mem_cons_of_mem _ (List.mem_append_left _ (List.mem_append_left _ (List.mem_append_left _ (List.mem_append_left _ (List.mem_append_left _ (List.mem_append_left _ (List.mem_append_right _ h))))))))
set_option maxHeartbeats 4000000 in
set_option maxRecDepth 100000 in
theorem vX5_post_b0 {p : Program} {l : Launch} {e : Env} {s : State} {m : MethodId} {args : Array Value} {below : List Frame} {meth : Method} {c : Code} {D : va_G} {B : Nat → Nat} {A : Nat → Prop} {K : sK} {M : sM} {O : sO} {post : Int32 → sG → Prop} {px : String → sG → Prop} {MI : Nat → Int32} {TT : Nat → Int64} {AW : Nat → Int32} {nE : Nat} {LT : Nat → Nat → Int32} {la : Nat → Nat} {Q : Int32 → (Nat → Int32) → (Nat → Nat → Int32) → (Nat) → (Nat → Nat → Int32) → (Nat → Nat → Nat) → (Nat → Nat → Int32) → (Nat → Nat → Nat → Int32) → (Nat → Nat → Nat) → Prop} {EX : String → (Nat → Int32) → (Nat → Nat → Int32) → (Nat) → (Nat → Nat → Int32) → (Nat → Nat → Nat) → (Nat → Nat → Int32) → (Nat → Nat → Nat → Int32) → (Nat → Nat → Nat) → Prop} (C : gX p s m args meth c cX5_post 5 (some .int) wsX5_post RX5 D B A) (hE : gE l A s s.heap) (hT : ∀ x ∈ c.exceptionTable.toList, False) (hpost : ∀ (v : Int32) (SI : Nat → Int32) (SX : Nat → Nat → Int32) (nW : Nat) (WI : Nat → Nat → Int32) (WR : Nat → Nat → Nat) (WL : Nat → Nat → Int32) (WX : Nat → Nat → Nat → Int32) (wd : Nat → Nat → Nat), Q v SI SX nW WI WR WL WX wd → post v ((SI, SX), K, (MI, TT, AW, nE, LT, la), (nW, WI, WR, WL, WX, wd), M, O)) (hpx : ∀ (E : String) (SI : Nat → Int32) (SX : Nat → Nat → Int32) (nW : Nat) (WI : Nat → Nat → Int32) (WR : Nat → Nat → Nat) (WL : Nat → Nat → Int32) (WX : Nat → Nat → Nat → Int32) (wd : Nat → Nat → Nat), EX E SI SX nW WI WR WL WX wd → px E ((SI, SX), K, (MI, TT, AW, nE, LT, la), (nW, WI, WR, WL, WX, wd), M, O))  (SI : Nat → Int32) (SX : Nat → Nat → Int32) (nW : Nat) (WI : Nat → Nat → Int32) (WR : Nat → Nat → Nat) (WL : Nat → Nat → Int32) (WX : Nat → Nat → Nat → Int32) (wd : Nat → Nat → Nat) (x1 : Int32) (x2 : Int32) (x3 : Int32) (H : Heap) (locs : List Loc) (ls : Array Slot) (hf : fX5_post MI TT AW nE LT la Q EX SI SX nW WI WR WL WX wd x1 x2 x3) (hG : GS D B A s.heap ((SI, SX), K, (MI, TT, AW, nE, LT, la), (nW, WI, WR, WL, WX, wd), M, O) H locs) (hl : lv_has ls 5 [(0, .ref (B 1)), (1, .int x1), (2, .int x2), (3, .int x3)]) : W p l e (headSpec wsX5_post rX5_post).room s m args below meth c H locs 0 0 (vx_MQ below (va_Qi post (gB D B A) A) (gQX D B A px) args s 9 1991 A) (F0 m 0 ls []) := by
  obtain ⟨hx, hb, hml, hown, hts, hK, hr, hlk, hA, hN⟩ := id C
  unfold fX5_post at hf
  refine lv_aload_n hx hb dX5_post_0 rfl (lv_at hl 0 rfl) ?_
  refine gx_callVvo (As := []) (px0 := px) C hE hT hG (kX5_needNoLetter hf) (cwV 0 hts gX5_post_X5_needNoLetter rfl rfl rfl hdvX5_needNoLetter ⟨Nat.le_of_ble_eq_true rfl, Nat.le_of_ble_eq_true rfl⟩) (va_recv hK hG.1 (ci := 5) (q0 := 41) rfl rfl) rfl hl.1 rfl (Nat.le_of_ble_eq_true rfl) dX5_post_1 ⟨Nat.le_of_ble_eq_true rfl, Nat.le_of_ble_eq_true rfl⟩ (fun E g1 hq => ?_) (Nat.le_of_ble_eq_true rfl) (Nat.le_of_ble_eq_true rfl) (fun g1 H locs hq hG => ?_)
  · obtain ⟨rfl, hf⟩ := hq
    exact hpx E _ _ _ _ _ _ _ _ hf
  obtain ⟨rfl, hf⟩ := hq
  refine lv_iload_n hx hb dX5_post_4 rfl (lv_at hl 1 rfl) ?_
  refine lv_iconst (v := (0 : Int32)) hx hb dX5_post_5 (by decide) ?_
  refine lv_bipush (v := (31 : Int32)) hx hb dX5_post_6 (by decide) ?_
  refine gx_callSvo (As := [.int x1, .int (0 : Int32), .int (31 : Int32)]) (px0 := px) C hE hT hG (kX5_needBetween hf) (va_cwS 3 hts gX5_post_X5_needBetween rfl rfl rfl hdsX5_needBetween ⟨Nat.le_of_ble_eq_true rfl, Nat.le_of_ble_eq_true rfl⟩) rfl hl.1 rfl (Nat.le_of_ble_eq_true rfl) dX5_post_8 ⟨Nat.le_of_ble_eq_true rfl, Nat.le_of_ble_eq_true rfl⟩ (fun E g1 hq => ?_) (Nat.le_of_ble_eq_true rfl) (Nat.le_of_ble_eq_true rfl) (fun g1 H locs hq hG => ?_)
  · obtain ⟨rfl, hf⟩ := hq
    exact hpx E _ _ _ _ _ _ _ _ hf
  obtain ⟨rfl, hf⟩ := hq
  refine lv_iload_n hx hb dX5_post_11 rfl (lv_at hl 2 rfl) ?_
  refine lv_iconst (v := (0 : Int32)) hx hb dX5_post_12 (by decide) ?_
  refine lv_iconst (v := (5 : Int32)) hx hb dX5_post_13 (by decide) ?_
  refine gx_callSvo (As := [.int x2, .int (0 : Int32), .int (5 : Int32)]) (px0 := px) C hE hT hG (kX5_needBetween hf) (va_cwS 3 hts gX5_post_X5_needBetween rfl rfl rfl hdsX5_needBetween ⟨Nat.le_of_ble_eq_true rfl, Nat.le_of_ble_eq_true rfl⟩) rfl hl.1 rfl (Nat.le_of_ble_eq_true rfl) dX5_post_14 ⟨Nat.le_of_ble_eq_true rfl, Nat.le_of_ble_eq_true rfl⟩ (fun E g1 hq => ?_) (Nat.le_of_ble_eq_true rfl) (Nat.le_of_ble_eq_true rfl) (fun g1 H locs hq hG => ?_)
  · obtain ⟨rfl, hf⟩ := hq
    exact hpx E _ _ _ _ _ _ _ _ hf
  obtain ⟨rfl, hf⟩ := hq
  refine lv_iload_n hx hb dX5_post_17 rfl (lv_at hl 3 rfl) ?_
  refine lv_iconst (v := (0 : Int32)) hx hb dX5_post_18 (by decide) ?_
  refine lv_bipush (v := (8 : Int32)) hx hb dX5_post_19 (by decide) ?_
  refine gx_callSvo (As := [.int x3, .int (0 : Int32), .int (8 : Int32)]) (px0 := px) C hE hT hG (kX5_needBetween hf) (va_cwS 3 hts gX5_post_X5_needBetween rfl rfl rfl hdsX5_needBetween ⟨Nat.le_of_ble_eq_true rfl, Nat.le_of_ble_eq_true rfl⟩) rfl hl.1 rfl (Nat.le_of_ble_eq_true rfl) dX5_post_21 ⟨Nat.le_of_ble_eq_true rfl, Nat.le_of_ble_eq_true rfl⟩ (fun E g1 hq => ?_) (Nat.le_of_ble_eq_true rfl) (Nat.le_of_ble_eq_true rfl) (fun g1 H locs hq hG => ?_)
  · obtain ⟨rfl, hf⟩ := hq
    exact hpx E _ _ _ _ _ _ _ _ hf
  obtain ⟨rfl, hf⟩ := hq
  refine lv_aload_n hx hb dX5_post_24 rfl (lv_at hl 0 rfl) ?_
  refine gg_R_0 C hG inX5_post_wsX50 (hts _ (List.mem_of_getElem? (i := 3) rfl)) dX5_post_25 ?_
  refine gg_S_2 C hG inX5_post_wsX30 (hts _ (List.mem_of_getElem? (i := 4) rfl)) dX5_post_28 ?_
  refine lv_bipush (v := (8 : Int32)) hx hb dX5_post_31 (by decide) ?_
  refine lv_icmp_lt (tgt := 46) hx hb dX5_post_33 (by decide) (fun c_1 => ?_) (fun c_1 => ?_)
  · replace hf := hf.1 c_1
    refine lv_aload_n hx hb dX5_post_46 rfl (lv_at hl 0 rfl) ?_
    refine gg_R_0 C hG inX5_post_wsX50 (hts _ (List.mem_of_getElem? (i := 3) rfl)) dX5_post_47 ?_
    refine lv_iload_n hx hb dX5_post_50 rfl (lv_at hl 1 rfl) ?_
    refine lv_iload_n hx hb dX5_post_51 rfl (lv_at hl 2 rfl) ?_
    refine lv_iload_n hx hb dX5_post_52 rfl (lv_at hl 3 rfl) ?_
    refine g_callVi0 (As := [.int x1, .int x2, .int x3]) C hG (kX3_addPost hf) (cwV 3 hts gX5_post_X3_addPost rfl rfl rfl hdvX3_addPost ⟨Nat.le_of_ble_eq_true rfl, Nat.le_of_ble_eq_true rfl⟩) (va_recv hK hG.1 (ci := 3) (q0 := 27) rfl rfl) rfl hl.1 rfl (Nat.le_of_ble_eq_true rfl) dX5_post_53 ⟨Nat.le_of_ble_eq_true rfl, Nat.le_of_ble_eq_true rfl⟩ (fun r_4 g1 H locs hq hG => ?_)
    obtain ⟨SI_2, SX_3, rfl, hf⟩ := hq
    refine lv_istore (lv' := [(4, .int r_4), (0, .ref (B 1)), (1, .int x1), (2, .int x2), (3, .int x3)]) hx hb dX5_post_56 hl (by decide) rfl (fun ls hl => ?_)
    refine lv_aload_n hx hb dX5_post_58 rfl (lv_at hl 1 rfl) ?_
    refine gg_R_1 C hG inX5_post_wsX50 (hts _ (List.mem_of_getElem? (i := 5) rfl)) dX5_post_59 ?_
    refine lv_iload hx hb dX5_post_62 (lv_at hl 0 rfl) ?_
    obtain ⟨h_5, h_6, hf⟩ := hf
    refine g_mkWays C hG inX5_post_wsX40 inX5_post_wsX50 (hts _ (List.mem_of_getElem? (i := 6) rfl)) (hts _ (List.mem_of_getElem? (i := 7) rfl)) (hts _ (List.mem_of_getElem? (i := 8) rfl)) (hts _ (List.mem_of_getElem? (i := 3) rfl)) (cwI 2 hts gX5_post_X4_init rfl rfl rfl (hts _ (List.mem_of_getElem? (i := 8) rfl)) (hts _ (List.mem_of_getElem? (i := 83) rfl)) (hts _ (List.mem_of_getElem? (i := 84) rfl)) rfl hdcX4_init ⟨Nat.le_of_ble_eq_true rfl, Nat.le_of_ble_eq_true rfl⟩) h_5 h_6 hl.1 (lv_at hl 1 rfl) (lv_at hl 0 rfl) rfl dX5_post_64 dX5_post_67 dX5_post_68 dX5_post_69 dX5_post_72 dX5_post_74 dX5_post_77 (Nat.le_of_ble_eq_true rfl) (Nat.le_of_ble_eq_true rfl) (fun nW_7 WI_8 WR_9 WL_10 WX_11 wd_12 H locs enW_7 eWI_8 eWR_9 eWL_10 eWX_11 hG => ?_)
    replace hf := hf nW_7 WI_8 WR_9 WL_10 WX_11 wd_12 enW_7 eWI_8 eWR_9 eWL_10 eWX_11
    refine lv_iload hx hb dX5_post_78 (lv_at hl 0 rfl) ?_
    exact gx_iret C hG (hpost _ _ _ _ _ _ _ _ _ hf) dX5_post_80 (Nat.le_of_ble_eq_true rfl) (Nat.le_of_ble_eq_true rfl)
  · replace hf := hf.2 c_1
    exact gx_throw (ik := 51) (is := 65) (ic := 55) (cls := "java/lang/UnsupportedOperationException") (text := "there are 8 posts") C hE hT hG hl.1 (by decide +kernel) (hts _ (List.mem_of_getElem? (i := 1) rfl)) (hts _ (List.mem_of_getElem? (i := 2) rfl)) (List.mem_of_getElem? (i := 1) rfl) (fun w h => hts w ((fun _ h => List.mem_cons_of_mem _ (List.mem_append_left _ (List.mem_append_left _ (List.mem_append_right _ h)))) w h)) zb_55 zg_55 dX5_post_36 dX5_post_39 dX5_post_40 dX5_post_42 dX5_post_45 (Nat.le_of_ble_eq_true rfl) (Nat.le_of_ble_eq_true rfl) (Nat.le_of_ble_eq_true rfl) (Nat.le_of_ble_eq_true rfl) (hpx _ _ _ _ _ _ _ _ _ hf) (Nat.le_of_ble_eq_true rfl) (Nat.le_of_ble_eq_true rfl)
set_option maxRecDepth 100000 in
theorem kX5_post {l : Launch} {D : va_G} {B : Nat → Nat} {K : sK} {M : sM} {O : sO} {MI : Nat → Int32} {TT : Nat → Int64} {AW : Nat → Int32} {nE : Nat} {LT : Nat → Nat → Int32} {la : Nat → Nat} {Q : Int32 → (Nat → Int32) → (Nat → Nat → Int32) → (Nat) → (Nat → Nat → Int32) → (Nat → Nat → Nat) → (Nat → Nat → Int32) → (Nat → Nat → Nat → Int32) → (Nat → Nat → Nat) → Prop} {EX : String → (Nat → Int32) → (Nat → Nat → Int32) → (Nat) → (Nat → Nat → Int32) → (Nat → Nat → Nat) → (Nat → Nat → Int32) → (Nat → Nat → Nat → Int32) → (Nat → Nat → Nat) → Prop} {SI : Nat → Int32} {SX : Nat → Nat → Int32} {nW : Nat} {WI : Nat → Nat → Int32} {WR : Nat → Nat → Nat} {WL : Nat → Nat → Int32} {WX : Nat → Nat → Nat → Int32} {wd : Nat → Nat → Nat} {x1 : Int32} {x2 : Int32} {x3 : Int32} (hf : fX5_post MI TT AW nE LT la Q EX SI SX nW WI WR WL WX wd x1 x2 x3) : gXi D B l yX5_post wsX5_post rX5_post 9 1991 [.ref (B 1), .int x1, .int x2, .int x3] ((SI, SX), K, (MI, TT, AW, nE, LT, la), (nW, WI, WR, WL, WX, wd), M, O) (fun r g1 => ∃ (SI1 : Nat → Int32) (SX1 : Nat → Nat → Int32) (nW1 : Nat) (WI1 : Nat → Nat → Int32) (WR1 : Nat → Nat → Nat) (WL1 : Nat → Nat → Int32) (WX1 : Nat → Nat → Nat → Int32) (wd1 : Nat → Nat → Nat), g1 = ((SI1, SX1), K, (MI, TT, AW, nE, LT, la), (nW1, WI1, WR1, WL1, WX1, wd1), M, O) ∧ Q r SI1 SX1 nW1 WI1 WR1 WL1 WX1 wd1) (fun E g1 => ∃ (SI1 : Nat → Int32) (SX1 : Nat → Nat → Int32) (nW1 : Nat) (WI1 : Nat → Nat → Int32) (WR1 : Nat → Nat → Nat) (WL1 : Nat → Nat → Int32) (WX1 : Nat → Nat → Nat → Int32) (wd1 : Nat → Nat → Nat), g1 = ((SI1, SX1), K, (MI, TT, AW, nE, LT, la), (nW1, WI1, WR1, WL1, WX1, wd1), M, O) ∧ EX E SI1 SX1 nW1 WI1 WR1 WL1 WX1 wd1) := by
  refine gXi_of (cc := cX5_post) (maxL := 5) (ret := some .int) (by decide +kernel) rfl (Nat.le_of_ble_eq_true rfl) ?_
  intro p e s m below meth c A hA0 C hE hT hG ls hl
  exact vX5_post_b0 C hE hT (fun v SI SX nW WI WR WL WX wd hq => ⟨SI, SX, nW, WI, WR, WL, WX, wd, rfl, hq⟩) (fun E SI SX nW WI WR WL WX wd hq => ⟨SI, SX, nW, WI, WR, WL, WX, wd, rfl, hq⟩) SI SX nW WI WR WL WX wd x1 x2 x3 _ _ _ hf hG hl

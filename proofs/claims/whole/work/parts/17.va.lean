def rJ9_floorMod_7cf53 : Room := { frames := 0, cells := 0, slots := 0, locals := 0 }
theorem hdsJ9_floorMod_7cf53 : yJ9_floorMod_7cf53.cls ≠ "java/lang/invoke/MethodHandle" ∧ yJ9_floorMod_7cf53.cls ≠ "java/lang/invoke/VarHandle" ∧ (parseMethodDescriptor yJ9_floorMod_7cf53.desc).map (fun d => d.parameters.length) = some 2 := by decide +kernel
set_option maxHeartbeats 4000000 in
set_option maxRecDepth 100000 in
theorem vJ9_floorMod_7cf53_b0 {p : Program} {l : Launch} {e : Env} {s : State} {m : MethodId} {args : Array Value} {below : List Frame} {meth : Method} {c : Code} {D : va_G} {B : Nat → Nat} {A : Nat → Prop} {S : sS} {K : sK} {L : sL} {Y : sY} {M : sM} {O : sO} {post : Int32 → sG → Prop} {Q : Int32 → Prop} (C : gX p s m args meth c cJ9_floorMod_7cf53 3 (some .int) wsJ9_floorMod_7cf53 RJ9 D B A) (hpost : ∀ (v : Int32) , Q v  → post v (S, K, L, Y, M, O))   (x0 : Int32) (x1 : Int32) (H : Heap) (locs : List Loc) (ls : Array Slot) (hf : fJ9_floorMod_7cf53 Q x0 x1) (hG : GS D B A s.heap (S, K, L, Y, M, O) H locs) (hl : lv_has ls 3 [(0, .int x0), (1, .int x1)]) : W p l e (headSpec wsJ9_floorMod_7cf53 rJ9_floorMod_7cf53).room s m args below meth c H locs 0 0 (MQ below (va_Qi post (gB D B A) A) args s 0 0 A) (F0 m 0 ls []) := by
  obtain ⟨hx, hb, hml, hown, hts, hK, hr, hlk, hA, hN⟩ := id C
  unfold fJ9_floorMod_7cf53 at hf
  refine lv_iload_n hx hb dJ9_floorMod_7cf53_0 rfl (lv_at hl 0 rfl) ?_
  refine lv_iload_n hx hb dJ9_floorMod_7cf53_1 rfl (lv_at hl 1 rfl) ?_
  obtain ⟨h_1, hf⟩ := hf
  refine lv_irem hx hb dJ9_floorMod_7cf53_2 h_1 ?_
  refine lv_topi (fun x2_2 ex2_2 => ?_)
  replace hf := hf x2_2 ex2_2
  refine lv_istore_n (lv' := [(2, .int x2_2), (0, .int x0), (1, .int x1)]) hx hb dJ9_floorMod_7cf53_3 rfl hl (by decide) rfl (fun ls hl => ?_)
  refine lv_iload_n hx hb dJ9_floorMod_7cf53_4 rfl (lv_at hl 1 rfl) ?_
  refine lv_iload_n hx hb dJ9_floorMod_7cf53_5 rfl (lv_at hl 2 rfl) ?_
  refine lv_ixor hx hb dJ9_floorMod_7cf53_6 ?_
  refine lv_if_ge (tgt := 18) hx hb dJ9_floorMod_7cf53_7 (by decide) (fun c_3 => ?_) (fun c_3 => ?_)
  · replace hf := hf.1 c_3
    refine lv_iload_n hx hb dJ9_floorMod_7cf53_18 rfl (lv_at hl 0 rfl) ?_
    exact g_iret C hG (hpost _ hf) dJ9_floorMod_7cf53_19
  · replace hf := hf.2 c_3
    refine lv_iload_n hx hb dJ9_floorMod_7cf53_10 rfl (lv_at hl 0 rfl) ?_
    refine lv_if_eq (tgt := 18) hx hb dJ9_floorMod_7cf53_11 (by decide) (fun c_4 => ?_) (fun c_4 => ?_)
    · replace hf := hf.1 c_4
      refine lv_iload_n hx hb dJ9_floorMod_7cf53_18 rfl (lv_at hl 0 rfl) ?_
      exact g_iret C hG (hpost _ hf) dJ9_floorMod_7cf53_19
    · replace hf := hf.2 c_4
      refine lv_iload_n hx hb dJ9_floorMod_7cf53_14 rfl (lv_at hl 0 rfl) ?_
      refine lv_iload_n hx hb dJ9_floorMod_7cf53_15 rfl (lv_at hl 2 rfl) ?_
      refine lv_iadd hx hb dJ9_floorMod_7cf53_16 ?_
      exact g_iret C hG (hpost _ hf) dJ9_floorMod_7cf53_17
set_option maxRecDepth 100000 in
theorem kJ9_floorMod_7cf53 {l : Launch} {D : va_G} {B : Nat → Nat} {S : sS} {K : sK} {L : sL} {Y : sY} {M : sM} {O : sO}  {Q : Int32 → Prop} {x0 : Int32} {x1 : Int32} (hf : fJ9_floorMod_7cf53 Q x0 x1) : gMi D B l yJ9_floorMod_7cf53 wsJ9_floorMod_7cf53 rJ9_floorMod_7cf53 0 0 [.int x0, .int x1] (S, K, L, Y, M, O) (fun r g1 => g1 = (S, K, L, Y, M, O) ∧ Q r ) := by
  refine gMi_ofF (cc := cJ9_floorMod_7cf53) (maxL := 3) (ret := some .int) (by decide +kernel) rfl (Nat.le_of_ble_eq_true rfl) ?_
  intro p e s m below meth c A hA0 C hG ls hl
  exact vJ9_floorMod_7cf53_b0 C (fun v  hq => ⟨rfl, hq⟩) x0 x1 _ _ _ hf hG hl
def rJ6_bitCount_0f7a4 : Room := { frames := 0, cells := 0, slots := 0, locals := 0 }
theorem hdsJ6_bitCount_0f7a4 : yJ6_bitCount_0f7a4.cls ≠ "java/lang/invoke/MethodHandle" ∧ yJ6_bitCount_0f7a4.cls ≠ "java/lang/invoke/VarHandle" ∧ (parseMethodDescriptor yJ6_bitCount_0f7a4.desc).map (fun d => d.parameters.length) = some 1 := by decide +kernel
set_option maxHeartbeats 4000000 in
set_option maxRecDepth 100000 in
theorem vJ6_bitCount_0f7a4_b0 {p : Program} {l : Launch} {e : Env} {s : State} {m : MethodId} {args : Array Value} {below : List Frame} {meth : Method} {c : Code} {D : va_G} {B : Nat → Nat} {A : Nat → Prop} {S : sS} {K : sK} {L : sL} {Y : sY} {M : sM} {O : sO} {post : Int32 → sG → Prop} {Q : Int32 → Prop} (C : gX p s m args meth c cJ6_bitCount_0f7a4 1 (some .int) wsJ6_bitCount_0f7a4 RJ6 D B A) (hpost : ∀ (v : Int32) , Q v  → post v (S, K, L, Y, M, O))   (x0 : Int32) (H : Heap) (locs : List Loc) (ls : Array Slot) (hf : fJ6_bitCount_0f7a4 Q x0) (hG : GS D B A s.heap (S, K, L, Y, M, O) H locs) (hl : lv_has ls 1 [(0, .int x0)]) : W p l e (headSpec wsJ6_bitCount_0f7a4 rJ6_bitCount_0f7a4).room s m args below meth c H locs 0 0 (MQ below (va_Qi post (gB D B A) A) args s 0 0 A) (F0 m 0 ls []) := by
  obtain ⟨hx, hb, hml, hown, hts, hK, hr, hlk, hA, hN⟩ := id C
  unfold fJ6_bitCount_0f7a4 at hf
  refine lv_iload_n hx hb dJ6_bitCount_0f7a4_0 rfl (lv_at hl 0 rfl) ?_
  refine lv_iload_n hx hb dJ6_bitCount_0f7a4_1 rfl (lv_at hl 0 rfl) ?_
  refine lv_iconst (v := (1 : Int32)) hx hb dJ6_bitCount_0f7a4_2 (by decide) ?_
  refine lv_iushr hx hb dJ6_bitCount_0f7a4_3 rfl ?_
  refine lv_ldcw (v := (1431655765 : Int32)) hx hb hown (hts _ (List.mem_of_getElem? (i := 1) rfl)) dJ6_bitCount_0f7a4_4 ?_
  refine lv_iand hx hb dJ6_bitCount_0f7a4_7 ?_
  refine lv_isub hx hb dJ6_bitCount_0f7a4_8 ?_
  refine lv_topi (fun x0_1 ex0_1 => ?_)
  replace hf := hf x0_1 ex0_1
  refine lv_istore_n (lv' := [(0, .int x0_1)]) hx hb dJ6_bitCount_0f7a4_9 rfl hl (by decide) rfl (fun ls hl => ?_)
  refine lv_iload_n hx hb dJ6_bitCount_0f7a4_10 rfl (lv_at hl 0 rfl) ?_
  refine lv_ldcw (v := (858993459 : Int32)) hx hb hown (hts _ (List.mem_of_getElem? (i := 2) rfl)) dJ6_bitCount_0f7a4_11 ?_
  refine lv_iand hx hb dJ6_bitCount_0f7a4_14 ?_
  refine lv_iload_n hx hb dJ6_bitCount_0f7a4_15 rfl (lv_at hl 0 rfl) ?_
  refine lv_iconst (v := (2 : Int32)) hx hb dJ6_bitCount_0f7a4_16 (by decide) ?_
  refine lv_iushr hx hb dJ6_bitCount_0f7a4_17 rfl ?_
  refine lv_ldcw (v := (858993459 : Int32)) hx hb hown (hts _ (List.mem_of_getElem? (i := 2) rfl)) dJ6_bitCount_0f7a4_18 ?_
  refine lv_iand hx hb dJ6_bitCount_0f7a4_21 ?_
  refine lv_iadd hx hb dJ6_bitCount_0f7a4_22 ?_
  refine lv_topi (fun x0_2 ex0_2 => ?_)
  replace hf := hf x0_2 ex0_2
  refine lv_istore_n (lv' := [(0, .int x0_2)]) hx hb dJ6_bitCount_0f7a4_23 rfl hl (by decide) rfl (fun ls hl => ?_)
  refine lv_iload_n hx hb dJ6_bitCount_0f7a4_24 rfl (lv_at hl 0 rfl) ?_
  refine lv_iload_n hx hb dJ6_bitCount_0f7a4_25 rfl (lv_at hl 0 rfl) ?_
  refine lv_iconst (v := (4 : Int32)) hx hb dJ6_bitCount_0f7a4_26 (by decide) ?_
  refine lv_iushr hx hb dJ6_bitCount_0f7a4_27 rfl ?_
  refine lv_iadd hx hb dJ6_bitCount_0f7a4_28 ?_
  refine lv_ldcw (v := (252645135 : Int32)) hx hb hown (hts _ (List.mem_of_getElem? (i := 3) rfl)) dJ6_bitCount_0f7a4_29 ?_
  refine lv_iand hx hb dJ6_bitCount_0f7a4_32 ?_
  refine lv_topi (fun x0_3 ex0_3 => ?_)
  replace hf := hf x0_3 ex0_3
  refine lv_istore_n (lv' := [(0, .int x0_3)]) hx hb dJ6_bitCount_0f7a4_33 rfl hl (by decide) rfl (fun ls hl => ?_)
  refine lv_iload_n hx hb dJ6_bitCount_0f7a4_34 rfl (lv_at hl 0 rfl) ?_
  refine lv_iload_n hx hb dJ6_bitCount_0f7a4_35 rfl (lv_at hl 0 rfl) ?_
  refine lv_bipush (v := (8 : Int32)) hx hb dJ6_bitCount_0f7a4_36 (by decide) ?_
  refine lv_iushr hx hb dJ6_bitCount_0f7a4_38 rfl ?_
  refine lv_iadd hx hb dJ6_bitCount_0f7a4_39 ?_
  refine lv_topi (fun x0_4 ex0_4 => ?_)
  replace hf := hf x0_4 ex0_4
  refine lv_istore_n (lv' := [(0, .int x0_4)]) hx hb dJ6_bitCount_0f7a4_40 rfl hl (by decide) rfl (fun ls hl => ?_)
  refine lv_iload_n hx hb dJ6_bitCount_0f7a4_41 rfl (lv_at hl 0 rfl) ?_
  refine lv_iload_n hx hb dJ6_bitCount_0f7a4_42 rfl (lv_at hl 0 rfl) ?_
  refine lv_bipush (v := (16 : Int32)) hx hb dJ6_bitCount_0f7a4_43 (by decide) ?_
  refine lv_iushr hx hb dJ6_bitCount_0f7a4_45 rfl ?_
  refine lv_iadd hx hb dJ6_bitCount_0f7a4_46 ?_
  refine lv_topi (fun x0_5 ex0_5 => ?_)
  replace hf := hf x0_5 ex0_5
  refine lv_istore_n (lv' := [(0, .int x0_5)]) hx hb dJ6_bitCount_0f7a4_47 rfl hl (by decide) rfl (fun ls hl => ?_)
  refine lv_iload_n hx hb dJ6_bitCount_0f7a4_48 rfl (lv_at hl 0 rfl) ?_
  refine lv_bipush (v := (63 : Int32)) hx hb dJ6_bitCount_0f7a4_49 (by decide) ?_
  refine lv_iand hx hb dJ6_bitCount_0f7a4_51 ?_
  exact g_iret C hG (hpost _ hf) dJ6_bitCount_0f7a4_52
set_option maxRecDepth 100000 in
theorem kJ6_bitCount_0f7a4 {l : Launch} {D : va_G} {B : Nat → Nat} {S : sS} {K : sK} {L : sL} {Y : sY} {M : sM} {O : sO}  {Q : Int32 → Prop} {x0 : Int32} (hf : fJ6_bitCount_0f7a4 Q x0) : gMi D B l yJ6_bitCount_0f7a4 wsJ6_bitCount_0f7a4 rJ6_bitCount_0f7a4 0 0 [.int x0] (S, K, L, Y, M, O) (fun r g1 => g1 = (S, K, L, Y, M, O) ∧ Q r ) := by
  refine gMi_of (cc := cJ6_bitCount_0f7a4) (maxL := 1) (ret := some .int) (by decide +kernel) rfl (Nat.le_of_ble_eq_true rfl) ?_
  intro p e s m below meth c A hA0 C hG ls hl
  exact vJ6_bitCount_0f7a4_b0 C (fun v  hq => ⟨rfl, hq⟩) x0 _ _ _ hf hG hl
def rX5_nodeOf : Room := { frames := 0, cells := 0, slots := 0, locals := 0 }
theorem hdsX5_nodeOf : yX5_nodeOf.cls ≠ "java/lang/invoke/MethodHandle" ∧ yX5_nodeOf.cls ≠ "java/lang/invoke/VarHandle" ∧ (parseMethodDescriptor yX5_nodeOf.desc).map (fun d => d.parameters.length) = some 1 := by decide +kernel
set_option maxHeartbeats 4000000 in
set_option maxRecDepth 100000 in
theorem vX5_nodeOf_b0 {p : Program} {l : Launch} {e : Env} {s : State} {m : MethodId} {args : Array Value} {below : List Frame} {meth : Method} {c : Code} {D : va_G} {B : Nat → Nat} {A : Nat → Prop} {S : sS} {K : sK} {L : sL} {Y : sY} {M : sM} {O : sO} {post : Int32 → sG → Prop} {Q : Int32 → Prop} (C : gX p s m args meth c cX5_nodeOf 1 (some .int) wsX5_nodeOf RX5 D B A) (hpost : ∀ (v : Int32) , Q v  → post v (S, K, L, Y, M, O))   (x0 : Int32) (H : Heap) (locs : List Loc) (ls : Array Slot) (hf : fX5_nodeOf Q x0) (hG : GS D B A s.heap (S, K, L, Y, M, O) H locs) (hl : lv_has ls 1 [(0, .int x0)]) : W p l e (headSpec wsX5_nodeOf rX5_nodeOf).room s m args below meth c H locs 0 0 (MQ below (va_Qi post (gB D B A) A) args s 0 0 A) (F0 m 0 ls []) := by
  obtain ⟨hx, hb, hml, hown, hts, hK, hr, hlk, hA, hN⟩ := id C
  unfold fX5_nodeOf at hf
  refine lv_bipush (v := (48 : Int32)) hx hb dX5_nodeOf_0 (by decide) ?_
  refine lv_iload_n hx hb dX5_nodeOf_2 rfl (lv_at hl 0 rfl) ?_
  refine lv_iadd hx hb dX5_nodeOf_3 ?_
  exact g_iret C hG (hpost _ hf) dX5_nodeOf_4
set_option maxRecDepth 100000 in
theorem kX5_nodeOf {l : Launch} {D : va_G} {B : Nat → Nat} {S : sS} {K : sK} {L : sL} {Y : sY} {M : sM} {O : sO}  {Q : Int32 → Prop} {x0 : Int32} (hf : fX5_nodeOf Q x0) : gMi D B l yX5_nodeOf wsX5_nodeOf rX5_nodeOf 0 0 [.int x0] (S, K, L, Y, M, O) (fun r g1 => g1 = (S, K, L, Y, M, O) ∧ Q r ) := by
  refine gMi_of (cc := cX5_nodeOf) (maxL := 1) (ret := some .int) (by decide +kernel) rfl (Nat.le_of_ble_eq_true rfl) ?_
  intro p e s m below meth c A hA0 C hG ls hl
  exact vX5_nodeOf_b0 C (fun v  hq => ⟨rfl, hq⟩) x0 _ _ _ hf hG hl
def rX5_isRelay : Room := { frames := 0, cells := 0, slots := 0, locals := 0 }
theorem hdsX5_isRelay : yX5_isRelay.cls ≠ "java/lang/invoke/MethodHandle" ∧ yX5_isRelay.cls ≠ "java/lang/invoke/VarHandle" ∧ (parseMethodDescriptor yX5_isRelay.desc).map (fun d => d.parameters.length) = some 1 := by decide +kernel
set_option maxHeartbeats 4000000 in
set_option maxRecDepth 100000 in
theorem vX5_isRelay_b0 {p : Program} {l : Launch} {e : Env} {s : State} {m : MethodId} {args : Array Value} {below : List Frame} {meth : Method} {c : Code} {D : va_G} {B : Nat → Nat} {A : Nat → Prop} {S : sS} {K : sK} {L : sL} {Y : sY} {M : sM} {O : sO} {post : Int32 → sG → Prop} {Q : Int32 → Prop} (C : gX p s m args meth c cX5_isRelay 1 (some .boolean) wsX5_isRelay RX5 D B A) (hpost : ∀ (v : Int32) , Q v  → post v (S, K, L, Y, M, O))   (x0 : Int32) (H : Heap) (locs : List Loc) (ls : Array Slot) (hf : fX5_isRelay Q x0) (hG : GS D B A s.heap (S, K, L, Y, M, O) H locs) (hl : lv_has ls 1 [(0, .int x0)]) : W p l e (headSpec wsX5_isRelay rX5_isRelay).room s m args below meth c H locs 0 0 (MQ below (va_Qi post (gB D B A) A) args s 0 0 A) (F0 m 0 ls []) := by
  obtain ⟨hx, hb, hml, hown, hts, hK, hr, hlk, hA, hN⟩ := id C
  unfold fX5_isRelay at hf
  refine lv_iload_n hx hb dX5_isRelay_0 rfl (lv_at hl 0 rfl) ?_
  refine lv_bipush (v := (48 : Int32)) hx hb dX5_isRelay_1 (by decide) ?_
  refine lv_icmp_ge (tgt := 10) hx hb dX5_isRelay_3 (by decide) (fun c_1 => ?_) (fun c_1 => ?_)
  · replace hf := hf.1 c_1
    refine lv_iconst (v := (0 : Int32)) hx hb dX5_isRelay_10 (by decide) ?_
    exact g_zret C hG rfl (hpost _ hf) dX5_isRelay_11
  · replace hf := hf.2 c_1
    refine lv_iconst (v := (1 : Int32)) hx hb dX5_isRelay_6 (by decide) ?_
    refine lv_goto (tgt := 11) hx hb dX5_isRelay_7 (by decide) ?_
    exact g_zret C hG rfl (hpost _ hf) dX5_isRelay_11
set_option maxRecDepth 100000 in
theorem kX5_isRelay {l : Launch} {D : va_G} {B : Nat → Nat} {S : sS} {K : sK} {L : sL} {Y : sY} {M : sM} {O : sO}  {Q : Int32 → Prop} {x0 : Int32} (hf : fX5_isRelay Q x0) : gMi D B l yX5_isRelay wsX5_isRelay rX5_isRelay 0 0 [.int x0] (S, K, L, Y, M, O) (fun r g1 => g1 = (S, K, L, Y, M, O) ∧ Q r ) := by
  refine gMi_of (cc := cX5_isRelay) (maxL := 1) (ret := some .boolean) (by decide +kernel) rfl (Nat.le_of_ble_eq_true rfl) ?_
  intro p e s m below meth c A hA0 C hG ls hl
  exact vX5_isRelay_b0 C (fun v  hq => ⟨rfl, hq⟩) x0 _ _ _ hf hG hl
def rX5_bit : Room := { frames := 0, cells := 0, slots := 0, locals := 0 }
theorem hdsX5_bit : yX5_bit.cls ≠ "java/lang/invoke/MethodHandle" ∧ yX5_bit.cls ≠ "java/lang/invoke/VarHandle" ∧ (parseMethodDescriptor yX5_bit.desc).map (fun d => d.parameters.length) = some 1 := by decide +kernel
set_option maxHeartbeats 4000000 in
set_option maxRecDepth 100000 in
theorem vX5_bit_b0 {p : Program} {l : Launch} {e : Env} {s : State} {m : MethodId} {args : Array Value} {below : List Frame} {meth : Method} {c : Code} {D : va_G} {B : Nat → Nat} {A : Nat → Prop} {S : sS} {K : sK} {L : sL} {Y : sY} {M : sM} {O : sO} {post : Int64 → sG → Prop} {Q : Int64 → Prop} (C : gX p s m args meth c cX5_bit 1 (some .long) wsX5_bit RX5 D B A) (hpost : ∀ (v : Int64) , Q v  → post v (S, K, L, Y, M, O))   (x0 : Int32) (H : Heap) (locs : List Loc) (ls : Array Slot) (hf : fX5_bit Q x0) (hG : GS D B A s.heap (S, K, L, Y, M, O) H locs) (hl : lv_has ls 1 [(0, .int x0)]) : W p l e (headSpec wsX5_bit rX5_bit).room s m args below meth c H locs 0 0 (MQ below (va_Ql post (gB D B A) A) args s 0 0 A) (F0 m 0 ls []) := by
  obtain ⟨hx, hb, hml, hown, hts, hK, hr, hlk, hA, hN⟩ := id C
  unfold fX5_bit at hf
  refine lv_lconst (v := (1 : Int64)) hx hb dX5_bit_0 (by decide) ?_
  refine lv_iload_n hx hb dX5_bit_1 rfl (lv_at hl 0 rfl) ?_
  refine lv_lshl hx hb dX5_bit_2 rfl ?_
  exact g_lret C hG (hpost _ hf) dX5_bit_3
set_option maxRecDepth 100000 in
theorem kX5_bit {l : Launch} {D : va_G} {B : Nat → Nat} {S : sS} {K : sK} {L : sL} {Y : sY} {M : sM} {O : sO}  {Q : Int64 → Prop} {x0 : Int32} (hf : fX5_bit Q x0) : gMl D B l yX5_bit wsX5_bit rX5_bit 0 0 [.int x0] (S, K, L, Y, M, O) (fun r g1 => g1 = (S, K, L, Y, M, O) ∧ Q r ) := by
  refine gMl_of (cc := cX5_bit) (maxL := 1) (ret := some .long) (by decide +kernel) rfl (Nat.le_of_ble_eq_true rfl) ?_
  intro p e s m below meth c A hA0 C hG ls hl
  exact vX5_bit_b0 C (fun v  hq => ⟨rfl, hq⟩) x0 _ _ _ hf hG hl
def rX5_ahead : Room := { frames := 0, cells := 0, slots := 0, locals := 0 }
theorem hdsX5_ahead : yX5_ahead.cls ≠ "java/lang/invoke/MethodHandle" ∧ yX5_ahead.cls ≠ "java/lang/invoke/VarHandle" ∧ (parseMethodDescriptor yX5_ahead.desc).map (fun d => d.parameters.length) = some 2 := by decide +kernel
set_option maxHeartbeats 4000000 in
set_option maxRecDepth 100000 in
theorem vX5_ahead_b0 {p : Program} {l : Launch} {e : Env} {s : State} {m : MethodId} {args : Array Value} {below : List Frame} {meth : Method} {c : Code} {D : va_G} {B : Nat → Nat} {A : Nat → Prop} {S : sS} {K : sK} {L : sL} {Y : sY} {M : sM} {O : sO} {post : Int32 → sG → Prop} {Q : Int32 → Prop} (C : gX p s m args meth c cX5_ahead 2 (some .int) wsX5_ahead RX5 D B A) (hpost : ∀ (v : Int32) , Q v  → post v (S, K, L, Y, M, O))   (x0 : Int32) (x1 : Int32) (H : Heap) (locs : List Loc) (ls : Array Slot) (hf : fX5_ahead Q x0 x1) (hG : GS D B A s.heap (S, K, L, Y, M, O) H locs) (hl : lv_has ls 2 [(0, .int x0), (1, .int x1)]) : W p l e (headSpec wsX5_ahead rX5_ahead).room s m args below meth c H locs 0 0 (MQ below (va_Qi post (gB D B A) A) args s 0 0 A) (F0 m 0 ls []) := by
  obtain ⟨hx, hb, hml, hown, hts, hK, hr, hlk, hA, hN⟩ := id C
  unfold fX5_ahead at hf
  refine lv_iload_n hx hb dX5_ahead_0 rfl (lv_at hl 0 rfl) ?_
  refine lv_iload_n hx hb dX5_ahead_1 rfl (lv_at hl 1 rfl) ?_
  refine lv_iushr hx hb dX5_ahead_2 rfl ?_
  refine lv_iload_n hx hb dX5_ahead_3 rfl (lv_at hl 0 rfl) ?_
  refine lv_bipush (v := (32 : Int32)) hx hb dX5_ahead_4 (by decide) ?_
  refine lv_iload_n hx hb dX5_ahead_6 rfl (lv_at hl 1 rfl) ?_
  refine lv_isub hx hb dX5_ahead_7 ?_
  refine lv_ishl hx hb dX5_ahead_8 ?_
  refine lv_ior hx hb dX5_ahead_9 ?_
  exact g_iret C hG (hpost _ hf) dX5_ahead_10
set_option maxRecDepth 100000 in
theorem kX5_ahead {l : Launch} {D : va_G} {B : Nat → Nat} {S : sS} {K : sK} {L : sL} {Y : sY} {M : sM} {O : sO}  {Q : Int32 → Prop} {x0 : Int32} {x1 : Int32} (hf : fX5_ahead Q x0 x1) : gMi D B l yX5_ahead wsX5_ahead rX5_ahead 0 0 [.int x0, .int x1] (S, K, L, Y, M, O) (fun r g1 => g1 = (S, K, L, Y, M, O) ∧ Q r ) := by
  refine gMi_of (cc := cX5_ahead) (maxL := 2) (ret := some .int) (by decide +kernel) rfl (Nat.le_of_ble_eq_true rfl) ?_
  intro p e s m below meth c A hA0 C hG ls hl
  exact vX5_ahead_b0 C (fun v  hq => ⟨rfl, hq⟩) x0 x1 _ _ _ hf hG hl
def rX3_apart : Room := { frames := 1, cells := 0, slots := 0, locals := 21 }
theorem hdsX3_apart : yX3_apart.cls ≠ "java/lang/invoke/MethodHandle" ∧ yX3_apart.cls ≠ "java/lang/invoke/VarHandle" ∧ (parseMethodDescriptor yX3_apart.desc).map (fun d => d.parameters.length) = some 2 := by decide +kernel
set_option maxHeartbeats 4000000 in
set_option maxRecDepth 100000 in
theorem vX3_apart_b0 {p : Program} {l : Launch} {e : Env} {s : State} {m : MethodId} {args : Array Value} {below : List Frame} {meth : Method} {c : Code} {D : va_G} {B : Nat → Nat} {A : Nat → Prop} {S : sS} {K : sK} {L : sL} {Y : sY} {M : sM} {O : sO} {post : Int32 → sG → Prop} {Q : Int32 → Prop} (C : gX p s m args meth c cX3_apart 3 (some .int) wsX3_apart RX3 D B A) (hpost : ∀ (v : Int32) , Q v  → post v (S, K, L, Y, M, O))   (x0 : Int32) (x1 : Int32) (H : Heap) (locs : List Loc) (ls : Array Slot) (hf : fX3_apart Q x0 x1) (hG : GS D B A s.heap (S, K, L, Y, M, O) H locs) (hl : lv_has ls 3 [(0, .int x0), (1, .int x1)]) : W p l e (headSpec wsX3_apart rX3_apart).room s m args below meth c H locs 0 0 (MQ below (va_Qi post (gB D B A) A) args s 0 0 A) (F0 m 0 ls []) := by
  obtain ⟨hx, hb, hml, hown, hts, hK, hr, hlk, hA, hN⟩ := id C
  unfold fX3_apart at hf
  refine lv_iload_n hx hb dX3_apart_0 rfl (lv_at hl 0 rfl) ?_
  refine lv_iload_n hx hb dX3_apart_1 rfl (lv_at hl 1 rfl) ?_
  refine lv_isub hx hb dX3_apart_2 ?_
  refine va_mabs hx hb (hml.trans hl.1.symm) hown (hts _ (List.mem_of_getElem? (i := 1) rfl)) (hts _ (List.mem_of_getElem? (i := 2) rfl)) (hts _ (List.mem_of_getElem? (i := 3) rfl)) (hts _ (List.mem_of_getElem? (i := 4) rfl)) (Nat.le_of_ble_eq_true rfl) (Nat.le_of_ble_eq_true rfl) (Nat.zero_le _) (Nat.zero_le _) dX3_apart_3 ?_
  refine lv_topi (fun x2_1 ex2_1 => ?_)
  replace hf := hf x2_1 ex2_1
  refine lv_istore_n (lv' := [(2, .int x2_1), (0, .int x0), (1, .int x1)]) hx hb dX3_apart_6 rfl hl (by decide) rfl (fun ls hl => ?_)
  refine lv_iload_n hx hb dX3_apart_7 rfl (lv_at hl 0 rfl) ?_
  refine lv_bipush (v := (32 : Int32)) hx hb dX3_apart_8 (by decide) ?_
  refine lv_iload_n hx hb dX3_apart_10 rfl (lv_at hl 0 rfl) ?_
  refine lv_isub hx hb dX3_apart_11 ?_
  refine va_mmin hx hb (hml.trans hl.1.symm) hown (hts _ (List.mem_of_getElem? (i := 5) rfl)) (hts _ (List.mem_of_getElem? (i := 6) rfl)) (hts _ (List.mem_of_getElem? (i := 3) rfl)) (hts _ (List.mem_of_getElem? (i := 7) rfl)) (Nat.le_of_ble_eq_true rfl) (Nat.le_of_ble_eq_true rfl) (Nat.zero_le _) (Nat.zero_le _) dX3_apart_12 ?_
  exact g_iret C hG (hpost _ hf) dX3_apart_15
set_option maxRecDepth 100000 in
theorem kX3_apart {l : Launch} {D : va_G} {B : Nat → Nat} {S : sS} {K : sK} {L : sL} {Y : sY} {M : sM} {O : sO}  {Q : Int32 → Prop} {x0 : Int32} {x1 : Int32} (hf : fX3_apart Q x0 x1) : gMi D B l yX3_apart wsX3_apart rX3_apart 0 0 [.int x0, .int x1] (S, K, L, Y, M, O) (fun r g1 => g1 = (S, K, L, Y, M, O) ∧ Q r ) := by
  refine gMi_of (cc := cX3_apart) (maxL := 3) (ret := some .int) (by decide +kernel) rfl (Nat.le_of_ble_eq_true rfl) ?_
  intro p e s m below meth c A hA0 C hG ls hl
  exact vX3_apart_b0 C (fun v  hq => ⟨rfl, hq⟩) x0 x1 _ _ _ hf hG hl
def rX3_placeOf : Room := { frames := 1, cells := 0, slots := 0, locals := 22 }
theorem hdvX3_placeOf : yX3_placeOf.cls = RX3 ∧ yX3_placeOf.cls ≠ "java/lang/invoke/MethodHandle" ∧ yX3_placeOf.cls ≠ "java/lang/invoke/VarHandle" ∧ (parseMethodDescriptor yX3_placeOf.desc).map (fun d => d.parameters.length) = some 2 := by decide +kernel
theorem inX3_placeOf_wsX30 : ∀ w ∈ wsX30, w ∈ wsX3_placeOf := (fun _ h => List.mem_cons_of_mem _ (List.mem_append_right _ h))
set_option maxHeartbeats 4000000 in
set_option maxRecDepth 100000 in
theorem vX3_placeOf_b0 {p : Program} {l : Launch} {e : Env} {s : State} {m : MethodId} {args : Array Value} {below : List Frame} {meth : Method} {c : Code} {D : va_G} {B : Nat → Nat} {A : Nat → Prop} {K : sK} {L : sL} {Y : sY} {M : sM} {O : sO} {post : Int32 → sG → Prop} {SI : Nat → Int32} {SX : Nat → Nat → Int32} {Q : Int32 → Prop} (C : gX p s m args meth c cX3_placeOf 3 (some .int) wsX3_placeOf RX3 D B A) (hpost : ∀ (v : Int32) , Q v  → post v ((SI, SX), K, L, Y, M, O))   (x1 : Int32) (x2 : Int32) (H : Heap) (locs : List Loc) (ls : Array Slot) (hf : fX3_placeOf SI SX Q x1 x2) (hG : GS D B A s.heap ((SI, SX), K, L, Y, M, O) H locs) (hl : lv_has ls 3 [(0, .ref (B 2)), (1, .int x1), (2, .int x2)]) : W p l e (headSpec wsX3_placeOf rX3_placeOf).room s m args below meth c H locs 0 0 (MQ below (va_Qi post (gB D B A) A) args s 0 0 A) (F0 m 0 ls []) := by
  obtain ⟨hx, hb, hml, hown, hts, hK, hr, hlk, hA, hN⟩ := id C
  unfold fX3_placeOf at hf
  refine lv_aload_n hx hb dX3_placeOf_0 rfl (lv_at hl 0 rfl) ?_
  refine gg_S_7 C hG inX3_placeOf_wsX30 (hts _ (List.mem_of_getElem? (i := 1) rfl)) dX3_placeOf_1 ?_
  refine lv_iload_n hx hb dX3_placeOf_4 rfl (lv_at hl 1 rfl) ?_
  obtain ⟨h_1, hf⟩ := hf
  refine ga_S_7 C hG h_1 dX3_placeOf_5 ?_
  refine lv_aload_n hx hb dX3_placeOf_6 rfl (lv_at hl 0 rfl) ?_
  refine gg_S_8 C hG inX3_placeOf_wsX30 (hts _ (List.mem_of_getElem? (i := 2) rfl)) dX3_placeOf_7 ?_
  refine lv_iload_n hx hb dX3_placeOf_10 rfl (lv_at hl 1 rfl) ?_
  obtain ⟨h_2, hf⟩ := hf
  refine ga_S_8 C hG h_2 dX3_placeOf_11 ?_
  refine lv_iload_n hx hb dX3_placeOf_12 rfl (lv_at hl 2 rfl) ?_
  refine lv_imul hx hb dX3_placeOf_13 ?_
  refine lv_iadd hx hb dX3_placeOf_14 ?_
  refine lv_bipush (v := (32 : Int32)) hx hb dX3_placeOf_15 (by decide) ?_
  refine g_callSi0 (As := [.int (SX 7 x1.toNatClampNeg + (SX 8 x1.toNatClampNeg * x2)), .int (32 : Int32)]) C hG (kJ9_floorMod_7cf53 hf) (va_cwS 2 hts gX3_placeOf_J9_floorMod_7cf53 rfl rfl rfl hdsJ9_floorMod_7cf53 ⟨Nat.le_of_ble_eq_true rfl, Nat.le_of_ble_eq_true rfl⟩) rfl hl.1 rfl (Nat.le_of_ble_eq_true rfl) dX3_placeOf_17 ⟨Nat.zero_le _, Nat.zero_le _⟩ (fun r_3 g1 H locs hq hG => ?_)
  obtain ⟨rfl, hf⟩ := hq
  exact g_iret C hG (hpost _ hf) dX3_placeOf_20
set_option maxRecDepth 100000 in
theorem kX3_placeOf {l : Launch} {D : va_G} {B : Nat → Nat} {K : sK} {L : sL} {Y : sY} {M : sM} {O : sO} {SI : Nat → Int32} {SX : Nat → Nat → Int32} {Q : Int32 → Prop} {x1 : Int32} {x2 : Int32} (hf : fX3_placeOf SI SX Q x1 x2) : gMi D B l yX3_placeOf wsX3_placeOf rX3_placeOf 0 0 [.ref (B 2), .int x1, .int x2] ((SI, SX), K, L, Y, M, O) (fun r g1 => g1 = ((SI, SX), K, L, Y, M, O) ∧ Q r ) := by
  refine gMi_of (cc := cX3_placeOf) (maxL := 3) (ret := some .int) (by decide +kernel) rfl (Nat.le_of_ble_eq_true rfl) ?_
  intro p e s m below meth c A hA0 C hG ls hl
  exact vX3_placeOf_b0 C (fun v  hq => ⟨rfl, hq⟩) x1 x2 _ _ _ hf hG hl
def rX3_lengthOf : Room := { frames := 1, cells := 0, slots := 0, locals := 20 }
theorem hdvX3_lengthOf : yX3_lengthOf.cls = RX3 ∧ yX3_lengthOf.cls ≠ "java/lang/invoke/MethodHandle" ∧ yX3_lengthOf.cls ≠ "java/lang/invoke/VarHandle" ∧ (parseMethodDescriptor yX3_lengthOf.desc).map (fun d => d.parameters.length) = some 2 := by decide +kernel
theorem inX3_lengthOf_wsX30 : ∀ w ∈ wsX30, w ∈ wsX3_lengthOf := (fun _ h => List.mem_cons_of_mem _ (List.mem_append_right _ h))
set_option maxHeartbeats 4000000 in
set_option maxRecDepth 100000 in
theorem vX3_lengthOf_b34 {p : Program} {l : Launch} {e : Env} {s : State} {m : MethodId} {args : Array Value} {below : List Frame} {meth : Method} {c : Code} {D : va_G} {B : Nat → Nat} {A : Nat → Prop} {K : sK} {L : sL} {Y : sY} {M : sM} {O : sO} {post : Int32 → sG → Prop} {SI : Nat → Int32} {SX : Nat → Nat → Int32} {Q : Int32 → Prop} (C : gX p s m args meth c cX3_lengthOf 4 (some .int) wsX3_lengthOf RX3 D B A) (hpost : ∀ (v : Int32) , Q v  → post v ((SI, SX), K, L, Y, M, O))   (t0 : Int32) (H : Heap) (locs : List Loc) (ls : Array Slot) (hf : fX3_lengthOf_b34 SI SX Q t0) (hG : GS D B A s.heap ((SI, SX), K, L, Y, M, O) H locs) (hl : lv_has ls 4 []) : W p l e (headSpec wsX3_lengthOf rX3_lengthOf).room s m args below meth c H locs 0 0 (MQ below (va_Qi post (gB D B A) A) args s 0 0 A) (F0 m 34 ls [.int t0]) := by
  obtain ⟨hx, hb, hml, hown, hts, hK, hr, hlk, hA, hN⟩ := id C
  unfold fX3_lengthOf_b34 at hf
  refine lv_istore_n (lv' := [(3, .int t0)]) hx hb dX3_lengthOf_34 rfl hl (by decide) rfl (fun ls hl => ?_)
  refine lv_iload_n hx hb dX3_lengthOf_35 rfl (lv_at hl 0 rfl) ?_
  refine lv_if_eq (tgt := 43) hx hb dX3_lengthOf_36 (by decide) (fun c_8 => ?_) (fun c_8 => ?_)
  · replace hf := hf.1 c_8
    refine lv_iconst (v := (1 : Int32)) hx hb dX3_lengthOf_43 (by decide) ?_
    exact g_iret C hG (hpost _ hf) dX3_lengthOf_44
  · replace hf := hf.2 c_8
    refine lv_iconst (v := (2 : Int32)) hx hb dX3_lengthOf_39 (by decide) ?_
    refine lv_goto (tgt := 44) hx hb dX3_lengthOf_40 (by decide) ?_
    exact g_iret C hG (hpost _ hf) dX3_lengthOf_44
set_option maxHeartbeats 4000000 in
set_option maxRecDepth 100000 in
theorem vX3_lengthOf_b33 {p : Program} {l : Launch} {e : Env} {s : State} {m : MethodId} {args : Array Value} {below : List Frame} {meth : Method} {c : Code} {D : va_G} {B : Nat → Nat} {A : Nat → Prop} {K : sK} {L : sL} {Y : sY} {M : sM} {O : sO} {post : Int32 → sG → Prop} {SI : Nat → Int32} {SX : Nat → Nat → Int32} {Q : Int32 → Prop} (C : gX p s m args meth c cX3_lengthOf 4 (some .int) wsX3_lengthOf RX3 D B A) (hpost : ∀ (v : Int32) , Q v  → post v ((SI, SX), K, L, Y, M, O))    (H : Heap) (locs : List Loc) (ls : Array Slot) (hf : fX3_lengthOf_b33 SI SX Q) (hG : GS D B A s.heap ((SI, SX), K, L, Y, M, O) H locs) (hl : lv_has ls 4 []) : W p l e (headSpec wsX3_lengthOf rX3_lengthOf).room s m args below meth c H locs 0 0 (MQ below (va_Qi post (gB D B A) A) args s 0 0 A) (F0 m 33 ls []) := by
  obtain ⟨hx, hb, hml, hown, hts, hK, hr, hlk, hA, hN⟩ := id C
  unfold fX3_lengthOf_b33 at hf
  refine lv_iconst (v := (0 : Int32)) hx hb dX3_lengthOf_33 (by decide) ?_
  exact vX3_lengthOf_b34 C hpost  (0 : Int32) _ _ _ hf hG (lv_sub hl [] rfl)
set_option maxHeartbeats 4000000 in
set_option maxRecDepth 100000 in
theorem vX3_lengthOf_b0 {p : Program} {l : Launch} {e : Env} {s : State} {m : MethodId} {args : Array Value} {below : List Frame} {meth : Method} {c : Code} {D : va_G} {B : Nat → Nat} {A : Nat → Prop} {K : sK} {L : sL} {Y : sY} {M : sM} {O : sO} {post : Int32 → sG → Prop} {SI : Nat → Int32} {SX : Nat → Nat → Int32} {Q : Int32 → Prop} (C : gX p s m args meth c cX3_lengthOf 4 (some .int) wsX3_lengthOf RX3 D B A) (hpost : ∀ (v : Int32) , Q v  → post v ((SI, SX), K, L, Y, M, O))   (x1 : Int32) (x2 : Int32) (H : Heap) (locs : List Loc) (ls : Array Slot) (hf : fX3_lengthOf SI SX Q x1 x2) (hG : GS D B A s.heap ((SI, SX), K, L, Y, M, O) H locs) (hl : lv_has ls 4 [(0, .ref (B 2)), (1, .int x1), (2, .int x2)]) : W p l e (headSpec wsX3_lengthOf rX3_lengthOf).room s m args below meth c H locs 0 0 (MQ below (va_Qi post (gB D B A) A) args s 0 0 A) (F0 m 0 ls []) := by
  obtain ⟨hx, hb, hml, hown, hts, hK, hr, hlk, hA, hN⟩ := id C
  unfold fX3_lengthOf at hf
  refine lv_iload_n hx hb dX3_lengthOf_0 rfl (lv_at hl 1 rfl) ?_
  refine g_callNi0 (As := [.int x1]) C hG (kX5_isRelay hf) ⟨va_cnB 1 hts gX3_lengthOf_X5_isRelay_n79 rfl rfl rfl (hN _ (List.mem_of_getElem? (i := 8) rfl)) (hts _ (List.mem_of_getElem? (i := 3) rfl)) hdsX5_isRelay ⟨Nat.le_of_ble_eq_true rfl, Nat.le_of_ble_eq_true rfl⟩, hts _ (List.mem_of_getElem? (i := 2) rfl), trivial⟩ rfl hl.1 rfl (Nat.le_of_ble_eq_true rfl) dX3_lengthOf_1 ⟨Nat.zero_le _, Nat.zero_le _⟩ (fun r_1 g1 H locs hq hG => ?_)
  obtain ⟨rfl, hf⟩ := hq
  refine lv_if_eq (tgt := 33) hx hb dX3_lengthOf_4 (by decide) (fun c_2 => ?_) (fun c_2 => ?_)
  · replace hf := hf.1 c_2
    exact vX3_lengthOf_b33 C hpost   _ _ _ hf hG (lv_sub hl [] rfl)
  · replace hf := hf.2 c_2
    refine lv_iload_n hx hb dX3_lengthOf_7 rfl (lv_at hl 2 rfl) ?_
    refine g_callNi0 (As := [.int x2]) C hG (kX5_isRelay hf) ⟨va_cnB 1 hts gX3_lengthOf_X5_isRelay_n79 rfl rfl rfl (hN _ (List.mem_of_getElem? (i := 8) rfl)) (hts _ (List.mem_of_getElem? (i := 3) rfl)) hdsX5_isRelay ⟨Nat.le_of_ble_eq_true rfl, Nat.le_of_ble_eq_true rfl⟩, hts _ (List.mem_of_getElem? (i := 2) rfl), trivial⟩ rfl hl.1 rfl (Nat.le_of_ble_eq_true rfl) dX3_lengthOf_8 ⟨Nat.zero_le _, Nat.zero_le _⟩ (fun r_3 g1 H locs hq hG => ?_)
    obtain ⟨rfl, hf⟩ := hq
    refine lv_if_eq (tgt := 33) hx hb dX3_lengthOf_11 (by decide) (fun c_4 => ?_) (fun c_4 => ?_)
    · replace hf := hf.1 c_4
      exact vX3_lengthOf_b33 C hpost   _ _ _ hf hG (lv_sub hl [] rfl)
    · replace hf := hf.2 c_4
      refine lv_aload_n hx hb dX3_lengthOf_14 rfl (lv_at hl 0 rfl) ?_
      refine gg_S_6 C hG inX3_lengthOf_wsX30 (hts _ (List.mem_of_getElem? (i := 1) rfl)) dX3_lengthOf_15 ?_
      refine lv_iload_n hx hb dX3_lengthOf_18 rfl (lv_at hl 1 rfl) ?_
      obtain ⟨h_5, hf⟩ := hf
      refine ga_S_6 C hG h_5 dX3_lengthOf_19 ?_
      refine lv_aload_n hx hb dX3_lengthOf_20 rfl (lv_at hl 0 rfl) ?_
      refine gg_S_6 C hG inX3_lengthOf_wsX30 (hts _ (List.mem_of_getElem? (i := 1) rfl)) dX3_lengthOf_21 ?_
      refine lv_iload_n hx hb dX3_lengthOf_24 rfl (lv_at hl 2 rfl) ?_
      obtain ⟨h_6, hf⟩ := hf
      refine ga_S_6 C hG h_6 dX3_lengthOf_25 ?_
      refine lv_icmp_ne (tgt := 33) hx hb dX3_lengthOf_26 (by decide) (fun c_7 => ?_) (fun c_7 => ?_)
      · replace hf := hf.1 c_7
        exact vX3_lengthOf_b33 C hpost   _ _ _ hf hG (lv_sub hl [] rfl)
      · replace hf := hf.2 c_7
        refine lv_iconst (v := (1 : Int32)) hx hb dX3_lengthOf_29 (by decide) ?_
        refine lv_goto (tgt := 34) hx hb dX3_lengthOf_30 (by decide) ?_
        exact vX3_lengthOf_b34 C hpost  (1 : Int32) _ _ _ hf hG (lv_sub hl [] rfl)
set_option maxRecDepth 100000 in
theorem kX3_lengthOf {l : Launch} {D : va_G} {B : Nat → Nat} {K : sK} {L : sL} {Y : sY} {M : sM} {O : sO} {SI : Nat → Int32} {SX : Nat → Nat → Int32} {Q : Int32 → Prop} {x1 : Int32} {x2 : Int32} (hf : fX3_lengthOf SI SX Q x1 x2) : gMi D B l yX3_lengthOf wsX3_lengthOf rX3_lengthOf 0 0 [.ref (B 2), .int x1, .int x2] ((SI, SX), K, L, Y, M, O) (fun r g1 => g1 = ((SI, SX), K, L, Y, M, O) ∧ Q r ) := by
  refine gMi_of (cc := cX3_lengthOf) (maxL := 4) (ret := some .int) (by decide +kernel) rfl (Nat.le_of_ble_eq_true rfl) ?_
  intro p e s m below meth c A hA0 C hG ls hl
  exact vX3_lengthOf_b0 C (fun v  hq => ⟨rfl, hq⟩) x1 x2 _ _ _ hf hG hl
def rX3_isUp : Room := { frames := 0, cells := 0, slots := 0, locals := 0 }
theorem hdvX3_isUp : yX3_isUp.cls = RX3 ∧ yX3_isUp.cls ≠ "java/lang/invoke/MethodHandle" ∧ yX3_isUp.cls ≠ "java/lang/invoke/VarHandle" ∧ (parseMethodDescriptor yX3_isUp.desc).map (fun d => d.parameters.length) = some 1 := by decide +kernel
theorem inX3_isUp_wsX30 : ∀ w ∈ wsX30, w ∈ wsX3_isUp := (fun _ h => List.mem_cons_of_mem _ (List.mem_append_right _ h))
set_option maxHeartbeats 4000000 in
set_option maxRecDepth 100000 in
theorem vX3_isUp_b0 {p : Program} {l : Launch} {e : Env} {s : State} {m : MethodId} {args : Array Value} {below : List Frame} {meth : Method} {c : Code} {D : va_G} {B : Nat → Nat} {A : Nat → Prop} {K : sK} {L : sL} {Y : sY} {M : sM} {O : sO} {post : Int32 → sG → Prop} {SI : Nat → Int32} {SX : Nat → Nat → Int32} {Q : Int32 → Prop} (C : gX p s m args meth c cX3_isUp 2 (some .boolean) wsX3_isUp RX3 D B A) (hpost : ∀ (v : Int32) , Q v  → post v ((SI, SX), K, L, Y, M, O))   (x1 : Int32) (H : Heap) (locs : List Loc) (ls : Array Slot) (hf : fX3_isUp SI SX Q x1) (hG : GS D B A s.heap ((SI, SX), K, L, Y, M, O) H locs) (hl : lv_has ls 2 [(0, .ref (B 2)), (1, .int x1)]) : W p l e (headSpec wsX3_isUp rX3_isUp).room s m args below meth c H locs 0 0 (MQ below (va_Qi post (gB D B A) A) args s 0 0 A) (F0 m 0 ls []) := by
  obtain ⟨hx, hb, hml, hown, hts, hK, hr, hlk, hA, hN⟩ := id C
  unfold fX3_isUp at hf
  refine lv_aload_n hx hb dX3_isUp_0 rfl (lv_at hl 0 rfl) ?_
  refine gg_S_4 C hG inX3_isUp_wsX30 (hts _ (List.mem_of_getElem? (i := 1) rfl)) dX3_isUp_1 ?_
  refine lv_iload_n hx hb dX3_isUp_4 rfl (lv_at hl 1 rfl) ?_
  obtain ⟨h_1, hf⟩ := hf
  refine ga_S_4 C hG h_1 dX3_isUp_5 ?_
  obtain ⟨h_2, hf⟩ := hf
  exact g_zret C hG h_2 (hpost _ hf) dX3_isUp_6
set_option maxRecDepth 100000 in
theorem kX3_isUp {l : Launch} {D : va_G} {B : Nat → Nat} {K : sK} {L : sL} {Y : sY} {M : sM} {O : sO} {SI : Nat → Int32} {SX : Nat → Nat → Int32} {Q : Int32 → Prop} {x1 : Int32} (hf : fX3_isUp SI SX Q x1) : gMi D B l yX3_isUp wsX3_isUp rX3_isUp 0 0 [.ref (B 2), .int x1] ((SI, SX), K, L, Y, M, O) (fun r g1 => g1 = ((SI, SX), K, L, Y, M, O) ∧ Q r ) := by
  refine gMi_of (cc := cX3_isUp) (maxL := 2) (ret := some .boolean) (by decide +kernel) rfl (Nat.le_of_ble_eq_true rfl) ?_
  intro p e s m below meth c A hA0 C hG ls hl
  exact vX3_isUp_b0 C (fun v  hq => ⟨rfl, hq⟩) x1 _ _ _ hf hG hl
def rX3_ticksThere : Room := { frames := 0, cells := 0, slots := 0, locals := 0 }
theorem hdvX3_ticksThere : yX3_ticksThere.cls = RX3 ∧ yX3_ticksThere.cls ≠ "java/lang/invoke/MethodHandle" ∧ yX3_ticksThere.cls ≠ "java/lang/invoke/VarHandle" ∧ (parseMethodDescriptor yX3_ticksThere.desc).map (fun d => d.parameters.length) = some 2 := by decide +kernel
theorem inX3_ticksThere_wsX30 : ∀ w ∈ wsX30, w ∈ wsX3_ticksThere := (fun _ h => List.mem_cons_of_mem _ (List.mem_append_right _ h))
set_option maxHeartbeats 4000000 in
set_option maxRecDepth 100000 in
theorem vX3_ticksThere_b0 {p : Program} {l : Launch} {e : Env} {s : State} {m : MethodId} {args : Array Value} {below : List Frame} {meth : Method} {c : Code} {D : va_G} {B : Nat → Nat} {A : Nat → Prop} {K : sK} {L : sL} {Y : sY} {M : sM} {O : sO} {post : Int32 → sG → Prop} {SI : Nat → Int32} {SX : Nat → Nat → Int32} {Q : Int32 → Prop} (C : gX p s m args meth c cX3_ticksThere 3 (some .int) wsX3_ticksThere RX3 D B A) (hpost : ∀ (v : Int32) , Q v  → post v ((SI, SX), K, L, Y, M, O))   (x1 : Int32) (x2 : Int32) (H : Heap) (locs : List Loc) (ls : Array Slot) (hf : fX3_ticksThere SI SX Q x1 x2) (hG : GS D B A s.heap ((SI, SX), K, L, Y, M, O) H locs) (hl : lv_has ls 3 [(0, .ref (B 2)), (1, .int x1), (2, .int x2)]) : W p l e (headSpec wsX3_ticksThere rX3_ticksThere).room s m args below meth c H locs 0 0 (MQ below (va_Qi post (gB D B A) A) args s 0 0 A) (F0 m 0 ls []) := by
  obtain ⟨hx, hb, hml, hown, hts, hK, hr, hlk, hA, hN⟩ := id C
  unfold fX3_ticksThere at hf
  refine lv_aload_n hx hb dX3_ticksThere_0 rfl (lv_at hl 0 rfl) ?_
  refine gg_S_4 C hG inX3_ticksThere_wsX30 (hts _ (List.mem_of_getElem? (i := 1) rfl)) dX3_ticksThere_1 ?_
  refine lv_iload_n hx hb dX3_ticksThere_4 rfl (lv_at hl 1 rfl) ?_
  obtain ⟨h_1, hf⟩ := hf
  refine ga_S_4 C hG h_1 dX3_ticksThere_5 ?_
  refine lv_if_eq (tgt := 32) hx hb dX3_ticksThere_6 (by decide) (fun c_2 => ?_) (fun c_2 => ?_)
  · replace hf := hf.1 c_2
    refine lv_iconst (v := (0 : Int32)) hx hb dX3_ticksThere_32 (by decide) ?_
    exact g_iret C hG (hpost _ hf) dX3_ticksThere_33
  · replace hf := hf.2 c_2
    refine lv_aload_n hx hb dX3_ticksThere_9 rfl (lv_at hl 0 rfl) ?_
    refine gg_S_4 C hG inX3_ticksThere_wsX30 (hts _ (List.mem_of_getElem? (i := 1) rfl)) dX3_ticksThere_10 ?_
    refine lv_iload_n hx hb dX3_ticksThere_13 rfl (lv_at hl 2 rfl) ?_
    obtain ⟨h_3, hf⟩ := hf
    refine ga_S_4 C hG h_3 dX3_ticksThere_14 ?_
    refine lv_if_eq (tgt := 32) hx hb dX3_ticksThere_15 (by decide) (fun c_4 => ?_) (fun c_4 => ?_)
    · replace hf := hf.1 c_4
      refine lv_iconst (v := (0 : Int32)) hx hb dX3_ticksThere_32 (by decide) ?_
      exact g_iret C hG (hpost _ hf) dX3_ticksThere_33
    · replace hf := hf.2 c_4
      refine lv_aload_n hx hb dX3_ticksThere_18 rfl (lv_at hl 0 rfl) ?_
      refine gg_S_10 C hG inX3_ticksThere_wsX30 (hts _ (List.mem_of_getElem? (i := 2) rfl)) dX3_ticksThere_19 ?_
      refine lv_iload_n hx hb dX3_ticksThere_22 rfl (lv_at hl 1 rfl) ?_
      refine lv_bipush (v := (48 : Int32)) hx hb dX3_ticksThere_23 (by decide) ?_
      refine lv_imul hx hb dX3_ticksThere_25 ?_
      refine lv_iload_n hx hb dX3_ticksThere_26 rfl (lv_at hl 2 rfl) ?_
      refine lv_iadd hx hb dX3_ticksThere_27 ?_
      obtain ⟨h_5, hf⟩ := hf
      refine ga_S_10 C hG h_5 dX3_ticksThere_28 ?_
      refine lv_goto (tgt := 33) hx hb dX3_ticksThere_29 (by decide) ?_
      exact g_iret C hG (hpost _ hf) dX3_ticksThere_33
set_option maxRecDepth 100000 in
theorem kX3_ticksThere {l : Launch} {D : va_G} {B : Nat → Nat} {K : sK} {L : sL} {Y : sY} {M : sM} {O : sO} {SI : Nat → Int32} {SX : Nat → Nat → Int32} {Q : Int32 → Prop} {x1 : Int32} {x2 : Int32} (hf : fX3_ticksThere SI SX Q x1 x2) : gMi D B l yX3_ticksThere wsX3_ticksThere rX3_ticksThere 0 0 [.ref (B 2), .int x1, .int x2] ((SI, SX), K, L, Y, M, O) (fun r g1 => g1 = ((SI, SX), K, L, Y, M, O) ∧ Q r ) := by
  refine gMi_of (cc := cX3_ticksThere) (maxL := 3) (ret := some .int) (by decide +kernel) rfl (Nat.le_of_ble_eq_true rfl) ?_
  intro p e s m below meth c A hA0 C hG ls hl
  exact vX3_ticksThere_b0 C (fun v  hq => ⟨rfl, hq⟩) x1 x2 _ _ _ hf hG hl
def rX3_ticksToTake : Room := { frames := 0, cells := 0, slots := 0, locals := 0 }
theorem hdvX3_ticksToTake : yX3_ticksToTake.cls = RX3 ∧ yX3_ticksToTake.cls ≠ "java/lang/invoke/MethodHandle" ∧ yX3_ticksToTake.cls ≠ "java/lang/invoke/VarHandle" ∧ (parseMethodDescriptor yX3_ticksToTake.desc).map (fun d => d.parameters.length) = some 2 := by decide +kernel
theorem inX3_ticksToTake_wsX30 : ∀ w ∈ wsX30, w ∈ wsX3_ticksToTake := (fun _ h => List.mem_cons_of_mem _ (List.mem_append_right _ h))
set_option maxHeartbeats 4000000 in
set_option maxRecDepth 100000 in
theorem vX3_ticksToTake_b0 {p : Program} {l : Launch} {e : Env} {s : State} {m : MethodId} {args : Array Value} {below : List Frame} {meth : Method} {c : Code} {D : va_G} {B : Nat → Nat} {A : Nat → Prop} {K : sK} {L : sL} {Y : sY} {M : sM} {O : sO} {post : Int32 → sG → Prop} {SI : Nat → Int32} {SX : Nat → Nat → Int32} {Q : Int32 → Prop} (C : gX p s m args meth c cX3_ticksToTake 3 (some .int) wsX3_ticksToTake RX3 D B A) (hpost : ∀ (v : Int32) , Q v  → post v ((SI, SX), K, L, Y, M, O))   (x1 : Int32) (x2 : Int32) (H : Heap) (locs : List Loc) (ls : Array Slot) (hf : fX3_ticksToTake SI SX Q x1 x2) (hG : GS D B A s.heap ((SI, SX), K, L, Y, M, O) H locs) (hl : lv_has ls 3 [(0, .ref (B 2)), (1, .int x1), (2, .int x2)]) : W p l e (headSpec wsX3_ticksToTake rX3_ticksToTake).room s m args below meth c H locs 0 0 (MQ below (va_Qi post (gB D B A) A) args s 0 0 A) (F0 m 0 ls []) := by
  obtain ⟨hx, hb, hml, hown, hts, hK, hr, hlk, hA, hN⟩ := id C
  unfold fX3_ticksToTake at hf
  refine lv_aload_n hx hb dX3_ticksToTake_0 rfl (lv_at hl 0 rfl) ?_
  refine gg_S_4 C hG inX3_ticksToTake_wsX30 (hts _ (List.mem_of_getElem? (i := 1) rfl)) dX3_ticksToTake_1 ?_
  refine lv_iload_n hx hb dX3_ticksToTake_4 rfl (lv_at hl 1 rfl) ?_
  obtain ⟨h_1, hf⟩ := hf
  refine ga_S_4 C hG h_1 dX3_ticksToTake_5 ?_
  refine lv_if_eq (tgt := 32) hx hb dX3_ticksToTake_6 (by decide) (fun c_2 => ?_) (fun c_2 => ?_)
  · replace hf := hf.1 c_2
    refine lv_iconst (v := (0 : Int32)) hx hb dX3_ticksToTake_32 (by decide) ?_
    exact g_iret C hG (hpost _ hf) dX3_ticksToTake_33
  · replace hf := hf.2 c_2
    refine lv_aload_n hx hb dX3_ticksToTake_9 rfl (lv_at hl 0 rfl) ?_
    refine gg_S_4 C hG inX3_ticksToTake_wsX30 (hts _ (List.mem_of_getElem? (i := 1) rfl)) dX3_ticksToTake_10 ?_
    refine lv_iload_n hx hb dX3_ticksToTake_13 rfl (lv_at hl 2 rfl) ?_
    obtain ⟨h_3, hf⟩ := hf
    refine ga_S_4 C hG h_3 dX3_ticksToTake_14 ?_
    refine lv_if_eq (tgt := 32) hx hb dX3_ticksToTake_15 (by decide) (fun c_4 => ?_) (fun c_4 => ?_)
    · replace hf := hf.1 c_4
      refine lv_iconst (v := (0 : Int32)) hx hb dX3_ticksToTake_32 (by decide) ?_
      exact g_iret C hG (hpost _ hf) dX3_ticksToTake_33
    · replace hf := hf.2 c_4
      refine lv_aload_n hx hb dX3_ticksToTake_18 rfl (lv_at hl 0 rfl) ?_
      refine gg_S_11 C hG inX3_ticksToTake_wsX30 (hts _ (List.mem_of_getElem? (i := 2) rfl)) dX3_ticksToTake_19 ?_
      refine lv_iload_n hx hb dX3_ticksToTake_22 rfl (lv_at hl 1 rfl) ?_
      refine lv_bipush (v := (48 : Int32)) hx hb dX3_ticksToTake_23 (by decide) ?_
      refine lv_imul hx hb dX3_ticksToTake_25 ?_
      refine lv_iload_n hx hb dX3_ticksToTake_26 rfl (lv_at hl 2 rfl) ?_
      refine lv_iadd hx hb dX3_ticksToTake_27 ?_
      obtain ⟨h_5, hf⟩ := hf
      refine ga_S_11 C hG h_5 dX3_ticksToTake_28 ?_
      refine lv_goto (tgt := 33) hx hb dX3_ticksToTake_29 (by decide) ?_
      exact g_iret C hG (hpost _ hf) dX3_ticksToTake_33
set_option maxRecDepth 100000 in
theorem kX3_ticksToTake {l : Launch} {D : va_G} {B : Nat → Nat} {K : sK} {L : sL} {Y : sY} {M : sM} {O : sO} {SI : Nat → Int32} {SX : Nat → Nat → Int32} {Q : Int32 → Prop} {x1 : Int32} {x2 : Int32} (hf : fX3_ticksToTake SI SX Q x1 x2) : gMi D B l yX3_ticksToTake wsX3_ticksToTake rX3_ticksToTake 0 0 [.ref (B 2), .int x1, .int x2] ((SI, SX), K, L, Y, M, O) (fun r g1 => g1 = ((SI, SX), K, L, Y, M, O) ∧ Q r ) := by
  refine gMi_of (cc := cX3_ticksToTake) (maxL := 3) (ret := some .int) (by decide +kernel) rfl (Nat.le_of_ble_eq_true rfl) ?_
  intro p e s m below meth c A hA0 C hG ls hl
  exact vX3_ticksToTake_b0 C (fun v  hq => ⟨rfl, hq⟩) x1 x2 _ _ _ hf hG hl
def rX3_isThere : Room := { frames := 1, cells := 0, slots := 0, locals := 22 }
theorem hdvX3_isThere : yX3_isThere.cls = RX3 ∧ yX3_isThere.cls ≠ "java/lang/invoke/MethodHandle" ∧ yX3_isThere.cls ≠ "java/lang/invoke/VarHandle" ∧ (parseMethodDescriptor yX3_isThere.desc).map (fun d => d.parameters.length) = some 3 := by decide +kernel
set_option maxHeartbeats 4000000 in
set_option maxRecDepth 100000 in
theorem vX3_isThere_b0 {p : Program} {l : Launch} {e : Env} {s : State} {m : MethodId} {args : Array Value} {below : List Frame} {meth : Method} {c : Code} {D : va_G} {B : Nat → Nat} {A : Nat → Prop} {K : sK} {L : sL} {Y : sY} {M : sM} {O : sO} {post : Int32 → sG → Prop} {SI : Nat → Int32} {SX : Nat → Nat → Int32} {Q : Int32 → Prop} (C : gX p s m args meth c cX3_isThere 4 (some .boolean) wsX3_isThere RX3 D B A) (hpost : ∀ (v : Int32) , Q v  → post v ((SI, SX), K, L, Y, M, O))   (x1 : Int32) (x2 : Int32) (x3 : Int32) (H : Heap) (locs : List Loc) (ls : Array Slot) (hf : fX3_isThere SI SX Q x1 x2 x3) (hG : GS D B A s.heap ((SI, SX), K, L, Y, M, O) H locs) (hl : lv_has ls 4 [(0, .ref (B 2)), (1, .int x1), (2, .int x2), (3, .int x3)]) : W p l e (headSpec wsX3_isThere rX3_isThere).room s m args below meth c H locs 0 0 (MQ below (va_Qi post (gB D B A) A) args s 0 0 A) (F0 m 0 ls []) := by
  obtain ⟨hx, hb, hml, hown, hts, hK, hr, hlk, hA, hN⟩ := id C
  unfold fX3_isThere at hf
  refine lv_aload_n hx hb dX3_isThere_0 rfl (lv_at hl 0 rfl) ?_
  refine lv_iload_n hx hb dX3_isThere_1 rfl (lv_at hl 1 rfl) ?_
  refine lv_iload_n hx hb dX3_isThere_2 rfl (lv_at hl 2 rfl) ?_
  refine g_callVi0 (As := [.int x1, .int x2]) C hG (kX3_ticksThere hf) (cwV 2 hts gX3_isThere_X3_ticksThere rfl rfl rfl hdvX3_ticksThere ⟨Nat.le_of_ble_eq_true rfl, Nat.le_of_ble_eq_true rfl⟩) (va_recv hK hG.1 (ci := 3) (q0 := 27) rfl rfl) rfl hl.1 rfl (Nat.le_of_ble_eq_true rfl) dX3_isThere_3 ⟨Nat.zero_le _, Nat.zero_le _⟩ (fun r_1 g1 H locs hq hG => ?_)
  obtain ⟨rfl, hf⟩ := hq
  refine lv_iload_n hx hb dX3_isThere_6 rfl (lv_at hl 3 rfl) ?_
  refine lv_bipush (v := (31 : Int32)) hx hb dX3_isThere_7 (by decide) ?_
  refine lv_iand hx hb dX3_isThere_9 ?_
  refine lv_iushr hx hb dX3_isThere_10 rfl ?_
  refine lv_iconst (v := (1 : Int32)) hx hb dX3_isThere_11 (by decide) ?_
  refine lv_iand hx hb dX3_isThere_12 ?_
  refine lv_if_eq (tgt := 20) hx hb dX3_isThere_13 (by decide) (fun c_2 => ?_) (fun c_2 => ?_)
  · replace hf := hf.1 c_2
    refine lv_iconst (v := (0 : Int32)) hx hb dX3_isThere_20 (by decide) ?_
    exact g_zret C hG rfl (hpost _ hf) dX3_isThere_21
  · replace hf := hf.2 c_2
    refine lv_iconst (v := (1 : Int32)) hx hb dX3_isThere_16 (by decide) ?_
    refine lv_goto (tgt := 21) hx hb dX3_isThere_17 (by decide) ?_
    exact g_zret C hG rfl (hpost _ hf) dX3_isThere_21
set_option maxRecDepth 100000 in
theorem kX3_isThere {l : Launch} {D : va_G} {B : Nat → Nat} {K : sK} {L : sL} {Y : sY} {M : sM} {O : sO} {SI : Nat → Int32} {SX : Nat → Nat → Int32} {Q : Int32 → Prop} {x1 : Int32} {x2 : Int32} {x3 : Int32} (hf : fX3_isThere SI SX Q x1 x2 x3) : gMi D B l yX3_isThere wsX3_isThere rX3_isThere 0 0 [.ref (B 2), .int x1, .int x2, .int x3] ((SI, SX), K, L, Y, M, O) (fun r g1 => g1 = ((SI, SX), K, L, Y, M, O) ∧ Q r ) := by
  refine gMi_of (cc := cX3_isThere) (maxL := 4) (ret := some .boolean) (by decide +kernel) rfl (Nat.le_of_ble_eq_true rfl) ?_
  intro p e s m below meth c A hA0 C hG ls hl
  exact vX3_isThere_b0 C (fun v  hq => ⟨rfl, hq⟩) x1 x2 x3 _ _ _ hf hG hl
def rX3_nearFrom : Room := { frames := 1, cells := 0, slots := 0, locals := 21 }
theorem hdvX3_nearFrom : yX3_nearFrom.cls = RX3 ∧ yX3_nearFrom.cls ≠ "java/lang/invoke/MethodHandle" ∧ yX3_nearFrom.cls ≠ "java/lang/invoke/VarHandle" ∧ (parseMethodDescriptor yX3_nearFrom.desc).map (fun d => d.parameters.length) = some 1 := by decide +kernel
theorem inX3_nearFrom_wsX30 : ∀ w ∈ wsX30, w ∈ wsX3_nearFrom := (fun _ h => List.mem_cons_of_mem _ (List.mem_append_right _ h))
set_option maxHeartbeats 4000000 in
set_option maxRecDepth 100000 in
theorem vX3_nearFrom_b0 {p : Program} {l : Launch} {e : Env} {s : State} {m : MethodId} {args : Array Value} {below : List Frame} {meth : Method} {c : Code} {D : va_G} {B : Nat → Nat} {A : Nat → Prop} {K : sK} {L : sL} {Y : sY} {M : sM} {O : sO} {post : Int32 → sG → Prop} {SI : Nat → Int32} {SX : Nat → Nat → Int32} {Q : Int32 → Prop} (C : gX p s m args meth c cX3_nearFrom 2 (some .int) wsX3_nearFrom RX3 D B A) (hpost : ∀ (v : Int32) , Q v  → post v ((SI, SX), K, L, Y, M, O))   (x1 : Int32) (H : Heap) (locs : List Loc) (ls : Array Slot) (hf : fX3_nearFrom SI SX Q x1) (hG : GS D B A s.heap ((SI, SX), K, L, Y, M, O) H locs) (hl : lv_has ls 2 [(0, .ref (B 2)), (1, .int x1)]) : W p l e (headSpec wsX3_nearFrom rX3_nearFrom).room s m args below meth c H locs 0 0 (MQ below (va_Qi post (gB D B A) A) args s 0 0 A) (F0 m 0 ls []) := by
  obtain ⟨hx, hb, hml, hown, hts, hK, hr, hlk, hA, hN⟩ := id C
  unfold fX3_nearFrom at hf
  refine lv_aload_n hx hb dX3_nearFrom_0 rfl (lv_at hl 0 rfl) ?_
  refine gg_S_5 C hG inX3_nearFrom_wsX30 (hts _ (List.mem_of_getElem? (i := 1) rfl)) dX3_nearFrom_1 ?_
  refine lv_aload_n hx hb dX3_nearFrom_4 rfl (lv_at hl 0 rfl) ?_
  refine gg_S_6 C hG inX3_nearFrom_wsX30 (hts _ (List.mem_of_getElem? (i := 2) rfl)) dX3_nearFrom_5 ?_
  refine lv_iload_n hx hb dX3_nearFrom_8 rfl (lv_at hl 1 rfl) ?_
  obtain ⟨h_1, hf⟩ := hf
  refine ga_S_6 C hG h_1 dX3_nearFrom_9 ?_
  refine lv_iconst (v := (1 : Int32)) hx hb dX3_nearFrom_10 (by decide) ?_
  refine lv_isub hx hb dX3_nearFrom_11 ?_
  refine lv_iconst (v := (0 : Int32)) hx hb dX3_nearFrom_12 (by decide) ?_
  refine va_mmax hx hb (hml.trans hl.1.symm) hown (hts _ (List.mem_of_getElem? (i := 3) rfl)) (hts _ (List.mem_of_getElem? (i := 4) rfl)) (hts _ (List.mem_of_getElem? (i := 5) rfl)) (hts _ (List.mem_of_getElem? (i := 6) rfl)) (Nat.le_of_ble_eq_true rfl) (Nat.le_of_ble_eq_true rfl) (Nat.zero_le _) (Nat.zero_le _) dX3_nearFrom_13 ?_
  obtain ⟨h_2, hf⟩ := hf
  refine ga_S_5 C hG h_2 dX3_nearFrom_16 ?_
  exact g_iret C hG (hpost _ hf) dX3_nearFrom_17
set_option maxRecDepth 100000 in
theorem kX3_nearFrom {l : Launch} {D : va_G} {B : Nat → Nat} {K : sK} {L : sL} {Y : sY} {M : sM} {O : sO} {SI : Nat → Int32} {SX : Nat → Nat → Int32} {Q : Int32 → Prop} {x1 : Int32} (hf : fX3_nearFrom SI SX Q x1) : gMi D B l yX3_nearFrom wsX3_nearFrom rX3_nearFrom 0 0 [.ref (B 2), .int x1] ((SI, SX), K, L, Y, M, O) (fun r g1 => g1 = ((SI, SX), K, L, Y, M, O) ∧ Q r ) := by
  refine gMi_of (cc := cX3_nearFrom) (maxL := 2) (ret := some .int) (by decide +kernel) rfl (Nat.le_of_ble_eq_true rfl) ?_
  intro p e s m below meth c A hA0 C hG ls hl
  exact vX3_nearFrom_b0 C (fun v  hq => ⟨rfl, hq⟩) x1 _ _ _ hf hG hl
def rX3_nearTo : Room := { frames := 1, cells := 0, slots := 0, locals := 21 }
theorem hdvX3_nearTo : yX3_nearTo.cls = RX3 ∧ yX3_nearTo.cls ≠ "java/lang/invoke/MethodHandle" ∧ yX3_nearTo.cls ≠ "java/lang/invoke/VarHandle" ∧ (parseMethodDescriptor yX3_nearTo.desc).map (fun d => d.parameters.length) = some 1 := by decide +kernel
theorem inX3_nearTo_wsX30 : ∀ w ∈ wsX30, w ∈ wsX3_nearTo := (fun _ h => List.mem_cons_of_mem _ (List.mem_append_right _ h))
set_option maxHeartbeats 4000000 in
set_option maxRecDepth 100000 in
theorem vX3_nearTo_b0 {p : Program} {l : Launch} {e : Env} {s : State} {m : MethodId} {args : Array Value} {below : List Frame} {meth : Method} {c : Code} {D : va_G} {B : Nat → Nat} {A : Nat → Prop} {K : sK} {L : sL} {Y : sY} {M : sM} {O : sO} {post : Int32 → sG → Prop} {SI : Nat → Int32} {SX : Nat → Nat → Int32} {Q : Int32 → Prop} (C : gX p s m args meth c cX3_nearTo 2 (some .int) wsX3_nearTo RX3 D B A) (hpost : ∀ (v : Int32) , Q v  → post v ((SI, SX), K, L, Y, M, O))   (x1 : Int32) (H : Heap) (locs : List Loc) (ls : Array Slot) (hf : fX3_nearTo SI SX Q x1) (hG : GS D B A s.heap ((SI, SX), K, L, Y, M, O) H locs) (hl : lv_has ls 2 [(0, .ref (B 2)), (1, .int x1)]) : W p l e (headSpec wsX3_nearTo rX3_nearTo).room s m args below meth c H locs 0 0 (MQ below (va_Qi post (gB D B A) A) args s 0 0 A) (F0 m 0 ls []) := by
  obtain ⟨hx, hb, hml, hown, hts, hK, hr, hlk, hA, hN⟩ := id C
  unfold fX3_nearTo at hf
  refine lv_aload_n hx hb dX3_nearTo_0 rfl (lv_at hl 0 rfl) ?_
  refine gg_S_5 C hG inX3_nearTo_wsX30 (hts _ (List.mem_of_getElem? (i := 1) rfl)) dX3_nearTo_1 ?_
  refine lv_aload_n hx hb dX3_nearTo_4 rfl (lv_at hl 0 rfl) ?_
  refine gg_S_6 C hG inX3_nearTo_wsX30 (hts _ (List.mem_of_getElem? (i := 2) rfl)) dX3_nearTo_5 ?_
  refine lv_iload_n hx hb dX3_nearTo_8 rfl (lv_at hl 1 rfl) ?_
  obtain ⟨h_1, hf⟩ := hf
  refine ga_S_6 C hG h_1 dX3_nearTo_9 ?_
  refine lv_iconst (v := (2 : Int32)) hx hb dX3_nearTo_10 (by decide) ?_
  refine lv_iadd hx hb dX3_nearTo_11 ?_
  refine lv_bipush (v := (6 : Int32)) hx hb dX3_nearTo_12 (by decide) ?_
  refine va_mmin hx hb (hml.trans hl.1.symm) hown (hts _ (List.mem_of_getElem? (i := 3) rfl)) (hts _ (List.mem_of_getElem? (i := 4) rfl)) (hts _ (List.mem_of_getElem? (i := 5) rfl)) (hts _ (List.mem_of_getElem? (i := 6) rfl)) (Nat.le_of_ble_eq_true rfl) (Nat.le_of_ble_eq_true rfl) (Nat.zero_le _) (Nat.zero_le _) dX3_nearTo_14 ?_
  obtain ⟨h_2, hf⟩ := hf
  refine ga_S_5 C hG h_2 dX3_nearTo_17 ?_
  exact g_iret C hG (hpost _ hf) dX3_nearTo_18
set_option maxRecDepth 100000 in
theorem kX3_nearTo {l : Launch} {D : va_G} {B : Nat → Nat} {K : sK} {L : sL} {Y : sY} {M : sM} {O : sO} {SI : Nat → Int32} {SX : Nat → Nat → Int32} {Q : Int32 → Prop} {x1 : Int32} (hf : fX3_nearTo SI SX Q x1) : gMi D B l yX3_nearTo wsX3_nearTo rX3_nearTo 0 0 [.ref (B 2), .int x1] ((SI, SX), K, L, Y, M, O) (fun r g1 => g1 = ((SI, SX), K, L, Y, M, O) ∧ Q r ) := by
  refine gMi_of (cc := cX3_nearTo) (maxL := 2) (ret := some .int) (by decide +kernel) rfl (Nat.le_of_ble_eq_true rfl) ?_
  intro p e s m below meth c A hA0 C hG ls hl
  exact vX3_nearTo_b0 C (fun v  hq => ⟨rfl, hq⟩) x1 _ _ _ hf hG hl
def rX3_deadRelays : Room := { frames := 0, cells := 0, slots := 0, locals := 0 }
theorem hdvX3_deadRelays : yX3_deadRelays.cls = RX3 ∧ yX3_deadRelays.cls ≠ "java/lang/invoke/MethodHandle" ∧ yX3_deadRelays.cls ≠ "java/lang/invoke/VarHandle" ∧ (parseMethodDescriptor yX3_deadRelays.desc).map (fun d => d.parameters.length) = some 0 := by decide +kernel
theorem inX3_deadRelays_wsX30 : ∀ w ∈ wsX30, w ∈ wsX3_deadRelays := (fun _ h => List.mem_cons_of_mem _ (List.mem_append_right _ h))
set_option maxHeartbeats 4000000 in
set_option maxRecDepth 100000 in
theorem vX3_deadRelays_b24 {p : Program} {l : Launch} {e : Env} {s : State} {m : MethodId} {args : Array Value} {below : List Frame} {meth : Method} {c : Code} {D : va_G} {B : Nat → Nat} {A : Nat → Prop} {K : sK} {L : sL} {Y : sY} {M : sM} {O : sO} {post : Int32 → sG → Prop} {SI : Nat → Int32} {SX : Nat → Nat → Int32} {Q : Int32 → Prop} (C : gX p s m args meth c cX3_deadRelays 3 (some .int) wsX3_deadRelays RX3 D B A) (hpost : ∀ (v : Int32) , Q v  → post v ((SI, SX), K, L, Y, M, O)) {G4 : Int32 → Int32 → Prop} (hG4 : ∀  (y1 : Int32) (y2 : Int32) (H : Heap) (locs : List Loc) (ls : Array Slot), G4 y1 y2 → GS D B A s.heap ((SI, SX), K, L, Y, M, O) H locs → lv_has ls 3 [(0, .ref (B 2)), (1, .int y1), (2, .int y2)] → W p l e (headSpec wsX3_deadRelays rX3_deadRelays).room s m args below meth c H locs 0 0 (MQ below (va_Qi post (gB D B A) A) args s 0 0 A) (F0 m 4 ls []))  (y1 : Int32) (y2 : Int32) (H : Heap) (locs : List Loc) (ls : Array Slot) (hf : fX3_deadRelays_b24 SI SX G4 Q y1 y2) (hG : GS D B A s.heap ((SI, SX), K, L, Y, M, O) H locs) (hl : lv_has ls 3 [(0, .ref (B 2)), (1, .int y1), (2, .int y2)]) : W p l e (headSpec wsX3_deadRelays rX3_deadRelays).room s m args below meth c H locs 0 0 (MQ below (va_Qi post (gB D B A) A) args s 0 0 A) (F0 m 24 ls []) := by
  obtain ⟨hx, hb, hml, hown, hts, hK, hr, hlk, hA, hN⟩ := id C
  unfold fX3_deadRelays_b24 at hf
  obtain ⟨x2_5, ex2_5⟩ : ∃ y : Int32, y = y2 + (1 : Int32) := ⟨_, rfl⟩
  replace hf := hf x2_5 ex2_5
  refine lv_iinc (v := x2_5) (lv' := [(2, .int x2_5), (0, .ref (B 2)), (1, .int y1)]) hx hb dX3_deadRelays_24 hl (k := 2) rfl (by rw [ex2_5]; rfl) (by decide) rfl (fun ls hl => ?_)
  refine lv_goto (tgt := 4) hx hb dX3_deadRelays_27 (by decide) ?_
  exact hG4 y1 x2_5 _ _ _ hf hG (lv_sub hl [1, 2, 0] rfl)
set_option maxHeartbeats 4000000 in
set_option maxRecDepth 100000 in
theorem vX3_deadRelays_h4 {p : Program} {l : Launch} {e : Env} {s : State} {m : MethodId} {args : Array Value} {below : List Frame} {meth : Method} {c : Code} {D : va_G} {B : Nat → Nat} {A : Nat → Prop} {K : sK} {L : sL} {Y : sY} {M : sM} {O : sO} {post : Int32 → sG → Prop} {SI : Nat → Int32} {SX : Nat → Nat → Int32} {Q : Int32 → Prop} (C : gX p s m args meth c cX3_deadRelays 3 (some .int) wsX3_deadRelays RX3 D B A) (hpost : ∀ (v : Int32) , Q v  → post v ((SI, SX), K, L, Y, M, O))  : ∀ (n4 : Nat)  (y1 : Int32) (y2 : Int32) (H : Heap) (locs : List Loc) (ls : Array Slot), fX3_deadRelays_h4 SI SX Q n4 y1 y2 → GS D B A s.heap ((SI, SX), K, L, Y, M, O) H locs → lv_has ls 3 [(0, .ref (B 2)), (1, .int y1), (2, .int y2)] → W p l e (headSpec wsX3_deadRelays rX3_deadRelays).room s m args below meth c H locs 0 0 (MQ below (va_Qi post (gB D B A) A) args s 0 0 A) (F0 m 4 ls []) := by
  obtain ⟨hx, hb, hml, hown, hts, hK, hr, hlk, hA, hN⟩ := id C
  intro n4
  induction n4 with
  | zero =>
    intro y1 y2 H locs ls hf
    exact False.elim hf
  | succ n4 hG4 =>
    intro y1 y2 H locs ls hf hG hl
    unfold fX3_deadRelays_h4 at hf
    refine lv_iload_n hx hb dX3_deadRelays_4 rfl (lv_at hl 2 rfl) ?_
    refine lv_aload_n hx hb dX3_deadRelays_5 rfl (lv_at hl 0 rfl) ?_
    refine gg_S_1 C hG inX3_deadRelays_wsX30 (hts _ (List.mem_of_getElem? (i := 1) rfl)) dX3_deadRelays_6 ?_
    refine lv_icmp_ge (tgt := 30) hx hb dX3_deadRelays_9 (by decide) (fun c_1 => ?_) (fun c_1 => ?_)
    · replace hf := hf.1 c_1
      refine lv_iload_n hx hb dX3_deadRelays_30 rfl (lv_at hl 1 rfl) ?_
      exact g_iret C hG (hpost _ hf) dX3_deadRelays_31
    · replace hf := hf.2 c_1
      refine lv_aload_n hx hb dX3_deadRelays_12 rfl (lv_at hl 0 rfl) ?_
      refine gg_S_4 C hG inX3_deadRelays_wsX30 (hts _ (List.mem_of_getElem? (i := 2) rfl)) dX3_deadRelays_13 ?_
      refine lv_iload_n hx hb dX3_deadRelays_16 rfl (lv_at hl 2 rfl) ?_
      obtain ⟨h_2, hf⟩ := hf
      refine ga_S_4 C hG h_2 dX3_deadRelays_17 ?_
      refine lv_if_ne (tgt := 24) hx hb dX3_deadRelays_18 (by decide) (fun c_3 => ?_) (fun c_3 => ?_)
      · replace hf := hf.1 c_3
        exact vX3_deadRelays_b24 C hpost hG4 y1 y2 _ _ _ hf hG (lv_sub hl [0, 1, 2] rfl)
      · replace hf := hf.2 c_3
        obtain ⟨x1_4, ex1_4⟩ : ∃ y : Int32, y = y1 + (1 : Int32) := ⟨_, rfl⟩
        replace hf := hf x1_4 ex1_4
        refine lv_iinc (v := x1_4) (lv' := [(1, .int x1_4), (0, .ref (B 2)), (2, .int y2)]) hx hb dX3_deadRelays_21 hl (k := 1) rfl (by rw [ex1_4]; rfl) (by decide) rfl (fun ls hl => ?_)
        exact vX3_deadRelays_b24 C hpost hG4 x1_4 y2 _ _ _ hf hG (lv_sub hl [1, 0, 2] rfl)
set_option maxHeartbeats 4000000 in
set_option maxRecDepth 100000 in
theorem vX3_deadRelays_b0 {p : Program} {l : Launch} {e : Env} {s : State} {m : MethodId} {args : Array Value} {below : List Frame} {meth : Method} {c : Code} {D : va_G} {B : Nat → Nat} {A : Nat → Prop} {K : sK} {L : sL} {Y : sY} {M : sM} {O : sO} {post : Int32 → sG → Prop} {SI : Nat → Int32} {SX : Nat → Nat → Int32} {Q : Int32 → Prop} (C : gX p s m args meth c cX3_deadRelays 3 (some .int) wsX3_deadRelays RX3 D B A) (hpost : ∀ (v : Int32) , Q v  → post v ((SI, SX), K, L, Y, M, O))    (H : Heap) (locs : List Loc) (ls : Array Slot) (hf : fX3_deadRelays SI SX Q) (hG : GS D B A s.heap ((SI, SX), K, L, Y, M, O) H locs) (hl : lv_has ls 3 [(0, .ref (B 2))]) : W p l e (headSpec wsX3_deadRelays rX3_deadRelays).room s m args below meth c H locs 0 0 (MQ below (va_Qi post (gB D B A) A) args s 0 0 A) (F0 m 0 ls []) := by
  obtain ⟨hx, hb, hml, hown, hts, hK, hr, hlk, hA, hN⟩ := id C
  unfold fX3_deadRelays at hf
  refine lv_iconst (v := (0 : Int32)) hx hb dX3_deadRelays_0 (by decide) ?_
  refine lv_istore_n (lv' := [(1, .int (0 : Int32)), (0, .ref (B 2))]) hx hb dX3_deadRelays_1 rfl hl (by decide) rfl (fun ls hl => ?_)
  refine lv_iconst (v := (0 : Int32)) hx hb dX3_deadRelays_2 (by decide) ?_
  refine lv_istore_n (lv' := [(2, .int (0 : Int32)), (1, .int (0 : Int32)), (0, .ref (B 2))]) hx hb dX3_deadRelays_3 rfl hl (by decide) rfl (fun ls hl => ?_)
  obtain ⟨n4, hf⟩ := hf
  exact vX3_deadRelays_h4 C hpost  n4 (0 : Int32) (0 : Int32) _ _ _ hf hG (lv_sub hl [2, 1, 0] rfl)
set_option maxRecDepth 100000 in
theorem kX3_deadRelays {l : Launch} {D : va_G} {B : Nat → Nat} {K : sK} {L : sL} {Y : sY} {M : sM} {O : sO} {SI : Nat → Int32} {SX : Nat → Nat → Int32} {Q : Int32 → Prop}  (hf : fX3_deadRelays SI SX Q) : gMi D B l yX3_deadRelays wsX3_deadRelays rX3_deadRelays 0 0 [.ref (B 2)] ((SI, SX), K, L, Y, M, O) (fun r g1 => g1 = ((SI, SX), K, L, Y, M, O) ∧ Q r ) := by
  refine gMi_of (cc := cX3_deadRelays) (maxL := 3) (ret := some .int) (by decide +kernel) rfl (Nat.le_of_ble_eq_true rfl) ?_
  intro p e s m below meth c A hA0 C hG ls hl
  exact vX3_deadRelays_b0 C (fun v  hq => ⟨rfl, hq⟩)  _ _ _ hf hG hl
def rX3_linksOfRelays : Room := { frames := 2, cells := 0, slots := 0, locals := 45 }
theorem hdvX3_linksOfRelays : yX3_linksOfRelays.cls = RX3 ∧ yX3_linksOfRelays.cls ≠ "java/lang/invoke/MethodHandle" ∧ yX3_linksOfRelays.cls ≠ "java/lang/invoke/VarHandle" ∧ (parseMethodDescriptor yX3_linksOfRelays.desc).map (fun d => d.parameters.length) = some 1 := by decide +kernel
theorem inX3_linksOfRelays_wsX30 : ∀ w ∈ wsX30, w ∈ wsX3_linksOfRelays := (fun _ h => List.mem_cons_of_mem _ (List.mem_append_right _ h))
set_option maxHeartbeats 4000000 in
set_option maxRecDepth 100000 in
theorem vX3_linksOfRelays_b41 {p : Program} {l : Launch} {e : Env} {s : State} {m : MethodId} {args : Array Value} {below : List Frame} {meth : Method} {c : Code} {D : va_G} {B : Nat → Nat} {A : Nat → Prop} {K : sK} {L : sL} {Y : sY} {M : sM} {O : sO} {post : Int32 → sG → Prop} {SI : Nat → Int32} {SX : Nat → Nat → Int32} {Q : Int32 → Prop} (C : gX p s m args meth c cX3_linksOfRelays 5 (some .int) wsX3_linksOfRelays RX3 D B A) (hpost : ∀ (v : Int32) , Q v  → post v ((SI, SX), K, L, Y, M, O)) {G4 : Int32 → Int32 → Int32 → Prop} (hG4 : ∀  (y1 : Int32) (y2 : Int32) (y3 : Int32) (H : Heap) (locs : List Loc) (ls : Array Slot), G4 y1 y2 y3 → GS D B A s.heap ((SI, SX), K, L, Y, M, O) H locs → lv_has ls 5 [(0, .ref (B 2)), (1, .int y1), (2, .int y2), (3, .int y3)] → W p l e (headSpec wsX3_linksOfRelays rX3_linksOfRelays).room s m args below meth c H locs 0 0 (MQ below (va_Qi post (gB D B A) A) args s 0 0 A) (F0 m 4 ls [])) {G17 : Int32 → Int32 → Int32 → Int32 → Prop} (hG17 : ∀  (y1 : Int32) (y2 : Int32) (y3 : Int32) (y4 : Int32) (H : Heap) (locs : List Loc) (ls : Array Slot), G17 y1 y2 y3 y4 → GS D B A s.heap ((SI, SX), K, L, Y, M, O) H locs → lv_has ls 5 [(0, .ref (B 2)), (1, .int y1), (2, .int y2), (3, .int y3), (4, .int y4)] → W p l e (headSpec wsX3_linksOfRelays rX3_linksOfRelays).room s m args below meth c H locs 0 0 (MQ below (va_Qi post (gB D B A) A) args s 0 0 A) (F0 m 17 ls []))  (y1 : Int32) (y2 : Int32) (y3 : Int32) (y4 : Int32) (H : Heap) (locs : List Loc) (ls : Array Slot) (hf : fX3_linksOfRelays_b41 SI SX G4 G17 Q y1 y2 y3 y4) (hG : GS D B A s.heap ((SI, SX), K, L, Y, M, O) H locs) (hl : lv_has ls 5 [(0, .ref (B 2)), (1, .int y1), (2, .int y2), (3, .int y3), (4, .int y4)]) : W p l e (headSpec wsX3_linksOfRelays rX3_linksOfRelays).room s m args below meth c H locs 0 0 (MQ below (va_Qi post (gB D B A) A) args s 0 0 A) (F0 m 41 ls []) := by
  obtain ⟨hx, hb, hml, hown, hts, hK, hr, hlk, hA, hN⟩ := id C
  unfold fX3_linksOfRelays_b41 at hf
  obtain ⟨x4_9, ex4_9⟩ : ∃ y : Int32, y = y4 + (1 : Int32) := ⟨_, rfl⟩
  replace hf := hf x4_9 ex4_9
  refine lv_iinc (v := x4_9) (lv' := [(4, .int x4_9), (0, .ref (B 2)), (1, .int y1), (2, .int y2), (3, .int y3)]) hx hb dX3_linksOfRelays_41 hl (k := 4) rfl (by rw [ex4_9]; rfl) (by decide) rfl (fun ls hl => ?_)
  refine lv_goto (tgt := 17) hx hb dX3_linksOfRelays_44 (by decide) ?_
  exact hG17 y1 y2 y3 x4_9 _ _ _ hf hG (lv_sub hl [1, 2, 3, 4, 0] rfl)
set_option maxHeartbeats 4000000 in
set_option maxRecDepth 100000 in
theorem vX3_linksOfRelays_h17 {p : Program} {l : Launch} {e : Env} {s : State} {m : MethodId} {args : Array Value} {below : List Frame} {meth : Method} {c : Code} {D : va_G} {B : Nat → Nat} {A : Nat → Prop} {K : sK} {L : sL} {Y : sY} {M : sM} {O : sO} {post : Int32 → sG → Prop} {SI : Nat → Int32} {SX : Nat → Nat → Int32} {Q : Int32 → Prop} (C : gX p s m args meth c cX3_linksOfRelays 5 (some .int) wsX3_linksOfRelays RX3 D B A) (hpost : ∀ (v : Int32) , Q v  → post v ((SI, SX), K, L, Y, M, O)) {G4 : Int32 → Int32 → Int32 → Prop} (hG4 : ∀  (y1 : Int32) (y2 : Int32) (y3 : Int32) (H : Heap) (locs : List Loc) (ls : Array Slot), G4 y1 y2 y3 → GS D B A s.heap ((SI, SX), K, L, Y, M, O) H locs → lv_has ls 5 [(0, .ref (B 2)), (1, .int y1), (2, .int y2), (3, .int y3)] → W p l e (headSpec wsX3_linksOfRelays rX3_linksOfRelays).room s m args below meth c H locs 0 0 (MQ below (va_Qi post (gB D B A) A) args s 0 0 A) (F0 m 4 ls [])) : ∀ (n17 : Nat)  (y1 : Int32) (y2 : Int32) (y3 : Int32) (y4 : Int32) (H : Heap) (locs : List Loc) (ls : Array Slot), fX3_linksOfRelays_h17 SI SX G4 Q n17 y1 y2 y3 y4 → GS D B A s.heap ((SI, SX), K, L, Y, M, O) H locs → lv_has ls 5 [(0, .ref (B 2)), (1, .int y1), (2, .int y2), (3, .int y3), (4, .int y4)] → W p l e (headSpec wsX3_linksOfRelays rX3_linksOfRelays).room s m args below meth c H locs 0 0 (MQ below (va_Qi post (gB D B A) A) args s 0 0 A) (F0 m 17 ls []) := by
  obtain ⟨hx, hb, hml, hown, hts, hK, hr, hlk, hA, hN⟩ := id C
  intro n17
  induction n17 with
  | zero =>
    intro y1 y2 y3 y4 H locs ls hf
    exact False.elim hf
  | succ n17 hG17 =>
    intro y1 y2 y3 y4 H locs ls hf hG hl
    unfold fX3_linksOfRelays_h17 at hf
    refine lv_iload hx hb dX3_linksOfRelays_17 (lv_at hl 4 rfl) ?_
    refine lv_aload_n hx hb dX3_linksOfRelays_19 rfl (lv_at hl 0 rfl) ?_
    refine lv_iload_n hx hb dX3_linksOfRelays_20 rfl (lv_at hl 3 rfl) ?_
    refine g_callVi0 (As := [.int y3]) C hG (kX3_nearTo hf) (cwV 1 hts gX3_linksOfRelays_X3_nearTo rfl rfl rfl hdvX3_nearTo ⟨Nat.le_of_ble_eq_true rfl, Nat.le_of_ble_eq_true rfl⟩) (va_recv hK hG.1 (ci := 3) (q0 := 27) rfl rfl) rfl hl.1 rfl (Nat.le_of_ble_eq_true rfl) dX3_linksOfRelays_21 ⟨Nat.zero_le _, Nat.zero_le _⟩ (fun r_3 g1 H locs hq hG => ?_)
    obtain ⟨rfl, hf⟩ := hq
    refine lv_icmp_ge (tgt := 47) hx hb dX3_linksOfRelays_24 (by decide) (fun c_4 => ?_) (fun c_4 => ?_)
    · replace hf := hf.1 c_4
      obtain ⟨x3_5, ex3_5⟩ : ∃ y : Int32, y = y3 + (1 : Int32) := ⟨_, rfl⟩
      replace hf := hf x3_5 ex3_5
      refine lv_iinc (v := x3_5) (lv' := [(3, .int x3_5), (0, .ref (B 2)), (1, .int y1), (2, .int y2), (4, .int y4)]) hx hb dX3_linksOfRelays_47 hl (k := 3) rfl (by rw [ex3_5]; rfl) (by decide) rfl (fun ls hl => ?_)
      refine lv_goto (tgt := 4) hx hb dX3_linksOfRelays_50 (by decide) ?_
      exact hG4 y1 y2 x3_5 _ _ _ hf hG (lv_sub hl [1, 2, 3, 0] rfl)
    · replace hf := hf.2 c_4
      refine lv_aload_n hx hb dX3_linksOfRelays_27 rfl (lv_at hl 0 rfl) ?_
      refine lv_iload_n hx hb dX3_linksOfRelays_28 rfl (lv_at hl 3 rfl) ?_
      refine lv_iload hx hb dX3_linksOfRelays_29 (lv_at hl 4 rfl) ?_
      refine lv_iload_n hx hb dX3_linksOfRelays_31 rfl (lv_at hl 1 rfl) ?_
      refine g_callVi0 (As := [.int y3, .int y4, .int y1]) C hG (kX3_isThere hf) (cwV 3 hts gX3_linksOfRelays_X3_isThere rfl rfl rfl hdvX3_isThere ⟨Nat.le_of_ble_eq_true rfl, Nat.le_of_ble_eq_true rfl⟩) (va_recv hK hG.1 (ci := 3) (q0 := 27) rfl rfl) rfl hl.1 rfl (Nat.le_of_ble_eq_true rfl) dX3_linksOfRelays_32 ⟨Nat.zero_le _, Nat.zero_le _⟩ (fun r_6 g1 H locs hq hG => ?_)
      obtain ⟨rfl, hf⟩ := hq
      refine lv_if_eq (tgt := 41) hx hb dX3_linksOfRelays_35 (by decide) (fun c_7 => ?_) (fun c_7 => ?_)
      · replace hf := hf.1 c_7
        exact vX3_linksOfRelays_b41 C hpost hG4 hG17 y1 y2 y3 y4 _ _ _ hf hG (lv_sub hl [0, 1, 2, 3, 4] rfl)
      · replace hf := hf.2 c_7
        obtain ⟨x2_8, ex2_8⟩ : ∃ y : Int32, y = y2 + (1 : Int32) := ⟨_, rfl⟩
        replace hf := hf x2_8 ex2_8
        refine lv_iinc (v := x2_8) (lv' := [(2, .int x2_8), (0, .ref (B 2)), (1, .int y1), (3, .int y3), (4, .int y4)]) hx hb dX3_linksOfRelays_38 hl (k := 2) rfl (by rw [ex2_8]; rfl) (by decide) rfl (fun ls hl => ?_)
        exact vX3_linksOfRelays_b41 C hpost hG4 hG17 y1 x2_8 y3 y4 _ _ _ hf hG (lv_sub hl [1, 2, 0, 3, 4] rfl)
set_option maxHeartbeats 4000000 in
set_option maxRecDepth 100000 in
theorem vX3_linksOfRelays_h4 {p : Program} {l : Launch} {e : Env} {s : State} {m : MethodId} {args : Array Value} {below : List Frame} {meth : Method} {c : Code} {D : va_G} {B : Nat → Nat} {A : Nat → Prop} {K : sK} {L : sL} {Y : sY} {M : sM} {O : sO} {post : Int32 → sG → Prop} {SI : Nat → Int32} {SX : Nat → Nat → Int32} {Q : Int32 → Prop} (C : gX p s m args meth c cX3_linksOfRelays 5 (some .int) wsX3_linksOfRelays RX3 D B A) (hpost : ∀ (v : Int32) , Q v  → post v ((SI, SX), K, L, Y, M, O))  : ∀ (n4 : Nat)  (y1 : Int32) (y2 : Int32) (y3 : Int32) (H : Heap) (locs : List Loc) (ls : Array Slot), fX3_linksOfRelays_h4 SI SX Q n4 y1 y2 y3 → GS D B A s.heap ((SI, SX), K, L, Y, M, O) H locs → lv_has ls 5 [(0, .ref (B 2)), (1, .int y1), (2, .int y2), (3, .int y3)] → W p l e (headSpec wsX3_linksOfRelays rX3_linksOfRelays).room s m args below meth c H locs 0 0 (MQ below (va_Qi post (gB D B A) A) args s 0 0 A) (F0 m 4 ls []) := by
  obtain ⟨hx, hb, hml, hown, hts, hK, hr, hlk, hA, hN⟩ := id C
  intro n4
  induction n4 with
  | zero =>
    intro y1 y2 y3 H locs ls hf
    exact False.elim hf
  | succ n4 hG4 =>
    intro y1 y2 y3 H locs ls hf hG hl
    unfold fX3_linksOfRelays_h4 at hf
    refine lv_iload_n hx hb dX3_linksOfRelays_4 rfl (lv_at hl 3 rfl) ?_
    refine lv_aload_n hx hb dX3_linksOfRelays_5 rfl (lv_at hl 0 rfl) ?_
    refine gg_S_1 C hG inX3_linksOfRelays_wsX30 (hts _ (List.mem_of_getElem? (i := 1) rfl)) dX3_linksOfRelays_6 ?_
    refine lv_icmp_ge (tgt := 53) hx hb dX3_linksOfRelays_9 (by decide) (fun c_1 => ?_) (fun c_1 => ?_)
    · replace hf := hf.1 c_1
      refine lv_iload_n hx hb dX3_linksOfRelays_53 rfl (lv_at hl 2 rfl) ?_
      exact g_iret C hG (hpost _ hf) dX3_linksOfRelays_54
    · replace hf := hf.2 c_1
      refine lv_iload_n hx hb dX3_linksOfRelays_12 rfl (lv_at hl 3 rfl) ?_
      refine lv_iconst (v := (1 : Int32)) hx hb dX3_linksOfRelays_13 (by decide) ?_
      refine lv_iadd hx hb dX3_linksOfRelays_14 ?_
      refine lv_topi (fun x4_2 ex4_2 => ?_)
      replace hf := hf x4_2 ex4_2
      refine lv_istore (lv' := [(4, .int x4_2), (0, .ref (B 2)), (1, .int y1), (2, .int y2), (3, .int y3)]) hx hb dX3_linksOfRelays_15 hl (by decide) rfl (fun ls hl => ?_)
      obtain ⟨n17, hf⟩ := hf
      exact vX3_linksOfRelays_h17 C hpost hG4 n17 y1 y2 y3 x4_2 _ _ _ hf hG (lv_sub hl [1, 2, 3, 4, 0] rfl)
set_option maxHeartbeats 4000000 in
set_option maxRecDepth 100000 in
theorem vX3_linksOfRelays_b0 {p : Program} {l : Launch} {e : Env} {s : State} {m : MethodId} {args : Array Value} {below : List Frame} {meth : Method} {c : Code} {D : va_G} {B : Nat → Nat} {A : Nat → Prop} {K : sK} {L : sL} {Y : sY} {M : sM} {O : sO} {post : Int32 → sG → Prop} {SI : Nat → Int32} {SX : Nat → Nat → Int32} {Q : Int32 → Prop} (C : gX p s m args meth c cX3_linksOfRelays 5 (some .int) wsX3_linksOfRelays RX3 D B A) (hpost : ∀ (v : Int32) , Q v  → post v ((SI, SX), K, L, Y, M, O))   (x1 : Int32) (H : Heap) (locs : List Loc) (ls : Array Slot) (hf : fX3_linksOfRelays SI SX Q x1) (hG : GS D B A s.heap ((SI, SX), K, L, Y, M, O) H locs) (hl : lv_has ls 5 [(0, .ref (B 2)), (1, .int x1)]) : W p l e (headSpec wsX3_linksOfRelays rX3_linksOfRelays).room s m args below meth c H locs 0 0 (MQ below (va_Qi post (gB D B A) A) args s 0 0 A) (F0 m 0 ls []) := by
  obtain ⟨hx, hb, hml, hown, hts, hK, hr, hlk, hA, hN⟩ := id C
  unfold fX3_linksOfRelays at hf
  refine lv_iconst (v := (0 : Int32)) hx hb dX3_linksOfRelays_0 (by decide) ?_
  refine lv_istore_n (lv' := [(2, .int (0 : Int32)), (0, .ref (B 2)), (1, .int x1)]) hx hb dX3_linksOfRelays_1 rfl hl (by decide) rfl (fun ls hl => ?_)
  refine lv_iconst (v := (0 : Int32)) hx hb dX3_linksOfRelays_2 (by decide) ?_
  refine lv_istore_n (lv' := [(3, .int (0 : Int32)), (2, .int (0 : Int32)), (0, .ref (B 2)), (1, .int x1)]) hx hb dX3_linksOfRelays_3 rfl hl (by decide) rfl (fun ls hl => ?_)
  obtain ⟨n4, hf⟩ := hf
  exact vX3_linksOfRelays_h4 C hpost  n4 x1 (0 : Int32) (0 : Int32) _ _ _ hf hG (lv_sub hl [2, 3, 1, 0] rfl)
set_option maxRecDepth 100000 in
theorem kX3_linksOfRelays {l : Launch} {D : va_G} {B : Nat → Nat} {K : sK} {L : sL} {Y : sY} {M : sM} {O : sO} {SI : Nat → Int32} {SX : Nat → Nat → Int32} {Q : Int32 → Prop} {x1 : Int32} (hf : fX3_linksOfRelays SI SX Q x1) : gMi D B l yX3_linksOfRelays wsX3_linksOfRelays rX3_linksOfRelays 0 0 [.ref (B 2), .int x1] ((SI, SX), K, L, Y, M, O) (fun r g1 => g1 = ((SI, SX), K, L, Y, M, O) ∧ Q r ) := by
  refine gMi_of (cc := cX3_linksOfRelays) (maxL := 5) (ret := some .int) (by decide +kernel) rfl (Nat.le_of_ble_eq_true rfl) ?_
  intro p e s m below meth c A hA0 C hG ls hl
  exact vX3_linksOfRelays_b0 C (fun v  hq => ⟨rfl, hq⟩) x1 _ _ _ hf hG hl
def rX3_areNext : Room := { frames := 1, cells := 0, slots := 0, locals := 21 }
theorem hdvX3_areNext : yX3_areNext.cls = RX3 ∧ yX3_areNext.cls ≠ "java/lang/invoke/MethodHandle" ∧ yX3_areNext.cls ≠ "java/lang/invoke/VarHandle" ∧ (parseMethodDescriptor yX3_areNext.desc).map (fun d => d.parameters.length) = some 2 := by decide +kernel
theorem inX3_areNext_wsX30 : ∀ w ∈ wsX30, w ∈ wsX3_areNext := (fun _ h => List.mem_cons_of_mem _ (List.mem_append_right _ h))
set_option maxHeartbeats 4000000 in
set_option maxRecDepth 100000 in
theorem vX3_areNext_b53 {p : Program} {l : Launch} {e : Env} {s : State} {m : MethodId} {args : Array Value} {below : List Frame} {meth : Method} {c : Code} {D : va_G} {B : Nat → Nat} {A : Nat → Prop} {K : sK} {L : sL} {Y : sY} {M : sM} {O : sO} {post : Int32 → sG → Prop} {SI : Nat → Int32} {SX : Nat → Nat → Int32} {Q : Int32 → Prop} (C : gX p s m args meth c cX3_areNext 6 (some .boolean) wsX3_areNext RX3 D B A) (hpost : ∀ (v : Int32) , Q v  → post v ((SI, SX), K, L, Y, M, O))    (H : Heap) (locs : List Loc) (ls : Array Slot) (hf : fX3_areNext_b53 SI SX Q) (hG : GS D B A s.heap ((SI, SX), K, L, Y, M, O) H locs) (hl : lv_has ls 6 []) : W p l e (headSpec wsX3_areNext rX3_areNext).room s m args below meth c H locs 0 0 (MQ below (va_Qi post (gB D B A) A) args s 0 0 A) (F0 m 53 ls []) := by
  obtain ⟨hx, hb, hml, hown, hts, hK, hr, hlk, hA, hN⟩ := id C
  unfold fX3_areNext_b53 at hf
  refine lv_iconst (v := (1 : Int32)) hx hb dX3_areNext_53 (by decide) ?_
  refine lv_goto (tgt := 58) hx hb dX3_areNext_54 (by decide) ?_
  exact g_zret C hG rfl (hpost _ hf) dX3_areNext_58
set_option maxHeartbeats 4000000 in
set_option maxRecDepth 100000 in
theorem vX3_areNext_b0 {p : Program} {l : Launch} {e : Env} {s : State} {m : MethodId} {args : Array Value} {below : List Frame} {meth : Method} {c : Code} {D : va_G} {B : Nat → Nat} {A : Nat → Prop} {K : sK} {L : sL} {Y : sY} {M : sM} {O : sO} {post : Int32 → sG → Prop} {SI : Nat → Int32} {SX : Nat → Nat → Int32} {Q : Int32 → Prop} (C : gX p s m args meth c cX3_areNext 6 (some .boolean) wsX3_areNext RX3 D B A) (hpost : ∀ (v : Int32) , Q v  → post v ((SI, SX), K, L, Y, M, O))   (x1 : Int32) (x2 : Int32) (H : Heap) (locs : List Loc) (ls : Array Slot) (hf : fX3_areNext SI SX Q x1 x2) (hG : GS D B A s.heap ((SI, SX), K, L, Y, M, O) H locs) (hl : lv_has ls 6 [(0, .ref (B 2)), (1, .int x1), (2, .int x2)]) : W p l e (headSpec wsX3_areNext rX3_areNext).room s m args below meth c H locs 0 0 (MQ below (va_Qi post (gB D B A) A) args s 0 0 A) (F0 m 0 ls []) := by
  obtain ⟨hx, hb, hml, hown, hts, hK, hr, hlk, hA, hN⟩ := id C
  unfold fX3_areNext at hf
  refine lv_iload_n hx hb dX3_areNext_0 rfl (lv_at hl 1 rfl) ?_
  refine lv_iload_n hx hb dX3_areNext_1 rfl (lv_at hl 2 rfl) ?_
  refine lv_isub hx hb dX3_areNext_2 ?_
  refine va_mabs hx hb (hml.trans hl.1.symm) hown (hts _ (List.mem_of_getElem? (i := 1) rfl)) (hts _ (List.mem_of_getElem? (i := 2) rfl)) (hts _ (List.mem_of_getElem? (i := 3) rfl)) (hts _ (List.mem_of_getElem? (i := 4) rfl)) (Nat.le_of_ble_eq_true rfl) (Nat.le_of_ble_eq_true rfl) (Nat.zero_le _) (Nat.zero_le _) dX3_areNext_3 ?_
  refine lv_topi (fun x3_1 ex3_1 => ?_)
  replace hf := hf x3_1 ex3_1
  refine lv_istore_n (lv' := [(3, .int x3_1), (0, .ref (B 2)), (1, .int x1), (2, .int x2)]) hx hb dX3_areNext_6 rfl hl (by decide) rfl (fun ls hl => ?_)
  refine lv_aload_n hx hb dX3_areNext_7 rfl (lv_at hl 1 rfl) ?_
  refine gg_S_6 C hG inX3_areNext_wsX30 (hts _ (List.mem_of_getElem? (i := 5) rfl)) dX3_areNext_8 ?_
  refine lv_iload_n hx hb dX3_areNext_11 rfl (lv_at hl 2 rfl) ?_
  obtain ⟨h_2, hf⟩ := hf
  refine ga_S_6 C hG h_2 dX3_areNext_12 ?_
  refine lv_topi (fun x4_3 ex4_3 => ?_)
  replace hf := hf x4_3 ex4_3
  refine lv_istore (lv' := [(4, .int x4_3), (3, .int x3_1), (0, .ref (B 2)), (1, .int x1), (2, .int x2)]) hx hb dX3_areNext_13 hl (by decide) rfl (fun ls hl => ?_)
  refine lv_aload_n hx hb dX3_areNext_15 rfl (lv_at hl 2 rfl) ?_
  refine gg_S_5 C hG inX3_areNext_wsX30 (hts _ (List.mem_of_getElem? (i := 6) rfl)) dX3_areNext_16 ?_
  refine lv_iload hx hb dX3_areNext_19 (lv_at hl 0 rfl) ?_
  refine lv_iconst (v := (1 : Int32)) hx hb dX3_areNext_21 (by decide) ?_
  refine lv_iadd hx hb dX3_areNext_22 ?_
  obtain ⟨h_4, hf⟩ := hf
  refine ga_S_5 C hG h_4 dX3_areNext_23 ?_
  refine lv_aload_n hx hb dX3_areNext_24 rfl (lv_at hl 2 rfl) ?_
  refine gg_S_5 C hG inX3_areNext_wsX30 (hts _ (List.mem_of_getElem? (i := 6) rfl)) dX3_areNext_25 ?_
  refine lv_iload hx hb dX3_areNext_28 (lv_at hl 0 rfl) ?_
  obtain ⟨h_5, hf⟩ := hf
  refine ga_S_5 C hG h_5 dX3_areNext_30 ?_
  refine lv_isub hx hb dX3_areNext_31 ?_
  refine lv_topi (fun x5_6 ex5_6 => ?_)
  replace hf := hf x5_6 ex5_6
  refine lv_istore (lv' := [(5, .int x5_6), (4, .int x4_3), (3, .int x3_1), (0, .ref (B 2)), (1, .int x1), (2, .int x2)]) hx hb dX3_areNext_32 hl (by decide) rfl (fun ls hl => ?_)
  refine lv_iload_n hx hb dX3_areNext_34 rfl (lv_at hl 2 rfl) ?_
  refine lv_iconst (v := (1 : Int32)) hx hb dX3_areNext_35 (by decide) ?_
  refine lv_icmp_eq (tgt := 53) hx hb dX3_areNext_36 (by decide) (fun c_7 => ?_) (fun c_7 => ?_)
  · replace hf := hf.1 c_7
    exact vX3_areNext_b53 C hpost   _ _ _ hf hG (lv_sub hl [] rfl)
  · replace hf := hf.2 c_7
    refine lv_iload hx hb dX3_areNext_39 (lv_at hl 0 rfl) ?_
    refine lv_iconst (v := (3 : Int32)) hx hb dX3_areNext_41 (by decide) ?_
    refine lv_icmp_lt (tgt := 57) hx hb dX3_areNext_42 (by decide) (fun c_8 => ?_) (fun c_8 => ?_)
    · replace hf := hf.1 c_8
      refine lv_iconst (v := (0 : Int32)) hx hb dX3_areNext_57 (by decide) ?_
      exact g_zret C hG rfl (hpost _ hf) dX3_areNext_58
    · replace hf := hf.2 c_8
      refine lv_iload_n hx hb dX3_areNext_45 rfl (lv_at hl 2 rfl) ?_
      refine lv_iload hx hb dX3_areNext_46 (lv_at hl 0 rfl) ?_
      refine lv_iconst (v := (1 : Int32)) hx hb dX3_areNext_48 (by decide) ?_
      refine lv_isub hx hb dX3_areNext_49 ?_
      refine lv_icmp_ne (tgt := 57) hx hb dX3_areNext_50 (by decide) (fun c_9 => ?_) (fun c_9 => ?_)
      · replace hf := hf.1 c_9
        refine lv_iconst (v := (0 : Int32)) hx hb dX3_areNext_57 (by decide) ?_
        exact g_zret C hG rfl (hpost _ hf) dX3_areNext_58
      · replace hf := hf.2 c_9
        exact vX3_areNext_b53 C hpost   _ _ _ hf hG (lv_sub hl [] rfl)
set_option maxRecDepth 100000 in
theorem kX3_areNext {l : Launch} {D : va_G} {B : Nat → Nat} {K : sK} {L : sL} {Y : sY} {M : sM} {O : sO} {SI : Nat → Int32} {SX : Nat → Nat → Int32} {Q : Int32 → Prop} {x1 : Int32} {x2 : Int32} (hf : fX3_areNext SI SX Q x1 x2) : gMi D B l yX3_areNext wsX3_areNext rX3_areNext 0 0 [.ref (B 2), .int x1, .int x2] ((SI, SX), K, L, Y, M, O) (fun r g1 => g1 = ((SI, SX), K, L, Y, M, O) ∧ Q r ) := by
  refine gMi_of (cc := cX3_areNext) (maxL := 6) (ret := some .boolean) (by decide +kernel) rfl (Nat.le_of_ble_eq_true rfl) ?_
  intro p e s m below meth c A hA0 C hG ls hl
  exact vX3_areNext_b0 C (fun v  hq => ⟨rfl, hq⟩) x1 x2 _ _ _ hf hG hl
def rX3_reckonTicks : Room := { frames := 2, cells := 0, slots := 0, locals := 46 }
theorem hdvX3_reckonTicks : yX3_reckonTicks.cls = RX3 ∧ yX3_reckonTicks.cls ≠ "java/lang/invoke/MethodHandle" ∧ yX3_reckonTicks.cls ≠ "java/lang/invoke/VarHandle" ∧ (parseMethodDescriptor yX3_reckonTicks.desc).map (fun d => d.parameters.length) = some 2 := by decide +kernel
theorem inX3_reckonTicks_wsX30 : ∀ w ∈ wsX30, w ∈ wsX3_reckonTicks := (fun _ h => List.mem_cons_of_mem _ (List.mem_append_right _ h))
set_option maxHeartbeats 4000000 in
set_option maxRecDepth 100000 in
theorem vX3_reckonTicks_b100 {p : Program} {l : Launch} {e : Env} {s : State} {m : MethodId} {args : Array Value} {below : List Frame} {meth : Method} {c : Code} {D : va_G} {B : Nat → Nat} {A : Nat → Prop} {K : sK} {L : sL} {Y : sY} {M : sM} {O : sO} {post : Int32 → sG → Prop} {SI : Nat → Int32} {SX : Nat → Nat → Int32} {Q : Int32 → Prop} (C : gX p s m args meth c cX3_reckonTicks 6 (some .int) wsX3_reckonTicks RX3 D B A) (hpost : ∀ (v : Int32) , Q v  → post v ((SI, SX), K, L, Y, M, O)) {G58 : Int32 → Int32 → Int32 → Int32 → Prop} (hG58 : ∀  (y1 : Int32) (y2 : Int32) (y4 : Int32) (y5 : Int32) (H : Heap) (locs : List Loc) (ls : Array Slot), G58 y1 y2 y4 y5 → GS D B A s.heap ((SI, SX), K, L, Y, M, O) H locs → lv_has ls 6 [(0, .ref (B 2)), (1, .int y1), (2, .int y2), (4, .int y4), (5, .int y5)] → W p l e (headSpec wsX3_reckonTicks rX3_reckonTicks).room s m args below meth c H locs 0 0 (MQ below (va_Qi post (gB D B A) A) args s 0 0 A) (F0 m 58 ls []))  (y1 : Int32) (y2 : Int32) (y4 : Int32) (y5 : Int32) (H : Heap) (locs : List Loc) (ls : Array Slot) (hf : fX3_reckonTicks_b100 SI SX G58 Q y1 y2 y4 y5) (hG : GS D B A s.heap ((SI, SX), K, L, Y, M, O) H locs) (hl : lv_has ls 6 [(0, .ref (B 2)), (1, .int y1), (2, .int y2), (4, .int y4), (5, .int y5)]) : W p l e (headSpec wsX3_reckonTicks rX3_reckonTicks).room s m args below meth c H locs 0 0 (MQ below (va_Qi post (gB D B A) A) args s 0 0 A) (F0 m 100 ls []) := by
  obtain ⟨hx, hb, hml, hown, hts, hK, hr, hlk, hA, hN⟩ := id C
  unfold fX3_reckonTicks_b100 at hf
  obtain ⟨x5_18, ex5_18⟩ : ∃ y : Int32, y = y5 + (1 : Int32) := ⟨_, rfl⟩
  replace hf := hf x5_18 ex5_18
  refine lv_iinc (v := x5_18) (lv' := [(5, .int x5_18), (0, .ref (B 2)), (1, .int y1), (2, .int y2), (4, .int y4)]) hx hb dX3_reckonTicks_100 hl (k := 4) rfl (by rw [ex5_18]; rfl) (by decide) rfl (fun ls hl => ?_)
  refine lv_goto (tgt := 58) hx hb dX3_reckonTicks_103 (by decide) ?_
  exact hG58 y1 y2 y4 x5_18 _ _ _ hf hG (lv_sub hl [1, 2, 3, 4, 0] rfl)
set_option maxHeartbeats 4000000 in
set_option maxRecDepth 100000 in
theorem vX3_reckonTicks_h58 {p : Program} {l : Launch} {e : Env} {s : State} {m : MethodId} {args : Array Value} {below : List Frame} {meth : Method} {c : Code} {D : va_G} {B : Nat → Nat} {A : Nat → Prop} {K : sK} {L : sL} {Y : sY} {M : sM} {O : sO} {post : Int32 → sG → Prop} {SI : Nat → Int32} {SX : Nat → Nat → Int32} {Q : Int32 → Prop} (C : gX p s m args meth c cX3_reckonTicks 6 (some .int) wsX3_reckonTicks RX3 D B A) (hpost : ∀ (v : Int32) , Q v  → post v ((SI, SX), K, L, Y, M, O))  : ∀ (n58 : Nat)  (y1 : Int32) (y2 : Int32) (y4 : Int32) (y5 : Int32) (H : Heap) (locs : List Loc) (ls : Array Slot), fX3_reckonTicks_h58 SI SX Q n58 y1 y2 y4 y5 → GS D B A s.heap ((SI, SX), K, L, Y, M, O) H locs → lv_has ls 6 [(0, .ref (B 2)), (1, .int y1), (2, .int y2), (4, .int y4), (5, .int y5)] → W p l e (headSpec wsX3_reckonTicks rX3_reckonTicks).room s m args below meth c H locs 0 0 (MQ below (va_Qi post (gB D B A) A) args s 0 0 A) (F0 m 58 ls []) := by
  obtain ⟨hx, hb, hml, hown, hts, hK, hr, hlk, hA, hN⟩ := id C
  intro n58
  induction n58 with
  | zero =>
    intro y1 y2 y4 y5 H locs ls hf
    exact False.elim hf
  | succ n58 hG58 =>
    intro y1 y2 y4 y5 H locs ls hf hG hl
    unfold fX3_reckonTicks_h58 at hf
    refine lv_iload hx hb dX3_reckonTicks_58 (lv_at hl 4 rfl) ?_
    refine lv_bipush (v := (32 : Int32)) hx hb dX3_reckonTicks_60 (by decide) ?_
    refine lv_icmp_ge (tgt := 106) hx hb dX3_reckonTicks_62 (by decide) (fun c_11 => ?_) (fun c_11 => ?_)
    · replace hf := hf.1 c_11
      refine lv_iload hx hb dX3_reckonTicks_106 (lv_at hl 3 rfl) ?_
      exact g_iret C hG (hpost _ hf) dX3_reckonTicks_108
    · replace hf := hf.2 c_11
      refine lv_aload_n hx hb dX3_reckonTicks_65 rfl (lv_at hl 0 rfl) ?_
      refine lv_iload_n hx hb dX3_reckonTicks_66 rfl (lv_at hl 1 rfl) ?_
      refine lv_iload hx hb dX3_reckonTicks_67 (lv_at hl 4 rfl) ?_
      refine g_callVi0 (As := [.int y1, .int y5]) C hG (kX3_placeOf hf) (cwV 2 hts gX3_reckonTicks_X3_placeOf rfl rfl rfl hdvX3_placeOf ⟨Nat.le_of_ble_eq_true rfl, Nat.le_of_ble_eq_true rfl⟩) (va_recv hK hG.1 (ci := 3) (q0 := 27) rfl rfl) rfl hl.1 rfl (Nat.le_of_ble_eq_true rfl) dX3_reckonTicks_69 ⟨Nat.zero_le _, Nat.zero_le _⟩ (fun r_12 g1 H locs hq hG => ?_)
      obtain ⟨rfl, hf⟩ := hq
      refine lv_aload_n hx hb dX3_reckonTicks_72 rfl (lv_at hl 0 rfl) ?_
      refine lv_iload_n hx hb dX3_reckonTicks_73 rfl (lv_at hl 2 rfl) ?_
      refine lv_iload hx hb dX3_reckonTicks_74 (lv_at hl 4 rfl) ?_
      refine g_callVi0 (As := [.int y2, .int y5]) C hG (kX3_placeOf hf) (cwV 2 hts gX3_reckonTicks_X3_placeOf rfl rfl rfl hdvX3_placeOf ⟨Nat.le_of_ble_eq_true rfl, Nat.le_of_ble_eq_true rfl⟩) (va_recv hK hG.1 (ci := 3) (q0 := 27) rfl rfl) rfl hl.1 rfl (Nat.le_of_ble_eq_true rfl) dX3_reckonTicks_76 ⟨Nat.zero_le _, Nat.zero_le _⟩ (fun r_13 g1 H locs hq hG => ?_)
      obtain ⟨rfl, hf⟩ := hq
      refine g_callSi0 (As := [.int r_12, .int r_13]) C hG (kX3_apart hf) (va_cwS 2 hts gX3_reckonTicks_X3_apart rfl rfl rfl hdsX3_apart ⟨Nat.le_of_ble_eq_true rfl, Nat.le_of_ble_eq_true rfl⟩) rfl hl.1 rfl (Nat.le_of_ble_eq_true rfl) dX3_reckonTicks_79 ⟨Nat.zero_le _, Nat.zero_le _⟩ (fun r_14 g1 H locs hq hG => ?_)
      obtain ⟨rfl, hf⟩ := hq
      refine lv_aload_n hx hb dX3_reckonTicks_82 rfl (lv_at hl 0 rfl) ?_
      refine gg_S_9 C hG inX3_reckonTicks_wsX30 (hts _ (List.mem_of_getElem? (i := 2) rfl)) dX3_reckonTicks_83 ?_
      refine lv_iload_n hx hb dX3_reckonTicks_86 rfl (lv_at hl 1 rfl) ?_
      obtain ⟨h_15, hf⟩ := hf
      refine ga_S_9 C hG h_15 dX3_reckonTicks_87 ?_
      refine lv_icmp_gt (tgt := 100) hx hb dX3_reckonTicks_88 (by decide) (fun c_16 => ?_) (fun c_16 => ?_)
      · replace hf := hf.1 c_16
        exact vX3_reckonTicks_b100 C hpost hG58 y1 y2 y4 y5 _ _ _ hf hG (lv_sub hl [0, 1, 2, 3, 4] rfl)
      · replace hf := hf.2 c_16
        refine lv_iload hx hb dX3_reckonTicks_91 (lv_at hl 3 rfl) ?_
        refine lv_iconst (v := (1 : Int32)) hx hb dX3_reckonTicks_93 (by decide) ?_
        refine lv_iload hx hb dX3_reckonTicks_94 (lv_at hl 4 rfl) ?_
        refine lv_ishl hx hb dX3_reckonTicks_96 ?_
        refine lv_ior hx hb dX3_reckonTicks_97 ?_
        refine lv_topi (fun x4_17 ex4_17 => ?_)
        replace hf := hf x4_17 ex4_17
        refine lv_istore (lv' := [(4, .int x4_17), (0, .ref (B 2)), (1, .int y1), (2, .int y2), (5, .int y5)]) hx hb dX3_reckonTicks_98 hl (by decide) rfl (fun ls hl => ?_)
        exact vX3_reckonTicks_b100 C hpost hG58 y1 y2 x4_17 y5 _ _ _ hf hG (lv_sub hl [1, 2, 3, 0, 4] rfl)
set_option maxHeartbeats 4000000 in
set_option maxRecDepth 100000 in
theorem vX3_reckonTicks_b52 {p : Program} {l : Launch} {e : Env} {s : State} {m : MethodId} {args : Array Value} {below : List Frame} {meth : Method} {c : Code} {D : va_G} {B : Nat → Nat} {A : Nat → Prop} {K : sK} {L : sL} {Y : sY} {M : sM} {O : sO} {post : Int32 → sG → Prop} {SI : Nat → Int32} {SX : Nat → Nat → Int32} {Q : Int32 → Prop} (C : gX p s m args meth c cX3_reckonTicks 6 (some .int) wsX3_reckonTicks RX3 D B A) (hpost : ∀ (v : Int32) , Q v  → post v ((SI, SX), K, L, Y, M, O))   (y1 : Int32) (y2 : Int32) (H : Heap) (locs : List Loc) (ls : Array Slot) (hf : fX3_reckonTicks_b52 SI SX Q y1 y2) (hG : GS D B A s.heap ((SI, SX), K, L, Y, M, O) H locs) (hl : lv_has ls 6 [(0, .ref (B 2)), (1, .int y1), (2, .int y2)]) : W p l e (headSpec wsX3_reckonTicks rX3_reckonTicks).room s m args below meth c H locs 0 0 (MQ below (va_Qi post (gB D B A) A) args s 0 0 A) (F0 m 52 ls []) := by
  obtain ⟨hx, hb, hml, hown, hts, hK, hr, hlk, hA, hN⟩ := id C
  unfold fX3_reckonTicks_b52 at hf
  refine lv_iconst (v := (0 : Int32)) hx hb dX3_reckonTicks_52 (by decide) ?_
  refine lv_istore (lv' := [(4, .int (0 : Int32)), (0, .ref (B 2)), (1, .int y1), (2, .int y2)]) hx hb dX3_reckonTicks_53 hl (by decide) rfl (fun ls hl => ?_)
  refine lv_iconst (v := (0 : Int32)) hx hb dX3_reckonTicks_55 (by decide) ?_
  refine lv_istore (lv' := [(5, .int (0 : Int32)), (4, .int (0 : Int32)), (0, .ref (B 2)), (1, .int y1), (2, .int y2)]) hx hb dX3_reckonTicks_56 hl (by decide) rfl (fun ls hl => ?_)
  obtain ⟨n58, hf⟩ := hf
  exact vX3_reckonTicks_h58 C hpost  n58 y1 y2 (0 : Int32) (0 : Int32) _ _ _ hf hG (lv_sub hl [2, 3, 4, 1, 0] rfl)
set_option maxHeartbeats 4000000 in
set_option maxRecDepth 100000 in
theorem vX3_reckonTicks_b0 {p : Program} {l : Launch} {e : Env} {s : State} {m : MethodId} {args : Array Value} {below : List Frame} {meth : Method} {c : Code} {D : va_G} {B : Nat → Nat} {A : Nat → Prop} {K : sK} {L : sL} {Y : sY} {M : sM} {O : sO} {post : Int32 → sG → Prop} {SI : Nat → Int32} {SX : Nat → Nat → Int32} {Q : Int32 → Prop} (C : gX p s m args meth c cX3_reckonTicks 6 (some .int) wsX3_reckonTicks RX3 D B A) (hpost : ∀ (v : Int32) , Q v  → post v ((SI, SX), K, L, Y, M, O))   (x1 : Int32) (x2 : Int32) (H : Heap) (locs : List Loc) (ls : Array Slot) (hf : fX3_reckonTicks SI SX Q x1 x2) (hG : GS D B A s.heap ((SI, SX), K, L, Y, M, O) H locs) (hl : lv_has ls 6 [(0, .ref (B 2)), (1, .int x1), (2, .int x2)]) : W p l e (headSpec wsX3_reckonTicks rX3_reckonTicks).room s m args below meth c H locs 0 0 (MQ below (va_Qi post (gB D B A) A) args s 0 0 A) (F0 m 0 ls []) := by
  obtain ⟨hx, hb, hml, hown, hts, hK, hr, hlk, hA, hN⟩ := id C
  unfold fX3_reckonTicks at hf
  refine lv_aload_n hx hb dX3_reckonTicks_0 rfl (lv_at hl 0 rfl) ?_
  refine gg_S_6 C hG inX3_reckonTicks_wsX30 (hts _ (List.mem_of_getElem? (i := 1) rfl)) dX3_reckonTicks_1 ?_
  refine lv_iload_n hx hb dX3_reckonTicks_4 rfl (lv_at hl 1 rfl) ?_
  obtain ⟨h_1, hf⟩ := hf
  refine ga_S_6 C hG h_1 dX3_reckonTicks_5 ?_
  refine lv_aload_n hx hb dX3_reckonTicks_6 rfl (lv_at hl 0 rfl) ?_
  refine gg_S_6 C hG inX3_reckonTicks_wsX30 (hts _ (List.mem_of_getElem? (i := 1) rfl)) dX3_reckonTicks_7 ?_
  refine lv_iload_n hx hb dX3_reckonTicks_10 rfl (lv_at hl 2 rfl) ?_
  obtain ⟨h_2, hf⟩ := hf
  refine ga_S_6 C hG h_2 dX3_reckonTicks_11 ?_
  refine lv_isub hx hb dX3_reckonTicks_12 ?_
  refine lv_topi (fun x3_3 ex3_3 => ?_)
  replace hf := hf x3_3 ex3_3
  refine lv_istore_n (lv' := [(3, .int x3_3), (0, .ref (B 2)), (1, .int x1), (2, .int x2)]) hx hb dX3_reckonTicks_13 rfl hl (by decide) rfl (fun ls hl => ?_)
  refine lv_iload_n hx hb dX3_reckonTicks_14 rfl (lv_at hl 0 rfl) ?_
  refine lv_iconst (v := (-1 : Int32)) hx hb dX3_reckonTicks_15 (by decide) ?_
  refine lv_icmp_lt (tgt := 24) hx hb dX3_reckonTicks_16 (by decide) (fun c_4 => ?_) (fun c_4 => ?_)
  · replace hf := hf.1 c_4
    refine lv_iconst (v := (0 : Int32)) hx hb dX3_reckonTicks_24 (by decide) ?_
    exact g_iret C hG (hpost _ hf) dX3_reckonTicks_25
  · replace hf := hf.2 c_4
    refine lv_iload_n hx hb dX3_reckonTicks_19 rfl (lv_at hl 0 rfl) ?_
    refine lv_iconst (v := (1 : Int32)) hx hb dX3_reckonTicks_20 (by decide) ?_
    refine lv_icmp_le (tgt := 26) hx hb dX3_reckonTicks_21 (by decide) (fun c_5 => ?_) (fun c_5 => ?_)
    · replace hf := hf.1 c_5
      refine lv_iload_n hx hb dX3_reckonTicks_26 rfl (lv_at hl 0 rfl) ?_
      refine lv_if_ne (tgt := 52) hx hb dX3_reckonTicks_27 (by decide) (fun c_6 => ?_) (fun c_6 => ?_)
      · replace hf := hf.1 c_6
        exact vX3_reckonTicks_b52 C hpost  x1 x2 _ _ _ hf hG (lv_sub hl [1, 2, 3] rfl)
      · replace hf := hf.2 c_6
        refine lv_iload_n hx hb dX3_reckonTicks_30 rfl (lv_at hl 2 rfl) ?_
        refine g_callNi0 (As := [.int x1]) C hG (kX5_isRelay hf) ⟨va_cnB 1 hts gX3_reckonTicks_X5_isRelay_n79 rfl rfl rfl (hN _ (List.mem_of_getElem? (i := 8) rfl)) (hts _ (List.mem_of_getElem? (i := 4) rfl)) hdsX5_isRelay ⟨Nat.le_of_ble_eq_true rfl, Nat.le_of_ble_eq_true rfl⟩, hts _ (List.mem_of_getElem? (i := 3) rfl), trivial⟩ rfl hl.1 rfl (Nat.le_of_ble_eq_true rfl) dX3_reckonTicks_31 ⟨Nat.zero_le _, Nat.zero_le _⟩ (fun r_7 g1 H locs hq hG => ?_)
        obtain ⟨rfl, hf⟩ := hq
        refine lv_if_eq (tgt := 52) hx hb dX3_reckonTicks_34 (by decide) (fun c_8 => ?_) (fun c_8 => ?_)
        · replace hf := hf.1 c_8
          exact vX3_reckonTicks_b52 C hpost  x1 x2 _ _ _ hf hG (lv_sub hl [1, 2, 3] rfl)
        · replace hf := hf.2 c_8
          refine lv_aload_n hx hb dX3_reckonTicks_37 rfl (lv_at hl 1 rfl) ?_
          refine lv_iload_n hx hb dX3_reckonTicks_38 rfl (lv_at hl 2 rfl) ?_
          refine lv_iload_n hx hb dX3_reckonTicks_39 rfl (lv_at hl 3 rfl) ?_
          refine g_callVi0 (As := [.int x1, .int x2]) C hG (kX3_areNext hf) (cwV 2 hts gX3_reckonTicks_X3_areNext rfl rfl rfl hdvX3_areNext ⟨Nat.le_of_ble_eq_true rfl, Nat.le_of_ble_eq_true rfl⟩) (va_recv hK hG.1 (ci := 3) (q0 := 27) rfl rfl) rfl hl.1 rfl (Nat.le_of_ble_eq_true rfl) dX3_reckonTicks_40 ⟨Nat.zero_le _, Nat.zero_le _⟩ (fun r_9 g1 H locs hq hG => ?_)
          obtain ⟨rfl, hf⟩ := hq
          refine lv_if_eq (tgt := 50) hx hb dX3_reckonTicks_43 (by decide) (fun c_10 => ?_) (fun c_10 => ?_)
          · replace hf := hf.1 c_10
            refine lv_iconst (v := (0 : Int32)) hx hb dX3_reckonTicks_50 (by decide) ?_
            exact g_iret C hG (hpost _ hf) dX3_reckonTicks_51
          · replace hf := hf.2 c_10
            refine lv_iconst (v := (-1 : Int32)) hx hb dX3_reckonTicks_46 (by decide) ?_
            refine lv_goto (tgt := 51) hx hb dX3_reckonTicks_47 (by decide) ?_
            exact g_iret C hG (hpost _ hf) dX3_reckonTicks_51
    · replace hf := hf.2 c_5
      refine lv_iconst (v := (0 : Int32)) hx hb dX3_reckonTicks_24 (by decide) ?_
      exact g_iret C hG (hpost _ hf) dX3_reckonTicks_25
set_option maxRecDepth 100000 in
theorem kX3_reckonTicks {l : Launch} {D : va_G} {B : Nat → Nat} {K : sK} {L : sL} {Y : sY} {M : sM} {O : sO} {SI : Nat → Int32} {SX : Nat → Nat → Int32} {Q : Int32 → Prop} {x1 : Int32} {x2 : Int32} (hf : fX3_reckonTicks SI SX Q x1 x2) : gMi D B l yX3_reckonTicks wsX3_reckonTicks rX3_reckonTicks 0 0 [.ref (B 2), .int x1, .int x2] ((SI, SX), K, L, Y, M, O) (fun r g1 => g1 = ((SI, SX), K, L, Y, M, O) ∧ Q r ) := by
  refine gMi_of (cc := cX3_reckonTicks) (maxL := 6) (ret := some .int) (by decide +kernel) rfl (Nat.le_of_ble_eq_true rfl) ?_
  intro p e s m below meth c A hA0 C hG ls hl
  exact vX3_reckonTicks_b0 C (fun v  hq => ⟨rfl, hq⟩) x1 x2 _ _ _ hf hG hl
def rX3_tie : Room := { frames := 3, cells := 0, slots := 0, locals := 71 }
theorem hdvX3_tie : yX3_tie.cls = RX3 ∧ yX3_tie.cls ≠ "java/lang/invoke/MethodHandle" ∧ yX3_tie.cls ≠ "java/lang/invoke/VarHandle" ∧ (parseMethodDescriptor yX3_tie.desc).map (fun d => d.parameters.length) = some 2 := by decide +kernel
theorem inX3_tie_wsX30 : ∀ w ∈ wsX30, w ∈ wsX3_tie := (fun _ h => List.mem_cons_of_mem _ (List.mem_append_right _ h))
set_option maxHeartbeats 4000000 in
set_option maxRecDepth 100000 in
theorem vX3_tie_b0 {p : Program} {l : Launch} {e : Env} {s : State} {m : MethodId} {args : Array Value} {below : List Frame} {meth : Method} {c : Code} {D : va_G} {B : Nat → Nat} {A : Nat → Prop} {K : sK} {L : sL} {Y : sY} {M : sM} {O : sO} {post : sG → Prop} {Q : (Nat → Int32) → (Nat → Nat → Int32) → Prop} (C : gX p s m args meth c cX3_tie 5 (none) wsX3_tie RX3 D B A) (hpost : ∀ (SI : Nat → Int32) (SX : Nat → Nat → Int32), Q SI SX → post ((SI, SX), K, L, Y, M, O))  (SI : Nat → Int32) (SX : Nat → Nat → Int32) (x1 : Int32) (x2 : Int32) (H : Heap) (locs : List Loc) (ls : Array Slot) (hf : fX3_tie Q SI SX x1 x2) (hG : GS D B A s.heap ((SI, SX), K, L, Y, M, O) H locs) (hl : lv_has ls 5 [(0, .ref (B 2)), (1, .int x1), (2, .int x2)]) : W p l e (headSpec wsX3_tie rX3_tie).room s m args below meth c H locs 0 0 (MQ below (va_Qv post (gB D B A) A) args s 0 0 A) (F0 m 0 ls []) := by
  obtain ⟨hx, hb, hml, hown, hts, hK, hr, hlk, hA, hN⟩ := id C
  unfold fX3_tie at hf
  refine lv_aload_n hx hb dX3_tie_0 rfl (lv_at hl 0 rfl) ?_
  refine lv_iload_n hx hb dX3_tie_1 rfl (lv_at hl 1 rfl) ?_
  refine lv_iload_n hx hb dX3_tie_2 rfl (lv_at hl 2 rfl) ?_
  refine g_callVi0 (As := [.int x1, .int x2]) C hG (kX3_reckonTicks hf) (cwV 2 hts gX3_tie_X3_reckonTicks rfl rfl rfl hdvX3_reckonTicks ⟨Nat.le_of_ble_eq_true rfl, Nat.le_of_ble_eq_true rfl⟩) (va_recv hK hG.1 (ci := 3) (q0 := 27) rfl rfl) rfl hl.1 rfl (Nat.le_of_ble_eq_true rfl) dX3_tie_3 ⟨Nat.zero_le _, Nat.zero_le _⟩ (fun r_1 g1 H locs hq hG => ?_)
  obtain ⟨rfl, hf⟩ := hq
  refine lv_istore_n (lv' := [(3, .int r_1), (0, .ref (B 2)), (1, .int x1), (2, .int x2)]) hx hb dX3_tie_6 rfl hl (by decide) rfl (fun ls hl => ?_)
  refine lv_iload_n hx hb dX3_tie_7 rfl (lv_at hl 2 rfl) ?_
  refine lv_bipush (v := (48 : Int32)) hx hb dX3_tie_8 (by decide) ?_
  refine lv_imul hx hb dX3_tie_10 ?_
  refine lv_iload_n hx hb dX3_tie_11 rfl (lv_at hl 3 rfl) ?_
  refine lv_iadd hx hb dX3_tie_12 ?_
  refine lv_topi (fun x4_2 ex4_2 => ?_)
  replace hf := hf x4_2 ex4_2
  refine lv_istore (lv' := [(4, .int x4_2), (3, .int r_1), (0, .ref (B 2)), (1, .int x1), (2, .int x2)]) hx hb dX3_tie_13 hl (by decide) rfl (fun ls hl => ?_)
  refine lv_aload_n hx hb dX3_tie_15 rfl (lv_at hl 2 rfl) ?_
  refine gg_S_10 C hG inX3_tie_wsX30 (hts _ (List.mem_of_getElem? (i := 1) rfl)) dX3_tie_16 ?_
  refine lv_iload hx hb dX3_tie_19 (lv_at hl 0 rfl) ?_
  refine lv_iload_n hx hb dX3_tie_21 rfl (lv_at hl 1 rfl) ?_
  obtain ⟨h_3, hf⟩ := hf
  refine gs_S_10 C hG h_3 dX3_tie_22 (fun SX_4 H locs eSX_4 hG => ?_)
  replace hf := hf SX_4 eSX_4
  refine lv_aload_n hx hb dX3_tie_23 rfl (lv_at hl 2 rfl) ?_
  refine gg_S_11 C hG inX3_tie_wsX30 (hts _ (List.mem_of_getElem? (i := 2) rfl)) dX3_tie_24 ?_
  refine lv_iload hx hb dX3_tie_27 (lv_at hl 0 rfl) ?_
  refine lv_iload_n hx hb dX3_tie_29 rfl (lv_at hl 1 rfl) ?_
  refine lv_iload_n hx hb dX3_tie_30 rfl (lv_at hl 1 rfl) ?_
  refine lv_iconst (v := (1 : Int32)) hx hb dX3_tie_31 (by decide) ?_
  refine g_callNi0 (As := [.int r_1, .int (1 : Int32)]) C hG (kX5_ahead hf) ⟨va_cnB 2 hts gX3_tie_X5_ahead_n73 rfl rfl rfl (hN _ (List.mem_of_getElem? (i := 7) rfl)) (hts _ (List.mem_of_getElem? (i := 11) rfl)) hdsX5_ahead ⟨Nat.le_of_ble_eq_true rfl, Nat.le_of_ble_eq_true rfl⟩, hts _ (List.mem_of_getElem? (i := 38) rfl), trivial⟩ rfl hl.1 rfl (Nat.le_of_ble_eq_true rfl) dX3_tie_32 ⟨Nat.zero_le _, Nat.zero_le _⟩ (fun r_5 g1 H locs hq hG => ?_)
  obtain ⟨rfl, hf⟩ := hq
  refine lv_iand hx hb dX3_tie_35 ?_
  obtain ⟨h_6, hf⟩ := hf
  refine gs_S_11 C hG h_6 dX3_tie_36 (fun SX_7 H locs eSX_7 hG => ?_)
  replace hf := hf SX_7 eSX_7
  refine lv_aload_n hx hb dX3_tie_37 rfl (lv_at hl 2 rfl) ?_
  refine lv_iload_n hx hb dX3_tie_38 rfl (lv_at hl 3 rfl) ?_
  refine lv_iload_n hx hb dX3_tie_39 rfl (lv_at hl 4 rfl) ?_
  refine g_callVi0 (As := [.int x1, .int x2]) C hG (kX3_lengthOf hf) (cwV 2 hts gX3_tie_X3_lengthOf rfl rfl rfl hdvX3_lengthOf ⟨Nat.le_of_ble_eq_true rfl, Nat.le_of_ble_eq_true rfl⟩) (va_recv hK hG.1 (ci := 3) (q0 := 27) rfl rfl) rfl hl.1 rfl (Nat.le_of_ble_eq_true rfl) dX3_tie_40 ⟨Nat.zero_le _, Nat.zero_le _⟩ (fun r_8 g1 H locs hq hG => ?_)
  obtain ⟨rfl, hf⟩ := hq
  refine lv_iconst (v := (2 : Int32)) hx hb dX3_tie_43 (by decide) ?_
  refine lv_icmp_ne (tgt := 62) hx hb dX3_tie_44 (by decide) (fun c_9 => ?_) (fun c_9 => ?_)
  · replace hf := hf.1 c_9
    exact g_vret C hG (hpost _ _ hf) dX3_tie_62
  · replace hf := hf.2 c_9
    refine lv_aload_n hx hb dX3_tie_47 rfl (lv_at hl 2 rfl) ?_
    refine gg_S_11 C hG inX3_tie_wsX30 (hts _ (List.mem_of_getElem? (i := 2) rfl)) dX3_tie_48 ?_
    refine lv_iload hx hb dX3_tie_51 (lv_at hl 0 rfl) ?_
    refine lv_dup2_11 hx hb dX3_tie_53 rfl rfl ?_
    obtain ⟨h_10, hf⟩ := hf
    refine ga_S_11 C hG h_10 dX3_tie_54 ?_
    refine lv_iload_n hx hb dX3_tie_55 rfl (lv_at hl 1 rfl) ?_
    refine lv_iconst (v := (2 : Int32)) hx hb dX3_tie_56 (by decide) ?_
    refine g_callNi0 (As := [.int r_1, .int (2 : Int32)]) C hG (kX5_ahead hf) ⟨va_cnB 2 hts gX3_tie_X5_ahead_n73 rfl rfl rfl (hN _ (List.mem_of_getElem? (i := 7) rfl)) (hts _ (List.mem_of_getElem? (i := 11) rfl)) hdsX5_ahead ⟨Nat.le_of_ble_eq_true rfl, Nat.le_of_ble_eq_true rfl⟩, hts _ (List.mem_of_getElem? (i := 38) rfl), trivial⟩ rfl hl.1 rfl (Nat.le_of_ble_eq_true rfl) dX3_tie_57 ⟨Nat.zero_le _, Nat.zero_le _⟩ (fun r_11 g1 H locs hq hG => ?_)
    obtain ⟨rfl, hf⟩ := hq
    refine lv_iand hx hb dX3_tie_60 ?_
    obtain ⟨h_12, hf⟩ := hf
    refine gs_S_11 C hG h_12 dX3_tie_61 (fun SX_13 H locs eSX_13 hG => ?_)
    replace hf := hf SX_13 eSX_13
    exact g_vret C hG (hpost _ _ hf) dX3_tie_62
set_option maxRecDepth 100000 in
theorem kX3_tie {l : Launch} {D : va_G} {B : Nat → Nat} {K : sK} {L : sL} {Y : sY} {M : sM} {O : sO}  {Q : (Nat → Int32) → (Nat → Nat → Int32) → Prop} {SI : Nat → Int32} {SX : Nat → Nat → Int32} {x1 : Int32} {x2 : Int32} (hf : fX3_tie Q SI SX x1 x2) : gMv D B l yX3_tie wsX3_tie rX3_tie 0 0 [.ref (B 2), .int x1, .int x2] ((SI, SX), K, L, Y, M, O) (fun g1 => ∃ (SI1 : Nat → Int32) (SX1 : Nat → Nat → Int32), g1 = ((SI1, SX1), K, L, Y, M, O) ∧ Q SI1 SX1) := by
  refine gMv_of (cc := cX3_tie) (maxL := 5) (ret := none) (by decide +kernel) rfl (Nat.le_of_ble_eq_true rfl) ?_
  intro p e s m below meth c A hA0 C hG ls hl
  exact vX3_tie_b0 C (fun SI SX hq => ⟨SI, SX, rfl, hq⟩) SI SX x1 x2 _ _ _ hf hG hl
def rX3_tieToPosts : Room := { frames := 4, cells := 0, slots := 0, locals := 95 }
theorem hdvX3_tieToPosts : yX3_tieToPosts.cls = RX3 ∧ yX3_tieToPosts.cls ≠ "java/lang/invoke/MethodHandle" ∧ yX3_tieToPosts.cls ≠ "java/lang/invoke/VarHandle" ∧ (parseMethodDescriptor yX3_tieToPosts.desc).map (fun d => d.parameters.length) = some 1 := by decide +kernel
theorem inX3_tieToPosts_wsX30 : ∀ w ∈ wsX30, w ∈ wsX3_tieToPosts := (fun _ h => List.mem_cons_of_mem _ (List.mem_append_right _ h))
set_option maxHeartbeats 4000000 in
set_option maxRecDepth 100000 in
theorem vX3_tieToPosts_h2 {p : Program} {l : Launch} {e : Env} {s : State} {m : MethodId} {args : Array Value} {below : List Frame} {meth : Method} {c : Code} {D : va_G} {B : Nat → Nat} {A : Nat → Prop} {K : sK} {L : sL} {Y : sY} {M : sM} {O : sO} {post : sG → Prop} {Q : (Nat → Int32) → (Nat → Nat → Int32) → Prop} (C : gX p s m args meth c cX3_tieToPosts 3 (none) wsX3_tieToPosts RX3 D B A) (hpost : ∀ (SI : Nat → Int32) (SX : Nat → Nat → Int32), Q SI SX → post ((SI, SX), K, L, Y, M, O))  : ∀ (n2 : Nat) (SI : Nat → Int32) (SX : Nat → Nat → Int32) (y1 : Int32) (y2 : Int32) (H : Heap) (locs : List Loc) (ls : Array Slot), fX3_tieToPosts_h2 Q n2 SI SX y1 y2 → GS D B A s.heap ((SI, SX), K, L, Y, M, O) H locs → lv_has ls 3 [(0, .ref (B 2)), (1, .int y1), (2, .int y2)] → W p l e (headSpec wsX3_tieToPosts rX3_tieToPosts).room s m args below meth c H locs 0 0 (MQ below (va_Qv post (gB D B A) A) args s 0 0 A) (F0 m 2 ls []) := by
  obtain ⟨hx, hb, hml, hown, hts, hK, hr, hlk, hA, hN⟩ := id C
  intro n2
  induction n2 with
  | zero =>
    intro SI SX y1 y2 H locs ls hf
    exact False.elim hf
  | succ n2 hG2 =>
    intro SI SX y1 y2 H locs ls hf hG hl
    unfold fX3_tieToPosts_h2 at hf
    refine lv_iload_n hx hb dX3_tieToPosts_2 rfl (lv_at hl 2 rfl) ?_
    refine lv_aload_n hx hb dX3_tieToPosts_3 rfl (lv_at hl 0 rfl) ?_
    refine gg_S_2 C hG inX3_tieToPosts_wsX30 (hts _ (List.mem_of_getElem? (i := 1) rfl)) dX3_tieToPosts_4 ?_
    refine lv_icmp_ge (tgt := 25) hx hb dX3_tieToPosts_7 (by decide) (fun c_1 => ?_) (fun c_1 => ?_)
    · replace hf := hf.1 c_1
      exact g_vret C hG (hpost _ _ hf) dX3_tieToPosts_25
    · replace hf := hf.2 c_1
      refine lv_aload_n hx hb dX3_tieToPosts_10 rfl (lv_at hl 0 rfl) ?_
      refine lv_iload_n hx hb dX3_tieToPosts_11 rfl (lv_at hl 2 rfl) ?_
      refine g_callNi0 (As := [.int y2]) C hG (kX5_nodeOf hf) ⟨va_cnB 1 hts gX3_tieToPosts_X5_nodeOf_n61 rfl rfl rfl (hN _ (List.mem_of_getElem? (i := 6) rfl)) (hts _ (List.mem_of_getElem? (i := 3) rfl)) hdsX5_nodeOf ⟨Nat.le_of_ble_eq_true rfl, Nat.le_of_ble_eq_true rfl⟩, hts _ (List.mem_of_getElem? (i := 2) rfl), trivial⟩ rfl hl.1 rfl (Nat.le_of_ble_eq_true rfl) dX3_tieToPosts_12 ⟨Nat.zero_le _, Nat.zero_le _⟩ (fun r_2 g1 H locs hq hG => ?_)
      obtain ⟨rfl, hf⟩ := hq
      refine lv_iload_n hx hb dX3_tieToPosts_15 rfl (lv_at hl 1 rfl) ?_
      refine g_callVv0 (As := [.int r_2, .int y1]) C hG (kX3_tie hf) (cwV 2 hts gX3_tieToPosts_X3_tie rfl rfl rfl hdvX3_tie ⟨Nat.le_of_ble_eq_true rfl, Nat.le_of_ble_eq_true rfl⟩) (va_recv hK hG.1 (ci := 3) (q0 := 27) rfl rfl) rfl hl.1 rfl (Nat.le_of_ble_eq_true rfl) dX3_tieToPosts_16 ⟨Nat.zero_le _, Nat.zero_le _⟩ (fun g1 H locs hq hG => ?_)
      obtain ⟨SI_3, SX_4, rfl, hf⟩ := hq
      obtain ⟨x2_5, ex2_5⟩ : ∃ y : Int32, y = y2 + (1 : Int32) := ⟨_, rfl⟩
      replace hf := hf x2_5 ex2_5
      refine lv_iinc (v := x2_5) (lv' := [(2, .int x2_5), (0, .ref (B 2)), (1, .int y1)]) hx hb dX3_tieToPosts_19 hl (k := 2) rfl (by rw [ex2_5]; rfl) (by decide) rfl (fun ls hl => ?_)
      refine lv_goto (tgt := 2) hx hb dX3_tieToPosts_22 (by decide) ?_
      exact hG2 SI_3 SX_4 y1 x2_5 _ _ _ hf hG (lv_sub hl [1, 2, 0] rfl)
set_option maxHeartbeats 4000000 in
set_option maxRecDepth 100000 in
theorem vX3_tieToPosts_b0 {p : Program} {l : Launch} {e : Env} {s : State} {m : MethodId} {args : Array Value} {below : List Frame} {meth : Method} {c : Code} {D : va_G} {B : Nat → Nat} {A : Nat → Prop} {K : sK} {L : sL} {Y : sY} {M : sM} {O : sO} {post : sG → Prop} {Q : (Nat → Int32) → (Nat → Nat → Int32) → Prop} (C : gX p s m args meth c cX3_tieToPosts 3 (none) wsX3_tieToPosts RX3 D B A) (hpost : ∀ (SI : Nat → Int32) (SX : Nat → Nat → Int32), Q SI SX → post ((SI, SX), K, L, Y, M, O))  (SI : Nat → Int32) (SX : Nat → Nat → Int32) (x1 : Int32) (H : Heap) (locs : List Loc) (ls : Array Slot) (hf : fX3_tieToPosts Q SI SX x1) (hG : GS D B A s.heap ((SI, SX), K, L, Y, M, O) H locs) (hl : lv_has ls 3 [(0, .ref (B 2)), (1, .int x1)]) : W p l e (headSpec wsX3_tieToPosts rX3_tieToPosts).room s m args below meth c H locs 0 0 (MQ below (va_Qv post (gB D B A) A) args s 0 0 A) (F0 m 0 ls []) := by
  obtain ⟨hx, hb, hml, hown, hts, hK, hr, hlk, hA, hN⟩ := id C
  unfold fX3_tieToPosts at hf
  refine lv_iconst (v := (0 : Int32)) hx hb dX3_tieToPosts_0 (by decide) ?_
  refine lv_istore_n (lv' := [(2, .int (0 : Int32)), (0, .ref (B 2)), (1, .int x1)]) hx hb dX3_tieToPosts_1 rfl hl (by decide) rfl (fun ls hl => ?_)
  obtain ⟨n2, hf⟩ := hf
  exact vX3_tieToPosts_h2 C hpost  n2 SI SX x1 (0 : Int32) _ _ _ hf hG (lv_sub hl [1, 2, 0] rfl)
set_option maxRecDepth 100000 in
theorem kX3_tieToPosts {l : Launch} {D : va_G} {B : Nat → Nat} {K : sK} {L : sL} {Y : sY} {M : sM} {O : sO}  {Q : (Nat → Int32) → (Nat → Nat → Int32) → Prop} {SI : Nat → Int32} {SX : Nat → Nat → Int32} {x1 : Int32} (hf : fX3_tieToPosts Q SI SX x1) : gMv D B l yX3_tieToPosts wsX3_tieToPosts rX3_tieToPosts 0 0 [.ref (B 2), .int x1] ((SI, SX), K, L, Y, M, O) (fun g1 => ∃ (SI1 : Nat → Int32) (SX1 : Nat → Nat → Int32), g1 = ((SI1, SX1), K, L, Y, M, O) ∧ Q SI1 SX1) := by
  refine gMv_of (cc := cX3_tieToPosts) (maxL := 3) (ret := none) (by decide +kernel) rfl (Nat.le_of_ble_eq_true rfl) ?_
  intro p e s m below meth c A hA0 C hG ls hl
  exact vX3_tieToPosts_b0 C (fun SI SX hq => ⟨SI, SX, rfl, hq⟩) SI SX x1 _ _ _ hf hG hl
def rX3_tieToRelays : Room := { frames := 4, cells := 0, slots := 0, locals := 95 }
theorem hdvX3_tieToRelays : yX3_tieToRelays.cls = RX3 ∧ yX3_tieToRelays.cls ≠ "java/lang/invoke/MethodHandle" ∧ yX3_tieToRelays.cls ≠ "java/lang/invoke/VarHandle" ∧ (parseMethodDescriptor yX3_tieToRelays.desc).map (fun d => d.parameters.length) = some 1 := by decide +kernel
set_option maxHeartbeats 4000000 in
set_option maxRecDepth 100000 in
theorem vX3_tieToRelays_h2 {p : Program} {l : Launch} {e : Env} {s : State} {m : MethodId} {args : Array Value} {below : List Frame} {meth : Method} {c : Code} {D : va_G} {B : Nat → Nat} {A : Nat → Prop} {K : sK} {L : sL} {Y : sY} {M : sM} {O : sO} {post : sG → Prop} {Q : (Nat → Int32) → (Nat → Nat → Int32) → Prop} (C : gX p s m args meth c cX3_tieToRelays 3 (none) wsX3_tieToRelays RX3 D B A) (hpost : ∀ (SI : Nat → Int32) (SX : Nat → Nat → Int32), Q SI SX → post ((SI, SX), K, L, Y, M, O))  : ∀ (n2 : Nat) (SI : Nat → Int32) (SX : Nat → Nat → Int32) (y1 : Int32) (y2 : Int32) (H : Heap) (locs : List Loc) (ls : Array Slot), fX3_tieToRelays_h2 Q n2 SI SX y1 y2 → GS D B A s.heap ((SI, SX), K, L, Y, M, O) H locs → lv_has ls 3 [(0, .ref (B 2)), (1, .int y1), (2, .int y2)] → W p l e (headSpec wsX3_tieToRelays rX3_tieToRelays).room s m args below meth c H locs 0 0 (MQ below (va_Qv post (gB D B A) A) args s 0 0 A) (F0 m 2 ls []) := by
  obtain ⟨hx, hb, hml, hown, hts, hK, hr, hlk, hA, hN⟩ := id C
  intro n2
  induction n2 with
  | zero =>
    intro SI SX y1 y2 H locs ls hf
    exact False.elim hf
  | succ n2 hG2 =>
    intro SI SX y1 y2 H locs ls hf hG hl
    unfold fX3_tieToRelays_h2 at hf
    refine lv_iload_n hx hb dX3_tieToRelays_2 rfl (lv_at hl 2 rfl) ?_
    refine lv_iload_n hx hb dX3_tieToRelays_3 rfl (lv_at hl 1 rfl) ?_
    refine lv_icmp_ge (tgt := 25) hx hb dX3_tieToRelays_4 (by decide) (fun c_1 => ?_) (fun c_1 => ?_)
    · replace hf := hf.1 c_1
      exact g_vret C hG (hpost _ _ hf) dX3_tieToRelays_25
    · replace hf := hf.2 c_1
      refine lv_aload_n hx hb dX3_tieToRelays_7 rfl (lv_at hl 0 rfl) ?_
      refine lv_iload_n hx hb dX3_tieToRelays_8 rfl (lv_at hl 1 rfl) ?_
      refine lv_iload_n hx hb dX3_tieToRelays_9 rfl (lv_at hl 2 rfl) ?_
      refine g_callVv0 (As := [.int y1, .int y2]) C hG (kX3_tie hf) (cwV 2 hts gX3_tieToRelays_X3_tie rfl rfl rfl hdvX3_tie ⟨Nat.le_of_ble_eq_true rfl, Nat.le_of_ble_eq_true rfl⟩) (va_recv hK hG.1 (ci := 3) (q0 := 27) rfl rfl) rfl hl.1 rfl (Nat.le_of_ble_eq_true rfl) dX3_tieToRelays_10 ⟨Nat.zero_le _, Nat.zero_le _⟩ (fun g1 H locs hq hG => ?_)
      obtain ⟨SI_2, SX_3, rfl, hf⟩ := hq
      refine lv_aload_n hx hb dX3_tieToRelays_13 rfl (lv_at hl 0 rfl) ?_
      refine lv_iload_n hx hb dX3_tieToRelays_14 rfl (lv_at hl 2 rfl) ?_
      refine lv_iload_n hx hb dX3_tieToRelays_15 rfl (lv_at hl 1 rfl) ?_
      refine g_callVv0 (As := [.int y2, .int y1]) C hG (kX3_tie hf) (cwV 2 hts gX3_tieToRelays_X3_tie rfl rfl rfl hdvX3_tie ⟨Nat.le_of_ble_eq_true rfl, Nat.le_of_ble_eq_true rfl⟩) (va_recv hK hG.1 (ci := 3) (q0 := 27) rfl rfl) rfl hl.1 rfl (Nat.le_of_ble_eq_true rfl) dX3_tieToRelays_16 ⟨Nat.zero_le _, Nat.zero_le _⟩ (fun g1 H locs hq hG => ?_)
      obtain ⟨SI_4, SX_5, rfl, hf⟩ := hq
      obtain ⟨x2_6, ex2_6⟩ : ∃ y : Int32, y = y2 + (1 : Int32) := ⟨_, rfl⟩
      replace hf := hf x2_6 ex2_6
      refine lv_iinc (v := x2_6) (lv' := [(2, .int x2_6), (0, .ref (B 2)), (1, .int y1)]) hx hb dX3_tieToRelays_19 hl (k := 2) rfl (by rw [ex2_6]; rfl) (by decide) rfl (fun ls hl => ?_)
      refine lv_goto (tgt := 2) hx hb dX3_tieToRelays_22 (by decide) ?_
      exact hG2 SI_4 SX_5 y1 x2_6 _ _ _ hf hG (lv_sub hl [1, 2, 0] rfl)
set_option maxHeartbeats 4000000 in
set_option maxRecDepth 100000 in
theorem vX3_tieToRelays_b0 {p : Program} {l : Launch} {e : Env} {s : State} {m : MethodId} {args : Array Value} {below : List Frame} {meth : Method} {c : Code} {D : va_G} {B : Nat → Nat} {A : Nat → Prop} {K : sK} {L : sL} {Y : sY} {M : sM} {O : sO} {post : sG → Prop} {Q : (Nat → Int32) → (Nat → Nat → Int32) → Prop} (C : gX p s m args meth c cX3_tieToRelays 3 (none) wsX3_tieToRelays RX3 D B A) (hpost : ∀ (SI : Nat → Int32) (SX : Nat → Nat → Int32), Q SI SX → post ((SI, SX), K, L, Y, M, O))  (SI : Nat → Int32) (SX : Nat → Nat → Int32) (x1 : Int32) (H : Heap) (locs : List Loc) (ls : Array Slot) (hf : fX3_tieToRelays Q SI SX x1) (hG : GS D B A s.heap ((SI, SX), K, L, Y, M, O) H locs) (hl : lv_has ls 3 [(0, .ref (B 2)), (1, .int x1)]) : W p l e (headSpec wsX3_tieToRelays rX3_tieToRelays).room s m args below meth c H locs 0 0 (MQ below (va_Qv post (gB D B A) A) args s 0 0 A) (F0 m 0 ls []) := by
  obtain ⟨hx, hb, hml, hown, hts, hK, hr, hlk, hA, hN⟩ := id C
  unfold fX3_tieToRelays at hf
  refine lv_iconst (v := (0 : Int32)) hx hb dX3_tieToRelays_0 (by decide) ?_
  refine lv_istore_n (lv' := [(2, .int (0 : Int32)), (0, .ref (B 2)), (1, .int x1)]) hx hb dX3_tieToRelays_1 rfl hl (by decide) rfl (fun ls hl => ?_)
  obtain ⟨n2, hf⟩ := hf
  exact vX3_tieToRelays_h2 C hpost  n2 SI SX x1 (0 : Int32) _ _ _ hf hG (lv_sub hl [1, 2, 0] rfl)
set_option maxRecDepth 100000 in
theorem kX3_tieToRelays {l : Launch} {D : va_G} {B : Nat → Nat} {K : sK} {L : sL} {Y : sY} {M : sM} {O : sO}  {Q : (Nat → Int32) → (Nat → Nat → Int32) → Prop} {SI : Nat → Int32} {SX : Nat → Nat → Int32} {x1 : Int32} (hf : fX3_tieToRelays Q SI SX x1) : gMv D B l yX3_tieToRelays wsX3_tieToRelays rX3_tieToRelays 0 0 [.ref (B 2), .int x1] ((SI, SX), K, L, Y, M, O) (fun g1 => ∃ (SI1 : Nat → Int32) (SX1 : Nat → Nat → Int32), g1 = ((SI1, SX1), K, L, Y, M, O) ∧ Q SI1 SX1) := by
  refine gMv_of (cc := cX3_tieToRelays) (maxL := 3) (ret := none) (by decide +kernel) rfl (Nat.le_of_ble_eq_true rfl) ?_
  intro p e s m below meth c A hA0 C hG ls hl
  exact vX3_tieToRelays_b0 C (fun SI SX hq => ⟨SI, SX, rfl, hq⟩) SI SX x1 _ _ _ hf hG hl
def rX3_placeNode : Room := { frames := 0, cells := 0, slots := 0, locals := 0 }
theorem hdvX3_placeNode : yX3_placeNode.cls = RX3 ∧ yX3_placeNode.cls ≠ "java/lang/invoke/MethodHandle" ∧ yX3_placeNode.cls ≠ "java/lang/invoke/VarHandle" ∧ (parseMethodDescriptor yX3_placeNode.desc).map (fun d => d.parameters.length) = some 4 := by decide +kernel
theorem inX3_placeNode_wsX30 : ∀ w ∈ wsX30, w ∈ wsX3_placeNode := (fun _ h => List.mem_cons_of_mem _ (List.mem_append_right _ h))
set_option maxHeartbeats 4000000 in
set_option maxRecDepth 100000 in
theorem vX3_placeNode_b0 {p : Program} {l : Launch} {e : Env} {s : State} {m : MethodId} {args : Array Value} {below : List Frame} {meth : Method} {c : Code} {D : va_G} {B : Nat → Nat} {A : Nat → Prop} {K : sK} {L : sL} {Y : sY} {M : sM} {O : sO} {post : sG → Prop} {Q : (Nat → Int32) → (Nat → Nat → Int32) → Prop} (C : gX p s m args meth c cX3_placeNode 5 (none) wsX3_placeNode RX3 D B A) (hpost : ∀ (SI : Nat → Int32) (SX : Nat → Nat → Int32), Q SI SX → post ((SI, SX), K, L, Y, M, O))  (SI : Nat → Int32) (SX : Nat → Nat → Int32) (x1 : Int32) (x2 : Int32) (x3 : Int32) (x4 : Int32) (H : Heap) (locs : List Loc) (ls : Array Slot) (hf : fX3_placeNode Q SI SX x1 x2 x3 x4) (hG : GS D B A s.heap ((SI, SX), K, L, Y, M, O) H locs) (hl : lv_has ls 5 [(0, .ref (B 2)), (1, .int x1), (2, .int x2), (3, .int x3), (4, .int x4)]) : W p l e (headSpec wsX3_placeNode rX3_placeNode).room s m args below meth c H locs 0 0 (MQ below (va_Qv post (gB D B A) A) args s 0 0 A) (F0 m 0 ls []) := by
  obtain ⟨hx, hb, hml, hown, hts, hK, hr, hlk, hA, hN⟩ := id C
  unfold fX3_placeNode at hf
  refine lv_aload_n hx hb dX3_placeNode_0 rfl (lv_at hl 0 rfl) ?_
  refine gg_S_7 C hG inX3_placeNode_wsX30 (hts _ (List.mem_of_getElem? (i := 1) rfl)) dX3_placeNode_1 ?_
  refine lv_iload_n hx hb dX3_placeNode_4 rfl (lv_at hl 1 rfl) ?_
  refine lv_iload_n hx hb dX3_placeNode_5 rfl (lv_at hl 2 rfl) ?_
  obtain ⟨h_1, hf⟩ := hf
  refine gs_S_7 C hG h_1 dX3_placeNode_6 (fun SX_2 H locs eSX_2 hG => ?_)
  replace hf := hf SX_2 eSX_2
  refine lv_aload_n hx hb dX3_placeNode_7 rfl (lv_at hl 0 rfl) ?_
  refine gg_S_6 C hG inX3_placeNode_wsX30 (hts _ (List.mem_of_getElem? (i := 2) rfl)) dX3_placeNode_8 ?_
  refine lv_iload_n hx hb dX3_placeNode_11 rfl (lv_at hl 1 rfl) ?_
  refine lv_iload_n hx hb dX3_placeNode_12 rfl (lv_at hl 3 rfl) ?_
  obtain ⟨h_3, hf⟩ := hf
  refine gs_S_6 C hG h_3 dX3_placeNode_13 (fun SX_4 H locs eSX_4 hG => ?_)
  replace hf := hf SX_4 eSX_4
  refine lv_aload_n hx hb dX3_placeNode_14 rfl (lv_at hl 0 rfl) ?_
  refine gg_S_9 C hG inX3_placeNode_wsX30 (hts _ (List.mem_of_getElem? (i := 3) rfl)) dX3_placeNode_15 ?_
  refine lv_iload_n hx hb dX3_placeNode_18 rfl (lv_at hl 1 rfl) ?_
  refine lv_iload hx hb dX3_placeNode_19 (lv_at hl 4 rfl) ?_
  obtain ⟨h_5, hf⟩ := hf
  refine gs_S_9 C hG h_5 dX3_placeNode_21 (fun SX_6 H locs eSX_6 hG => ?_)
  replace hf := hf SX_6 eSX_6
  refine lv_aload_n hx hb dX3_placeNode_22 rfl (lv_at hl 0 rfl) ?_
  refine gg_S_4 C hG inX3_placeNode_wsX30 (hts _ (List.mem_of_getElem? (i := 4) rfl)) dX3_placeNode_23 ?_
  refine lv_iload_n hx hb dX3_placeNode_26 rfl (lv_at hl 1 rfl) ?_
  refine lv_iconst (v := (1 : Int32)) hx hb dX3_placeNode_27 (by decide) ?_
  obtain ⟨h_7, hf⟩ := hf
  refine gs_S_4 C hG h_7 dX3_placeNode_28 (fun SX_8 H locs eSX_8 hG => ?_)
  replace hf := hf SX_8 eSX_8
  exact g_vret C hG (hpost _ _ hf) dX3_placeNode_29
set_option maxRecDepth 100000 in
theorem kX3_placeNode {l : Launch} {D : va_G} {B : Nat → Nat} {K : sK} {L : sL} {Y : sY} {M : sM} {O : sO}  {Q : (Nat → Int32) → (Nat → Nat → Int32) → Prop} {SI : Nat → Int32} {SX : Nat → Nat → Int32} {x1 : Int32} {x2 : Int32} {x3 : Int32} {x4 : Int32} (hf : fX3_placeNode Q SI SX x1 x2 x3 x4) : gMv D B l yX3_placeNode wsX3_placeNode rX3_placeNode 0 0 [.ref (B 2), .int x1, .int x2, .int x3, .int x4] ((SI, SX), K, L, Y, M, O) (fun g1 => ∃ (SI1 : Nat → Int32) (SX1 : Nat → Nat → Int32), g1 = ((SI1, SX1), K, L, Y, M, O) ∧ Q SI1 SX1) := by
  refine gMv_of (cc := cX3_placeNode) (maxL := 5) (ret := none) (by decide +kernel) rfl (Nat.le_of_ble_eq_true rfl) ?_
  intro p e s m below meth c A hA0 C hG ls hl
  exact vX3_placeNode_b0 C (fun SI SX hq => ⟨SI, SX, rfl, hq⟩) SI SX x1 x2 x3 x4 _ _ _ hf hG hl
def rX3_turnDead : Room := { frames := 0, cells := 0, slots := 0, locals := 0 }
theorem hdvX3_turnDead : yX3_turnDead.cls = RX3 ∧ yX3_turnDead.cls ≠ "java/lang/invoke/MethodHandle" ∧ yX3_turnDead.cls ≠ "java/lang/invoke/VarHandle" ∧ (parseMethodDescriptor yX3_turnDead.desc).map (fun d => d.parameters.length) = some 2 := by decide +kernel
theorem inX3_turnDead_wsX30 : ∀ w ∈ wsX30, w ∈ wsX3_turnDead := (fun _ h => List.mem_cons_of_mem _ (List.mem_append_right _ h))
set_option maxHeartbeats 4000000 in
set_option maxRecDepth 100000 in
theorem vX3_turnDead_b26 {p : Program} {l : Launch} {e : Env} {s : State} {m : MethodId} {args : Array Value} {below : List Frame} {meth : Method} {c : Code} {D : va_G} {B : Nat → Nat} {A : Nat → Prop} {K : sK} {L : sL} {Y : sY} {M : sM} {O : sO} {post : Int32 → sG → Prop} {Q : Int32 → (Nat → Int32) → (Nat → Nat → Int32) → Prop} (C : gX p s m args meth c cX3_turnDead 3 (some .boolean) wsX3_turnDead RX3 D B A) (hpost : ∀ (v : Int32) (SI : Nat → Int32) (SX : Nat → Nat → Int32), Q v SI SX → post v ((SI, SX), K, L, Y, M, O))  (SI : Nat → Int32) (SX : Nat → Nat → Int32) (t0 : Int32) (t1 : Int32) (H : Heap) (locs : List Loc) (ls : Array Slot) (hf : fX3_turnDead_b26 Q SI SX t0 t1) (hG : GS D B A s.heap ((SI, SX), K, L, Y, M, O) H locs) (hl : lv_has ls 3 [(0, .ref (B 2))]) : W p l e (headSpec wsX3_turnDead rX3_turnDead).room s m args below meth c H locs 0 0 (MQ below (va_Qi post (gB D B A) A) args s 0 0 A) (F0 m 26 ls [.int t0, .int t1, .ref (B 24)]) := by
  obtain ⟨hx, hb, hml, hown, hts, hK, hr, hlk, hA, hN⟩ := id C
  unfold fX3_turnDead_b26 at hf
  obtain ⟨h_4, hf⟩ := hf
  refine gs_S_4 C hG h_4 dX3_turnDead_26 (fun SX_5 H locs eSX_5 hG => ?_)
  replace hf := hf SX_5 eSX_5
  refine lv_aload_n hx hb dX3_turnDead_27 rfl (lv_at hl 0 rfl) ?_
  refine lv_dup hx hb dX3_turnDead_28 rfl ?_
  refine gg_S_3 C hG inX3_turnDead_wsX30 (hts _ (List.mem_of_getElem? (i := 2) rfl)) dX3_turnDead_29 ?_
  refine lv_iconst (v := (1 : Int32)) hx hb dX3_turnDead_32 (by decide) ?_
  refine lv_iadd hx hb dX3_turnDead_33 ?_
  refine gp_S_3 C hG inX3_turnDead_wsX30 (hts _ (List.mem_of_getElem? (i := 2) rfl)) dX3_turnDead_34 (fun SI_6 H locs eSI_6 hG => ?_)
  replace hf := hf SI_6 eSI_6
  refine lv_iconst (v := (1 : Int32)) hx hb dX3_turnDead_37 (by decide) ?_
  exact g_zret C hG rfl (hpost _ _ _ hf) dX3_turnDead_38
set_option maxHeartbeats 4000000 in
set_option maxRecDepth 100000 in
theorem vX3_turnDead_b0 {p : Program} {l : Launch} {e : Env} {s : State} {m : MethodId} {args : Array Value} {below : List Frame} {meth : Method} {c : Code} {D : va_G} {B : Nat → Nat} {A : Nat → Prop} {K : sK} {L : sL} {Y : sY} {M : sM} {O : sO} {post : Int32 → sG → Prop} {Q : Int32 → (Nat → Int32) → (Nat → Nat → Int32) → Prop} (C : gX p s m args meth c cX3_turnDead 3 (some .boolean) wsX3_turnDead RX3 D B A) (hpost : ∀ (v : Int32) (SI : Nat → Int32) (SX : Nat → Nat → Int32), Q v SI SX → post v ((SI, SX), K, L, Y, M, O))  (SI : Nat → Int32) (SX : Nat → Nat → Int32) (x1 : Int32) (x2 : Int32) (H : Heap) (locs : List Loc) (ls : Array Slot) (hf : fX3_turnDead Q SI SX x1 x2) (hG : GS D B A s.heap ((SI, SX), K, L, Y, M, O) H locs) (hl : lv_has ls 3 [(0, .ref (B 2)), (1, .int x1), (2, .int x2)]) : W p l e (headSpec wsX3_turnDead rX3_turnDead).room s m args below meth c H locs 0 0 (MQ below (va_Qi post (gB D B A) A) args s 0 0 A) (F0 m 0 ls []) := by
  obtain ⟨hx, hb, hml, hown, hts, hK, hr, hlk, hA, hN⟩ := id C
  unfold fX3_turnDead at hf
  refine lv_aload_n hx hb dX3_turnDead_0 rfl (lv_at hl 0 rfl) ?_
  refine gg_S_4 C hG inX3_turnDead_wsX30 (hts _ (List.mem_of_getElem? (i := 1) rfl)) dX3_turnDead_1 ?_
  refine lv_iload_n hx hb dX3_turnDead_4 rfl (lv_at hl 1 rfl) ?_
  obtain ⟨h_1, hf⟩ := hf
  refine ga_S_4 C hG h_1 dX3_turnDead_5 ?_
  refine lv_iload_n hx hb dX3_turnDead_6 rfl (lv_at hl 2 rfl) ?_
  refine lv_icmp_eq (tgt := 12) hx hb dX3_turnDead_7 (by decide) (fun c_2 => ?_) (fun c_2 => ?_)
  · replace hf := hf.1 c_2
    refine lv_aload_n hx hb dX3_turnDead_12 rfl (lv_at hl 0 rfl) ?_
    refine gg_S_4 C hG inX3_turnDead_wsX30 (hts _ (List.mem_of_getElem? (i := 1) rfl)) dX3_turnDead_13 ?_
    refine lv_iload_n hx hb dX3_turnDead_16 rfl (lv_at hl 1 rfl) ?_
    refine lv_iload_n hx hb dX3_turnDead_17 rfl (lv_at hl 2 rfl) ?_
    refine lv_if_ne (tgt := 25) hx hb dX3_turnDead_18 (by decide) (fun c_3 => ?_) (fun c_3 => ?_)
    · replace hf := hf.1 c_3
      refine lv_iconst (v := (0 : Int32)) hx hb dX3_turnDead_25 (by decide) ?_
      exact vX3_turnDead_b26 C hpost  SI SX (0 : Int32) x1 _ _ _ hf hG (lv_sub hl [0] rfl)
    · replace hf := hf.2 c_3
      refine lv_iconst (v := (1 : Int32)) hx hb dX3_turnDead_21 (by decide) ?_
      refine lv_goto (tgt := 26) hx hb dX3_turnDead_22 (by decide) ?_
      exact vX3_turnDead_b26 C hpost  SI SX (1 : Int32) x1 _ _ _ hf hG (lv_sub hl [0] rfl)
  · replace hf := hf.2 c_2
    refine lv_iconst (v := (0 : Int32)) hx hb dX3_turnDead_10 (by decide) ?_
    exact g_zret C hG rfl (hpost _ _ _ hf) dX3_turnDead_11
set_option maxRecDepth 100000 in
theorem kX3_turnDead {l : Launch} {D : va_G} {B : Nat → Nat} {K : sK} {L : sL} {Y : sY} {M : sM} {O : sO}  {Q : Int32 → (Nat → Int32) → (Nat → Nat → Int32) → Prop} {SI : Nat → Int32} {SX : Nat → Nat → Int32} {x1 : Int32} {x2 : Int32} (hf : fX3_turnDead Q SI SX x1 x2) : gMi D B l yX3_turnDead wsX3_turnDead rX3_turnDead 0 0 [.ref (B 2), .int x1, .int x2] ((SI, SX), K, L, Y, M, O) (fun r g1 => ∃ (SI1 : Nat → Int32) (SX1 : Nat → Nat → Int32), g1 = ((SI1, SX1), K, L, Y, M, O) ∧ Q r SI1 SX1) := by
  refine gMi_of (cc := cX3_turnDead) (maxL := 3) (ret := some .boolean) (by decide +kernel) rfl (Nat.le_of_ble_eq_true rfl) ?_
  intro p e s m below meth c A hA0 C hG ls hl
  exact vX3_turnDead_b0 C (fun v SI SX hq => ⟨SI, SX, rfl, hq⟩) SI SX x1 x2 _ _ _ hf hG hl
def rX3_addPost : Room := { frames := 4, cells := 0, slots := 0, locals := 95 }
theorem hdvX3_addPost : yX3_addPost.cls = RX3 ∧ yX3_addPost.cls ≠ "java/lang/invoke/MethodHandle" ∧ yX3_addPost.cls ≠ "java/lang/invoke/VarHandle" ∧ (parseMethodDescriptor yX3_addPost.desc).map (fun d => d.parameters.length) = some 3 := by decide +kernel
theorem inX3_addPost_wsX30 : ∀ w ∈ wsX30, w ∈ wsX3_addPost := (fun _ h => List.mem_cons_of_mem _ (List.mem_append_right _ h))
set_option maxHeartbeats 4000000 in
set_option maxRecDepth 100000 in
theorem vX3_addPost_h29 {p : Program} {l : Launch} {e : Env} {s : State} {m : MethodId} {args : Array Value} {below : List Frame} {meth : Method} {c : Code} {D : va_G} {B : Nat → Nat} {A : Nat → Prop} {K : sK} {L : sL} {Y : sY} {M : sM} {O : sO} {post : Int32 → sG → Prop} {Q : Int32 → (Nat → Int32) → (Nat → Nat → Int32) → Prop} (C : gX p s m args meth c cX3_addPost 6 (some .int) wsX3_addPost RX3 D B A) (hpost : ∀ (v : Int32) (SI : Nat → Int32) (SX : Nat → Nat → Int32), Q v SI SX → post v ((SI, SX), K, L, Y, M, O))  : ∀ (n29 : Nat) (SI : Nat → Int32) (SX : Nat → Nat → Int32) (y4 : Int32) (y5 : Int32) (H : Heap) (locs : List Loc) (ls : Array Slot), fX3_addPost_h29 Q n29 SI SX y4 y5 → GS D B A s.heap ((SI, SX), K, L, Y, M, O) H locs → lv_has ls 6 [(0, .ref (B 2)), (4, .int y4), (5, .int y5)] → W p l e (headSpec wsX3_addPost rX3_addPost).room s m args below meth c H locs 0 0 (MQ below (va_Qi post (gB D B A) A) args s 0 0 A) (F0 m 29 ls []) := by
  obtain ⟨hx, hb, hml, hown, hts, hK, hr, hlk, hA, hN⟩ := id C
  intro n29
  induction n29 with
  | zero =>
    intro SI SX y4 y5 H locs ls hf
    exact False.elim hf
  | succ n29 hG29 =>
    intro SI SX y4 y5 H locs ls hf hG hl
    unfold fX3_addPost_h29 at hf
    refine lv_iload hx hb dX3_addPost_29 (lv_at hl 2 rfl) ?_
    refine lv_aload_n hx hb dX3_addPost_31 rfl (lv_at hl 0 rfl) ?_
    refine gg_S_1 C hG inX3_addPost_wsX30 (hts _ (List.mem_of_getElem? (i := 2) rfl)) dX3_addPost_32 ?_
    refine lv_icmp_ge (tgt := 55) hx hb dX3_addPost_35 (by decide) (fun c_6 => ?_) (fun c_6 => ?_)
    · replace hf := hf.1 c_6
      refine lv_aload_n hx hb dX3_addPost_55 rfl (lv_at hl 0 rfl) ?_
      refine lv_dup hx hb dX3_addPost_56 rfl ?_
      refine gg_S_3 C hG inX3_addPost_wsX30 (hts _ (List.mem_of_getElem? (i := 3) rfl)) dX3_addPost_57 ?_
      refine lv_iconst (v := (1 : Int32)) hx hb dX3_addPost_60 (by decide) ?_
      refine lv_iadd hx hb dX3_addPost_61 ?_
      refine gp_S_3 C hG inX3_addPost_wsX30 (hts _ (List.mem_of_getElem? (i := 3) rfl)) dX3_addPost_62 (fun SI_7 H locs eSI_7 hG => ?_)
      replace hf := hf SI_7 eSI_7
      refine lv_iload hx hb dX3_addPost_65 (lv_at hl 1 rfl) ?_
      exact g_iret C hG (hpost _ _ _ hf) dX3_addPost_67
    · replace hf := hf.2 c_6
      refine lv_aload_n hx hb dX3_addPost_38 rfl (lv_at hl 0 rfl) ?_
      refine lv_iload hx hb dX3_addPost_39 (lv_at hl 1 rfl) ?_
      refine g_callNi0 (As := [.int y4]) C hG (kX5_nodeOf hf) ⟨va_cnB 1 hts gX3_addPost_X5_nodeOf_n61 rfl rfl rfl (hN _ (List.mem_of_getElem? (i := 6) rfl)) (hts _ (List.mem_of_getElem? (i := 5) rfl)) hdsX5_nodeOf ⟨Nat.le_of_ble_eq_true rfl, Nat.le_of_ble_eq_true rfl⟩, hts _ (List.mem_of_getElem? (i := 4) rfl), trivial⟩ rfl hl.1 rfl (Nat.le_of_ble_eq_true rfl) dX3_addPost_41 ⟨Nat.zero_le _, Nat.zero_le _⟩ (fun r_8 g1 H locs hq hG => ?_)
      obtain ⟨rfl, hf⟩ := hq
      refine lv_iload hx hb dX3_addPost_44 (lv_at hl 2 rfl) ?_
      refine g_callVv0 (As := [.int r_8, .int y5]) C hG (kX3_tie hf) (cwV 2 hts gX3_addPost_X3_tie rfl rfl rfl hdvX3_tie ⟨Nat.le_of_ble_eq_true rfl, Nat.le_of_ble_eq_true rfl⟩) (va_recv hK hG.1 (ci := 3) (q0 := 27) rfl rfl) rfl hl.1 rfl (Nat.le_of_ble_eq_true rfl) dX3_addPost_46 ⟨Nat.zero_le _, Nat.zero_le _⟩ (fun g1 H locs hq hG => ?_)
      obtain ⟨SI_9, SX_10, rfl, hf⟩ := hq
      obtain ⟨x5_11, ex5_11⟩ : ∃ y : Int32, y = y5 + (1 : Int32) := ⟨_, rfl⟩
      replace hf := hf x5_11 ex5_11
      refine lv_iinc (v := x5_11) (lv' := [(5, .int x5_11), (0, .ref (B 2)), (4, .int y4)]) hx hb dX3_addPost_49 hl (k := 2) rfl (by rw [ex5_11]; rfl) (by decide) rfl (fun ls hl => ?_)
      refine lv_goto (tgt := 29) hx hb dX3_addPost_52 (by decide) ?_
      exact hG29 SI_9 SX_10 y4 x5_11 _ _ _ hf hG (lv_sub hl [1, 2, 0] rfl)
set_option maxHeartbeats 4000000 in
set_option maxRecDepth 100000 in
theorem vX3_addPost_b0 {p : Program} {l : Launch} {e : Env} {s : State} {m : MethodId} {args : Array Value} {below : List Frame} {meth : Method} {c : Code} {D : va_G} {B : Nat → Nat} {A : Nat → Prop} {K : sK} {L : sL} {Y : sY} {M : sM} {O : sO} {post : Int32 → sG → Prop} {Q : Int32 → (Nat → Int32) → (Nat → Nat → Int32) → Prop} (C : gX p s m args meth c cX3_addPost 6 (some .int) wsX3_addPost RX3 D B A) (hpost : ∀ (v : Int32) (SI : Nat → Int32) (SX : Nat → Nat → Int32), Q v SI SX → post v ((SI, SX), K, L, Y, M, O))  (SI : Nat → Int32) (SX : Nat → Nat → Int32) (x1 : Int32) (x2 : Int32) (x3 : Int32) (H : Heap) (locs : List Loc) (ls : Array Slot) (hf : fX3_addPost Q SI SX x1 x2 x3) (hG : GS D B A s.heap ((SI, SX), K, L, Y, M, O) H locs) (hl : lv_has ls 6 [(0, .ref (B 2)), (1, .int x1), (2, .int x2), (3, .int x3)]) : W p l e (headSpec wsX3_addPost rX3_addPost).room s m args below meth c H locs 0 0 (MQ below (va_Qi post (gB D B A) A) args s 0 0 A) (F0 m 0 ls []) := by
  obtain ⟨hx, hb, hml, hown, hts, hK, hr, hlk, hA, hN⟩ := id C
  unfold fX3_addPost at hf
  refine lv_aload_n hx hb dX3_addPost_0 rfl (lv_at hl 0 rfl) ?_
  refine gg_S_2 C hG inX3_addPost_wsX30 (hts _ (List.mem_of_getElem? (i := 1) rfl)) dX3_addPost_1 ?_
  refine lv_topi (fun x4_1 ex4_1 => ?_)
  replace hf := hf x4_1 ex4_1
  refine lv_istore (lv' := [(4, .int x4_1), (0, .ref (B 2)), (1, .int x1), (2, .int x2), (3, .int x3)]) hx hb dX3_addPost_4 hl (by decide) rfl (fun ls hl => ?_)
  refine lv_aload_n hx hb dX3_addPost_6 rfl (lv_at hl 1 rfl) ?_
  refine lv_iload hx hb dX3_addPost_7 (lv_at hl 0 rfl) ?_
  refine g_callNi0 (As := [.int x4_1]) C hG (kX5_nodeOf hf) ⟨va_cnB 1 hts gX3_addPost_X5_nodeOf_n61 rfl rfl rfl (hN _ (List.mem_of_getElem? (i := 6) rfl)) (hts _ (List.mem_of_getElem? (i := 5) rfl)) hdsX5_nodeOf ⟨Nat.le_of_ble_eq_true rfl, Nat.le_of_ble_eq_true rfl⟩, hts _ (List.mem_of_getElem? (i := 4) rfl), trivial⟩ rfl hl.1 rfl (Nat.le_of_ble_eq_true rfl) dX3_addPost_9 ⟨Nat.zero_le _, Nat.zero_le _⟩ (fun r_2 g1 H locs hq hG => ?_)
  obtain ⟨rfl, hf⟩ := hq
  refine lv_iload_n hx hb dX3_addPost_12 rfl (lv_at hl 2 rfl) ?_
  refine lv_iload_n hx hb dX3_addPost_13 rfl (lv_at hl 3 rfl) ?_
  refine lv_iload_n hx hb dX3_addPost_14 rfl (lv_at hl 4 rfl) ?_
  refine g_callVv0 (As := [.int r_2, .int x1, .int x2, .int x3]) C hG (kX3_placeNode hf) (cwV 4 hts gX3_addPost_X3_placeNode rfl rfl rfl hdvX3_placeNode ⟨Nat.le_of_ble_eq_true rfl, Nat.le_of_ble_eq_true rfl⟩) (va_recv hK hG.1 (ci := 3) (q0 := 27) rfl rfl) rfl hl.1 rfl (Nat.le_of_ble_eq_true rfl) dX3_addPost_15 ⟨Nat.zero_le _, Nat.zero_le _⟩ (fun g1 H locs hq hG => ?_)
  obtain ⟨SI_3, SX_4, rfl, hf⟩ := hq
  refine lv_aload_n hx hb dX3_addPost_18 rfl (lv_at hl 1 rfl) ?_
  refine lv_iload hx hb dX3_addPost_19 (lv_at hl 0 rfl) ?_
  refine lv_iconst (v := (1 : Int32)) hx hb dX3_addPost_21 (by decide) ?_
  refine lv_iadd hx hb dX3_addPost_22 ?_
  refine gp_S_2 C hG inX3_addPost_wsX30 (hts _ (List.mem_of_getElem? (i := 1) rfl)) dX3_addPost_23 (fun SI_5 H locs eSI_5 hG => ?_)
  replace hf := hf SI_5 eSI_5
  refine lv_iconst (v := (0 : Int32)) hx hb dX3_addPost_26 (by decide) ?_
  refine lv_istore (lv' := [(5, .int (0 : Int32)), (4, .int x4_1), (0, .ref (B 2)), (1, .int x1), (2, .int x2), (3, .int x3)]) hx hb dX3_addPost_27 hl (by decide) rfl (fun ls hl => ?_)
  obtain ⟨n29, hf⟩ := hf
  exact vX3_addPost_h29 C hpost  n29 SI_5 SX_4 x4_1 (0 : Int32) _ _ _ hf hG (lv_sub hl [2, 1, 0] rfl)
set_option maxRecDepth 100000 in
theorem kX3_addPost {l : Launch} {D : va_G} {B : Nat → Nat} {K : sK} {L : sL} {Y : sY} {M : sM} {O : sO}  {Q : Int32 → (Nat → Int32) → (Nat → Nat → Int32) → Prop} {SI : Nat → Int32} {SX : Nat → Nat → Int32} {x1 : Int32} {x2 : Int32} {x3 : Int32} (hf : fX3_addPost Q SI SX x1 x2 x3) : gMi D B l yX3_addPost wsX3_addPost rX3_addPost 0 0 [.ref (B 2), .int x1, .int x2, .int x3] ((SI, SX), K, L, Y, M, O) (fun r g1 => ∃ (SI1 : Nat → Int32) (SX1 : Nat → Nat → Int32), g1 = ((SI1, SX1), K, L, Y, M, O) ∧ Q r SI1 SX1) := by
  refine gMi_of (cc := cX3_addPost) (maxL := 6) (ret := some .int) (by decide +kernel) rfl (Nat.le_of_ble_eq_true rfl) ?_
  intro p e s m below meth c A hA0 C hG ls hl
  exact vX3_addPost_b0 C (fun v SI SX hq => ⟨SI, SX, rfl, hq⟩) SI SX x1 x2 x3 _ _ _ hf hG hl
def rX3_addPlane : Room := { frames := 5, cells := 0, slots := 0, locals := 117 }
theorem hdvX3_addPlane : yX3_addPlane.cls = RX3 ∧ yX3_addPlane.cls ≠ "java/lang/invoke/MethodHandle" ∧ yX3_addPlane.cls ≠ "java/lang/invoke/VarHandle" ∧ (parseMethodDescriptor yX3_addPlane.desc).map (fun d => d.parameters.length) = some 3 := by decide +kernel
theorem inX3_addPlane_wsX30 : ∀ w ∈ wsX30, w ∈ wsX3_addPlane := (fun _ h => List.mem_cons_of_mem _ (List.mem_append_right _ h))
set_option maxHeartbeats 4000000 in
set_option maxRecDepth 100000 in
theorem vX3_addPlane_h106 {p : Program} {l : Launch} {e : Env} {s : State} {m : MethodId} {args : Array Value} {below : List Frame} {meth : Method} {c : Code} {D : va_G} {B : Nat → Nat} {A : Nat → Prop} {K : sK} {L : sL} {Y : sY} {M : sM} {O : sO} {post : Int32 → sG → Prop} {Q : Int32 → (Nat → Int32) → (Nat → Nat → Int32) → Prop} (C : gX p s m args meth c cX3_addPlane 7 (some .int) wsX3_addPlane RX3 D B A) (hpost : ∀ (v : Int32) (SI : Nat → Int32) (SX : Nat → Nat → Int32), Q v SI SX → post v ((SI, SX), K, L, Y, M, O))  : ∀ (n106 : Nat) (SI : Nat → Int32) (SX : Nat → Nat → Int32) (y4 : Int32) (y6 : Int32) (H : Heap) (locs : List Loc) (ls : Array Slot), fX3_addPlane_h106 Q n106 SI SX y4 y6 → GS D B A s.heap ((SI, SX), K, L, Y, M, O) H locs → lv_has ls 7 [(0, .ref (B 2)), (4, .int y4), (6, .int y6)] → W p l e (headSpec wsX3_addPlane rX3_addPlane).room s m args below meth c H locs 0 0 (MQ below (va_Qi post (gB D B A) A) args s 0 0 A) (F0 m 106 ls []) := by
  obtain ⟨hx, hb, hml, hown, hts, hK, hr, hlk, hA, hN⟩ := id C
  intro n106
  induction n106 with
  | zero =>
    intro SI SX y4 y6 H locs ls hf
    exact False.elim hf
  | succ n106 hG106 =>
    intro SI SX y4 y6 H locs ls hf hG hl
    unfold fX3_addPlane_h106 at hf
    refine lv_iload hx hb dX3_addPlane_106 (lv_at hl 2 rfl) ?_
    refine lv_aload_n hx hb dX3_addPlane_108 rfl (lv_at hl 0 rfl) ?_
    refine gg_S_1 C hG inX3_addPlane_wsX30 (hts _ (List.mem_of_getElem? (i := 2) rfl)) dX3_addPlane_109 ?_
    refine lv_icmp_ge (tgt := 133) hx hb dX3_addPlane_112 (by decide) (fun c_16 => ?_) (fun c_16 => ?_)
    · replace hf := hf.1 c_16
      refine lv_aload_n hx hb dX3_addPlane_133 rfl (lv_at hl 0 rfl) ?_
      refine lv_dup hx hb dX3_addPlane_134 rfl ?_
      refine gg_S_3 C hG inX3_addPlane_wsX30 (hts _ (List.mem_of_getElem? (i := 5) rfl)) dX3_addPlane_135 ?_
      refine lv_iconst (v := (1 : Int32)) hx hb dX3_addPlane_138 (by decide) ?_
      refine lv_iadd hx hb dX3_addPlane_139 ?_
      refine gp_S_3 C hG inX3_addPlane_wsX30 (hts _ (List.mem_of_getElem? (i := 5) rfl)) dX3_addPlane_140 (fun SI_17 H locs eSI_17 hG => ?_)
      replace hf := hf SI_17 eSI_17
      refine lv_iload hx hb dX3_addPlane_143 (lv_at hl 1 rfl) ?_
      exact g_iret C hG (hpost _ _ _ hf) dX3_addPlane_145
    · replace hf := hf.2 c_16
      refine lv_aload_n hx hb dX3_addPlane_115 rfl (lv_at hl 0 rfl) ?_
      refine lv_iload hx hb dX3_addPlane_116 (lv_at hl 2 rfl) ?_
      refine g_callVv0 (As := [.int y6]) C hG (kX3_tieToRelays hf) (cwV 1 hts gX3_addPlane_X3_tieToRelays rfl rfl rfl hdvX3_tieToRelays ⟨Nat.le_of_ble_eq_true rfl, Nat.le_of_ble_eq_true rfl⟩) (va_recv hK hG.1 (ci := 3) (q0 := 27) rfl rfl) rfl hl.1 rfl (Nat.le_of_ble_eq_true rfl) dX3_addPlane_118 ⟨Nat.zero_le _, Nat.zero_le _⟩ (fun g1 H locs hq hG => ?_)
      obtain ⟨SI_18, SX_19, rfl, hf⟩ := hq
      refine lv_aload_n hx hb dX3_addPlane_121 rfl (lv_at hl 0 rfl) ?_
      refine lv_iload hx hb dX3_addPlane_122 (lv_at hl 2 rfl) ?_
      refine g_callVv0 (As := [.int y6]) C hG (kX3_tieToPosts hf) (cwV 1 hts gX3_addPlane_X3_tieToPosts rfl rfl rfl hdvX3_tieToPosts ⟨Nat.le_of_ble_eq_true rfl, Nat.le_of_ble_eq_true rfl⟩) (va_recv hK hG.1 (ci := 3) (q0 := 27) rfl rfl) rfl hl.1 rfl (Nat.le_of_ble_eq_true rfl) dX3_addPlane_124 ⟨Nat.zero_le _, Nat.zero_le _⟩ (fun g1 H locs hq hG => ?_)
      obtain ⟨SI_20, SX_21, rfl, hf⟩ := hq
      obtain ⟨x6_22, ex6_22⟩ : ∃ y : Int32, y = y6 + (1 : Int32) := ⟨_, rfl⟩
      replace hf := hf x6_22 ex6_22
      refine lv_iinc (v := x6_22) (lv' := [(6, .int x6_22), (0, .ref (B 2)), (4, .int y4)]) hx hb dX3_addPlane_127 hl (k := 2) rfl (by rw [ex6_22]; rfl) (by decide) rfl (fun ls hl => ?_)
      refine lv_goto (tgt := 106) hx hb dX3_addPlane_130 (by decide) ?_
      exact hG106 SI_20 SX_21 y4 x6_22 _ _ _ hf hG (lv_sub hl [1, 2, 0] rfl)
set_option maxHeartbeats 4000000 in
set_option maxRecDepth 100000 in
theorem vX3_addPlane_h78 {p : Program} {l : Launch} {e : Env} {s : State} {m : MethodId} {args : Array Value} {below : List Frame} {meth : Method} {c : Code} {D : va_G} {B : Nat → Nat} {A : Nat → Prop} {K : sK} {L : sL} {Y : sY} {M : sM} {O : sO} {post : Int32 → sG → Prop} {Q : Int32 → (Nat → Int32) → (Nat → Nat → Int32) → Prop} (C : gX p s m args meth c cX3_addPlane 7 (some .int) wsX3_addPlane RX3 D B A) (hpost : ∀ (v : Int32) (SI : Nat → Int32) (SX : Nat → Nat → Int32), Q v SI SX → post v ((SI, SX), K, L, Y, M, O))  : ∀ (n78 : Nat) (SI : Nat → Int32) (SX : Nat → Nat → Int32) (y4 : Int32) (y5 : Int32) (y6 : Int32) (H : Heap) (locs : List Loc) (ls : Array Slot), fX3_addPlane_h78 Q n78 SI SX y4 y5 y6 → GS D B A s.heap ((SI, SX), K, L, Y, M, O) H locs → lv_has ls 7 [(0, .ref (B 2)), (4, .int y4), (5, .int y5), (6, .int y6)] → W p l e (headSpec wsX3_addPlane rX3_addPlane).room s m args below meth c H locs 0 0 (MQ below (va_Qi post (gB D B A) A) args s 0 0 A) (F0 m 78 ls []) := by
  obtain ⟨hx, hb, hml, hown, hts, hK, hr, hlk, hA, hN⟩ := id C
  intro n78
  induction n78 with
  | zero =>
    intro SI SX y4 y5 y6 H locs ls hf
    exact False.elim hf
  | succ n78 hG78 =>
    intro SI SX y4 y5 y6 H locs ls hf hG hl
    unfold fX3_addPlane_h78 at hf
    refine lv_iload hx hb dX3_addPlane_78 (lv_at hl 3 rfl) ?_
    refine lv_bipush (v := (6 : Int32)) hx hb dX3_addPlane_80 (by decide) ?_
    refine lv_icmp_gt (tgt := 102) hx hb dX3_addPlane_82 (by decide) (fun c_12 => ?_) (fun c_12 => ?_)
    · replace hf := hf.1 c_12
      refine lv_iload hx hb dX3_addPlane_102 (lv_at hl 2 rfl) ?_
      refine lv_istore (lv' := [(6, .int y5), (0, .ref (B 2)), (4, .int y4), (5, .int y5)]) hx hb dX3_addPlane_104 hl (by decide) rfl (fun ls hl => ?_)
      obtain ⟨n106, hf⟩ := hf
      exact vX3_addPlane_h106 C hpost  n106 SI SX y4 y5 _ _ _ hf hG (lv_sub hl [1, 2, 0] rfl)
    · replace hf := hf.2 c_12
      refine lv_aload_n hx hb dX3_addPlane_85 rfl (lv_at hl 0 rfl) ?_
      refine gg_S_5 C hG inX3_addPlane_wsX30 (hts _ (List.mem_of_getElem? (i := 4) rfl)) dX3_addPlane_86 ?_
      refine lv_iload hx hb dX3_addPlane_89 (lv_at hl 3 rfl) ?_
      refine lv_aload_n hx hb dX3_addPlane_91 rfl (lv_at hl 0 rfl) ?_
      refine gg_S_1 C hG inX3_addPlane_wsX30 (hts _ (List.mem_of_getElem? (i := 2) rfl)) dX3_addPlane_92 ?_
      obtain ⟨h_13, hf⟩ := hf
      refine gs_S_5 C hG h_13 dX3_addPlane_95 (fun SX_14 H locs eSX_14 hG => ?_)
      replace hf := hf SX_14 eSX_14
      obtain ⟨x6_15, ex6_15⟩ : ∃ y : Int32, y = y6 + (1 : Int32) := ⟨_, rfl⟩
      replace hf := hf x6_15 ex6_15
      refine lv_iinc (v := x6_15) (lv' := [(6, .int x6_15), (0, .ref (B 2)), (4, .int y4), (5, .int y5)]) hx hb dX3_addPlane_96 hl (k := 3) rfl (by rw [ex6_15]; rfl) (by decide) rfl (fun ls hl => ?_)
      refine lv_goto (tgt := 78) hx hb dX3_addPlane_99 (by decide) ?_
      exact hG78 SI SX_14 y4 y5 x6_15 _ _ _ hf hG (lv_sub hl [1, 2, 3, 0] rfl)
set_option maxHeartbeats 4000000 in
set_option maxRecDepth 100000 in
theorem vX3_addPlane_h15 {p : Program} {l : Launch} {e : Env} {s : State} {m : MethodId} {args : Array Value} {below : List Frame} {meth : Method} {c : Code} {D : va_G} {B : Nat → Nat} {A : Nat → Prop} {K : sK} {L : sL} {Y : sY} {M : sM} {O : sO} {post : Int32 → sG → Prop} {Q : Int32 → (Nat → Int32) → (Nat → Nat → Int32) → Prop} (C : gX p s m args meth c cX3_addPlane 7 (some .int) wsX3_addPlane RX3 D B A) (hpost : ∀ (v : Int32) (SI : Nat → Int32) (SX : Nat → Nat → Int32), Q v SI SX → post v ((SI, SX), K, L, Y, M, O))  : ∀ (n15 : Nat) (SI : Nat → Int32) (SX : Nat → Nat → Int32) (y1 : Int32) (y2 : Int32) (y3 : Int32) (y4 : Int32) (y5 : Int32) (y6 : Int32) (H : Heap) (locs : List Loc) (ls : Array Slot), fX3_addPlane_h15 Q n15 SI SX y1 y2 y3 y4 y5 y6 → GS D B A s.heap ((SI, SX), K, L, Y, M, O) H locs → lv_has ls 7 [(0, .ref (B 2)), (1, .int y1), (2, .int y2), (3, .int y3), (4, .int y4), (5, .int y5), (6, .int y6)] → W p l e (headSpec wsX3_addPlane rX3_addPlane).room s m args below meth c H locs 0 0 (MQ below (va_Qi post (gB D B A) A) args s 0 0 A) (F0 m 15 ls []) := by
  obtain ⟨hx, hb, hml, hown, hts, hK, hr, hlk, hA, hN⟩ := id C
  intro n15
  induction n15 with
  | zero =>
    intro SI SX y1 y2 y3 y4 y5 y6 H locs ls hf
    exact False.elim hf
  | succ n15 hG15 =>
    intro SI SX y1 y2 y3 y4 y5 y6 H locs ls hf hG hl
    unfold fX3_addPlane_h15 at hf
    refine lv_iload hx hb dX3_addPlane_15 (lv_at hl 6 rfl) ?_
    refine lv_iload_n hx hb dX3_addPlane_17 rfl (lv_at hl 1 rfl) ?_
    refine lv_icmp_ge (tgt := 56) hx hb dX3_addPlane_18 (by decide) (fun c_3 => ?_) (fun c_3 => ?_)
    · replace hf := hf.1 c_3
      refine lv_aload_n hx hb dX3_addPlane_56 rfl (lv_at hl 0 rfl) ?_
      refine lv_iload hx hb dX3_addPlane_57 (lv_at hl 4 rfl) ?_
      refine lv_iconst (v := (1 : Int32)) hx hb dX3_addPlane_59 (by decide) ?_
      refine lv_iadd hx hb dX3_addPlane_60 ?_
      refine gp_S_0 C hG inX3_addPlane_wsX30 (hts _ (List.mem_of_getElem? (i := 1) rfl)) dX3_addPlane_61 (fun SI_4 H locs eSI_4 hG => ?_)
      replace hf := hf SI_4 eSI_4
      refine lv_aload_n hx hb dX3_addPlane_64 rfl (lv_at hl 0 rfl) ?_
      refine lv_iload hx hb dX3_addPlane_65 (lv_at hl 5 rfl) ?_
      refine lv_iload_n hx hb dX3_addPlane_67 rfl (lv_at hl 1 rfl) ?_
      refine lv_iadd hx hb dX3_addPlane_68 ?_
      refine gp_S_1 C hG inX3_addPlane_wsX30 (hts _ (List.mem_of_getElem? (i := 2) rfl)) dX3_addPlane_69 (fun SI_5 H locs eSI_5 hG => ?_)
      replace hf := hf SI_5 eSI_5
      refine lv_aload_n hx hb dX3_addPlane_72 rfl (lv_at hl 0 rfl) ?_
      refine gg_S_0 C hG inX3_addPlane_wsX30 (hts _ (List.mem_of_getElem? (i := 1) rfl)) dX3_addPlane_73 ?_
      refine lv_topi (fun x6_6 ex6_6 => ?_)
      replace hf := hf x6_6 ex6_6
      refine lv_istore (lv' := [(6, .int x6_6), (0, .ref (B 2)), (1, .int y1), (2, .int y2), (3, .int y3), (4, .int y4), (5, .int y5)]) hx hb dX3_addPlane_76 hl (by decide) rfl (fun ls hl => ?_)
      obtain ⟨n78, hf⟩ := hf
      exact vX3_addPlane_h78 C hpost  n78 SI_5 SX y4 y5 x6_6 _ _ _ hf hG (lv_sub hl [1, 5, 6, 0] rfl)
    · replace hf := hf.2 c_3
      refine lv_aload_n hx hb dX3_addPlane_21 rfl (lv_at hl 0 rfl) ?_
      refine lv_iload hx hb dX3_addPlane_22 (lv_at hl 5 rfl) ?_
      refine lv_iload hx hb dX3_addPlane_24 (lv_at hl 6 rfl) ?_
      refine lv_iadd hx hb dX3_addPlane_26 ?_
      refine lv_iconst (v := (4 : Int32)) hx hb dX3_addPlane_27 (by decide) ?_
      refine lv_iload hx hb dX3_addPlane_28 (lv_at hl 6 rfl) ?_
      refine lv_imul hx hb dX3_addPlane_30 ?_
      refine lv_iload_n hx hb dX3_addPlane_31 rfl (lv_at hl 2 rfl) ?_
      refine lv_iadd hx hb dX3_addPlane_32 ?_
      refine lv_iload hx hb dX3_addPlane_33 (lv_at hl 4 rfl) ?_
      refine lv_iconst (v := (2 : Int32)) hx hb dX3_addPlane_35 (by decide) ?_
      refine g_callVv0 (As := [.int (y5 + y6), .int (((4 : Int32) * y6) + y2), .int y4, .int (2 : Int32)]) C hG (kX3_placeNode hf) (cwV 4 hts gX3_addPlane_X3_placeNode rfl rfl rfl hdvX3_placeNode ⟨Nat.le_of_ble_eq_true rfl, Nat.le_of_ble_eq_true rfl⟩) (va_recv hK hG.1 (ci := 3) (q0 := 27) rfl rfl) rfl hl.1 rfl (Nat.le_of_ble_eq_true rfl) dX3_addPlane_36 ⟨Nat.zero_le _, Nat.zero_le _⟩ (fun g1 H locs hq hG => ?_)
      obtain ⟨SI_7, SX_8, rfl, hf⟩ := hq
      refine lv_aload_n hx hb dX3_addPlane_39 rfl (lv_at hl 0 rfl) ?_
      refine gg_S_8 C hG inX3_addPlane_wsX30 (hts _ (List.mem_of_getElem? (i := 3) rfl)) dX3_addPlane_40 ?_
      refine lv_iload hx hb dX3_addPlane_43 (lv_at hl 5 rfl) ?_
      refine lv_iload hx hb dX3_addPlane_45 (lv_at hl 6 rfl) ?_
      refine lv_iadd hx hb dX3_addPlane_47 ?_
      refine lv_iload_n hx hb dX3_addPlane_48 rfl (lv_at hl 3 rfl) ?_
      obtain ⟨h_9, hf⟩ := hf
      refine gs_S_8 C hG h_9 dX3_addPlane_49 (fun SX_10 H locs eSX_10 hG => ?_)
      replace hf := hf SX_10 eSX_10
      obtain ⟨x6_11, ex6_11⟩ : ∃ y : Int32, y = y6 + (1 : Int32) := ⟨_, rfl⟩
      replace hf := hf x6_11 ex6_11
      refine lv_iinc (v := x6_11) (lv' := [(6, .int x6_11), (0, .ref (B 2)), (1, .int y1), (2, .int y2), (3, .int y3), (4, .int y4), (5, .int y5)]) hx hb dX3_addPlane_50 hl (k := 6) rfl (by rw [ex6_11]; rfl) (by decide) rfl (fun ls hl => ?_)
      refine lv_goto (tgt := 15) hx hb dX3_addPlane_53 (by decide) ?_
      exact hG15 SI_7 SX_10 y1 y2 y3 y4 y5 x6_11 _ _ _ hf hG (lv_sub hl [1, 2, 3, 4, 5, 6, 0] rfl)
set_option maxHeartbeats 4000000 in
set_option maxRecDepth 100000 in
theorem vX3_addPlane_b0 {p : Program} {l : Launch} {e : Env} {s : State} {m : MethodId} {args : Array Value} {below : List Frame} {meth : Method} {c : Code} {D : va_G} {B : Nat → Nat} {A : Nat → Prop} {K : sK} {L : sL} {Y : sY} {M : sM} {O : sO} {post : Int32 → sG → Prop} {Q : Int32 → (Nat → Int32) → (Nat → Nat → Int32) → Prop} (C : gX p s m args meth c cX3_addPlane 7 (some .int) wsX3_addPlane RX3 D B A) (hpost : ∀ (v : Int32) (SI : Nat → Int32) (SX : Nat → Nat → Int32), Q v SI SX → post v ((SI, SX), K, L, Y, M, O))  (SI : Nat → Int32) (SX : Nat → Nat → Int32) (x1 : Int32) (x2 : Int32) (x3 : Int32) (H : Heap) (locs : List Loc) (ls : Array Slot) (hf : fX3_addPlane Q SI SX x1 x2 x3) (hG : GS D B A s.heap ((SI, SX), K, L, Y, M, O) H locs) (hl : lv_has ls 7 [(0, .ref (B 2)), (1, .int x1), (2, .int x2), (3, .int x3)]) : W p l e (headSpec wsX3_addPlane rX3_addPlane).room s m args below meth c H locs 0 0 (MQ below (va_Qi post (gB D B A) A) args s 0 0 A) (F0 m 0 ls []) := by
  obtain ⟨hx, hb, hml, hown, hts, hK, hr, hlk, hA, hN⟩ := id C
  unfold fX3_addPlane at hf
  refine lv_aload_n hx hb dX3_addPlane_0 rfl (lv_at hl 0 rfl) ?_
  refine gg_S_0 C hG inX3_addPlane_wsX30 (hts _ (List.mem_of_getElem? (i := 1) rfl)) dX3_addPlane_1 ?_
  refine lv_topi (fun x4_1 ex4_1 => ?_)
  replace hf := hf x4_1 ex4_1
  refine lv_istore (lv' := [(4, .int x4_1), (0, .ref (B 2)), (1, .int x1), (2, .int x2), (3, .int x3)]) hx hb dX3_addPlane_4 hl (by decide) rfl (fun ls hl => ?_)
  refine lv_aload_n hx hb dX3_addPlane_6 rfl (lv_at hl 1 rfl) ?_
  refine gg_S_1 C hG inX3_addPlane_wsX30 (hts _ (List.mem_of_getElem? (i := 2) rfl)) dX3_addPlane_7 ?_
  refine lv_topi (fun x5_2 ex5_2 => ?_)
  replace hf := hf x5_2 ex5_2
  refine lv_istore (lv' := [(5, .int x5_2), (4, .int x4_1), (0, .ref (B 2)), (1, .int x1), (2, .int x2), (3, .int x3)]) hx hb dX3_addPlane_10 hl (by decide) rfl (fun ls hl => ?_)
  refine lv_iconst (v := (0 : Int32)) hx hb dX3_addPlane_12 (by decide) ?_
  refine lv_istore (lv' := [(6, .int (0 : Int32)), (5, .int x5_2), (4, .int x4_1), (0, .ref (B 2)), (1, .int x1), (2, .int x2), (3, .int x3)]) hx hb dX3_addPlane_13 hl (by decide) rfl (fun ls hl => ?_)
  obtain ⟨n15, hf⟩ := hf
  exact vX3_addPlane_h15 C hpost  n15 SI SX x1 x2 x3 x4_1 x5_2 (0 : Int32) _ _ _ hf hG (lv_sub hl [3, 4, 5, 6, 2, 1, 0] rfl)
set_option maxRecDepth 100000 in
theorem kX3_addPlane {l : Launch} {D : va_G} {B : Nat → Nat} {K : sK} {L : sL} {Y : sY} {M : sM} {O : sO}  {Q : Int32 → (Nat → Int32) → (Nat → Nat → Int32) → Prop} {SI : Nat → Int32} {SX : Nat → Nat → Int32} {x1 : Int32} {x2 : Int32} {x3 : Int32} (hf : fX3_addPlane Q SI SX x1 x2 x3) : gMi D B l yX3_addPlane wsX3_addPlane rX3_addPlane 0 0 [.ref (B 2), .int x1, .int x2, .int x3] ((SI, SX), K, L, Y, M, O) (fun r g1 => ∃ (SI1 : Nat → Int32) (SX1 : Nat → Nat → Int32), g1 = ((SI1, SX1), K, L, Y, M, O) ∧ Q r SI1 SX1) := by
  refine gMi_of (cc := cX3_addPlane) (maxL := 7) (ret := some .int) (by decide +kernel) rfl (Nat.le_of_ble_eq_true rfl) ?_
  intro p e s m below meth c A hA0 C hG ls hl
  exact vX3_addPlane_b0 C (fun v SI SX hq => ⟨SI, SX, rfl, hq⟩) SI SX x1 x2 x3 _ _ _ hf hG hl

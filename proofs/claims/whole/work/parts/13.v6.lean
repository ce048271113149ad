def rX6_thrown : Room := { frames := 0, cells := 0, slots := 0, locals := 0 }
theorem hdvX6_thrown : yX6_thrown.cls = RX6 ∧ yX6_thrown.cls ≠ "java/lang/invoke/MethodHandle" ∧ yX6_thrown.cls ≠ "java/lang/invoke/VarHandle" ∧ (parseMethodDescriptor yX6_thrown.desc).map (fun d => d.parameters.length) = some 0 := by decide +kernel
theorem inX6_thrown_wsX60 : ∀ w ∈ wsX60, w ∈ wsX6_thrown := (fun _ h => List.mem_cons_of_mem _ (List.mem_append_right _ h))
set_option maxHeartbeats 4000000 in
set_option maxRecDepth 100000 in
theorem vX6_thrown_b0 {p : Program} {l : Launch} {e : Env} {s : State} {m : MethodId} {args : Array Value} {below : List Frame} {meth : Method} {c : Code} {D : va_G} {B : Nat → Nat} {A : Nat → Prop} {S : sS} {K : sK} {L : sL} {Y : sY} {O : sO} {post : Int32 → sG → Prop} {I : Nat → Int32} {X : Nat → Nat → Int32} {Q : Int32 → Prop} (C : gX p s m args meth c cX6_thrown 1 (some .int) wsX6_thrown RX6 D B A) (hpost : ∀ (v : Int32) , Q v  → post v (S, K, L, Y, (I, X), O))    (H : Heap) (locs : List Loc) (ls : Array Slot) (hf : fX6_thrown I X Q) (hG : GS D B A s.heap (S, K, L, Y, (I, X), O) H locs) (hl : lv_has ls 1 [(0, .ref (B 0))]) : W p l e (headSpec wsX6_thrown rX6_thrown).room s m args below meth c H locs 0 0 (MQ below (va_Qi post (gB D B A) A) args s 0 0 A) (F0 m 0 ls []) := by
  obtain ⟨hx, hb, hml, hown, hts, hK, hr, hlk, hA, hN⟩ := id C
  unfold fX6_thrown at hf
  refine lv_aload_n hx hb dX6_thrown_0 rfl (lv_at hl 0 rfl) ?_
  refine gg_M_0 C hG inX6_thrown_wsX60 (hts _ (List.mem_of_getElem? (i := 1) rfl)) dX6_thrown_1 ?_
  exact g_iret C hG (hpost _ hf) dX6_thrown_4
set_option maxRecDepth 100000 in
theorem kX6_thrown {l : Launch} {D : va_G} {B : Nat → Nat} {S : sS} {K : sK} {L : sL} {Y : sY} {O : sO} {I : Nat → Int32} {X : Nat → Nat → Int32} {Q : Int32 → Prop}  (hf : fX6_thrown I X Q) : gMi D B l yX6_thrown wsX6_thrown rX6_thrown 0 0 [.ref (B 0)] (S, K, L, Y, (I, X), O) (fun r g1 => g1 = (S, K, L, Y, (I, X), O) ∧ Q r ) := by
  refine gMi_of (cc := cX6_thrown) (maxL := 1) (ret := some .int) (by decide +kernel) rfl (Nat.le_of_ble_eq_true rfl) ?_
  intro p e s m below meth c A hA0 C hG ls hl
  exact vX6_thrown_b0 C (fun v  hq => ⟨rfl, hq⟩)  _ _ _ hf hG hl
def rX6_throwsIf : Room := { frames := 0, cells := 0, slots := 0, locals := 0 }
theorem hdvX6_throwsIf : yX6_throwsIf.cls = RX6 ∧ yX6_throwsIf.cls ≠ "java/lang/invoke/MethodHandle" ∧ yX6_throwsIf.cls ≠ "java/lang/invoke/VarHandle" ∧ (parseMethodDescriptor yX6_throwsIf.desc).map (fun d => d.parameters.length) = some 2 := by decide +kernel
theorem inX6_throwsIf_wsX60 : ∀ w ∈ wsX60, w ∈ wsX6_throwsIf := (fun _ h => List.mem_cons_of_mem _ (List.mem_append_right _ h))
set_option maxHeartbeats 4000000 in
set_option maxRecDepth 100000 in
theorem vX6_throwsIf_b0 {p : Program} {l : Launch} {e : Env} {s : State} {m : MethodId} {args : Array Value} {below : List Frame} {meth : Method} {c : Code} {D : va_G} {B : Nat → Nat} {A : Nat → Prop} {S : sS} {K : sK} {L : sL} {Y : sY} {O : sO} {post : Int32 → sG → Prop} {Q : Int32 → (Nat → Int32) → (Nat → Nat → Int32) → Prop} (C : gX p s m args meth c cX6_throwsIf 3 (some .boolean) wsX6_throwsIf RX6 D B A) (hpost : ∀ (v : Int32) (I : Nat → Int32) (X : Nat → Nat → Int32), Q v I X → post v (S, K, L, Y, (I, X), O))  (I : Nat → Int32) (X : Nat → Nat → Int32) (x1 : Int32) (x2 : Int32) (H : Heap) (locs : List Loc) (ls : Array Slot) (hf : fX6_throwsIf Q I X x1 x2) (hG : GS D B A s.heap (S, K, L, Y, (I, X), O) H locs) (hl : lv_has ls 3 [(0, .ref (B 0)), (1, .int x1), (2, .int x2)]) : W p l e (headSpec wsX6_throwsIf rX6_throwsIf).room s m args below meth c H locs 0 0 (MQ below (va_Qi post (gB D B A) A) args s 0 0 A) (F0 m 0 ls []) := by
  obtain ⟨hx, hb, hml, hown, hts, hK, hr, hlk, hA, hN⟩ := id C
  unfold fX6_throwsIf at hf
  refine lv_iload_n hx hb dX6_throwsIf_0 rfl (lv_at hl 1 rfl) ?_
  refine lv_if_eq (tgt := 9) hx hb dX6_throwsIf_1 (by decide) (fun c_1 => ?_) (fun c_1 => ?_)
  · replace hf := hf.1 c_1
    refine lv_iload_n hx hb dX6_throwsIf_9 rfl (lv_at hl 1 rfl) ?_
    obtain ⟨h_2, hf⟩ := hf
    exact g_zret C hG h_2 (hpost _ _ _ hf) dX6_throwsIf_10
  · replace hf := hf.2 c_1
    refine lv_aload_n hx hb dX6_throwsIf_4 rfl (lv_at hl 0 rfl) ?_
    refine lv_iload_n hx hb dX6_throwsIf_5 rfl (lv_at hl 2 rfl) ?_
    refine gp_M_0 C hG inX6_throwsIf_wsX60 (hts _ (List.mem_of_getElem? (i := 1) rfl)) dX6_throwsIf_6 (fun I_3 H locs eI_3 hG => ?_)
    replace hf := hf I_3 eI_3
    refine lv_iload_n hx hb dX6_throwsIf_9 rfl (lv_at hl 1 rfl) ?_
    obtain ⟨h_4, hf⟩ := hf
    exact g_zret C hG h_4 (hpost _ _ _ hf) dX6_throwsIf_10
set_option maxRecDepth 100000 in
theorem kX6_throwsIf {l : Launch} {D : va_G} {B : Nat → Nat} {S : sS} {K : sK} {L : sL} {Y : sY} {O : sO}  {Q : Int32 → (Nat → Int32) → (Nat → Nat → Int32) → Prop} {I : Nat → Int32} {X : Nat → Nat → Int32} {x1 : Int32} {x2 : Int32} (hf : fX6_throwsIf Q I X x1 x2) : gMi D B l yX6_throwsIf wsX6_throwsIf rX6_throwsIf 0 0 [.ref (B 0), .int x1, .int x2] (S, K, L, Y, (I, X), O) (fun r g1 => ∃ (I1 : Nat → Int32) (X1 : Nat → Nat → Int32), g1 = (S, K, L, Y, (I1, X1), O) ∧ Q r I1 X1) := by
  refine gMi_of (cc := cX6_throwsIf) (maxL := 3) (ret := some .boolean) (by decide +kernel) rfl (Nat.le_of_ble_eq_true rfl) ?_
  intro p e s m below meth c A hA0 C hG ls hl
  exact vX6_throwsIf_b0 C (fun v I X hq => ⟨I, X, rfl, hq⟩) I X x1 x2 _ _ _ hf hG hl
def rX6_in : Room := { frames := 0, cells := 0, slots := 0, locals := 0 }
theorem hdsX6_in : yX6_in.cls ≠ "java/lang/invoke/MethodHandle" ∧ yX6_in.cls ≠ "java/lang/invoke/VarHandle" ∧ (parseMethodDescriptor yX6_in.desc).map (fun d => d.parameters.length) = some 3 := by decide +kernel
set_option maxHeartbeats 4000000 in
set_option maxRecDepth 100000 in
theorem vX6_in_b0 {p : Program} {l : Launch} {e : Env} {s : State} {m : MethodId} {args : Array Value} {below : List Frame} {meth : Method} {c : Code} {D : va_G} {B : Nat → Nat} {A : Nat → Prop} {S : sS} {K : sK} {L : sL} {Y : sY} {M : sM} {O : sO} {post : Int32 → sG → Prop} {Q : Int32 → Prop} (C : gX p s m args meth c cX6_in 3 (some .boolean) wsX6_in RX6 D B A) (hpost : ∀ (v : Int32) , Q v  → post v (S, K, L, Y, M, O))   (x0 : Int32) (x1 : Int32) (x2 : Int32) (H : Heap) (locs : List Loc) (ls : Array Slot) (hf : fX6_in Q x0 x1 x2) (hG : GS D B A s.heap (S, K, L, Y, M, O) H locs) (hl : lv_has ls 3 [(0, .int x0), (1, .int x1), (2, .int x2)]) : W p l e (headSpec wsX6_in rX6_in).room s m args below meth c H locs 0 0 (MQ below (va_Qi post (gB D B A) A) args s 0 0 A) (F0 m 0 ls []) := by
  obtain ⟨hx, hb, hml, hown, hts, hK, hr, hlk, hA, hN⟩ := id C
  unfold fX6_in at hf
  refine lv_iload_n hx hb dX6_in_0 rfl (lv_at hl 0 rfl) ?_
  refine lv_iload_n hx hb dX6_in_1 rfl (lv_at hl 1 rfl) ?_
  refine lv_icmp_lt (tgt := 14) hx hb dX6_in_2 (by decide) (fun c_1 => ?_) (fun c_1 => ?_)
  · replace hf := hf.1 c_1
    refine lv_iconst (v := (0 : Int32)) hx hb dX6_in_14 (by decide) ?_
    exact g_zret C hG rfl (hpost _ hf) dX6_in_15
  · replace hf := hf.2 c_1
    refine lv_iload_n hx hb dX6_in_5 rfl (lv_at hl 0 rfl) ?_
    refine lv_iload_n hx hb dX6_in_6 rfl (lv_at hl 2 rfl) ?_
    refine lv_icmp_gt (tgt := 14) hx hb dX6_in_7 (by decide) (fun c_2 => ?_) (fun c_2 => ?_)
    · replace hf := hf.1 c_2
      refine lv_iconst (v := (0 : Int32)) hx hb dX6_in_14 (by decide) ?_
      exact g_zret C hG rfl (hpost _ hf) dX6_in_15
    · replace hf := hf.2 c_2
      refine lv_iconst (v := (1 : Int32)) hx hb dX6_in_10 (by decide) ?_
      refine lv_goto (tgt := 15) hx hb dX6_in_11 (by decide) ?_
      exact g_zret C hG rfl (hpost _ hf) dX6_in_15
set_option maxRecDepth 100000 in
theorem kX6_in {l : Launch} {D : va_G} {B : Nat → Nat} {S : sS} {K : sK} {L : sL} {Y : sY} {M : sM} {O : sO}  {Q : Int32 → Prop} {x0 : Int32} {x1 : Int32} {x2 : Int32} (hf : fX6_in Q x0 x1 x2) : gMi D B l yX6_in wsX6_in rX6_in 0 0 [.int x0, .int x1, .int x2] (S, K, L, Y, M, O) (fun r g1 => g1 = (S, K, L, Y, M, O) ∧ Q r ) := by
  refine gMi_of (cc := cX6_in) (maxL := 3) (ret := some .boolean) (by decide +kernel) rfl (Nat.le_of_ble_eq_true rfl) ?_
  intro p e s m below meth c A hA0 C hG ls hl
  exact vX6_in_b0 C (fun v  hq => ⟨rfl, hq⟩) x0 x1 x2 _ _ _ hf hG hl
def rX6_noRelay : Room := { frames := 1, cells := 0, slots := 0, locals := 22 }
theorem hdvX6_noRelay : yX6_noRelay.cls = RX6 ∧ yX6_noRelay.cls ≠ "java/lang/invoke/MethodHandle" ∧ yX6_noRelay.cls ≠ "java/lang/invoke/VarHandle" ∧ (parseMethodDescriptor yX6_noRelay.desc).map (fun d => d.parameters.length) = some 1 := by decide +kernel
theorem inX6_noRelay_wsX60 : ∀ w ∈ wsX60, w ∈ wsX6_noRelay := (fun _ h => List.mem_cons_of_mem _ (List.mem_append_right _ h))
set_option maxHeartbeats 4000000 in
set_option maxRecDepth 100000 in
theorem vX6_noRelay_b0 {p : Program} {l : Launch} {e : Env} {s : State} {m : MethodId} {args : Array Value} {below : List Frame} {meth : Method} {c : Code} {D : va_G} {B : Nat → Nat} {A : Nat → Prop} {S : sS} {K : sK} {L : sL} {Y : sY} {O : sO} {post : Int32 → sG → Prop} {I : Nat → Int32} {X : Nat → Nat → Int32} {Q : Int32 → Prop} (C : gX p s m args meth c cX6_noRelay 2 (some .boolean) wsX6_noRelay RX6 D B A) (hpost : ∀ (v : Int32) , Q v  → post v (S, K, L, Y, (I, X), O))   (x1 : Int32) (H : Heap) (locs : List Loc) (ls : Array Slot) (hf : fX6_noRelay I X Q x1) (hG : GS D B A s.heap (S, K, L, Y, (I, X), O) H locs) (hl : lv_has ls 2 [(0, .ref (B 0)), (1, .int x1)]) : W p l e (headSpec wsX6_noRelay rX6_noRelay).room s m args below meth c H locs 0 0 (MQ below (va_Qi post (gB D B A) A) args s 0 0 A) (F0 m 0 ls []) := by
  obtain ⟨hx, hb, hml, hown, hts, hK, hr, hlk, hA, hN⟩ := id C
  unfold fX6_noRelay at hf
  refine lv_iload_n hx hb dX6_noRelay_0 rfl (lv_at hl 1 rfl) ?_
  refine lv_iconst (v := (0 : Int32)) hx hb dX6_noRelay_1 (by decide) ?_
  refine lv_aload_n hx hb dX6_noRelay_2 rfl (lv_at hl 0 rfl) ?_
  refine gg_M_9 C hG inX6_noRelay_wsX60 (hts _ (List.mem_of_getElem? (i := 1) rfl)) dX6_noRelay_3 ?_
  refine lv_iconst (v := (1 : Int32)) hx hb dX6_noRelay_6 (by decide) ?_
  refine lv_isub hx hb dX6_noRelay_7 ?_
  refine g_callSi0 (As := [.int x1, .int (0 : Int32), .int (I 9 - (1 : Int32))]) C hG (kX6_in hf) (va_cwS 3 hts gX6_noRelay_X6_in rfl rfl rfl hdsX6_in ⟨Nat.le_of_ble_eq_true rfl, Nat.le_of_ble_eq_true rfl⟩) rfl hl.1 rfl (Nat.le_of_ble_eq_true rfl) dX6_noRelay_8 ⟨Nat.zero_le _, Nat.zero_le _⟩ (fun r_1 g1 H locs hq hG => ?_)
  obtain ⟨rfl, hf⟩ := hq
  refine lv_if_ne (tgt := 18) hx hb dX6_noRelay_11 (by decide) (fun c_2 => ?_) (fun c_2 => ?_)
  · replace hf := hf.1 c_2
    refine lv_iconst (v := (0 : Int32)) hx hb dX6_noRelay_18 (by decide) ?_
    exact g_zret C hG rfl (hpost _ hf) dX6_noRelay_19
  · replace hf := hf.2 c_2
    refine lv_iconst (v := (1 : Int32)) hx hb dX6_noRelay_14 (by decide) ?_
    refine lv_goto (tgt := 19) hx hb dX6_noRelay_15 (by decide) ?_
    exact g_zret C hG rfl (hpost _ hf) dX6_noRelay_19
set_option maxRecDepth 100000 in
theorem kX6_noRelay {l : Launch} {D : va_G} {B : Nat → Nat} {S : sS} {K : sK} {L : sL} {Y : sY} {O : sO} {I : Nat → Int32} {X : Nat → Nat → Int32} {Q : Int32 → Prop} {x1 : Int32} (hf : fX6_noRelay I X Q x1) : gMi D B l yX6_noRelay wsX6_noRelay rX6_noRelay 0 0 [.ref (B 0), .int x1] (S, K, L, Y, (I, X), O) (fun r g1 => g1 = (S, K, L, Y, (I, X), O) ∧ Q r ) := by
  refine gMi_of (cc := cX6_noRelay) (maxL := 2) (ret := some .boolean) (by decide +kernel) rfl (Nat.le_of_ble_eq_true rfl) ?_
  intro p e s m below meth c A hA0 C hG ls hl
  exact vX6_noRelay_b0 C (fun v  hq => ⟨rfl, hq⟩) x1 _ _ _ hf hG hl
def rX6_noPost : Room := { frames := 1, cells := 0, slots := 0, locals := 22 }
theorem hdvX6_noPost : yX6_noPost.cls = RX6 ∧ yX6_noPost.cls ≠ "java/lang/invoke/MethodHandle" ∧ yX6_noPost.cls ≠ "java/lang/invoke/VarHandle" ∧ (parseMethodDescriptor yX6_noPost.desc).map (fun d => d.parameters.length) = some 1 := by decide +kernel
theorem inX6_noPost_wsX60 : ∀ w ∈ wsX60, w ∈ wsX6_noPost := (fun _ h => List.mem_cons_of_mem _ (List.mem_append_right _ h))
set_option maxHeartbeats 4000000 in
set_option maxRecDepth 100000 in
theorem vX6_noPost_b0 {p : Program} {l : Launch} {e : Env} {s : State} {m : MethodId} {args : Array Value} {below : List Frame} {meth : Method} {c : Code} {D : va_G} {B : Nat → Nat} {A : Nat → Prop} {S : sS} {K : sK} {L : sL} {Y : sY} {O : sO} {post : Int32 → sG → Prop} {I : Nat → Int32} {X : Nat → Nat → Int32} {Q : Int32 → Prop} (C : gX p s m args meth c cX6_noPost 2 (some .boolean) wsX6_noPost RX6 D B A) (hpost : ∀ (v : Int32) , Q v  → post v (S, K, L, Y, (I, X), O))   (x1 : Int32) (H : Heap) (locs : List Loc) (ls : Array Slot) (hf : fX6_noPost I X Q x1) (hG : GS D B A s.heap (S, K, L, Y, (I, X), O) H locs) (hl : lv_has ls 2 [(0, .ref (B 0)), (1, .int x1)]) : W p l e (headSpec wsX6_noPost rX6_noPost).room s m args below meth c H locs 0 0 (MQ below (va_Qi post (gB D B A) A) args s 0 0 A) (F0 m 0 ls []) := by
  obtain ⟨hx, hb, hml, hown, hts, hK, hr, hlk, hA, hN⟩ := id C
  unfold fX6_noPost at hf
  refine lv_iload_n hx hb dX6_noPost_0 rfl (lv_at hl 1 rfl) ?_
  refine lv_iconst (v := (0 : Int32)) hx hb dX6_noPost_1 (by decide) ?_
  refine lv_aload_n hx hb dX6_noPost_2 rfl (lv_at hl 0 rfl) ?_
  refine gg_M_13 C hG inX6_noPost_wsX60 (hts _ (List.mem_of_getElem? (i := 1) rfl)) dX6_noPost_3 ?_
  refine lv_iconst (v := (1 : Int32)) hx hb dX6_noPost_6 (by decide) ?_
  refine lv_isub hx hb dX6_noPost_7 ?_
  refine g_callSi0 (As := [.int x1, .int (0 : Int32), .int (I 13 - (1 : Int32))]) C hG (kX6_in hf) (va_cwS 3 hts gX6_noPost_X6_in rfl rfl rfl hdsX6_in ⟨Nat.le_of_ble_eq_true rfl, Nat.le_of_ble_eq_true rfl⟩) rfl hl.1 rfl (Nat.le_of_ble_eq_true rfl) dX6_noPost_8 ⟨Nat.zero_le _, Nat.zero_le _⟩ (fun r_1 g1 H locs hq hG => ?_)
  obtain ⟨rfl, hf⟩ := hq
  refine lv_if_ne (tgt := 18) hx hb dX6_noPost_11 (by decide) (fun c_2 => ?_) (fun c_2 => ?_)
  · replace hf := hf.1 c_2
    refine lv_iconst (v := (0 : Int32)) hx hb dX6_noPost_18 (by decide) ?_
    exact g_zret C hG rfl (hpost _ hf) dX6_noPost_19
  · replace hf := hf.2 c_2
    refine lv_iconst (v := (1 : Int32)) hx hb dX6_noPost_14 (by decide) ?_
    refine lv_goto (tgt := 19) hx hb dX6_noPost_15 (by decide) ?_
    exact g_zret C hG rfl (hpost _ hf) dX6_noPost_19
set_option maxRecDepth 100000 in
theorem kX6_noPost {l : Launch} {D : va_G} {B : Nat → Nat} {S : sS} {K : sK} {L : sL} {Y : sY} {O : sO} {I : Nat → Int32} {X : Nat → Nat → Int32} {Q : Int32 → Prop} {x1 : Int32} (hf : fX6_noPost I X Q x1) : gMi D B l yX6_noPost wsX6_noPost rX6_noPost 0 0 [.ref (B 0), .int x1] (S, K, L, Y, (I, X), O) (fun r g1 => g1 = (S, K, L, Y, (I, X), O) ∧ Q r ) := by
  refine gMi_of (cc := cX6_noPost) (maxL := 2) (ret := some .boolean) (by decide +kernel) rfl (Nat.le_of_ble_eq_true rfl) ?_
  intro p e s m below meth c A hA0 C hG ls hl
  exact vX6_noPost_b0 C (fun v  hq => ⟨rfl, hq⟩) x1 _ _ _ hf hG hl
def rX6_noTick : Room := { frames := 1, cells := 0, slots := 0, locals := 22 }
theorem hdsX6_noTick : yX6_noTick.cls ≠ "java/lang/invoke/MethodHandle" ∧ yX6_noTick.cls ≠ "java/lang/invoke/VarHandle" ∧ (parseMethodDescriptor yX6_noTick.desc).map (fun d => d.parameters.length) = some 1 := by decide +kernel
set_option maxHeartbeats 4000000 in
set_option maxRecDepth 100000 in
theorem vX6_noTick_b0 {p : Program} {l : Launch} {e : Env} {s : State} {m : MethodId} {args : Array Value} {below : List Frame} {meth : Method} {c : Code} {D : va_G} {B : Nat → Nat} {A : Nat → Prop} {S : sS} {K : sK} {L : sL} {Y : sY} {M : sM} {O : sO} {post : Int32 → sG → Prop} {Q : Int32 → Prop} (C : gX p s m args meth c cX6_noTick 1 (some .boolean) wsX6_noTick RX6 D B A) (hpost : ∀ (v : Int32) , Q v  → post v (S, K, L, Y, M, O))   (x0 : Int32) (H : Heap) (locs : List Loc) (ls : Array Slot) (hf : fX6_noTick Q x0) (hG : GS D B A s.heap (S, K, L, Y, M, O) H locs) (hl : lv_has ls 1 [(0, .int x0)]) : W p l e (headSpec wsX6_noTick rX6_noTick).room s m args below meth c H locs 0 0 (MQ below (va_Qi post (gB D B A) A) args s 0 0 A) (F0 m 0 ls []) := by
  obtain ⟨hx, hb, hml, hown, hts, hK, hr, hlk, hA, hN⟩ := id C
  unfold fX6_noTick at hf
  refine lv_iload_n hx hb dX6_noTick_0 rfl (lv_at hl 0 rfl) ?_
  refine lv_iconst (v := (0 : Int32)) hx hb dX6_noTick_1 (by decide) ?_
  refine lv_ldc (v := (100000000 : Int32)) hx hb hown (hts _ (List.mem_of_getElem? (i := 1) rfl)) dX6_noTick_2 ?_
  refine g_callSi0 (As := [.int x0, .int (0 : Int32), .int (100000000 : Int32)]) C hG (kX6_in hf) (va_cwS 3 hts gX6_noTick_X6_in rfl rfl rfl hdsX6_in ⟨Nat.le_of_ble_eq_true rfl, Nat.le_of_ble_eq_true rfl⟩) rfl hl.1 rfl (Nat.le_of_ble_eq_true rfl) dX6_noTick_4 ⟨Nat.zero_le _, Nat.zero_le _⟩ (fun r_1 g1 H locs hq hG => ?_)
  obtain ⟨rfl, hf⟩ := hq
  refine lv_if_ne (tgt := 14) hx hb dX6_noTick_7 (by decide) (fun c_2 => ?_) (fun c_2 => ?_)
  · replace hf := hf.1 c_2
    refine lv_iconst (v := (0 : Int32)) hx hb dX6_noTick_14 (by decide) ?_
    exact g_zret C hG rfl (hpost _ hf) dX6_noTick_15
  · replace hf := hf.2 c_2
    refine lv_iconst (v := (1 : Int32)) hx hb dX6_noTick_10 (by decide) ?_
    refine lv_goto (tgt := 15) hx hb dX6_noTick_11 (by decide) ?_
    exact g_zret C hG rfl (hpost _ hf) dX6_noTick_15
set_option maxRecDepth 100000 in
theorem kX6_noTick {l : Launch} {D : va_G} {B : Nat → Nat} {S : sS} {K : sK} {L : sL} {Y : sY} {M : sM} {O : sO}  {Q : Int32 → Prop} {x0 : Int32} (hf : fX6_noTick Q x0) : gMi D B l yX6_noTick wsX6_noTick rX6_noTick 0 0 [.int x0] (S, K, L, Y, M, O) (fun r g1 => g1 = (S, K, L, Y, M, O) ∧ Q r ) := by
  refine gMi_of (cc := cX6_noTick) (maxL := 1) (ret := some .boolean) (by decide +kernel) rfl (Nat.le_of_ble_eq_true rfl) ?_
  intro p e s m below meth c A hA0 C hG ls hl
  exact vX6_noTick_b0 C (fun v  hq => ⟨rfl, hq⟩) x0 _ _ _ hf hG hl
def rX6_forgets : Room := { frames := 0, cells := 0, slots := 0, locals := 0 }
theorem hdvX6_forgets : yX6_forgets.cls = RX6 ∧ yX6_forgets.cls ≠ "java/lang/invoke/MethodHandle" ∧ yX6_forgets.cls ≠ "java/lang/invoke/VarHandle" ∧ (parseMethodDescriptor yX6_forgets.desc).map (fun d => d.parameters.length) = some 0 := by decide +kernel
theorem inX6_forgets_wsX60 : ∀ w ∈ wsX60, w ∈ wsX6_forgets := (fun _ h => List.mem_cons_of_mem _ (List.mem_append_right _ h))
set_option maxHeartbeats 4000000 in
set_option maxRecDepth 100000 in
theorem vX6_forgets_h2 {p : Program} {l : Launch} {e : Env} {s : State} {m : MethodId} {args : Array Value} {below : List Frame} {meth : Method} {c : Code} {D : va_G} {B : Nat → Nat} {A : Nat → Prop} {S : sS} {K : sK} {L : sL} {Y : sY} {O : sO} {post : sG → Prop} {Q : (Nat → Int32) → (Nat → Nat → Int32) → Prop} (C : gX p s m args meth c cX6_forgets 2 (none) wsX6_forgets RX6 D B A) (hpost : ∀ (I : Nat → Int32) (X : Nat → Nat → Int32), Q I X → post (S, K, L, Y, (I, X), O))  : ∀ (n2 : Nat) (I : Nat → Int32) (X : Nat → Nat → Int32) (y1 : Int32) (H : Heap) (locs : List Loc) (ls : Array Slot), fX6_forgets_h2 Q n2 I X y1 → GS D B A s.heap (S, K, L, Y, (I, X), O) H locs → lv_has ls 2 [(0, .ref (B 0)), (1, .int y1)] → W p l e (headSpec wsX6_forgets rX6_forgets).room s m args below meth c H locs 0 0 (MQ below (va_Qv post (gB D B A) A) args s 0 0 A) (F0 m 2 ls []) := by
  obtain ⟨hx, hb, hml, hown, hts, hK, hr, hlk, hA, hN⟩ := id C
  intro n2
  induction n2 with
  | zero =>
    intro I X y1 H locs ls hf
    exact False.elim hf
  | succ n2 hG2 =>
    intro I X y1 H locs ls hf hG hl
    unfold fX6_forgets_h2 at hf
    refine lv_iload_n hx hb dX6_forgets_2 rfl (lv_at hl 1 rfl) ?_
    refine lv_bipush (v := (8 : Int32)) hx hb dX6_forgets_3 (by decide) ?_
    refine lv_icmp_ge (tgt := 21) hx hb dX6_forgets_5 (by decide) (fun c_1 => ?_) (fun c_1 => ?_)
    · replace hf := hf.1 c_1
      exact g_vret C hG (hpost _ _ hf) dX6_forgets_21
    · replace hf := hf.2 c_1
      refine lv_aload_n hx hb dX6_forgets_8 rfl (lv_at hl 0 rfl) ?_
      refine gg_M_15 C hG inX6_forgets_wsX60 (hts _ (List.mem_of_getElem? (i := 1) rfl)) dX6_forgets_9 ?_
      refine lv_iload_n hx hb dX6_forgets_12 rfl (lv_at hl 1 rfl) ?_
      refine lv_iconst (v := (0 : Int32)) hx hb dX6_forgets_13 (by decide) ?_
      obtain ⟨h_2, hf⟩ := hf
      refine gs_M_15 C hG h_2 dX6_forgets_14 (fun X_3 H locs eX_3 hG => ?_)
      replace hf := hf X_3 eX_3
      obtain ⟨x1_4, ex1_4⟩ : ∃ y : Int32, y = y1 + (1 : Int32) := ⟨_, rfl⟩
      replace hf := hf x1_4 ex1_4
      refine lv_iinc (v := x1_4) (lv' := [(1, .int x1_4), (0, .ref (B 0))]) hx hb dX6_forgets_15 hl (k := 1) rfl (by rw [ex1_4]; rfl) (by decide) rfl (fun ls hl => ?_)
      refine lv_goto (tgt := 2) hx hb dX6_forgets_18 (by decide) ?_
      exact hG2 I X_3 x1_4 _ _ _ hf hG (lv_sub hl [1, 0] rfl)
set_option maxHeartbeats 4000000 in
set_option maxRecDepth 100000 in
theorem vX6_forgets_b0 {p : Program} {l : Launch} {e : Env} {s : State} {m : MethodId} {args : Array Value} {below : List Frame} {meth : Method} {c : Code} {D : va_G} {B : Nat → Nat} {A : Nat → Prop} {S : sS} {K : sK} {L : sL} {Y : sY} {O : sO} {post : sG → Prop} {Q : (Nat → Int32) → (Nat → Nat → Int32) → Prop} (C : gX p s m args meth c cX6_forgets 2 (none) wsX6_forgets RX6 D B A) (hpost : ∀ (I : Nat → Int32) (X : Nat → Nat → Int32), Q I X → post (S, K, L, Y, (I, X), O))  (I : Nat → Int32) (X : Nat → Nat → Int32)  (H : Heap) (locs : List Loc) (ls : Array Slot) (hf : fX6_forgets Q I X) (hG : GS D B A s.heap (S, K, L, Y, (I, X), O) H locs) (hl : lv_has ls 2 [(0, .ref (B 0))]) : W p l e (headSpec wsX6_forgets rX6_forgets).room s m args below meth c H locs 0 0 (MQ below (va_Qv post (gB D B A) A) args s 0 0 A) (F0 m 0 ls []) := by
  obtain ⟨hx, hb, hml, hown, hts, hK, hr, hlk, hA, hN⟩ := id C
  unfold fX6_forgets at hf
  refine lv_iconst (v := (0 : Int32)) hx hb dX6_forgets_0 (by decide) ?_
  refine lv_istore_n (lv' := [(1, .int (0 : Int32)), (0, .ref (B 0))]) hx hb dX6_forgets_1 rfl hl (by decide) rfl (fun ls hl => ?_)
  obtain ⟨n2, hf⟩ := hf
  exact vX6_forgets_h2 C hpost  n2 I X (0 : Int32) _ _ _ hf hG (lv_sub hl [1, 0] rfl)
set_option maxRecDepth 100000 in
theorem kX6_forgets {l : Launch} {D : va_G} {B : Nat → Nat} {S : sS} {K : sK} {L : sL} {Y : sY} {O : sO}  {Q : (Nat → Int32) → (Nat → Nat → Int32) → Prop} {I : Nat → Int32} {X : Nat → Nat → Int32} (hf : fX6_forgets Q I X) : gMv D B l yX6_forgets wsX6_forgets rX6_forgets 0 0 [.ref (B 0)] (S, K, L, Y, (I, X), O) (fun g1 => ∃ (I1 : Nat → Int32) (X1 : Nat → Nat → Int32), g1 = (S, K, L, Y, (I1, X1), O) ∧ Q I1 X1) := by
  refine gMv_of (cc := cX6_forgets) (maxL := 2) (ret := none) (by decide +kernel) rfl (Nat.le_of_ble_eq_true rfl) ?_
  intro p e s m below meth c A hA0 C hG ls hl
  exact vX6_forgets_b0 C (fun I X hq => ⟨I, X, rfl, hq⟩) I X _ _ _ hf hG hl
def rX6_placeOf : Room := { frames := 0, cells := 0, slots := 0, locals := 0 }
theorem hdvX6_placeOf : yX6_placeOf.cls = RX6 ∧ yX6_placeOf.cls ≠ "java/lang/invoke/MethodHandle" ∧ yX6_placeOf.cls ≠ "java/lang/invoke/VarHandle" ∧ (parseMethodDescriptor yX6_placeOf.desc).map (fun d => d.parameters.length) = some 2 := by decide +kernel
theorem inX6_placeOf_wsX60 : ∀ w ∈ wsX60, w ∈ wsX6_placeOf := (fun _ h => List.mem_cons_of_mem _ (List.mem_append_right _ h))
set_option maxHeartbeats 4000000 in
set_option maxRecDepth 100000 in
theorem vX6_placeOf_b0 {p : Program} {l : Launch} {e : Env} {s : State} {m : MethodId} {args : Array Value} {below : List Frame} {meth : Method} {c : Code} {D : va_G} {B : Nat → Nat} {A : Nat → Prop} {S : sS} {K : sK} {L : sL} {Y : sY} {O : sO} {post : Int32 → sG → Prop} {I : Nat → Int32} {X : Nat → Nat → Int32} {Q : Int32 → Prop} (C : gX p s m args meth c cX6_placeOf 4 (some .int) wsX6_placeOf RX6 D B A) (hpost : ∀ (v : Int32) , Q v  → post v (S, K, L, Y, (I, X), O))   (x1 : Int32) (x2 : Int32) (H : Heap) (locs : List Loc) (ls : Array Slot) (hf : fX6_placeOf I X Q x1 x2) (hG : GS D B A s.heap (S, K, L, Y, (I, X), O) H locs) (hl : lv_has ls 4 [(0, .ref (B 0)), (1, .int x1), (2, .int x2)]) : W p l e (headSpec wsX6_placeOf rX6_placeOf).room s m args below meth c H locs 0 0 (MQ below (va_Qi post (gB D B A) A) args s 0 0 A) (F0 m 0 ls []) := by
  obtain ⟨hx, hb, hml, hown, hts, hK, hr, hlk, hA, hN⟩ := id C
  unfold fX6_placeOf at hf
  refine lv_aload_n hx hb dX6_placeOf_0 rfl (lv_at hl 0 rfl) ?_
  refine gg_M_7 C hG inX6_placeOf_wsX60 (hts _ (List.mem_of_getElem? (i := 1) rfl)) dX6_placeOf_1 ?_
  refine lv_iload_n hx hb dX6_placeOf_4 rfl (lv_at hl 1 rfl) ?_
  obtain ⟨h_1, hf⟩ := hf
  refine ga_M_7 C hG h_1 dX6_placeOf_5 ?_
  refine lv_topi (fun x3_2 ex3_2 => ?_)
  replace hf := hf x3_2 ex3_2
  refine lv_istore_n (lv' := [(3, .int x3_2), (0, .ref (B 0)), (1, .int x1), (2, .int x2)]) hx hb dX6_placeOf_6 rfl hl (by decide) rfl (fun ls hl => ?_)
  refine lv_iconst (v := (4 : Int32)) hx hb dX6_placeOf_7 (by decide) ?_
  refine lv_iload_n hx hb dX6_placeOf_8 rfl (lv_at hl 2 rfl) ?_
  refine lv_aload_n hx hb dX6_placeOf_9 rfl (lv_at hl 1 rfl) ?_
  refine gg_M_5 C hG inX6_placeOf_wsX60 (hts _ (List.mem_of_getElem? (i := 2) rfl)) dX6_placeOf_10 ?_
  refine lv_iload_n hx hb dX6_placeOf_13 rfl (lv_at hl 0 rfl) ?_
  obtain ⟨h_3, hf⟩ := hf
  refine ga_M_5 C hG h_3 dX6_placeOf_14 ?_
  refine lv_isub hx hb dX6_placeOf_15 ?_
  refine lv_imul hx hb dX6_placeOf_16 ?_
  refine lv_aload_n hx hb dX6_placeOf_17 rfl (lv_at hl 1 rfl) ?_
  refine gg_M_3 C hG inX6_placeOf_wsX60 (hts _ (List.mem_of_getElem? (i := 3) rfl)) dX6_placeOf_18 ?_
  refine lv_iload_n hx hb dX6_placeOf_21 rfl (lv_at hl 0 rfl) ?_
  obtain ⟨h_4, hf⟩ := hf
  refine ga_M_3 C hG h_4 dX6_placeOf_22 ?_
  refine lv_iadd hx hb dX6_placeOf_23 ?_
  refine lv_aload_n hx hb dX6_placeOf_24 rfl (lv_at hl 1 rfl) ?_
  refine gg_M_4 C hG inX6_placeOf_wsX60 (hts _ (List.mem_of_getElem? (i := 4) rfl)) dX6_placeOf_25 ?_
  refine lv_iload_n hx hb dX6_placeOf_28 rfl (lv_at hl 0 rfl) ?_
  obtain ⟨h_5, hf⟩ := hf
  refine ga_M_4 C hG h_5 dX6_placeOf_29 ?_
  refine lv_bipush (v := (32 : Int32)) hx hb dX6_placeOf_30 (by decide) ?_
  refine lv_iadd hx hb dX6_placeOf_32 ?_
  refine lv_iload_n hx hb dX6_placeOf_33 rfl (lv_at hl 3 rfl) ?_
  refine lv_bipush (v := (32 : Int32)) hx hb dX6_placeOf_34 (by decide) ?_
  refine lv_irem hx hb dX6_placeOf_36 (by decide) ?_
  refine lv_imul hx hb dX6_placeOf_37 ?_
  refine lv_iadd hx hb dX6_placeOf_38 ?_
  refine lv_bipush (v := (32 : Int32)) hx hb dX6_placeOf_39 (by decide) ?_
  refine lv_irem hx hb dX6_placeOf_41 (by decide) ?_
  exact g_iret C hG (hpost _ hf) dX6_placeOf_42
set_option maxRecDepth 100000 in
theorem kX6_placeOf {l : Launch} {D : va_G} {B : Nat → Nat} {S : sS} {K : sK} {L : sL} {Y : sY} {O : sO} {I : Nat → Int32} {X : Nat → Nat → Int32} {Q : Int32 → Prop} {x1 : Int32} {x2 : Int32} (hf : fX6_placeOf I X Q x1 x2) : gMi D B l yX6_placeOf wsX6_placeOf rX6_placeOf 0 0 [.ref (B 0), .int x1, .int x2] (S, K, L, Y, (I, X), O) (fun r g1 => g1 = (S, K, L, Y, (I, X), O) ∧ Q r ) := by
  refine gMi_of (cc := cX6_placeOf) (maxL := 4) (ret := some .int) (by decide +kernel) rfl (Nat.le_of_ble_eq_true rfl) ?_
  intro p e s m below meth c A hA0 C hG ls hl
  exact vX6_placeOf_b0 C (fun v  hq => ⟨rfl, hq⟩) x1 x2 _ _ _ hf hG hl
def rX6_over : Room := { frames := 2, cells := 0, slots := 0, locals := 43 }
theorem hdvX6_over : yX6_over.cls = RX6 ∧ yX6_over.cls ≠ "java/lang/invoke/MethodHandle" ∧ yX6_over.cls ≠ "java/lang/invoke/VarHandle" ∧ (parseMethodDescriptor yX6_over.desc).map (fun d => d.parameters.length) = some 2 := by decide +kernel
theorem inX6_over_wsX60 : ∀ w ∈ wsX60, w ∈ wsX6_over := (fun _ h => List.mem_cons_of_mem _ (List.mem_append_right _ h))
set_option maxHeartbeats 4000000 in
set_option maxRecDepth 100000 in
theorem vX6_over_b30 {p : Program} {l : Launch} {e : Env} {s : State} {m : MethodId} {args : Array Value} {below : List Frame} {meth : Method} {c : Code} {D : va_G} {B : Nat → Nat} {A : Nat → Prop} {S : sS} {K : sK} {L : sL} {Y : sY} {O : sO} {post : Int32 → sG → Prop} {Q : Int32 → (Nat → Int32) → (Nat → Nat → Int32) → Prop} (C : gX p s m args meth c cX6_over 3 (some .int) wsX6_over RX6 D B A) (hpost : ∀ (v : Int32) (I : Nat → Int32) (X : Nat → Nat → Int32), Q v I X → post v (S, K, L, Y, (I, X), O))  (I : Nat → Int32) (X : Nat → Nat → Int32)  (H : Heap) (locs : List Loc) (ls : Array Slot) (hf : fX6_over_b30 Q I X) (hG : GS D B A s.heap (S, K, L, Y, (I, X), O) H locs) (hl : lv_has ls 3 []) : W p l e (headSpec wsX6_over rX6_over).room s m args below meth c H locs 0 0 (MQ below (va_Qi post (gB D B A) A) args s 0 0 A) (F0 m 30 ls []) := by
  obtain ⟨hx, hb, hml, hown, hts, hK, hr, hlk, hA, hN⟩ := id C
  unfold fX6_over_b30 at hf
  refine lv_iconst (v := (0 : Int32)) hx hb dX6_over_30 (by decide) ?_
  refine lv_goto (tgt := 40) hx hb dX6_over_31 (by decide) ?_
  exact g_iret C hG (hpost _ _ _ hf) dX6_over_40
set_option maxHeartbeats 4000000 in
set_option maxRecDepth 100000 in
theorem vX6_over_b0 {p : Program} {l : Launch} {e : Env} {s : State} {m : MethodId} {args : Array Value} {below : List Frame} {meth : Method} {c : Code} {D : va_G} {B : Nat → Nat} {A : Nat → Prop} {S : sS} {K : sK} {L : sL} {Y : sY} {O : sO} {post : Int32 → sG → Prop} {Q : Int32 → (Nat → Int32) → (Nat → Nat → Int32) → Prop} (C : gX p s m args meth c cX6_over 3 (some .int) wsX6_over RX6 D B A) (hpost : ∀ (v : Int32) (I : Nat → Int32) (X : Nat → Nat → Int32), Q v I X → post v (S, K, L, Y, (I, X), O))  (I : Nat → Int32) (X : Nat → Nat → Int32) (x1 : Int32) (x2 : Int32) (H : Heap) (locs : List Loc) (ls : Array Slot) (hf : fX6_over Q I X x1 x2) (hG : GS D B A s.heap (S, K, L, Y, (I, X), O) H locs) (hl : lv_has ls 3 [(0, .ref (B 0)), (1, .int x1), (2, .int x2)]) : W p l e (headSpec wsX6_over rX6_over).room s m args below meth c H locs 0 0 (MQ below (va_Qi post (gB D B A) A) args s 0 0 A) (F0 m 0 ls []) := by
  obtain ⟨hx, hb, hml, hown, hts, hK, hr, hlk, hA, hN⟩ := id C
  unfold fX6_over at hf
  refine lv_aload_n hx hb dX6_over_0 rfl (lv_at hl 0 rfl) ?_
  refine lv_iconst (v := (0 : Int32)) hx hb dX6_over_1 (by decide) ?_
  refine gp_M_0 C hG inX6_over_wsX60 (hts _ (List.mem_of_getElem? (i := 1) rfl)) dX6_over_2 (fun I_1 H locs eI_1 hG => ?_)
  replace hf := hf I_1 eI_1
  refine lv_aload_n hx hb dX6_over_5 rfl (lv_at hl 0 rfl) ?_
  refine lv_aload_n hx hb dX6_over_6 rfl (lv_at hl 0 rfl) ?_
  refine lv_iload_n hx hb dX6_over_7 rfl (lv_at hl 1 rfl) ?_
  refine g_callVi0 (As := [.int x1]) C hG (kX6_noRelay hf) (cwV 1 hts gX6_over_X6_noRelay rfl rfl rfl hdvX6_noRelay ⟨Nat.le_of_ble_eq_true rfl, Nat.le_of_ble_eq_true rfl⟩) (va_recv hK hG.1 (ci := 6) (q0 := 0) rfl rfl) rfl hl.1 rfl (Nat.le_of_ble_eq_true rfl) dX6_over_8 ⟨Nat.zero_le _, Nat.zero_le _⟩ (fun r_2 g1 H locs hq hG => ?_)
  obtain ⟨rfl, hf⟩ := hq
  refine lv_iconst (v := (1 : Int32)) hx hb dX6_over_11 (by decide) ?_
  refine g_callVi0 (As := [.int r_2, .int (1 : Int32)]) C hG (kX6_throwsIf hf) (cwV 2 hts gX6_over_X6_throwsIf rfl rfl rfl hdvX6_throwsIf ⟨Nat.le_of_ble_eq_true rfl, Nat.le_of_ble_eq_true rfl⟩) (va_recv hK hG.1 (ci := 6) (q0 := 0) rfl rfl) rfl hl.1 rfl (Nat.le_of_ble_eq_true rfl) dX6_over_12 ⟨Nat.zero_le _, Nat.zero_le _⟩ (fun r_5 g1 H locs hq hG => ?_)
  obtain ⟨I_3, X_4, rfl, hf⟩ := hq
  refine lv_if_ne (tgt := 30) hx hb dX6_over_15 (by decide) (fun c_6 => ?_) (fun c_6 => ?_)
  · replace hf := hf.1 c_6
    exact vX6_over_b30 C hpost  I_3 X_4 _ _ _ hf hG (lv_sub hl [] rfl)
  · replace hf := hf.2 c_6
    refine lv_aload_n hx hb dX6_over_18 rfl (lv_at hl 0 rfl) ?_
    refine lv_iload_n hx hb dX6_over_19 rfl (lv_at hl 2 rfl) ?_
    refine g_callSi0 (As := [.int x2]) C hG (kX6_noTick hf) (va_cwS 1 hts gX6_over_X6_noTick rfl rfl rfl hdsX6_noTick ⟨Nat.le_of_ble_eq_true rfl, Nat.le_of_ble_eq_true rfl⟩) rfl hl.1 rfl (Nat.le_of_ble_eq_true rfl) dX6_over_20 ⟨Nat.zero_le _, Nat.zero_le _⟩ (fun r_7 g1 H locs hq hG => ?_)
    obtain ⟨rfl, hf⟩ := hq
    refine lv_iconst (v := (2 : Int32)) hx hb dX6_over_23 (by decide) ?_
    refine g_callVi0 (As := [.int r_7, .int (2 : Int32)]) C hG (kX6_throwsIf hf) (cwV 2 hts gX6_over_X6_throwsIf rfl rfl rfl hdvX6_throwsIf ⟨Nat.le_of_ble_eq_true rfl, Nat.le_of_ble_eq_true rfl⟩) (va_recv hK hG.1 (ci := 6) (q0 := 0) rfl rfl) rfl hl.1 rfl (Nat.le_of_ble_eq_true rfl) dX6_over_24 ⟨Nat.zero_le _, Nat.zero_le _⟩ (fun r_10 g1 H locs hq hG => ?_)
    obtain ⟨I_8, X_9, rfl, hf⟩ := hq
    refine lv_if_eq (tgt := 34) hx hb dX6_over_27 (by decide) (fun c_11 => ?_) (fun c_11 => ?_)
    · replace hf := hf.1 c_11
      refine lv_aload_n hx hb dX6_over_34 rfl (lv_at hl 0 rfl) ?_
      refine lv_iload_n hx hb dX6_over_35 rfl (lv_at hl 1 rfl) ?_
      refine lv_iload_n hx hb dX6_over_36 rfl (lv_at hl 2 rfl) ?_
      refine g_callVi0 (As := [.int x1, .int x2]) C hG (kX6_placeOf hf) (cwV 2 hts gX6_over_X6_placeOf rfl rfl rfl hdvX6_placeOf ⟨Nat.le_of_ble_eq_true rfl, Nat.le_of_ble_eq_true rfl⟩) (va_recv hK hG.1 (ci := 6) (q0 := 0) rfl rfl) rfl hl.1 rfl (Nat.le_of_ble_eq_true rfl) dX6_over_37 ⟨Nat.zero_le _, Nat.zero_le _⟩ (fun r_12 g1 H locs hq hG => ?_)
      obtain ⟨rfl, hf⟩ := hq
      exact g_iret C hG (hpost _ _ _ hf) dX6_over_40
    · replace hf := hf.2 c_11
      exact vX6_over_b30 C hpost  I_8 X_9 _ _ _ hf hG (lv_sub hl [] rfl)
set_option maxRecDepth 100000 in
theorem kX6_over {l : Launch} {D : va_G} {B : Nat → Nat} {S : sS} {K : sK} {L : sL} {Y : sY} {O : sO}  {Q : Int32 → (Nat → Int32) → (Nat → Nat → Int32) → Prop} {I : Nat → Int32} {X : Nat → Nat → Int32} {x1 : Int32} {x2 : Int32} (hf : fX6_over Q I X x1 x2) : gMi D B l yX6_over wsX6_over rX6_over 0 0 [.ref (B 0), .int x1, .int x2] (S, K, L, Y, (I, X), O) (fun r g1 => ∃ (I1 : Nat → Int32) (X1 : Nat → Nat → Int32), g1 = (S, K, L, Y, (I1, X1), O) ∧ Q r I1 X1) := by
  refine gMi_of (cc := cX6_over) (maxL := 3) (ret := some .int) (by decide +kernel) rfl (Nat.le_of_ble_eq_true rfl) ?_
  intro p e s m below meth c A hA0 C hG ls hl
  exact vX6_over_b0 C (fun v I X hq => ⟨I, X, rfl, hq⟩) I X x1 x2 _ _ _ hf hG hl
def rX6_apart : Room := { frames := 1, cells := 0, slots := 0, locals := 21 }
theorem hdsX6_apart : yX6_apart.cls ≠ "java/lang/invoke/MethodHandle" ∧ yX6_apart.cls ≠ "java/lang/invoke/VarHandle" ∧ (parseMethodDescriptor yX6_apart.desc).map (fun d => d.parameters.length) = some 2 := by decide +kernel
set_option maxHeartbeats 4000000 in
set_option maxRecDepth 100000 in
theorem vX6_apart_b0 {p : Program} {l : Launch} {e : Env} {s : State} {m : MethodId} {args : Array Value} {below : List Frame} {meth : Method} {c : Code} {D : va_G} {B : Nat → Nat} {A : Nat → Prop} {S : sS} {K : sK} {L : sL} {Y : sY} {M : sM} {O : sO} {post : Int32 → sG → Prop} {Q : Int32 → Prop} (C : gX p s m args meth c cX6_apart 3 (some .int) wsX6_apart RX6 D B A) (hpost : ∀ (v : Int32) , Q v  → post v (S, K, L, Y, M, O))   (x0 : Int32) (x1 : Int32) (H : Heap) (locs : List Loc) (ls : Array Slot) (hf : fX6_apart Q x0 x1) (hG : GS D B A s.heap (S, K, L, Y, M, O) H locs) (hl : lv_has ls 3 [(0, .int x0), (1, .int x1)]) : W p l e (headSpec wsX6_apart rX6_apart).room s m args below meth c H locs 0 0 (MQ below (va_Qi post (gB D B A) A) args s 0 0 A) (F0 m 0 ls []) := by
  obtain ⟨hx, hb, hml, hown, hts, hK, hr, hlk, hA, hN⟩ := id C
  unfold fX6_apart at hf
  refine lv_iload_n hx hb dX6_apart_0 rfl (lv_at hl 0 rfl) ?_
  refine lv_iload_n hx hb dX6_apart_1 rfl (lv_at hl 1 rfl) ?_
  refine lv_isub hx hb dX6_apart_2 ?_
  refine va_mabs hx hb (hml.trans hl.1.symm) hown (hts _ (List.mem_of_getElem? (i := 1) rfl)) (hts _ (List.mem_of_getElem? (i := 2) rfl)) (hts _ (List.mem_of_getElem? (i := 3) rfl)) (hts _ (List.mem_of_getElem? (i := 4) rfl)) (Nat.le_of_ble_eq_true rfl) (Nat.le_of_ble_eq_true rfl) (Nat.zero_le _) (Nat.zero_le _) dX6_apart_3 ?_
  refine lv_topi (fun x2_1 ex2_1 => ?_)
  replace hf := hf x2_1 ex2_1
  refine lv_istore_n (lv' := [(2, .int x2_1), (0, .int x0), (1, .int x1)]) hx hb dX6_apart_6 rfl hl (by decide) rfl (fun ls hl => ?_)
  refine lv_iload_n hx hb dX6_apart_7 rfl (lv_at hl 0 rfl) ?_
  refine lv_bipush (v := (32 : Int32)) hx hb dX6_apart_8 (by decide) ?_
  refine lv_iload_n hx hb dX6_apart_10 rfl (lv_at hl 0 rfl) ?_
  refine lv_isub hx hb dX6_apart_11 ?_
  refine va_mmin hx hb (hml.trans hl.1.symm) hown (hts _ (List.mem_of_getElem? (i := 5) rfl)) (hts _ (List.mem_of_getElem? (i := 6) rfl)) (hts _ (List.mem_of_getElem? (i := 3) rfl)) (hts _ (List.mem_of_getElem? (i := 7) rfl)) (Nat.le_of_ble_eq_true rfl) (Nat.le_of_ble_eq_true rfl) (Nat.zero_le _) (Nat.zero_le _) dX6_apart_12 ?_
  exact g_iret C hG (hpost _ hf) dX6_apart_15
set_option maxRecDepth 100000 in
theorem kX6_apart {l : Launch} {D : va_G} {B : Nat → Nat} {S : sS} {K : sK} {L : sL} {Y : sY} {M : sM} {O : sO}  {Q : Int32 → Prop} {x0 : Int32} {x1 : Int32} (hf : fX6_apart Q x0 x1) : gMi D B l yX6_apart wsX6_apart rX6_apart 0 0 [.int x0, .int x1] (S, K, L, Y, M, O) (fun r g1 => g1 = (S, K, L, Y, M, O) ∧ Q r ) := by
  refine gMi_of (cc := cX6_apart) (maxL := 3) (ret := some .int) (by decide +kernel) rfl (Nat.le_of_ble_eq_true rfl) ?_
  intro p e s m below meth c A hA0 C hG ls hl
  exact vX6_apart_b0 C (fun v  hq => ⟨rfl, hq⟩) x0 x1 _ _ _ hf hG hl
def rX6_linkOf : Room := { frames := 2, cells := 0, slots := 0, locals := 43 }
theorem hdvX6_linkOf : yX6_linkOf.cls = RX6 ∧ yX6_linkOf.cls ≠ "java/lang/invoke/MethodHandle" ∧ yX6_linkOf.cls ≠ "java/lang/invoke/VarHandle" ∧ (parseMethodDescriptor yX6_linkOf.desc).map (fun d => d.parameters.length) = some 3 := by decide +kernel
theorem inX6_linkOf_wsX60 : ∀ w ∈ wsX60, w ∈ wsX6_linkOf := (fun _ h => List.mem_cons_of_mem _ (List.mem_append_right _ h))
set_option maxHeartbeats 4000000 in
set_option maxRecDepth 100000 in
theorem vX6_linkOf_b87 {p : Program} {l : Launch} {e : Env} {s : State} {m : MethodId} {args : Array Value} {below : List Frame} {meth : Method} {c : Code} {D : va_G} {B : Nat → Nat} {A : Nat → Prop} {S : sS} {K : sK} {L : sL} {Y : sY} {O : sO} {post : Int32 → sG → Prop} {I : Nat → Int32} {X : Nat → Nat → Int32} {Q : Int32 → Prop} (C : gX p s m args meth c cX6_linkOf 7 (some .int) wsX6_linkOf RX6 D B A) (hpost : ∀ (v : Int32) , Q v  → post v (S, K, L, Y, (I, X), O))    (H : Heap) (locs : List Loc) (ls : Array Slot) (hf : fX6_linkOf_b87 I X Q) (hG : GS D B A s.heap (S, K, L, Y, (I, X), O) H locs) (hl : lv_has ls 7 []) : W p l e (headSpec wsX6_linkOf rX6_linkOf).room s m args below meth c H locs 0 0 (MQ below (va_Qi post (gB D B A) A) args s 0 0 A) (F0 m 87 ls []) := by
  obtain ⟨hx, hb, hml, hown, hts, hK, hr, hlk, hA, hN⟩ := id C
  unfold fX6_linkOf_b87 at hf
  refine lv_iconst (v := (2 : Int32)) hx hb dX6_linkOf_87 (by decide) ?_
  refine lv_goto (tgt := 92) hx hb dX6_linkOf_88 (by decide) ?_
  exact g_iret C hG (hpost _ hf) dX6_linkOf_92
set_option maxHeartbeats 4000000 in
set_option maxRecDepth 100000 in
theorem vX6_linkOf_b0 {p : Program} {l : Launch} {e : Env} {s : State} {m : MethodId} {args : Array Value} {below : List Frame} {meth : Method} {c : Code} {D : va_G} {B : Nat → Nat} {A : Nat → Prop} {S : sS} {K : sK} {L : sL} {Y : sY} {O : sO} {post : Int32 → sG → Prop} {I : Nat → Int32} {X : Nat → Nat → Int32} {Q : Int32 → Prop} (C : gX p s m args meth c cX6_linkOf 7 (some .int) wsX6_linkOf RX6 D B A) (hpost : ∀ (v : Int32) , Q v  → post v (S, K, L, Y, (I, X), O))   (x1 : Int32) (x2 : Int32) (x3 : Int32) (H : Heap) (locs : List Loc) (ls : Array Slot) (hf : fX6_linkOf I X Q x1 x2 x3) (hG : GS D B A s.heap (S, K, L, Y, (I, X), O) H locs) (hl : lv_has ls 7 [(0, .ref (B 0)), (1, .int x1), (2, .int x2), (3, .int x3)]) : W p l e (headSpec wsX6_linkOf rX6_linkOf).room s m args below meth c H locs 0 0 (MQ below (va_Qi post (gB D B A) A) args s 0 0 A) (F0 m 0 ls []) := by
  obtain ⟨hx, hb, hml, hown, hts, hK, hr, hlk, hA, hN⟩ := id C
  unfold fX6_linkOf at hf
  refine lv_iload_n hx hb dX6_linkOf_0 rfl (lv_at hl 1 rfl) ?_
  refine lv_iload_n hx hb dX6_linkOf_1 rfl (lv_at hl 2 rfl) ?_
  refine lv_icmp_eq (tgt := 23) hx hb dX6_linkOf_2 (by decide) (fun c_1 => ?_) (fun c_1 => ?_)
  · replace hf := hf.1 c_1
    refine lv_iconst (v := (0 : Int32)) hx hb dX6_linkOf_23 (by decide) ?_
    exact g_iret C hG (hpost _ hf) dX6_linkOf_24
  · replace hf := hf.2 c_1
    refine lv_aload_n hx hb dX6_linkOf_5 rfl (lv_at hl 0 rfl) ?_
    refine gg_M_8 C hG inX6_linkOf_wsX60 (hts _ (List.mem_of_getElem? (i := 1) rfl)) dX6_linkOf_6 ?_
    refine lv_iload_n hx hb dX6_linkOf_9 rfl (lv_at hl 1 rfl) ?_
    obtain ⟨h_2, hf⟩ := hf
    refine ga_M_8 C hG h_2 dX6_linkOf_10 ?_
    refine lv_if_ne (tgt := 23) hx hb dX6_linkOf_11 (by decide) (fun c_3 => ?_) (fun c_3 => ?_)
    · replace hf := hf.1 c_3
      refine lv_iconst (v := (0 : Int32)) hx hb dX6_linkOf_23 (by decide) ?_
      exact g_iret C hG (hpost _ hf) dX6_linkOf_24
    · replace hf := hf.2 c_3
      refine lv_aload_n hx hb dX6_linkOf_14 rfl (lv_at hl 0 rfl) ?_
      refine gg_M_8 C hG inX6_linkOf_wsX60 (hts _ (List.mem_of_getElem? (i := 1) rfl)) dX6_linkOf_15 ?_
      refine lv_iload_n hx hb dX6_linkOf_18 rfl (lv_at hl 2 rfl) ?_
      obtain ⟨h_4, hf⟩ := hf
      refine ga_M_8 C hG h_4 dX6_linkOf_19 ?_
      refine lv_if_eq (tgt := 25) hx hb dX6_linkOf_20 (by decide) (fun c_5 => ?_) (fun c_5 => ?_)
      · replace hf := hf.1 c_5
        refine lv_aload_n hx hb dX6_linkOf_25 rfl (lv_at hl 0 rfl) ?_
        refine gg_M_7 C hG inX6_linkOf_wsX60 (hts _ (List.mem_of_getElem? (i := 2) rfl)) dX6_linkOf_26 ?_
        refine lv_iload_n hx hb dX6_linkOf_29 rfl (lv_at hl 1 rfl) ?_
        obtain ⟨h_6, hf⟩ := hf
        refine ga_M_7 C hG h_6 dX6_linkOf_30 ?_
        refine lv_topi (fun x4_7 ex4_7 => ?_)
        replace hf := hf x4_7 ex4_7
        refine lv_istore (lv' := [(4, .int x4_7), (0, .ref (B 0)), (1, .int x1), (2, .int x2), (3, .int x3)]) hx hb dX6_linkOf_31 hl (by decide) rfl (fun ls hl => ?_)
        refine lv_aload_n hx hb dX6_linkOf_33 rfl (lv_at hl 1 rfl) ?_
        refine gg_M_7 C hG inX6_linkOf_wsX60 (hts _ (List.mem_of_getElem? (i := 2) rfl)) dX6_linkOf_34 ?_
        refine lv_iload_n hx hb dX6_linkOf_37 rfl (lv_at hl 3 rfl) ?_
        obtain ⟨h_8, hf⟩ := hf
        refine ga_M_7 C hG h_8 dX6_linkOf_38 ?_
        refine lv_topi (fun x5_9 ex5_9 => ?_)
        replace hf := hf x5_9 ex5_9
        refine lv_istore (lv' := [(5, .int x5_9), (4, .int x4_7), (0, .ref (B 0)), (1, .int x1), (2, .int x2), (3, .int x3)]) hx hb dX6_linkOf_39 hl (by decide) rfl (fun ls hl => ?_)
        refine lv_iload hx hb dX6_linkOf_41 (lv_at hl 1 rfl) ?_
        refine lv_iload hx hb dX6_linkOf_43 (lv_at hl 0 rfl) ?_
        refine lv_icmp_ne (tgt := 93) hx hb dX6_linkOf_45 (by decide) (fun c_10 => ?_) (fun c_10 => ?_)
        · replace hf := hf.1 c_10
          refine lv_iload hx hb dX6_linkOf_93 (lv_at hl 1 rfl) ?_
          refine lv_iload hx hb dX6_linkOf_95 (lv_at hl 0 rfl) ?_
          refine lv_isub hx hb dX6_linkOf_97 ?_
          refine va_mabs hx hb (hml.trans hl.1.symm) hown (hts _ (List.mem_of_getElem? (i := 3) rfl)) (hts _ (List.mem_of_getElem? (i := 4) rfl)) (hts _ (List.mem_of_getElem? (i := 5) rfl)) (hts _ (List.mem_of_getElem? (i := 6) rfl)) (Nat.le_of_ble_eq_true rfl) (Nat.le_of_ble_eq_true rfl) (Nat.zero_le _) (Nat.zero_le _) dX6_linkOf_98 ?_
          refine lv_iconst (v := (1 : Int32)) hx hb dX6_linkOf_101 (by decide) ?_
          refine lv_icmp_ne (tgt := 128) hx hb dX6_linkOf_102 (by decide) (fun c_11 => ?_) (fun c_11 => ?_)
          · replace hf := hf.1 c_11
            refine lv_iconst (v := (0 : Int32)) hx hb dX6_linkOf_128 (by decide) ?_
            exact g_iret C hG (hpost _ hf) dX6_linkOf_129
          · replace hf := hf.2 c_11
            refine lv_aload_n hx hb dX6_linkOf_105 rfl (lv_at hl 2 rfl) ?_
            refine lv_iload_n hx hb dX6_linkOf_106 rfl (lv_at hl 3 rfl) ?_
            refine lv_iload_n hx hb dX6_linkOf_107 rfl (lv_at hl 5 rfl) ?_
            refine g_callVi0 (As := [.int x1, .int x3]) C hG (kX6_placeOf hf) (cwV 2 hts gX6_linkOf_X6_placeOf rfl rfl rfl hdvX6_placeOf ⟨Nat.le_of_ble_eq_true rfl, Nat.le_of_ble_eq_true rfl⟩) (va_recv hK hG.1 (ci := 6) (q0 := 0) rfl rfl) rfl hl.1 rfl (Nat.le_of_ble_eq_true rfl) dX6_linkOf_108 ⟨Nat.zero_le _, Nat.zero_le _⟩ (fun r_12 g1 H locs hq hG => ?_)
            obtain ⟨rfl, hf⟩ := hq
            refine lv_aload_n hx hb dX6_linkOf_111 rfl (lv_at hl 2 rfl) ?_
            refine lv_iload_n hx hb dX6_linkOf_112 rfl (lv_at hl 4 rfl) ?_
            refine lv_iload_n hx hb dX6_linkOf_113 rfl (lv_at hl 5 rfl) ?_
            refine g_callVi0 (As := [.int x2, .int x3]) C hG (kX6_placeOf hf) (cwV 2 hts gX6_linkOf_X6_placeOf rfl rfl rfl hdvX6_placeOf ⟨Nat.le_of_ble_eq_true rfl, Nat.le_of_ble_eq_true rfl⟩) (va_recv hK hG.1 (ci := 6) (q0 := 0) rfl rfl) rfl hl.1 rfl (Nat.le_of_ble_eq_true rfl) dX6_linkOf_114 ⟨Nat.zero_le _, Nat.zero_le _⟩ (fun r_13 g1 H locs hq hG => ?_)
            obtain ⟨rfl, hf⟩ := hq
            refine g_callSi0 (As := [.int r_12, .int r_13]) C hG (kX6_apart hf) (va_cwS 2 hts gX6_linkOf_X6_apart rfl rfl rfl hdsX6_apart ⟨Nat.le_of_ble_eq_true rfl, Nat.le_of_ble_eq_true rfl⟩) rfl hl.1 rfl (Nat.le_of_ble_eq_true rfl) dX6_linkOf_117 ⟨Nat.zero_le _, Nat.zero_le _⟩ (fun r_14 g1 H locs hq hG => ?_)
            obtain ⟨rfl, hf⟩ := hq
            refine lv_iconst (v := (2 : Int32)) hx hb dX6_linkOf_120 (by decide) ?_
            refine lv_icmp_gt (tgt := 128) hx hb dX6_linkOf_121 (by decide) (fun c_15 => ?_) (fun c_15 => ?_)
            · replace hf := hf.1 c_15
              refine lv_iconst (v := (0 : Int32)) hx hb dX6_linkOf_128 (by decide) ?_
              exact g_iret C hG (hpost _ hf) dX6_linkOf_129
            · replace hf := hf.2 c_15
              refine lv_iconst (v := (1 : Int32)) hx hb dX6_linkOf_124 (by decide) ?_
              refine lv_goto (tgt := 129) hx hb dX6_linkOf_125 (by decide) ?_
              exact g_iret C hG (hpost _ hf) dX6_linkOf_129
        · replace hf := hf.2 c_10
          refine lv_iload_n hx hb dX6_linkOf_48 rfl (lv_at hl 3 rfl) ?_
          refine lv_iload_n hx hb dX6_linkOf_49 rfl (lv_at hl 4 rfl) ?_
          refine lv_isub hx hb dX6_linkOf_50 ?_
          refine va_mabs hx hb (hml.trans hl.1.symm) hown (hts _ (List.mem_of_getElem? (i := 3) rfl)) (hts _ (List.mem_of_getElem? (i := 4) rfl)) (hts _ (List.mem_of_getElem? (i := 5) rfl)) (hts _ (List.mem_of_getElem? (i := 6) rfl)) (Nat.le_of_ble_eq_true rfl) (Nat.le_of_ble_eq_true rfl) (Nat.zero_le _) (Nat.zero_le _) dX6_linkOf_51 ?_
          refine lv_topi (fun x6_16 ex6_16 => ?_)
          replace hf := hf x6_16 ex6_16
          refine lv_istore (lv' := [(6, .int x6_16), (5, .int x5_9), (4, .int x4_7), (0, .ref (B 0)), (1, .int x1), (2, .int x2), (3, .int x3)]) hx hb dX6_linkOf_54 hl (by decide) rfl (fun ls hl => ?_)
          refine lv_iload hx hb dX6_linkOf_56 (lv_at hl 0 rfl) ?_
          refine lv_iconst (v := (1 : Int32)) hx hb dX6_linkOf_58 (by decide) ?_
          refine lv_icmp_eq (tgt := 87) hx hb dX6_linkOf_59 (by decide) (fun c_17 => ?_) (fun c_17 => ?_)
          · replace hf := hf.1 c_17
            exact vX6_linkOf_b87 C hpost   _ _ _ hf hG (lv_sub hl [] rfl)
          · replace hf := hf.2 c_17
            refine lv_aload_n hx hb dX6_linkOf_62 rfl (lv_at hl 3 rfl) ?_
            refine gg_M_2 C hG inX6_linkOf_wsX60 (hts _ (List.mem_of_getElem? (i := 7) rfl)) dX6_linkOf_63 ?_
            refine lv_iload hx hb dX6_linkOf_66 (lv_at hl 2 rfl) ?_
            obtain ⟨h_18, hf⟩ := hf
            refine ga_M_2 C hG h_18 dX6_linkOf_68 ?_
            refine lv_iconst (v := (2 : Int32)) hx hb dX6_linkOf_69 (by decide) ?_
            refine lv_icmp_le (tgt := 91) hx hb dX6_linkOf_70 (by decide) (fun c_19 => ?_) (fun c_19 => ?_)
            · replace hf := hf.1 c_19
              refine lv_iconst (v := (0 : Int32)) hx hb dX6_linkOf_91 (by decide) ?_
              exact g_iret C hG (hpost _ hf) dX6_linkOf_92
            · replace hf := hf.2 c_19
              refine lv_iload hx hb dX6_linkOf_73 (lv_at hl 0 rfl) ?_
              refine lv_aload_n hx hb dX6_linkOf_75 rfl (lv_at hl 3 rfl) ?_
              refine gg_M_2 C hG inX6_linkOf_wsX60 (hts _ (List.mem_of_getElem? (i := 7) rfl)) dX6_linkOf_76 ?_
              refine lv_iload hx hb dX6_linkOf_79 (lv_at hl 2 rfl) ?_
              obtain ⟨h_20, hf⟩ := hf
              refine ga_M_2 C hG h_20 dX6_linkOf_81 ?_
              refine lv_iconst (v := (1 : Int32)) hx hb dX6_linkOf_82 (by decide) ?_
              refine lv_isub hx hb dX6_linkOf_83 ?_
              refine lv_icmp_ne (tgt := 91) hx hb dX6_linkOf_84 (by decide) (fun c_21 => ?_) (fun c_21 => ?_)
              · replace hf := hf.1 c_21
                refine lv_iconst (v := (0 : Int32)) hx hb dX6_linkOf_91 (by decide) ?_
                exact g_iret C hG (hpost _ hf) dX6_linkOf_92
              · replace hf := hf.2 c_21
                exact vX6_linkOf_b87 C hpost   _ _ _ hf hG (lv_sub hl [] rfl)
      · replace hf := hf.2 c_5
        refine lv_iconst (v := (0 : Int32)) hx hb dX6_linkOf_23 (by decide) ?_
        exact g_iret C hG (hpost _ hf) dX6_linkOf_24
set_option maxRecDepth 100000 in
theorem kX6_linkOf {l : Launch} {D : va_G} {B : Nat → Nat} {S : sS} {K : sK} {L : sL} {Y : sY} {O : sO} {I : Nat → Int32} {X : Nat → Nat → Int32} {Q : Int32 → Prop} {x1 : Int32} {x2 : Int32} {x3 : Int32} (hf : fX6_linkOf I X Q x1 x2 x3) : gMi D B l yX6_linkOf wsX6_linkOf rX6_linkOf 0 0 [.ref (B 0), .int x1, .int x2, .int x3] (S, K, L, Y, (I, X), O) (fun r g1 => g1 = (S, K, L, Y, (I, X), O) ∧ Q r ) := by
  refine gMi_of (cc := cX6_linkOf) (maxL := 7) (ret := some .int) (by decide +kernel) rfl (Nat.le_of_ble_eq_true rfl) ?_
  intro p e s m below meth c A hA0 C hG ls hl
  exact vX6_linkOf_b0 C (fun v  hq => ⟨rfl, hq⟩) x1 x2 x3 _ _ _ hf hG hl
def rX6_seesOf : Room := { frames := 2, cells := 0, slots := 0, locals := 43 }
theorem hdvX6_seesOf : yX6_seesOf.cls = RX6 ∧ yX6_seesOf.cls ≠ "java/lang/invoke/MethodHandle" ∧ yX6_seesOf.cls ≠ "java/lang/invoke/VarHandle" ∧ (parseMethodDescriptor yX6_seesOf.desc).map (fun d => d.parameters.length) = some 3 := by decide +kernel
theorem inX6_seesOf_wsX60 : ∀ w ∈ wsX60, w ∈ wsX6_seesOf := (fun _ h => List.mem_cons_of_mem _ (List.mem_append_right _ h))
set_option maxHeartbeats 4000000 in
set_option maxRecDepth 100000 in
theorem vX6_seesOf_b0 {p : Program} {l : Launch} {e : Env} {s : State} {m : MethodId} {args : Array Value} {below : List Frame} {meth : Method} {c : Code} {D : va_G} {B : Nat → Nat} {A : Nat → Prop} {S : sS} {K : sK} {L : sL} {Y : sY} {O : sO} {post : Int32 → sG → Prop} {I : Nat → Int32} {X : Nat → Nat → Int32} {Q : Int32 → Prop} (C : gX p s m args meth c cX6_seesOf 4 (some .boolean) wsX6_seesOf RX6 D B A) (hpost : ∀ (v : Int32) , Q v  → post v (S, K, L, Y, (I, X), O))   (x1 : Int32) (x2 : Int32) (x3 : Int32) (H : Heap) (locs : List Loc) (ls : Array Slot) (hf : fX6_seesOf I X Q x1 x2 x3) (hG : GS D B A s.heap (S, K, L, Y, (I, X), O) H locs) (hl : lv_has ls 4 [(0, .ref (B 0)), (1, .int x1), (2, .int x2), (3, .int x3)]) : W p l e (headSpec wsX6_seesOf rX6_seesOf).room s m args below meth c H locs 0 0 (MQ below (va_Qi post (gB D B A) A) args s 0 0 A) (F0 m 0 ls []) := by
  obtain ⟨hx, hb, hml, hown, hts, hK, hr, hlk, hA, hN⟩ := id C
  unfold fX6_seesOf at hf
  refine lv_aload_n hx hb dX6_seesOf_0 rfl (lv_at hl 0 rfl) ?_
  refine gg_M_8 C hG inX6_seesOf_wsX60 (hts _ (List.mem_of_getElem? (i := 1) rfl)) dX6_seesOf_1 ?_
  refine lv_iload_n hx hb dX6_seesOf_4 rfl (lv_at hl 2 rfl) ?_
  obtain ⟨h_1, hf⟩ := hf
  refine ga_M_8 C hG h_1 dX6_seesOf_5 ?_
  refine lv_if_ne (tgt := 57) hx hb dX6_seesOf_6 (by decide) (fun c_2 => ?_) (fun c_2 => ?_)
  · replace hf := hf.1 c_2
    refine lv_iconst (v := (0 : Int32)) hx hb dX6_seesOf_57 (by decide) ?_
    exact g_zret C hG rfl (hpost _ hf) dX6_seesOf_58
  · replace hf := hf.2 c_2
    refine lv_aload_n hx hb dX6_seesOf_9 rfl (lv_at hl 0 rfl) ?_
    refine gg_M_7 C hG inX6_seesOf_wsX60 (hts _ (List.mem_of_getElem? (i := 2) rfl)) dX6_seesOf_10 ?_
    refine lv_iload_n hx hb dX6_seesOf_13 rfl (lv_at hl 2 rfl) ?_
    obtain ⟨h_3, hf⟩ := hf
    refine ga_M_7 C hG h_3 dX6_seesOf_14 ?_
    refine lv_aload_n hx hb dX6_seesOf_15 rfl (lv_at hl 0 rfl) ?_
    refine gg_M_11 C hG inX6_seesOf_wsX60 (hts _ (List.mem_of_getElem? (i := 3) rfl)) dX6_seesOf_16 ?_
    refine lv_iload_n hx hb dX6_seesOf_19 rfl (lv_at hl 1 rfl) ?_
    obtain ⟨h_4, hf⟩ := hf
    refine ga_M_11 C hG h_4 dX6_seesOf_20 ?_
    refine lv_isub hx hb dX6_seesOf_21 ?_
    refine va_mabs hx hb (hml.trans hl.1.symm) hown (hts _ (List.mem_of_getElem? (i := 4) rfl)) (hts _ (List.mem_of_getElem? (i := 5) rfl)) (hts _ (List.mem_of_getElem? (i := 6) rfl)) (hts _ (List.mem_of_getElem? (i := 7) rfl)) (Nat.le_of_ble_eq_true rfl) (Nat.le_of_ble_eq_true rfl) (Nat.zero_le _) (Nat.zero_le _) dX6_seesOf_22 ?_
    refine lv_iconst (v := (1 : Int32)) hx hb dX6_seesOf_25 (by decide) ?_
    refine lv_icmp_gt (tgt := 57) hx hb dX6_seesOf_26 (by decide) (fun c_5 => ?_) (fun c_5 => ?_)
    · replace hf := hf.1 c_5
      refine lv_iconst (v := (0 : Int32)) hx hb dX6_seesOf_57 (by decide) ?_
      exact g_zret C hG rfl (hpost _ hf) dX6_seesOf_58
    · replace hf := hf.2 c_5
      refine lv_aload_n hx hb dX6_seesOf_29 rfl (lv_at hl 0 rfl) ?_
      refine lv_iload_n hx hb dX6_seesOf_30 rfl (lv_at hl 2 rfl) ?_
      refine lv_iload_n hx hb dX6_seesOf_31 rfl (lv_at hl 3 rfl) ?_
      refine g_callVi0 (As := [.int x2, .int x3]) C hG (kX6_placeOf hf) (cwV 2 hts gX6_seesOf_X6_placeOf rfl rfl rfl hdvX6_placeOf ⟨Nat.le_of_ble_eq_true rfl, Nat.le_of_ble_eq_true rfl⟩) (va_recv hK hG.1 (ci := 6) (q0 := 0) rfl rfl) rfl hl.1 rfl (Nat.le_of_ble_eq_true rfl) dX6_seesOf_32 ⟨Nat.zero_le _, Nat.zero_le _⟩ (fun r_6 g1 H locs hq hG => ?_)
      obtain ⟨rfl, hf⟩ := hq
      refine lv_aload_n hx hb dX6_seesOf_35 rfl (lv_at hl 0 rfl) ?_
      refine gg_M_10 C hG inX6_seesOf_wsX60 (hts _ (List.mem_of_getElem? (i := 8) rfl)) dX6_seesOf_36 ?_
      refine lv_iload_n hx hb dX6_seesOf_39 rfl (lv_at hl 1 rfl) ?_
      obtain ⟨h_7, hf⟩ := hf
      refine ga_M_10 C hG h_7 dX6_seesOf_40 ?_
      refine g_callSi0 (As := [.int r_6, .int (X 10 x1.toNatClampNeg)]) C hG (kX6_apart hf) (va_cwS 2 hts gX6_seesOf_X6_apart rfl rfl rfl hdsX6_apart ⟨Nat.le_of_ble_eq_true rfl, Nat.le_of_ble_eq_true rfl⟩) rfl hl.1 rfl (Nat.le_of_ble_eq_true rfl) dX6_seesOf_41 ⟨Nat.zero_le _, Nat.zero_le _⟩ (fun r_8 g1 H locs hq hG => ?_)
      obtain ⟨rfl, hf⟩ := hq
      refine lv_aload_n hx hb dX6_seesOf_44 rfl (lv_at hl 0 rfl) ?_
      refine gg_M_12 C hG inX6_seesOf_wsX60 (hts _ (List.mem_of_getElem? (i := 9) rfl)) dX6_seesOf_45 ?_
      refine lv_iload_n hx hb dX6_seesOf_48 rfl (lv_at hl 1 rfl) ?_
      obtain ⟨h_9, hf⟩ := hf
      refine ga_M_12 C hG h_9 dX6_seesOf_49 ?_
      refine lv_icmp_gt (tgt := 57) hx hb dX6_seesOf_50 (by decide) (fun c_10 => ?_) (fun c_10 => ?_)
      · replace hf := hf.1 c_10
        refine lv_iconst (v := (0 : Int32)) hx hb dX6_seesOf_57 (by decide) ?_
        exact g_zret C hG rfl (hpost _ hf) dX6_seesOf_58
      · replace hf := hf.2 c_10
        refine lv_iconst (v := (1 : Int32)) hx hb dX6_seesOf_53 (by decide) ?_
        refine lv_goto (tgt := 58) hx hb dX6_seesOf_54 (by decide) ?_
        exact g_zret C hG rfl (hpost _ hf) dX6_seesOf_58
set_option maxRecDepth 100000 in
theorem kX6_seesOf {l : Launch} {D : va_G} {B : Nat → Nat} {S : sS} {K : sK} {L : sL} {Y : sY} {O : sO} {I : Nat → Int32} {X : Nat → Nat → Int32} {Q : Int32 → Prop} {x1 : Int32} {x2 : Int32} {x3 : Int32} (hf : fX6_seesOf I X Q x1 x2 x3) : gMi D B l yX6_seesOf wsX6_seesOf rX6_seesOf 0 0 [.ref (B 0), .int x1, .int x2, .int x3] (S, K, L, Y, (I, X), O) (fun r g1 => g1 = (S, K, L, Y, (I, X), O) ∧ Q r ) := by
  refine gMi_of (cc := cX6_seesOf) (maxL := 4) (ret := some .boolean) (by decide +kernel) rfl (Nat.le_of_ble_eq_true rfl) ?_
  intro p e s m below meth c A hA0 C hG ls hl
  exact vX6_seesOf_b0 C (fun v  hq => ⟨rfl, hq⟩) x1 x2 x3 _ _ _ hf hG hl
def rX6_taken : Room := { frames := 3, cells := 0, slots := 0, locals := 69 }
theorem hdvX6_taken : yX6_taken.cls = RX6 ∧ yX6_taken.cls ≠ "java/lang/invoke/MethodHandle" ∧ yX6_taken.cls ≠ "java/lang/invoke/VarHandle" ∧ (parseMethodDescriptor yX6_taken.desc).map (fun d => d.parameters.length) = some 3 := by decide +kernel
set_option maxHeartbeats 4000000 in
set_option maxRecDepth 100000 in
theorem vX6_taken_h12 {p : Program} {l : Launch} {e : Env} {s : State} {m : MethodId} {args : Array Value} {below : List Frame} {meth : Method} {c : Code} {D : va_G} {B : Nat → Nat} {A : Nat → Prop} {S : sS} {K : sK} {L : sL} {Y : sY} {O : sO} {post : Int32 → sG → Prop} {I : Nat → Int32} {X : Nat → Nat → Int32} {Q : Int32 → Prop} (C : gX p s m args meth c cX6_taken 6 (some .int) wsX6_taken RX6 D B A) (hpost : ∀ (v : Int32) , Q v  → post v (S, K, L, Y, (I, X), O))  : ∀ (n12 : Nat)  (y1 : Int32) (y2 : Int32) (y3 : Int32) (y4 : Int32) (y5 : Int32) (H : Heap) (locs : List Loc) (ls : Array Slot), fX6_taken_h12 I X Q n12 y1 y2 y3 y4 y5 → GS D B A s.heap (S, K, L, Y, (I, X), O) H locs → lv_has ls 6 [(0, .ref (B 0)), (1, .int y1), (2, .int y2), (3, .int y3), (4, .int y4), (5, .int y5)] → W p l e (headSpec wsX6_taken rX6_taken).room s m args below meth c H locs 0 0 (MQ below (va_Qi post (gB D B A) A) args s 0 0 A) (F0 m 12 ls []) := by
  obtain ⟨hx, hb, hml, hown, hts, hK, hr, hlk, hA, hN⟩ := id C
  intro n12
  induction n12 with
  | zero =>
    intro y1 y2 y3 y4 y5 H locs ls hf
    exact False.elim hf
  | succ n12 hG12 =>
    intro y1 y2 y3 y4 y5 H locs ls hf hG hl
    unfold fX6_taken_h12 at hf
    refine lv_iload hx hb dX6_taken_12 (lv_at hl 5 rfl) ?_
    refine lv_iload hx hb dX6_taken_14 (lv_at hl 4 rfl) ?_
    refine lv_icmp_gt (tgt := 40) hx hb dX6_taken_16 (by decide) (fun c_2 => ?_) (fun c_2 => ?_)
    · replace hf := hf.1 c_2
      refine lv_iload hx hb dX6_taken_40 (lv_at hl 4 rfl) ?_
      exact g_iret C hG (hpost _ hf) dX6_taken_42
    · replace hf := hf.2 c_2
      refine lv_aload_n hx hb dX6_taken_19 rfl (lv_at hl 0 rfl) ?_
      refine lv_iload_n hx hb dX6_taken_20 rfl (lv_at hl 1 rfl) ?_
      refine lv_iload_n hx hb dX6_taken_21 rfl (lv_at hl 2 rfl) ?_
      refine lv_iload_n hx hb dX6_taken_22 rfl (lv_at hl 3 rfl) ?_
      refine lv_iload hx hb dX6_taken_23 (lv_at hl 5 rfl) ?_
      refine lv_iadd hx hb dX6_taken_25 ?_
      refine g_callVi0 (As := [.int y1, .int y2, .int (y3 + y5)]) C hG (kX6_linkOf hf) (cwV 3 hts gX6_taken_X6_linkOf rfl rfl rfl hdvX6_linkOf ⟨Nat.le_of_ble_eq_true rfl, Nat.le_of_ble_eq_true rfl⟩) (va_recv hK hG.1 (ci := 6) (q0 := 0) rfl rfl) rfl hl.1 rfl (Nat.le_of_ble_eq_true rfl) dX6_taken_26 ⟨Nat.zero_le _, Nat.zero_le _⟩ (fun r_3 g1 H locs hq hG => ?_)
      obtain ⟨rfl, hf⟩ := hq
      refine lv_if_ne (tgt := 34) hx hb dX6_taken_29 (by decide) (fun c_4 => ?_) (fun c_4 => ?_)
      · replace hf := hf.1 c_4
        obtain ⟨x5_5, ex5_5⟩ : ∃ y : Int32, y = y5 + (1 : Int32) := ⟨_, rfl⟩
        replace hf := hf x5_5 ex5_5
        refine lv_iinc (v := x5_5) (lv' := [(5, .int x5_5), (0, .ref (B 0)), (1, .int y1), (2, .int y2), (3, .int y3), (4, .int y4)]) hx hb dX6_taken_34 hl (k := 5) rfl (by rw [ex5_5]; rfl) (by decide) rfl (fun ls hl => ?_)
        refine lv_goto (tgt := 12) hx hb dX6_taken_37 (by decide) ?_
        exact hG12 y1 y2 y3 y4 x5_5 _ _ _ hf hG (lv_sub hl [1, 2, 3, 4, 5, 0] rfl)
      · replace hf := hf.2 c_4
        refine lv_iconst (v := (0 : Int32)) hx hb dX6_taken_32 (by decide) ?_
        exact g_iret C hG (hpost _ hf) dX6_taken_33
set_option maxHeartbeats 4000000 in
set_option maxRecDepth 100000 in
theorem vX6_taken_b0 {p : Program} {l : Launch} {e : Env} {s : State} {m : MethodId} {args : Array Value} {below : List Frame} {meth : Method} {c : Code} {D : va_G} {B : Nat → Nat} {A : Nat → Prop} {S : sS} {K : sK} {L : sL} {Y : sY} {O : sO} {post : Int32 → sG → Prop} {I : Nat → Int32} {X : Nat → Nat → Int32} {Q : Int32 → Prop} (C : gX p s m args meth c cX6_taken 6 (some .int) wsX6_taken RX6 D B A) (hpost : ∀ (v : Int32) , Q v  → post v (S, K, L, Y, (I, X), O))   (x1 : Int32) (x2 : Int32) (x3 : Int32) (H : Heap) (locs : List Loc) (ls : Array Slot) (hf : fX6_taken I X Q x1 x2 x3) (hG : GS D B A s.heap (S, K, L, Y, (I, X), O) H locs) (hl : lv_has ls 6 [(0, .ref (B 0)), (1, .int x1), (2, .int x2), (3, .int x3)]) : W p l e (headSpec wsX6_taken rX6_taken).room s m args below meth c H locs 0 0 (MQ below (va_Qi post (gB D B A) A) args s 0 0 A) (F0 m 0 ls []) := by
  obtain ⟨hx, hb, hml, hown, hts, hK, hr, hlk, hA, hN⟩ := id C
  unfold fX6_taken at hf
  refine lv_aload_n hx hb dX6_taken_0 rfl (lv_at hl 0 rfl) ?_
  refine lv_iload_n hx hb dX6_taken_1 rfl (lv_at hl 1 rfl) ?_
  refine lv_iload_n hx hb dX6_taken_2 rfl (lv_at hl 2 rfl) ?_
  refine lv_iload_n hx hb dX6_taken_3 rfl (lv_at hl 3 rfl) ?_
  refine g_callVi0 (As := [.int x1, .int x2, .int x3]) C hG (kX6_linkOf hf) (cwV 3 hts gX6_taken_X6_linkOf rfl rfl rfl hdvX6_linkOf ⟨Nat.le_of_ble_eq_true rfl, Nat.le_of_ble_eq_true rfl⟩) (va_recv hK hG.1 (ci := 6) (q0 := 0) rfl rfl) rfl hl.1 rfl (Nat.le_of_ble_eq_true rfl) dX6_taken_4 ⟨Nat.zero_le _, Nat.zero_le _⟩ (fun r_1 g1 H locs hq hG => ?_)
  obtain ⟨rfl, hf⟩ := hq
  refine lv_istore (lv' := [(4, .int r_1), (0, .ref (B 0)), (1, .int x1), (2, .int x2), (3, .int x3)]) hx hb dX6_taken_7 hl (by decide) rfl (fun ls hl => ?_)
  refine lv_iconst (v := (1 : Int32)) hx hb dX6_taken_9 (by decide) ?_
  refine lv_istore (lv' := [(5, .int (1 : Int32)), (4, .int r_1), (0, .ref (B 0)), (1, .int x1), (2, .int x2), (3, .int x3)]) hx hb dX6_taken_10 hl (by decide) rfl (fun ls hl => ?_)
  obtain ⟨n12, hf⟩ := hf
  exact vX6_taken_h12 C hpost  n12 x1 x2 x3 r_1 (1 : Int32) _ _ _ hf hG (lv_sub hl [2, 3, 4, 5, 1, 0] rfl)
set_option maxRecDepth 100000 in
theorem kX6_taken {l : Launch} {D : va_G} {B : Nat → Nat} {S : sS} {K : sK} {L : sL} {Y : sY} {O : sO} {I : Nat → Int32} {X : Nat → Nat → Int32} {Q : Int32 → Prop} {x1 : Int32} {x2 : Int32} {x3 : Int32} (hf : fX6_taken I X Q x1 x2 x3) : gMi D B l yX6_taken wsX6_taken rX6_taken 0 0 [.ref (B 0), .int x1, .int x2, .int x3] (S, K, L, Y, (I, X), O) (fun r g1 => g1 = (S, K, L, Y, (I, X), O) ∧ Q r ) := by
  refine gMi_of (cc := cX6_taken) (maxL := 6) (ret := some .int) (by decide +kernel) rfl (Nat.le_of_ble_eq_true rfl) ?_
  intro p e s m below meth c A hA0 C hG ls hl
  exact vX6_taken_b0 C (fun v  hq => ⟨rfl, hq⟩) x1 x2 x3 _ _ _ hf hG hl
def rX6_takesPost : Room := { frames := 3, cells := 0, slots := 0, locals := 66 }
theorem hdvX6_takesPost : yX6_takesPost.cls = RX6 ∧ yX6_takesPost.cls ≠ "java/lang/invoke/MethodHandle" ∧ yX6_takesPost.cls ≠ "java/lang/invoke/VarHandle" ∧ (parseMethodDescriptor yX6_takesPost.desc).map (fun d => d.parameters.length) = some 3 := by decide +kernel
set_option maxHeartbeats 4000000 in
set_option maxRecDepth 100000 in
theorem vX6_takesPost_b0 {p : Program} {l : Launch} {e : Env} {s : State} {m : MethodId} {args : Array Value} {below : List Frame} {meth : Method} {c : Code} {D : va_G} {B : Nat → Nat} {A : Nat → Prop} {S : sS} {K : sK} {L : sL} {Y : sY} {O : sO} {post : Int32 → sG → Prop} {I : Nat → Int32} {X : Nat → Nat → Int32} {Q : Int32 → Prop} (C : gX p s m args meth c cX6_takesPost 4 (some .boolean) wsX6_takesPost RX6 D B A) (hpost : ∀ (v : Int32) , Q v  → post v (S, K, L, Y, (I, X), O))   (x1 : Int32) (x2 : Int32) (x3 : Int32) (H : Heap) (locs : List Loc) (ls : Array Slot) (hf : fX6_takesPost I X Q x1 x2 x3) (hG : GS D B A s.heap (S, K, L, Y, (I, X), O) H locs) (hl : lv_has ls 4 [(0, .ref (B 0)), (1, .int x1), (2, .int x2), (3, .int x3)]) : W p l e (headSpec wsX6_takesPost rX6_takesPost).room s m args below meth c H locs 0 0 (MQ below (va_Qi post (gB D B A) A) args s 0 0 A) (F0 m 0 ls []) := by
  obtain ⟨hx, hb, hml, hown, hts, hK, hr, hlk, hA, hN⟩ := id C
  unfold fX6_takesPost at hf
  refine lv_aload_n hx hb dX6_takesPost_0 rfl (lv_at hl 0 rfl) ?_
  refine lv_iload_n hx hb dX6_takesPost_1 rfl (lv_at hl 1 rfl) ?_
  refine lv_iload_n hx hb dX6_takesPost_2 rfl (lv_at hl 2 rfl) ?_
  refine lv_iload_n hx hb dX6_takesPost_3 rfl (lv_at hl 3 rfl) ?_
  refine g_callVi0 (As := [.int x1, .int x2, .int x3]) C hG (kX6_seesOf hf) (cwV 3 hts gX6_takesPost_X6_seesOf rfl rfl rfl hdvX6_seesOf ⟨Nat.le_of_ble_eq_true rfl, Nat.le_of_ble_eq_true rfl⟩) (va_recv hK hG.1 (ci := 6) (q0 := 0) rfl rfl) rfl hl.1 rfl (Nat.le_of_ble_eq_true rfl) dX6_takesPost_4 ⟨Nat.zero_le _, Nat.zero_le _⟩ (fun r_1 g1 H locs hq hG => ?_)
  obtain ⟨rfl, hf⟩ := hq
  refine lv_if_eq (tgt := 26) hx hb dX6_takesPost_7 (by decide) (fun c_2 => ?_) (fun c_2 => ?_)
  · replace hf := hf.1 c_2
    refine lv_iconst (v := (0 : Int32)) hx hb dX6_takesPost_26 (by decide) ?_
    exact g_zret C hG rfl (hpost _ hf) dX6_takesPost_27
  · replace hf := hf.2 c_2
    refine lv_aload_n hx hb dX6_takesPost_10 rfl (lv_at hl 0 rfl) ?_
    refine lv_iload_n hx hb dX6_takesPost_11 rfl (lv_at hl 1 rfl) ?_
    refine lv_iload_n hx hb dX6_takesPost_12 rfl (lv_at hl 2 rfl) ?_
    refine lv_iload_n hx hb dX6_takesPost_13 rfl (lv_at hl 3 rfl) ?_
    refine lv_iconst (v := (1 : Int32)) hx hb dX6_takesPost_14 (by decide) ?_
    refine lv_iadd hx hb dX6_takesPost_15 ?_
    refine g_callVi0 (As := [.int x1, .int x2, .int (x3 + (1 : Int32))]) C hG (kX6_seesOf hf) (cwV 3 hts gX6_takesPost_X6_seesOf rfl rfl rfl hdvX6_seesOf ⟨Nat.le_of_ble_eq_true rfl, Nat.le_of_ble_eq_true rfl⟩) (va_recv hK hG.1 (ci := 6) (q0 := 0) rfl rfl) rfl hl.1 rfl (Nat.le_of_ble_eq_true rfl) dX6_takesPost_16 ⟨Nat.zero_le _, Nat.zero_le _⟩ (fun r_3 g1 H locs hq hG => ?_)
    obtain ⟨rfl, hf⟩ := hq
    refine lv_if_eq (tgt := 26) hx hb dX6_takesPost_19 (by decide) (fun c_4 => ?_) (fun c_4 => ?_)
    · replace hf := hf.1 c_4
      refine lv_iconst (v := (0 : Int32)) hx hb dX6_takesPost_26 (by decide) ?_
      exact g_zret C hG rfl (hpost _ hf) dX6_takesPost_27
    · replace hf := hf.2 c_4
      refine lv_iconst (v := (1 : Int32)) hx hb dX6_takesPost_22 (by decide) ?_
      refine lv_goto (tgt := 27) hx hb dX6_takesPost_23 (by decide) ?_
      exact g_zret C hG rfl (hpost _ hf) dX6_takesPost_27
set_option maxRecDepth 100000 in
theorem kX6_takesPost {l : Launch} {D : va_G} {B : Nat → Nat} {S : sS} {K : sK} {L : sL} {Y : sY} {O : sO} {I : Nat → Int32} {X : Nat → Nat → Int32} {Q : Int32 → Prop} {x1 : Int32} {x2 : Int32} {x3 : Int32} (hf : fX6_takesPost I X Q x1 x2 x3) : gMi D B l yX6_takesPost wsX6_takesPost rX6_takesPost 0 0 [.ref (B 0), .int x1, .int x2, .int x3] (S, K, L, Y, (I, X), O) (fun r g1 => g1 = (S, K, L, Y, (I, X), O) ∧ Q r ) := by
  refine gMi_of (cc := cX6_takesPost) (maxL := 4) (ret := some .boolean) (by decide +kernel) rfl (Nat.le_of_ble_eq_true rfl) ?_
  intro p e s m below meth c A hA0 C hG ls hl
  exact vX6_takesPost_b0 C (fun v  hq => ⟨rfl, hq⟩) x1 x2 x3 _ _ _ hf hG hl
def rX6_takesFrom : Room := { frames := 0, cells := 0, slots := 0, locals := 0 }
theorem hdvX6_takesFrom : yX6_takesFrom.cls = RX6 ∧ yX6_takesFrom.cls ≠ "java/lang/invoke/MethodHandle" ∧ yX6_takesFrom.cls ≠ "java/lang/invoke/VarHandle" ∧ (parseMethodDescriptor yX6_takesFrom.desc).map (fun d => d.parameters.length) = some 3 := by decide +kernel
theorem inX6_takesFrom_wsX60 : ∀ w ∈ wsX60, w ∈ wsX6_takesFrom := (fun _ h => List.mem_cons_of_mem _ (List.mem_append_right _ h))
set_option maxHeartbeats 4000000 in
set_option maxRecDepth 100000 in
theorem vX6_takesFrom_b0 {p : Program} {l : Launch} {e : Env} {s : State} {m : MethodId} {args : Array Value} {below : List Frame} {meth : Method} {c : Code} {D : va_G} {B : Nat → Nat} {A : Nat → Prop} {S : sS} {K : sK} {L : sL} {Y : sY} {O : sO} {post : Int32 → sG → Prop} {I : Nat → Int32} {X : Nat → Nat → Int32} {Q : Int32 → Prop} (C : gX p s m args meth c cX6_takesFrom 4 (some .int) wsX6_takesFrom RX6 D B A) (hpost : ∀ (v : Int32) , Q v  → post v (S, K, L, Y, (I, X), O))   (x1 : Int32) (x2 : Int32) (x3 : Int32) (H : Heap) (locs : List Loc) (ls : Array Slot) (hf : fX6_takesFrom I X Q x1 x2 x3) (hG : GS D B A s.heap (S, K, L, Y, (I, X), O) H locs) (hl : lv_has ls 4 [(0, .ref (B 0)), (1, .int x1), (2, .int x2), (3, .int x3)]) : W p l e (headSpec wsX6_takesFrom rX6_takesFrom).room s m args below meth c H locs 0 0 (MQ below (va_Qi post (gB D B A) A) args s 0 0 A) (F0 m 0 ls []) := by
  obtain ⟨hx, hb, hml, hown, hts, hK, hr, hlk, hA, hN⟩ := id C
  unfold fX6_takesFrom at hf
  refine lv_aload_n hx hb dX6_takesFrom_0 rfl (lv_at hl 0 rfl) ?_
  refine gg_M_14 C hG inX6_takesFrom_wsX60 (hts _ (List.mem_of_getElem? (i := 1) rfl)) dX6_takesFrom_1 ?_
  refine lv_bipush (v := (48 : Int32)) hx hb dX6_takesFrom_4 (by decide) ?_
  refine lv_iload_n hx hb dX6_takesFrom_6 rfl (lv_at hl 1 rfl) ?_
  refine lv_imul hx hb dX6_takesFrom_7 ?_
  refine lv_iload_n hx hb dX6_takesFrom_8 rfl (lv_at hl 2 rfl) ?_
  refine lv_iadd hx hb dX6_takesFrom_9 ?_
  refine lv_bipush (v := (32 : Int32)) hx hb dX6_takesFrom_10 (by decide) ?_
  refine lv_imul hx hb dX6_takesFrom_12 ?_
  refine lv_iload_n hx hb dX6_takesFrom_13 rfl (lv_at hl 3 rfl) ?_
  refine lv_bipush (v := (32 : Int32)) hx hb dX6_takesFrom_14 (by decide) ?_
  refine lv_irem hx hb dX6_takesFrom_16 (by decide) ?_
  refine lv_iadd hx hb dX6_takesFrom_17 ?_
  obtain ⟨h_1, hf⟩ := hf
  refine ga_M_14 C hG h_1 dX6_takesFrom_18 ?_
  exact g_iret C hG (hpost _ hf) dX6_takesFrom_19
set_option maxRecDepth 100000 in
theorem kX6_takesFrom {l : Launch} {D : va_G} {B : Nat → Nat} {S : sS} {K : sK} {L : sL} {Y : sY} {O : sO} {I : Nat → Int32} {X : Nat → Nat → Int32} {Q : Int32 → Prop} {x1 : Int32} {x2 : Int32} {x3 : Int32} (hf : fX6_takesFrom I X Q x1 x2 x3) : gMi D B l yX6_takesFrom wsX6_takesFrom rX6_takesFrom 0 0 [.ref (B 0), .int x1, .int x2, .int x3] (S, K, L, Y, (I, X), O) (fun r g1 => g1 = (S, K, L, Y, (I, X), O) ∧ Q r ) := by
  refine gMi_of (cc := cX6_takesFrom) (maxL := 4) (ret := some .int) (by decide +kernel) rfl (Nat.le_of_ble_eq_true rfl) ?_
  intro p e s m below meth c A hA0 C hG ls hl
  exact vX6_takesFrom_b0 C (fun v  hq => ⟨rfl, hq⟩) x1 x2 x3 _ _ _ hf hG hl
def rX6_link : Room := { frames := 3, cells := 0, slots := 0, locals := 69 }
theorem hdvX6_link : yX6_link.cls = RX6 ∧ yX6_link.cls ≠ "java/lang/invoke/MethodHandle" ∧ yX6_link.cls ≠ "java/lang/invoke/VarHandle" ∧ (parseMethodDescriptor yX6_link.desc).map (fun d => d.parameters.length) = some 3 := by decide +kernel
theorem inX6_link_wsX60 : ∀ w ∈ wsX60, w ∈ wsX6_link := (fun _ h => List.mem_cons_of_mem _ (List.mem_append_right _ h))
set_option maxHeartbeats 4000000 in
set_option maxRecDepth 100000 in
theorem vX6_link_b46 {p : Program} {l : Launch} {e : Env} {s : State} {m : MethodId} {args : Array Value} {below : List Frame} {meth : Method} {c : Code} {D : va_G} {B : Nat → Nat} {A : Nat → Prop} {S : sS} {K : sK} {L : sL} {Y : sY} {O : sO} {post : Int32 → sG → Prop} {Q : Int32 → (Nat → Int32) → (Nat → Nat → Int32) → Prop} (C : gX p s m args meth c cX6_link 4 (some .int) wsX6_link RX6 D B A) (hpost : ∀ (v : Int32) (I : Nat → Int32) (X : Nat → Nat → Int32), Q v I X → post v (S, K, L, Y, (I, X), O))  (I : Nat → Int32) (X : Nat → Nat → Int32)  (H : Heap) (locs : List Loc) (ls : Array Slot) (hf : fX6_link_b46 Q I X) (hG : GS D B A s.heap (S, K, L, Y, (I, X), O) H locs) (hl : lv_has ls 4 []) : W p l e (headSpec wsX6_link rX6_link).room s m args below meth c H locs 0 0 (MQ below (va_Qi post (gB D B A) A) args s 0 0 A) (F0 m 46 ls []) := by
  obtain ⟨hx, hb, hml, hown, hts, hK, hr, hlk, hA, hN⟩ := id C
  unfold fX6_link_b46 at hf
  refine lv_iconst (v := (0 : Int32)) hx hb dX6_link_46 (by decide) ?_
  refine lv_goto (tgt := 57) hx hb dX6_link_47 (by decide) ?_
  exact g_iret C hG (hpost _ _ _ hf) dX6_link_57
set_option maxHeartbeats 4000000 in
set_option maxRecDepth 100000 in
theorem vX6_link_b27 {p : Program} {l : Launch} {e : Env} {s : State} {m : MethodId} {args : Array Value} {below : List Frame} {meth : Method} {c : Code} {D : va_G} {B : Nat → Nat} {A : Nat → Prop} {S : sS} {K : sK} {L : sL} {Y : sY} {O : sO} {post : Int32 → sG → Prop} {Q : Int32 → (Nat → Int32) → (Nat → Nat → Int32) → Prop} (C : gX p s m args meth c cX6_link 4 (some .int) wsX6_link RX6 D B A) (hpost : ∀ (v : Int32) (I : Nat → Int32) (X : Nat → Nat → Int32), Q v I X → post v (S, K, L, Y, (I, X), O))  (I : Nat → Int32) (X : Nat → Nat → Int32) (y1 : Int32) (y2 : Int32) (y3 : Int32) (t0 : Int32) (H : Heap) (locs : List Loc) (ls : Array Slot) (hf : fX6_link_b27 Q I X y1 y2 y3 t0) (hG : GS D B A s.heap (S, K, L, Y, (I, X), O) H locs) (hl : lv_has ls 4 [(0, .ref (B 0)), (1, .int y1), (2, .int y2), (3, .int y3)]) : W p l e (headSpec wsX6_link rX6_link).room s m args below meth c H locs 0 0 (MQ below (va_Qi post (gB D B A) A) args s 0 0 A) (F0 m 27 ls [.int t0, .ref (B 0)]) := by
  obtain ⟨hx, hb, hml, hown, hts, hK, hr, hlk, hA, hN⟩ := id C
  unfold fX6_link_b27 at hf
  refine lv_iconst (v := (1 : Int32)) hx hb dX6_link_27 (by decide) ?_
  refine g_callVi0 (As := [.int t0, .int (1 : Int32)]) C hG (kX6_throwsIf hf) (cwV 2 hts gX6_link_X6_throwsIf rfl rfl rfl hdvX6_throwsIf ⟨Nat.le_of_ble_eq_true rfl, Nat.le_of_ble_eq_true rfl⟩) (va_recv hK hG.1 (ci := 6) (q0 := 0) rfl rfl) rfl hl.1 rfl (Nat.le_of_ble_eq_true rfl) dX6_link_28 ⟨Nat.zero_le _, Nat.zero_le _⟩ (fun r_8 g1 H locs hq hG => ?_)
  obtain ⟨I_6, X_7, rfl, hf⟩ := hq
  refine lv_if_ne (tgt := 46) hx hb dX6_link_31 (by decide) (fun c_9 => ?_) (fun c_9 => ?_)
  · replace hf := hf.1 c_9
    exact vX6_link_b46 C hpost  I_6 X_7 _ _ _ hf hG (lv_sub hl [] rfl)
  · replace hf := hf.2 c_9
    refine lv_aload_n hx hb dX6_link_34 rfl (lv_at hl 0 rfl) ?_
    refine lv_iload_n hx hb dX6_link_35 rfl (lv_at hl 3 rfl) ?_
    refine g_callSi0 (As := [.int y3]) C hG (kX6_noTick hf) (va_cwS 1 hts gX6_link_X6_noTick rfl rfl rfl hdsX6_noTick ⟨Nat.le_of_ble_eq_true rfl, Nat.le_of_ble_eq_true rfl⟩) rfl hl.1 rfl (Nat.le_of_ble_eq_true rfl) dX6_link_36 ⟨Nat.zero_le _, Nat.zero_le _⟩ (fun r_10 g1 H locs hq hG => ?_)
    obtain ⟨rfl, hf⟩ := hq
    refine lv_iconst (v := (2 : Int32)) hx hb dX6_link_39 (by decide) ?_
    refine g_callVi0 (As := [.int r_10, .int (2 : Int32)]) C hG (kX6_throwsIf hf) (cwV 2 hts gX6_link_X6_throwsIf rfl rfl rfl hdvX6_throwsIf ⟨Nat.le_of_ble_eq_true rfl, Nat.le_of_ble_eq_true rfl⟩) (va_recv hK hG.1 (ci := 6) (q0 := 0) rfl rfl) rfl hl.1 rfl (Nat.le_of_ble_eq_true rfl) dX6_link_40 ⟨Nat.zero_le _, Nat.zero_le _⟩ (fun r_13 g1 H locs hq hG => ?_)
    obtain ⟨I_11, X_12, rfl, hf⟩ := hq
    refine lv_if_eq (tgt := 50) hx hb dX6_link_43 (by decide) (fun c_14 => ?_) (fun c_14 => ?_)
    · replace hf := hf.1 c_14
      refine lv_aload_n hx hb dX6_link_50 rfl (lv_at hl 0 rfl) ?_
      refine lv_iload_n hx hb dX6_link_51 rfl (lv_at hl 1 rfl) ?_
      refine lv_iload_n hx hb dX6_link_52 rfl (lv_at hl 2 rfl) ?_
      refine lv_iload_n hx hb dX6_link_53 rfl (lv_at hl 3 rfl) ?_
      refine g_callVi0 (As := [.int y1, .int y2, .int y3]) C hG (kX6_linkOf hf) (cwV 3 hts gX6_link_X6_linkOf rfl rfl rfl hdvX6_linkOf ⟨Nat.le_of_ble_eq_true rfl, Nat.le_of_ble_eq_true rfl⟩) (va_recv hK hG.1 (ci := 6) (q0 := 0) rfl rfl) rfl hl.1 rfl (Nat.le_of_ble_eq_true rfl) dX6_link_54 ⟨Nat.zero_le _, Nat.zero_le _⟩ (fun r_15 g1 H locs hq hG => ?_)
      obtain ⟨rfl, hf⟩ := hq
      exact g_iret C hG (hpost _ _ _ hf) dX6_link_57
    · replace hf := hf.2 c_14
      exact vX6_link_b46 C hpost  I_11 X_12 _ _ _ hf hG (lv_sub hl [] rfl)
set_option maxHeartbeats 4000000 in
set_option maxRecDepth 100000 in
theorem vX6_link_b22 {p : Program} {l : Launch} {e : Env} {s : State} {m : MethodId} {args : Array Value} {below : List Frame} {meth : Method} {c : Code} {D : va_G} {B : Nat → Nat} {A : Nat → Prop} {S : sS} {K : sK} {L : sL} {Y : sY} {O : sO} {post : Int32 → sG → Prop} {Q : Int32 → (Nat → Int32) → (Nat → Nat → Int32) → Prop} (C : gX p s m args meth c cX6_link 4 (some .int) wsX6_link RX6 D B A) (hpost : ∀ (v : Int32) (I : Nat → Int32) (X : Nat → Nat → Int32), Q v I X → post v (S, K, L, Y, (I, X), O))  (I : Nat → Int32) (X : Nat → Nat → Int32) (y1 : Int32) (y2 : Int32) (y3 : Int32) (H : Heap) (locs : List Loc) (ls : Array Slot) (hf : fX6_link_b22 Q I X y1 y2 y3) (hG : GS D B A s.heap (S, K, L, Y, (I, X), O) H locs) (hl : lv_has ls 4 [(0, .ref (B 0)), (1, .int y1), (2, .int y2), (3, .int y3)]) : W p l e (headSpec wsX6_link rX6_link).room s m args below meth c H locs 0 0 (MQ below (va_Qi post (gB D B A) A) args s 0 0 A) (F0 m 22 ls [.ref (B 0)]) := by
  obtain ⟨hx, hb, hml, hown, hts, hK, hr, hlk, hA, hN⟩ := id C
  unfold fX6_link_b22 at hf
  refine lv_iconst (v := (1 : Int32)) hx hb dX6_link_22 (by decide) ?_
  refine lv_goto (tgt := 27) hx hb dX6_link_23 (by decide) ?_
  exact vX6_link_b27 C hpost  I X y1 y2 y3 (1 : Int32) _ _ _ hf hG (lv_sub hl [0, 1, 2, 3] rfl)
set_option maxHeartbeats 4000000 in
set_option maxRecDepth 100000 in
theorem vX6_link_b0 {p : Program} {l : Launch} {e : Env} {s : State} {m : MethodId} {args : Array Value} {below : List Frame} {meth : Method} {c : Code} {D : va_G} {B : Nat → Nat} {A : Nat → Prop} {S : sS} {K : sK} {L : sL} {Y : sY} {O : sO} {post : Int32 → sG → Prop} {Q : Int32 → (Nat → Int32) → (Nat → Nat → Int32) → Prop} (C : gX p s m args meth c cX6_link 4 (some .int) wsX6_link RX6 D B A) (hpost : ∀ (v : Int32) (I : Nat → Int32) (X : Nat → Nat → Int32), Q v I X → post v (S, K, L, Y, (I, X), O))  (I : Nat → Int32) (X : Nat → Nat → Int32) (x1 : Int32) (x2 : Int32) (x3 : Int32) (H : Heap) (locs : List Loc) (ls : Array Slot) (hf : fX6_link Q I X x1 x2 x3) (hG : GS D B A s.heap (S, K, L, Y, (I, X), O) H locs) (hl : lv_has ls 4 [(0, .ref (B 0)), (1, .int x1), (2, .int x2), (3, .int x3)]) : W p l e (headSpec wsX6_link rX6_link).room s m args below meth c H locs 0 0 (MQ below (va_Qi post (gB D B A) A) args s 0 0 A) (F0 m 0 ls []) := by
  obtain ⟨hx, hb, hml, hown, hts, hK, hr, hlk, hA, hN⟩ := id C
  unfold fX6_link at hf
  refine lv_aload_n hx hb dX6_link_0 rfl (lv_at hl 0 rfl) ?_
  refine lv_iconst (v := (0 : Int32)) hx hb dX6_link_1 (by decide) ?_
  refine gp_M_0 C hG inX6_link_wsX60 (hts _ (List.mem_of_getElem? (i := 1) rfl)) dX6_link_2 (fun I_1 H locs eI_1 hG => ?_)
  replace hf := hf I_1 eI_1
  refine lv_aload_n hx hb dX6_link_5 rfl (lv_at hl 0 rfl) ?_
  refine lv_aload_n hx hb dX6_link_6 rfl (lv_at hl 0 rfl) ?_
  refine lv_iload_n hx hb dX6_link_7 rfl (lv_at hl 1 rfl) ?_
  refine g_callVi0 (As := [.int x1]) C hG (kX6_noRelay hf) (cwV 1 hts gX6_link_X6_noRelay rfl rfl rfl hdvX6_noRelay ⟨Nat.le_of_ble_eq_true rfl, Nat.le_of_ble_eq_true rfl⟩) (va_recv hK hG.1 (ci := 6) (q0 := 0) rfl rfl) rfl hl.1 rfl (Nat.le_of_ble_eq_true rfl) dX6_link_8 ⟨Nat.zero_le _, Nat.zero_le _⟩ (fun r_2 g1 H locs hq hG => ?_)
  obtain ⟨rfl, hf⟩ := hq
  refine lv_if_ne (tgt := 22) hx hb dX6_link_11 (by decide) (fun c_3 => ?_) (fun c_3 => ?_)
  · replace hf := hf.1 c_3
    exact vX6_link_b22 C hpost  I_1 X x1 x2 x3 _ _ _ hf hG (lv_sub hl [0, 1, 2, 3] rfl)
  · replace hf := hf.2 c_3
    refine lv_aload_n hx hb dX6_link_14 rfl (lv_at hl 0 rfl) ?_
    refine lv_iload_n hx hb dX6_link_15 rfl (lv_at hl 2 rfl) ?_
    refine g_callVi0 (As := [.int x2]) C hG (kX6_noRelay hf) (cwV 1 hts gX6_link_X6_noRelay rfl rfl rfl hdvX6_noRelay ⟨Nat.le_of_ble_eq_true rfl, Nat.le_of_ble_eq_true rfl⟩) (va_recv hK hG.1 (ci := 6) (q0 := 0) rfl rfl) rfl hl.1 rfl (Nat.le_of_ble_eq_true rfl) dX6_link_16 ⟨Nat.zero_le _, Nat.zero_le _⟩ (fun r_4 g1 H locs hq hG => ?_)
    obtain ⟨rfl, hf⟩ := hq
    refine lv_if_eq (tgt := 26) hx hb dX6_link_19 (by decide) (fun c_5 => ?_) (fun c_5 => ?_)
    · replace hf := hf.1 c_5
      refine lv_iconst (v := (0 : Int32)) hx hb dX6_link_26 (by decide) ?_
      exact vX6_link_b27 C hpost  I_1 X x1 x2 x3 (0 : Int32) _ _ _ hf hG (lv_sub hl [0, 1, 2, 3] rfl)
    · replace hf := hf.2 c_5
      exact vX6_link_b22 C hpost  I_1 X x1 x2 x3 _ _ _ hf hG (lv_sub hl [0, 1, 2, 3] rfl)
set_option maxRecDepth 100000 in
theorem kX6_link {l : Launch} {D : va_G} {B : Nat → Nat} {S : sS} {K : sK} {L : sL} {Y : sY} {O : sO}  {Q : Int32 → (Nat → Int32) → (Nat → Nat → Int32) → Prop} {I : Nat → Int32} {X : Nat → Nat → Int32} {x1 : Int32} {x2 : Int32} {x3 : Int32} (hf : fX6_link Q I X x1 x2 x3) : gMi D B l yX6_link wsX6_link rX6_link 0 0 [.ref (B 0), .int x1, .int x2, .int x3] (S, K, L, Y, (I, X), O) (fun r g1 => ∃ (I1 : Nat → Int32) (X1 : Nat → Nat → Int32), g1 = (S, K, L, Y, (I1, X1), O) ∧ Q r I1 X1) := by
  refine gMi_of (cc := cX6_link) (maxL := 4) (ret := some .int) (by decide +kernel) rfl (Nat.le_of_ble_eq_true rfl) ?_
  intro p e s m below meth c A hA0 C hG ls hl
  exact vX6_link_b0 C (fun v I X hq => ⟨I, X, rfl, hq⟩) I X x1 x2 x3 _ _ _ hf hG hl
def rX6_sees : Room := { frames := 3, cells := 0, slots := 0, locals := 66 }
theorem hdvX6_sees : yX6_sees.cls = RX6 ∧ yX6_sees.cls ≠ "java/lang/invoke/MethodHandle" ∧ yX6_sees.cls ≠ "java/lang/invoke/VarHandle" ∧ (parseMethodDescriptor yX6_sees.desc).map (fun d => d.parameters.length) = some 3 := by decide +kernel
theorem inX6_sees_wsX60 : ∀ w ∈ wsX60, w ∈ wsX6_sees := (fun _ h => List.mem_cons_of_mem _ (List.mem_append_right _ h))
set_option maxHeartbeats 4000000 in
set_option maxRecDepth 100000 in
theorem vX6_sees_b27 {p : Program} {l : Launch} {e : Env} {s : State} {m : MethodId} {args : Array Value} {below : List Frame} {meth : Method} {c : Code} {D : va_G} {B : Nat → Nat} {A : Nat → Prop} {S : sS} {K : sK} {L : sL} {Y : sY} {O : sO} {post : Int32 → sG → Prop} {Q : Int32 → (Nat → Int32) → (Nat → Nat → Int32) → Prop} (C : gX p s m args meth c cX6_sees 4 (some .boolean) wsX6_sees RX6 D B A) (hpost : ∀ (v : Int32) (I : Nat → Int32) (X : Nat → Nat → Int32), Q v I X → post v (S, K, L, Y, (I, X), O))  (I : Nat → Int32) (X : Nat → Nat → Int32) (y1 : Int32) (y2 : Int32) (y3 : Int32) (t0 : Int32) (H : Heap) (locs : List Loc) (ls : Array Slot) (hf : fX6_sees_b27 Q I X y1 y2 y3 t0) (hG : GS D B A s.heap (S, K, L, Y, (I, X), O) H locs) (hl : lv_has ls 4 [(0, .ref (B 0)), (1, .int y1), (2, .int y2), (3, .int y3)]) : W p l e (headSpec wsX6_sees rX6_sees).room s m args below meth c H locs 0 0 (MQ below (va_Qi post (gB D B A) A) args s 0 0 A) (F0 m 27 ls [.int t0, .ref (B 0)]) := by
  obtain ⟨hx, hb, hml, hown, hts, hK, hr, hlk, hA, hN⟩ := id C
  unfold fX6_sees_b27 at hf
  refine lv_iconst (v := (1 : Int32)) hx hb dX6_sees_27 (by decide) ?_
  refine g_callVi0 (As := [.int t0, .int (1 : Int32)]) C hG (kX6_throwsIf hf) (cwV 2 hts gX6_sees_X6_throwsIf rfl rfl rfl hdvX6_throwsIf ⟨Nat.le_of_ble_eq_true rfl, Nat.le_of_ble_eq_true rfl⟩) (va_recv hK hG.1 (ci := 6) (q0 := 0) rfl rfl) rfl hl.1 rfl (Nat.le_of_ble_eq_true rfl) dX6_sees_28 ⟨Nat.zero_le _, Nat.zero_le _⟩ (fun r_8 g1 H locs hq hG => ?_)
  obtain ⟨I_6, X_7, rfl, hf⟩ := hq
  refine lv_if_ne (tgt := 60) hx hb dX6_sees_31 (by decide) (fun c_9 => ?_) (fun c_9 => ?_)
  · replace hf := hf.1 c_9
    refine lv_iconst (v := (0 : Int32)) hx hb dX6_sees_60 (by decide) ?_
    exact g_zret C hG rfl (hpost _ _ _ hf) dX6_sees_61
  · replace hf := hf.2 c_9
    refine lv_aload_n hx hb dX6_sees_34 rfl (lv_at hl 0 rfl) ?_
    refine lv_iload_n hx hb dX6_sees_35 rfl (lv_at hl 3 rfl) ?_
    refine g_callSi0 (As := [.int y3]) C hG (kX6_noTick hf) (va_cwS 1 hts gX6_sees_X6_noTick rfl rfl rfl hdsX6_noTick ⟨Nat.le_of_ble_eq_true rfl, Nat.le_of_ble_eq_true rfl⟩) rfl hl.1 rfl (Nat.le_of_ble_eq_true rfl) dX6_sees_36 ⟨Nat.zero_le _, Nat.zero_le _⟩ (fun r_10 g1 H locs hq hG => ?_)
    obtain ⟨rfl, hf⟩ := hq
    refine lv_iconst (v := (2 : Int32)) hx hb dX6_sees_39 (by decide) ?_
    refine g_callVi0 (As := [.int r_10, .int (2 : Int32)]) C hG (kX6_throwsIf hf) (cwV 2 hts gX6_sees_X6_throwsIf rfl rfl rfl hdvX6_throwsIf ⟨Nat.le_of_ble_eq_true rfl, Nat.le_of_ble_eq_true rfl⟩) (va_recv hK hG.1 (ci := 6) (q0 := 0) rfl rfl) rfl hl.1 rfl (Nat.le_of_ble_eq_true rfl) dX6_sees_40 ⟨Nat.zero_le _, Nat.zero_le _⟩ (fun r_13 g1 H locs hq hG => ?_)
    obtain ⟨I_11, X_12, rfl, hf⟩ := hq
    refine lv_if_ne (tgt := 60) hx hb dX6_sees_43 (by decide) (fun c_14 => ?_) (fun c_14 => ?_)
    · replace hf := hf.1 c_14
      refine lv_iconst (v := (0 : Int32)) hx hb dX6_sees_60 (by decide) ?_
      exact g_zret C hG rfl (hpost _ _ _ hf) dX6_sees_61
    · replace hf := hf.2 c_14
      refine lv_aload_n hx hb dX6_sees_46 rfl (lv_at hl 0 rfl) ?_
      refine lv_iload_n hx hb dX6_sees_47 rfl (lv_at hl 1 rfl) ?_
      refine lv_iload_n hx hb dX6_sees_48 rfl (lv_at hl 2 rfl) ?_
      refine lv_iload_n hx hb dX6_sees_49 rfl (lv_at hl 3 rfl) ?_
      refine g_callVi0 (As := [.int y1, .int y2, .int y3]) C hG (kX6_seesOf hf) (cwV 3 hts gX6_sees_X6_seesOf rfl rfl rfl hdvX6_seesOf ⟨Nat.le_of_ble_eq_true rfl, Nat.le_of_ble_eq_true rfl⟩) (va_recv hK hG.1 (ci := 6) (q0 := 0) rfl rfl) rfl hl.1 rfl (Nat.le_of_ble_eq_true rfl) dX6_sees_50 ⟨Nat.zero_le _, Nat.zero_le _⟩ (fun r_15 g1 H locs hq hG => ?_)
      obtain ⟨rfl, hf⟩ := hq
      refine lv_if_eq (tgt := 60) hx hb dX6_sees_53 (by decide) (fun c_16 => ?_) (fun c_16 => ?_)
      · replace hf := hf.1 c_16
        refine lv_iconst (v := (0 : Int32)) hx hb dX6_sees_60 (by decide) ?_
        exact g_zret C hG rfl (hpost _ _ _ hf) dX6_sees_61
      · replace hf := hf.2 c_16
        refine lv_iconst (v := (1 : Int32)) hx hb dX6_sees_56 (by decide) ?_
        refine lv_goto (tgt := 61) hx hb dX6_sees_57 (by decide) ?_
        exact g_zret C hG rfl (hpost _ _ _ hf) dX6_sees_61
set_option maxHeartbeats 4000000 in
set_option maxRecDepth 100000 in
theorem vX6_sees_b22 {p : Program} {l : Launch} {e : Env} {s : State} {m : MethodId} {args : Array Value} {below : List Frame} {meth : Method} {c : Code} {D : va_G} {B : Nat → Nat} {A : Nat → Prop} {S : sS} {K : sK} {L : sL} {Y : sY} {O : sO} {post : Int32 → sG → Prop} {Q : Int32 → (Nat → Int32) → (Nat → Nat → Int32) → Prop} (C : gX p s m args meth c cX6_sees 4 (some .boolean) wsX6_sees RX6 D B A) (hpost : ∀ (v : Int32) (I : Nat → Int32) (X : Nat → Nat → Int32), Q v I X → post v (S, K, L, Y, (I, X), O))  (I : Nat → Int32) (X : Nat → Nat → Int32) (y1 : Int32) (y2 : Int32) (y3 : Int32) (H : Heap) (locs : List Loc) (ls : Array Slot) (hf : fX6_sees_b22 Q I X y1 y2 y3) (hG : GS D B A s.heap (S, K, L, Y, (I, X), O) H locs) (hl : lv_has ls 4 [(0, .ref (B 0)), (1, .int y1), (2, .int y2), (3, .int y3)]) : W p l e (headSpec wsX6_sees rX6_sees).room s m args below meth c H locs 0 0 (MQ below (va_Qi post (gB D B A) A) args s 0 0 A) (F0 m 22 ls [.ref (B 0)]) := by
  obtain ⟨hx, hb, hml, hown, hts, hK, hr, hlk, hA, hN⟩ := id C
  unfold fX6_sees_b22 at hf
  refine lv_iconst (v := (1 : Int32)) hx hb dX6_sees_22 (by decide) ?_
  refine lv_goto (tgt := 27) hx hb dX6_sees_23 (by decide) ?_
  exact vX6_sees_b27 C hpost  I X y1 y2 y3 (1 : Int32) _ _ _ hf hG (lv_sub hl [0, 1, 2, 3] rfl)
set_option maxHeartbeats 4000000 in
set_option maxRecDepth 100000 in
theorem vX6_sees_b0 {p : Program} {l : Launch} {e : Env} {s : State} {m : MethodId} {args : Array Value} {below : List Frame} {meth : Method} {c : Code} {D : va_G} {B : Nat → Nat} {A : Nat → Prop} {S : sS} {K : sK} {L : sL} {Y : sY} {O : sO} {post : Int32 → sG → Prop} {Q : Int32 → (Nat → Int32) → (Nat → Nat → Int32) → Prop} (C : gX p s m args meth c cX6_sees 4 (some .boolean) wsX6_sees RX6 D B A) (hpost : ∀ (v : Int32) (I : Nat → Int32) (X : Nat → Nat → Int32), Q v I X → post v (S, K, L, Y, (I, X), O))  (I : Nat → Int32) (X : Nat → Nat → Int32) (x1 : Int32) (x2 : Int32) (x3 : Int32) (H : Heap) (locs : List Loc) (ls : Array Slot) (hf : fX6_sees Q I X x1 x2 x3) (hG : GS D B A s.heap (S, K, L, Y, (I, X), O) H locs) (hl : lv_has ls 4 [(0, .ref (B 0)), (1, .int x1), (2, .int x2), (3, .int x3)]) : W p l e (headSpec wsX6_sees rX6_sees).room s m args below meth c H locs 0 0 (MQ below (va_Qi post (gB D B A) A) args s 0 0 A) (F0 m 0 ls []) := by
  obtain ⟨hx, hb, hml, hown, hts, hK, hr, hlk, hA, hN⟩ := id C
  unfold fX6_sees at hf
  refine lv_aload_n hx hb dX6_sees_0 rfl (lv_at hl 0 rfl) ?_
  refine lv_iconst (v := (0 : Int32)) hx hb dX6_sees_1 (by decide) ?_
  refine gp_M_0 C hG inX6_sees_wsX60 (hts _ (List.mem_of_getElem? (i := 1) rfl)) dX6_sees_2 (fun I_1 H locs eI_1 hG => ?_)
  replace hf := hf I_1 eI_1
  refine lv_aload_n hx hb dX6_sees_5 rfl (lv_at hl 0 rfl) ?_
  refine lv_aload_n hx hb dX6_sees_6 rfl (lv_at hl 0 rfl) ?_
  refine lv_iload_n hx hb dX6_sees_7 rfl (lv_at hl 1 rfl) ?_
  refine g_callVi0 (As := [.int x1]) C hG (kX6_noPost hf) (cwV 1 hts gX6_sees_X6_noPost rfl rfl rfl hdvX6_noPost ⟨Nat.le_of_ble_eq_true rfl, Nat.le_of_ble_eq_true rfl⟩) (va_recv hK hG.1 (ci := 6) (q0 := 0) rfl rfl) rfl hl.1 rfl (Nat.le_of_ble_eq_true rfl) dX6_sees_8 ⟨Nat.zero_le _, Nat.zero_le _⟩ (fun r_2 g1 H locs hq hG => ?_)
  obtain ⟨rfl, hf⟩ := hq
  refine lv_if_ne (tgt := 22) hx hb dX6_sees_11 (by decide) (fun c_3 => ?_) (fun c_3 => ?_)
  · replace hf := hf.1 c_3
    exact vX6_sees_b22 C hpost  I_1 X x1 x2 x3 _ _ _ hf hG (lv_sub hl [0, 1, 2, 3] rfl)
  · replace hf := hf.2 c_3
    refine lv_aload_n hx hb dX6_sees_14 rfl (lv_at hl 0 rfl) ?_
    refine lv_iload_n hx hb dX6_sees_15 rfl (lv_at hl 2 rfl) ?_
    refine g_callVi0 (As := [.int x2]) C hG (kX6_noRelay hf) (cwV 1 hts gX6_sees_X6_noRelay rfl rfl rfl hdvX6_noRelay ⟨Nat.le_of_ble_eq_true rfl, Nat.le_of_ble_eq_true rfl⟩) (va_recv hK hG.1 (ci := 6) (q0 := 0) rfl rfl) rfl hl.1 rfl (Nat.le_of_ble_eq_true rfl) dX6_sees_16 ⟨Nat.zero_le _, Nat.zero_le _⟩ (fun r_4 g1 H locs hq hG => ?_)
    obtain ⟨rfl, hf⟩ := hq
    refine lv_if_eq (tgt := 26) hx hb dX6_sees_19 (by decide) (fun c_5 => ?_) (fun c_5 => ?_)
    · replace hf := hf.1 c_5
      refine lv_iconst (v := (0 : Int32)) hx hb dX6_sees_26 (by decide) ?_
      exact vX6_sees_b27 C hpost  I_1 X x1 x2 x3 (0 : Int32) _ _ _ hf hG (lv_sub hl [0, 1, 2, 3] rfl)
    · replace hf := hf.2 c_5
      exact vX6_sees_b22 C hpost  I_1 X x1 x2 x3 _ _ _ hf hG (lv_sub hl [0, 1, 2, 3] rfl)
set_option maxRecDepth 100000 in
theorem kX6_sees {l : Launch} {D : va_G} {B : Nat → Nat} {S : sS} {K : sK} {L : sL} {Y : sY} {O : sO}  {Q : Int32 → (Nat → Int32) → (Nat → Nat → Int32) → Prop} {I : Nat → Int32} {X : Nat → Nat → Int32} {x1 : Int32} {x2 : Int32} {x3 : Int32} (hf : fX6_sees Q I X x1 x2 x3) : gMi D B l yX6_sees wsX6_sees rX6_sees 0 0 [.ref (B 0), .int x1, .int x2, .int x3] (S, K, L, Y, (I, X), O) (fun r g1 => ∃ (I1 : Nat → Int32) (X1 : Nat → Nat → Int32), g1 = (S, K, L, Y, (I1, X1), O) ∧ Q r I1 X1) := by
  refine gMi_of (cc := cX6_sees) (maxL := 4) (ret := some .boolean) (by decide +kernel) rfl (Nat.le_of_ble_eq_true rfl) ?_
  intro p e s m below meth c A hA0 C hG ls hl
  exact vX6_sees_b0 C (fun v I X hq => ⟨I, X, rfl, hq⟩) I X x1 x2 x3 _ _ _ hf hG hl
def rX6_meets : Room := { frames := 3, cells := 0, slots := 0, locals := 66 }
theorem hdvX6_meets : yX6_meets.cls = RX6 ∧ yX6_meets.cls ≠ "java/lang/invoke/MethodHandle" ∧ yX6_meets.cls ≠ "java/lang/invoke/VarHandle" ∧ (parseMethodDescriptor yX6_meets.desc).map (fun d => d.parameters.length) = some 1 := by decide +kernel
theorem inX6_meets_wsX60 : ∀ w ∈ wsX60, w ∈ wsX6_meets := (fun _ h => List.mem_cons_of_mem _ (List.mem_append_right _ h))
set_option maxHeartbeats 4000000 in
set_option maxRecDepth 100000 in
theorem vX6_meets_b85 {p : Program} {l : Launch} {e : Env} {s : State} {m : MethodId} {args : Array Value} {below : List Frame} {meth : Method} {c : Code} {D : va_G} {B : Nat → Nat} {A : Nat → Prop} {S : sS} {K : sK} {L : sL} {Y : sY} {O : sO} {post : Int32 → sG → Prop} {Q : Int32 → (Nat → Int32) → (Nat → Nat → Int32) → Prop} (C : gX p s m args meth c cX6_meets 6 (some .int) wsX6_meets RX6 D B A) (hpost : ∀ (v : Int32) (I : Nat → Int32) (X : Nat → Nat → Int32), Q v I X → post v (S, K, L, Y, (I, X), O)) {G24 : (Nat → Int32) → (Nat → Nat → Int32) → Int32 → Int32 → Int32 → Prop} (hG24 : ∀ (I : Nat → Int32) (X : Nat → Nat → Int32) (y1 : Int32) (y2 : Int32) (y3 : Int32) (H : Heap) (locs : List Loc) (ls : Array Slot), G24 I X y1 y2 y3 → GS D B A s.heap (S, K, L, Y, (I, X), O) H locs → lv_has ls 6 [(0, .ref (B 0)), (1, .int y1), (2, .int y2), (3, .int y3)] → W p l e (headSpec wsX6_meets rX6_meets).room s m args below meth c H locs 0 0 (MQ below (va_Qi post (gB D B A) A) args s 0 0 A) (F0 m 24 ls [])) (I : Nat → Int32) (X : Nat → Nat → Int32) (y1 : Int32) (y3 : Int32) (t0 : Int32) (t1 : Int32) (H : Heap) (locs : List Loc) (ls : Array Slot) (hf : fX6_meets_b85 G24 Q I X y1 y3 t0 t1) (hG : GS D B A s.heap (S, K, L, Y, (I, X), O) H locs) (hl : lv_has ls 6 [(0, .ref (B 0)), (1, .int y1), (3, .int y3)]) : W p l e (headSpec wsX6_meets rX6_meets).room s m args below meth c H locs 0 0 (MQ below (va_Qi post (gB D B A) A) args s 0 0 A) (F0 m 85 ls [.int t0, .int t1]) := by
  obtain ⟨hx, hb, hml, hown, hts, hK, hr, hlk, hA, hN⟩ := id C
  unfold fX6_meets_b85 at hf
  refine lv_iadd hx hb dX6_meets_85 ?_
  refine lv_topi (fun x2_14 ex2_14 => ?_)
  replace hf := hf x2_14 ex2_14
  refine lv_istore_n (lv' := [(2, .int x2_14), (0, .ref (B 0)), (1, .int y1), (3, .int y3)]) hx hb dX6_meets_86 rfl hl (by decide) rfl (fun ls hl => ?_)
  obtain ⟨x3_15, ex3_15⟩ : ∃ y : Int32, y = y3 + (1 : Int32) := ⟨_, rfl⟩
  replace hf := hf x3_15 ex3_15
  refine lv_iinc (v := x3_15) (lv' := [(3, .int x3_15), (2, .int x2_14), (0, .ref (B 0)), (1, .int y1)]) hx hb dX6_meets_87 hl (k := 3) rfl (by rw [ex3_15]; rfl) (by decide) rfl (fun ls hl => ?_)
  refine lv_goto (tgt := 24) hx hb dX6_meets_90 (by decide) ?_
  exact hG24 I X y1 x2_14 x3_15 _ _ _ hf hG (lv_sub hl [2, 3, 1, 0] rfl)
set_option maxHeartbeats 4000000 in
set_option maxRecDepth 100000 in
theorem vX6_meets_b66 {p : Program} {l : Launch} {e : Env} {s : State} {m : MethodId} {args : Array Value} {below : List Frame} {meth : Method} {c : Code} {D : va_G} {B : Nat → Nat} {A : Nat → Prop} {S : sS} {K : sK} {L : sL} {Y : sY} {O : sO} {post : Int32 → sG → Prop} {Q : Int32 → (Nat → Int32) → (Nat → Nat → Int32) → Prop} (C : gX p s m args meth c cX6_meets 6 (some .int) wsX6_meets RX6 D B A) (hpost : ∀ (v : Int32) (I : Nat → Int32) (X : Nat → Nat → Int32), Q v I X → post v (S, K, L, Y, (I, X), O)) {G24 : (Nat → Int32) → (Nat → Nat → Int32) → Int32 → Int32 → Int32 → Prop} (hG24 : ∀ (I : Nat → Int32) (X : Nat → Nat → Int32) (y1 : Int32) (y2 : Int32) (y3 : Int32) (H : Heap) (locs : List Loc) (ls : Array Slot), G24 I X y1 y2 y3 → GS D B A s.heap (S, K, L, Y, (I, X), O) H locs → lv_has ls 6 [(0, .ref (B 0)), (1, .int y1), (2, .int y2), (3, .int y3)] → W p l e (headSpec wsX6_meets rX6_meets).room s m args below meth c H locs 0 0 (MQ below (va_Qi post (gB D B A) A) args s 0 0 A) (F0 m 24 ls [])) {G36 : (Nat → Int32) → (Nat → Nat → Int32) → Int32 → Int32 → Int32 → Int32 → Int32 → Prop} (hG36 : ∀ (I : Nat → Int32) (X : Nat → Nat → Int32) (y1 : Int32) (y2 : Int32) (y3 : Int32) (y4 : Int32) (y5 : Int32) (H : Heap) (locs : List Loc) (ls : Array Slot), G36 I X y1 y2 y3 y4 y5 → GS D B A s.heap (S, K, L, Y, (I, X), O) H locs → lv_has ls 6 [(0, .ref (B 0)), (1, .int y1), (2, .int y2), (3, .int y3), (4, .int y4), (5, .int y5)] → W p l e (headSpec wsX6_meets rX6_meets).room s m args below meth c H locs 0 0 (MQ below (va_Qi post (gB D B A) A) args s 0 0 A) (F0 m 36 ls [])) (I : Nat → Int32) (X : Nat → Nat → Int32) (y1 : Int32) (y2 : Int32) (y3 : Int32) (y5 : Int32) (t0 : Int32) (H : Heap) (locs : List Loc) (ls : Array Slot) (hf : fX6_meets_b66 G24 G36 Q I X y1 y2 y3 y5 t0) (hG : GS D B A s.heap (S, K, L, Y, (I, X), O) H locs) (hl : lv_has ls 6 [(0, .ref (B 0)), (1, .int y1), (2, .int y2), (3, .int y3), (5, .int y5)]) : W p l e (headSpec wsX6_meets rX6_meets).room s m args below meth c H locs 0 0 (MQ below (va_Qi post (gB D B A) A) args s 0 0 A) (F0 m 66 ls [.int t0]) := by
  obtain ⟨hx, hb, hml, hown, hts, hK, hr, hlk, hA, hN⟩ := id C
  unfold fX6_meets_b66 at hf
  refine lv_istore (lv' := [(4, .int t0), (0, .ref (B 0)), (1, .int y1), (2, .int y2), (3, .int y3), (5, .int y5)]) hx hb dX6_meets_66 hl (by decide) rfl (fun ls hl => ?_)
  obtain ⟨x5_13, ex5_13⟩ : ∃ y : Int32, y = y5 + (1 : Int32) := ⟨_, rfl⟩
  replace hf := hf x5_13 ex5_13
  refine lv_iinc (v := x5_13) (lv' := [(5, .int x5_13), (4, .int t0), (0, .ref (B 0)), (1, .int y1), (2, .int y2), (3, .int y3)]) hx hb dX6_meets_68 hl (k := 5) rfl (by rw [ex5_13]; rfl) (by decide) rfl (fun ls hl => ?_)
  refine lv_goto (tgt := 36) hx hb dX6_meets_71 (by decide) ?_
  exact hG36 I X y1 y2 y3 t0 x5_13 _ _ _ hf hG (lv_sub hl [2, 3, 4, 5, 1, 0] rfl)
set_option maxHeartbeats 4000000 in
set_option maxRecDepth 100000 in
theorem vX6_meets_b61 {p : Program} {l : Launch} {e : Env} {s : State} {m : MethodId} {args : Array Value} {below : List Frame} {meth : Method} {c : Code} {D : va_G} {B : Nat → Nat} {A : Nat → Prop} {S : sS} {K : sK} {L : sL} {Y : sY} {O : sO} {post : Int32 → sG → Prop} {Q : Int32 → (Nat → Int32) → (Nat → Nat → Int32) → Prop} (C : gX p s m args meth c cX6_meets 6 (some .int) wsX6_meets RX6 D B A) (hpost : ∀ (v : Int32) (I : Nat → Int32) (X : Nat → Nat → Int32), Q v I X → post v (S, K, L, Y, (I, X), O)) {G24 : (Nat → Int32) → (Nat → Nat → Int32) → Int32 → Int32 → Int32 → Prop} (hG24 : ∀ (I : Nat → Int32) (X : Nat → Nat → Int32) (y1 : Int32) (y2 : Int32) (y3 : Int32) (H : Heap) (locs : List Loc) (ls : Array Slot), G24 I X y1 y2 y3 → GS D B A s.heap (S, K, L, Y, (I, X), O) H locs → lv_has ls 6 [(0, .ref (B 0)), (1, .int y1), (2, .int y2), (3, .int y3)] → W p l e (headSpec wsX6_meets rX6_meets).room s m args below meth c H locs 0 0 (MQ below (va_Qi post (gB D B A) A) args s 0 0 A) (F0 m 24 ls [])) {G36 : (Nat → Int32) → (Nat → Nat → Int32) → Int32 → Int32 → Int32 → Int32 → Int32 → Prop} (hG36 : ∀ (I : Nat → Int32) (X : Nat → Nat → Int32) (y1 : Int32) (y2 : Int32) (y3 : Int32) (y4 : Int32) (y5 : Int32) (H : Heap) (locs : List Loc) (ls : Array Slot), G36 I X y1 y2 y3 y4 y5 → GS D B A s.heap (S, K, L, Y, (I, X), O) H locs → lv_has ls 6 [(0, .ref (B 0)), (1, .int y1), (2, .int y2), (3, .int y3), (4, .int y4), (5, .int y5)] → W p l e (headSpec wsX6_meets rX6_meets).room s m args below meth c H locs 0 0 (MQ below (va_Qi post (gB D B A) A) args s 0 0 A) (F0 m 36 ls [])) (I : Nat → Int32) (X : Nat → Nat → Int32) (y1 : Int32) (y2 : Int32) (y3 : Int32) (y5 : Int32) (H : Heap) (locs : List Loc) (ls : Array Slot) (hf : fX6_meets_b61 G24 G36 Q I X y1 y2 y3 y5) (hG : GS D B A s.heap (S, K, L, Y, (I, X), O) H locs) (hl : lv_has ls 6 [(0, .ref (B 0)), (1, .int y1), (2, .int y2), (3, .int y3), (5, .int y5)]) : W p l e (headSpec wsX6_meets rX6_meets).room s m args below meth c H locs 0 0 (MQ below (va_Qi post (gB D B A) A) args s 0 0 A) (F0 m 61 ls []) := by
  obtain ⟨hx, hb, hml, hown, hts, hK, hr, hlk, hA, hN⟩ := id C
  unfold fX6_meets_b61 at hf
  refine lv_iconst (v := (1 : Int32)) hx hb dX6_meets_61 (by decide) ?_
  refine lv_goto (tgt := 66) hx hb dX6_meets_62 (by decide) ?_
  exact vX6_meets_b66 C hpost hG24 hG36 I X y1 y2 y3 y5 (1 : Int32) _ _ _ hf hG (lv_sub hl [0, 1, 2, 3, 4] rfl)
set_option maxHeartbeats 4000000 in
set_option maxRecDepth 100000 in
theorem vX6_meets_h36 {p : Program} {l : Launch} {e : Env} {s : State} {m : MethodId} {args : Array Value} {below : List Frame} {meth : Method} {c : Code} {D : va_G} {B : Nat → Nat} {A : Nat → Prop} {S : sS} {K : sK} {L : sL} {Y : sY} {O : sO} {post : Int32 → sG → Prop} {Q : Int32 → (Nat → Int32) → (Nat → Nat → Int32) → Prop} (C : gX p s m args meth c cX6_meets 6 (some .int) wsX6_meets RX6 D B A) (hpost : ∀ (v : Int32) (I : Nat → Int32) (X : Nat → Nat → Int32), Q v I X → post v (S, K, L, Y, (I, X), O)) {G24 : (Nat → Int32) → (Nat → Nat → Int32) → Int32 → Int32 → Int32 → Prop} (hG24 : ∀ (I : Nat → Int32) (X : Nat → Nat → Int32) (y1 : Int32) (y2 : Int32) (y3 : Int32) (H : Heap) (locs : List Loc) (ls : Array Slot), G24 I X y1 y2 y3 → GS D B A s.heap (S, K, L, Y, (I, X), O) H locs → lv_has ls 6 [(0, .ref (B 0)), (1, .int y1), (2, .int y2), (3, .int y3)] → W p l e (headSpec wsX6_meets rX6_meets).room s m args below meth c H locs 0 0 (MQ below (va_Qi post (gB D B A) A) args s 0 0 A) (F0 m 24 ls [])) : ∀ (n36 : Nat) (I : Nat → Int32) (X : Nat → Nat → Int32) (y1 : Int32) (y2 : Int32) (y3 : Int32) (y4 : Int32) (y5 : Int32) (H : Heap) (locs : List Loc) (ls : Array Slot), fX6_meets_h36 G24 Q n36 I X y1 y2 y3 y4 y5 → GS D B A s.heap (S, K, L, Y, (I, X), O) H locs → lv_has ls 6 [(0, .ref (B 0)), (1, .int y1), (2, .int y2), (3, .int y3), (4, .int y4), (5, .int y5)] → W p l e (headSpec wsX6_meets rX6_meets).room s m args below meth c H locs 0 0 (MQ below (va_Qi post (gB D B A) A) args s 0 0 A) (F0 m 36 ls []) := by
  obtain ⟨hx, hb, hml, hown, hts, hK, hr, hlk, hA, hN⟩ := id C
  intro n36
  induction n36 with
  | zero =>
    intro I X y1 y2 y3 y4 y5 H locs ls hf
    exact False.elim hf
  | succ n36 hG36 =>
    intro I X y1 y2 y3 y4 y5 H locs ls hf hG hl
    unfold fX6_meets_h36 at hf
    refine lv_iload hx hb dX6_meets_36 (lv_at hl 5 rfl) ?_
    refine lv_aload_n hx hb dX6_meets_38 rfl (lv_at hl 0 rfl) ?_
    refine gg_M_9 C hG inX6_meets_wsX60 (hts _ (List.mem_of_getElem? (i := 2) rfl)) dX6_meets_39 ?_
    refine lv_icmp_ge (tgt := 74) hx hb dX6_meets_42 (by decide) (fun c_8 => ?_) (fun c_8 => ?_)
    · replace hf := hf.1 c_8
      refine lv_iload_n hx hb dX6_meets_74 rfl (lv_at hl 2 rfl) ?_
      refine lv_iload hx hb dX6_meets_75 (lv_at hl 4 rfl) ?_
      refine lv_if_eq (tgt := 84) hx hb dX6_meets_77 (by decide) (fun c_9 => ?_) (fun c_9 => ?_)
      · replace hf := hf.1 c_9
        refine lv_iconst (v := (0 : Int32)) hx hb dX6_meets_84 (by decide) ?_
        exact vX6_meets_b85 C hpost hG24 I X y1 y3 (0 : Int32) y2 _ _ _ hf hG (lv_sub hl [0, 1, 3] rfl)
      · replace hf := hf.2 c_9
        refine lv_iconst (v := (1 : Int32)) hx hb dX6_meets_80 (by decide) ?_
        refine lv_goto (tgt := 85) hx hb dX6_meets_81 (by decide) ?_
        exact vX6_meets_b85 C hpost hG24 I X y1 y3 (1 : Int32) y2 _ _ _ hf hG (lv_sub hl [0, 1, 3] rfl)
    · replace hf := hf.2 c_8
      refine lv_iload hx hb dX6_meets_45 (lv_at hl 4 rfl) ?_
      refine lv_if_ne (tgt := 61) hx hb dX6_meets_47 (by decide) (fun c_10 => ?_) (fun c_10 => ?_)
      · replace hf := hf.1 c_10
        exact vX6_meets_b61 C hpost hG24 hG36 I X y1 y2 y3 y5 _ _ _ hf hG (lv_sub hl [0, 1, 2, 3, 5] rfl)
      · replace hf := hf.2 c_10
        refine lv_aload_n hx hb dX6_meets_50 rfl (lv_at hl 0 rfl) ?_
        refine lv_iload_n hx hb dX6_meets_51 rfl (lv_at hl 1 rfl) ?_
        refine lv_iload hx hb dX6_meets_52 (lv_at hl 5 rfl) ?_
        refine lv_iload_n hx hb dX6_meets_54 rfl (lv_at hl 3 rfl) ?_
        refine g_callVi0 (As := [.int y1, .int y5, .int y3]) C hG (kX6_seesOf hf) (cwV 3 hts gX6_meets_X6_seesOf rfl rfl rfl hdvX6_seesOf ⟨Nat.le_of_ble_eq_true rfl, Nat.le_of_ble_eq_true rfl⟩) (va_recv hK hG.1 (ci := 6) (q0 := 0) rfl rfl) rfl hl.1 rfl (Nat.le_of_ble_eq_true rfl) dX6_meets_55 ⟨Nat.zero_le _, Nat.zero_le _⟩ (fun r_11 g1 H locs hq hG => ?_)
        obtain ⟨rfl, hf⟩ := hq
        refine lv_if_eq (tgt := 65) hx hb dX6_meets_58 (by decide) (fun c_12 => ?_) (fun c_12 => ?_)
        · replace hf := hf.1 c_12
          refine lv_iconst (v := (0 : Int32)) hx hb dX6_meets_65 (by decide) ?_
          exact vX6_meets_b66 C hpost hG24 hG36 I X y1 y2 y3 y5 (0 : Int32) _ _ _ hf hG (lv_sub hl [0, 1, 2, 3, 5] rfl)
        · replace hf := hf.2 c_12
          exact vX6_meets_b61 C hpost hG24 hG36 I X y1 y2 y3 y5 _ _ _ hf hG (lv_sub hl [0, 1, 2, 3, 5] rfl)
set_option maxHeartbeats 4000000 in
set_option maxRecDepth 100000 in
theorem vX6_meets_h24 {p : Program} {l : Launch} {e : Env} {s : State} {m : MethodId} {args : Array Value} {below : List Frame} {meth : Method} {c : Code} {D : va_G} {B : Nat → Nat} {A : Nat → Prop} {S : sS} {K : sK} {L : sL} {Y : sY} {O : sO} {post : Int32 → sG → Prop} {Q : Int32 → (Nat → Int32) → (Nat → Nat → Int32) → Prop} (C : gX p s m args meth c cX6_meets 6 (some .int) wsX6_meets RX6 D B A) (hpost : ∀ (v : Int32) (I : Nat → Int32) (X : Nat → Nat → Int32), Q v I X → post v (S, K, L, Y, (I, X), O))  : ∀ (n24 : Nat) (I : Nat → Int32) (X : Nat → Nat → Int32) (y1 : Int32) (y2 : Int32) (y3 : Int32) (H : Heap) (locs : List Loc) (ls : Array Slot), fX6_meets_h24 Q n24 I X y1 y2 y3 → GS D B A s.heap (S, K, L, Y, (I, X), O) H locs → lv_has ls 6 [(0, .ref (B 0)), (1, .int y1), (2, .int y2), (3, .int y3)] → W p l e (headSpec wsX6_meets rX6_meets).room s m args below meth c H locs 0 0 (MQ below (va_Qi post (gB D B A) A) args s 0 0 A) (F0 m 24 ls []) := by
  obtain ⟨hx, hb, hml, hown, hts, hK, hr, hlk, hA, hN⟩ := id C
  intro n24
  induction n24 with
  | zero =>
    intro I X y1 y2 y3 H locs ls hf
    exact False.elim hf
  | succ n24 hG24 =>
    intro I X y1 y2 y3 H locs ls hf hG hl
    unfold fX6_meets_h24 at hf
    refine lv_iload_n hx hb dX6_meets_24 rfl (lv_at hl 3 rfl) ?_
    refine lv_bipush (v := (32 : Int32)) hx hb dX6_meets_25 (by decide) ?_
    refine lv_icmp_ge (tgt := 93) hx hb dX6_meets_27 (by decide) (fun c_7 => ?_) (fun c_7 => ?_)
    · replace hf := hf.1 c_7
      refine lv_iload_n hx hb dX6_meets_93 rfl (lv_at hl 2 rfl) ?_
      exact g_iret C hG (hpost _ _ _ hf) dX6_meets_94
    · replace hf := hf.2 c_7
      refine lv_iconst (v := (0 : Int32)) hx hb dX6_meets_30 (by decide) ?_
      refine lv_istore (lv' := [(4, .int (0 : Int32)), (0, .ref (B 0)), (1, .int y1), (2, .int y2), (3, .int y3)]) hx hb dX6_meets_31 hl (by decide) rfl (fun ls hl => ?_)
      refine lv_iconst (v := (0 : Int32)) hx hb dX6_meets_33 (by decide) ?_
      refine lv_istore (lv' := [(5, .int (0 : Int32)), (4, .int (0 : Int32)), (0, .ref (B 0)), (1, .int y1), (2, .int y2), (3, .int y3)]) hx hb dX6_meets_34 hl (by decide) rfl (fun ls hl => ?_)
      obtain ⟨n36, hf⟩ := hf
      exact vX6_meets_h36 C hpost hG24 n36 I X y1 y2 y3 (0 : Int32) (0 : Int32) _ _ _ hf hG (lv_sub hl [2, 3, 4, 5, 1, 0] rfl)
set_option maxHeartbeats 4000000 in
set_option maxRecDepth 100000 in
theorem vX6_meets_b0 {p : Program} {l : Launch} {e : Env} {s : State} {m : MethodId} {args : Array Value} {below : List Frame} {meth : Method} {c : Code} {D : va_G} {B : Nat → Nat} {A : Nat → Prop} {S : sS} {K : sK} {L : sL} {Y : sY} {O : sO} {post : Int32 → sG → Prop} {Q : Int32 → (Nat → Int32) → (Nat → Nat → Int32) → Prop} (C : gX p s m args meth c cX6_meets 6 (some .int) wsX6_meets RX6 D B A) (hpost : ∀ (v : Int32) (I : Nat → Int32) (X : Nat → Nat → Int32), Q v I X → post v (S, K, L, Y, (I, X), O))  (I : Nat → Int32) (X : Nat → Nat → Int32) (x1 : Int32) (H : Heap) (locs : List Loc) (ls : Array Slot) (hf : fX6_meets Q I X x1) (hG : GS D B A s.heap (S, K, L, Y, (I, X), O) H locs) (hl : lv_has ls 6 [(0, .ref (B 0)), (1, .int x1)]) : W p l e (headSpec wsX6_meets rX6_meets).room s m args below meth c H locs 0 0 (MQ below (va_Qi post (gB D B A) A) args s 0 0 A) (F0 m 0 ls []) := by
  obtain ⟨hx, hb, hml, hown, hts, hK, hr, hlk, hA, hN⟩ := id C
  unfold fX6_meets at hf
  refine lv_aload_n hx hb dX6_meets_0 rfl (lv_at hl 0 rfl) ?_
  refine lv_iconst (v := (0 : Int32)) hx hb dX6_meets_1 (by decide) ?_
  refine gp_M_0 C hG inX6_meets_wsX60 (hts _ (List.mem_of_getElem? (i := 1) rfl)) dX6_meets_2 (fun I_1 H locs eI_1 hG => ?_)
  replace hf := hf I_1 eI_1
  refine lv_aload_n hx hb dX6_meets_5 rfl (lv_at hl 0 rfl) ?_
  refine lv_aload_n hx hb dX6_meets_6 rfl (lv_at hl 0 rfl) ?_
  refine lv_iload_n hx hb dX6_meets_7 rfl (lv_at hl 1 rfl) ?_
  refine g_callVi0 (As := [.int x1]) C hG (kX6_noPost hf) (cwV 1 hts gX6_meets_X6_noPost rfl rfl rfl hdvX6_noPost ⟨Nat.le_of_ble_eq_true rfl, Nat.le_of_ble_eq_true rfl⟩) (va_recv hK hG.1 (ci := 6) (q0 := 0) rfl rfl) rfl hl.1 rfl (Nat.le_of_ble_eq_true rfl) dX6_meets_8 ⟨Nat.zero_le _, Nat.zero_le _⟩ (fun r_2 g1 H locs hq hG => ?_)
  obtain ⟨rfl, hf⟩ := hq
  refine lv_iconst (v := (1 : Int32)) hx hb dX6_meets_11 (by decide) ?_
  refine g_callVi0 (As := [.int r_2, .int (1 : Int32)]) C hG (kX6_throwsIf hf) (cwV 2 hts gX6_meets_X6_throwsIf rfl rfl rfl hdvX6_throwsIf ⟨Nat.le_of_ble_eq_true rfl, Nat.le_of_ble_eq_true rfl⟩) (va_recv hK hG.1 (ci := 6) (q0 := 0) rfl rfl) rfl hl.1 rfl (Nat.le_of_ble_eq_true rfl) dX6_meets_12 ⟨Nat.zero_le _, Nat.zero_le _⟩ (fun r_5 g1 H locs hq hG => ?_)
  obtain ⟨I_3, X_4, rfl, hf⟩ := hq
  refine lv_if_eq (tgt := 20) hx hb dX6_meets_15 (by decide) (fun c_6 => ?_) (fun c_6 => ?_)
  · replace hf := hf.1 c_6
    refine lv_iconst (v := (0 : Int32)) hx hb dX6_meets_20 (by decide) ?_
    refine lv_istore_n (lv' := [(2, .int (0 : Int32)), (0, .ref (B 0)), (1, .int x1)]) hx hb dX6_meets_21 rfl hl (by decide) rfl (fun ls hl => ?_)
    refine lv_iconst (v := (0 : Int32)) hx hb dX6_meets_22 (by decide) ?_
    refine lv_istore_n (lv' := [(3, .int (0 : Int32)), (2, .int (0 : Int32)), (0, .ref (B 0)), (1, .int x1)]) hx hb dX6_meets_23 rfl hl (by decide) rfl (fun ls hl => ?_)
    obtain ⟨n24, hf⟩ := hf
    exact vX6_meets_h24 C hpost  n24 I_3 X_4 x1 (0 : Int32) (0 : Int32) _ _ _ hf hG (lv_sub hl [2, 3, 1, 0] rfl)
  · replace hf := hf.2 c_6
    refine lv_iconst (v := (0 : Int32)) hx hb dX6_meets_18 (by decide) ?_
    exact g_iret C hG (hpost _ _ _ hf) dX6_meets_19
set_option maxRecDepth 100000 in
theorem kX6_meets {l : Launch} {D : va_G} {B : Nat → Nat} {S : sS} {K : sK} {L : sL} {Y : sY} {O : sO}  {Q : Int32 → (Nat → Int32) → (Nat → Nat → Int32) → Prop} {I : Nat → Int32} {X : Nat → Nat → Int32} {x1 : Int32} (hf : fX6_meets Q I X x1) : gMi D B l yX6_meets wsX6_meets rX6_meets 0 0 [.ref (B 0), .int x1] (S, K, L, Y, (I, X), O) (fun r g1 => ∃ (I1 : Nat → Int32) (X1 : Nat → Nat → Int32), g1 = (S, K, L, Y, (I1, X1), O) ∧ Q r I1 X1) := by
  refine gMi_of (cc := cX6_meets) (maxL := 6) (ret := some .int) (by decide +kernel) rfl (Nat.le_of_ble_eq_true rfl) ?_
  intro p e s m below meth c A hA0 C hG ls hl
  exact vX6_meets_b0 C (fun v I X hq => ⟨I, X, rfl, hq⟩) I X x1 _ _ _ hf hG hl
def rX6_isTaken : Room := { frames := 0, cells := 0, slots := 0, locals := 0 }
theorem hdvX6_isTaken : yX6_isTaken.cls = RX6 ∧ yX6_isTaken.cls ≠ "java/lang/invoke/MethodHandle" ∧ yX6_isTaken.cls ≠ "java/lang/invoke/VarHandle" ∧ (parseMethodDescriptor yX6_isTaken.desc).map (fun d => d.parameters.length) = some 2 := by decide +kernel
theorem inX6_isTaken_wsX60 : ∀ w ∈ wsX60, w ∈ wsX6_isTaken := (fun _ h => List.mem_cons_of_mem _ (List.mem_append_right _ h))
set_option maxHeartbeats 4000000 in
set_option maxRecDepth 100000 in
theorem vX6_isTaken_b45 {p : Program} {l : Launch} {e : Env} {s : State} {m : MethodId} {args : Array Value} {below : List Frame} {meth : Method} {c : Code} {D : va_G} {B : Nat → Nat} {A : Nat → Prop} {S : sS} {K : sK} {L : sL} {Y : sY} {O : sO} {post : Int32 → sG → Prop} {I : Nat → Int32} {X : Nat → Nat → Int32} {Q : Int32 → Prop} (C : gX p s m args meth c cX6_isTaken 5 (some .boolean) wsX6_isTaken RX6 D B A) (hpost : ∀ (v : Int32) , Q v  → post v (S, K, L, Y, (I, X), O)) {G5 : Int32 → Int32 → Int32 → Int32 → Prop} (hG5 : ∀  (y1 : Int32) (y2 : Int32) (y3 : Int32) (y4 : Int32) (H : Heap) (locs : List Loc) (ls : Array Slot), G5 y1 y2 y3 y4 → GS D B A s.heap (S, K, L, Y, (I, X), O) H locs → lv_has ls 5 [(0, .ref (B 0)), (1, .int y1), (2, .int y2), (3, .int y3), (4, .int y4)] → W p l e (headSpec wsX6_isTaken rX6_isTaken).room s m args below meth c H locs 0 0 (MQ below (va_Qi post (gB D B A) A) args s 0 0 A) (F0 m 5 ls []))  (y1 : Int32) (y2 : Int32) (y4 : Int32) (t0 : Int32) (H : Heap) (locs : List Loc) (ls : Array Slot) (hf : fX6_isTaken_b45 I X G5 Q y1 y2 y4 t0) (hG : GS D B A s.heap (S, K, L, Y, (I, X), O) H locs) (hl : lv_has ls 5 [(0, .ref (B 0)), (1, .int y1), (2, .int y2), (4, .int y4)]) : W p l e (headSpec wsX6_isTaken rX6_isTaken).room s m args below meth c H locs 0 0 (MQ below (va_Qi post (gB D B A) A) args s 0 0 A) (F0 m 45 ls [.int t0]) := by
  obtain ⟨hx, hb, hml, hown, hts, hK, hr, hlk, hA, hN⟩ := id C
  unfold fX6_isTaken_b45 at hf
  refine lv_istore_n (lv' := [(3, .int t0), (0, .ref (B 0)), (1, .int y1), (2, .int y2), (4, .int y4)]) hx hb dX6_isTaken_45 rfl hl (by decide) rfl (fun ls hl => ?_)
  obtain ⟨x4_8, ex4_8⟩ : ∃ y : Int32, y = y4 + (1 : Int32) := ⟨_, rfl⟩
  replace hf := hf x4_8 ex4_8
  refine lv_iinc (v := x4_8) (lv' := [(4, .int x4_8), (3, .int t0), (0, .ref (B 0)), (1, .int y1), (2, .int y2)]) hx hb dX6_isTaken_46 hl (k := 4) rfl (by rw [ex4_8]; rfl) (by decide) rfl (fun ls hl => ?_)
  refine lv_goto (tgt := 5) hx hb dX6_isTaken_49 (by decide) ?_
  exact hG5 y1 y2 t0 x4_8 _ _ _ hf hG (lv_sub hl [2, 3, 4, 1, 0] rfl)
set_option maxHeartbeats 4000000 in
set_option maxRecDepth 100000 in
theorem vX6_isTaken_b44 {p : Program} {l : Launch} {e : Env} {s : State} {m : MethodId} {args : Array Value} {below : List Frame} {meth : Method} {c : Code} {D : va_G} {B : Nat → Nat} {A : Nat → Prop} {S : sS} {K : sK} {L : sL} {Y : sY} {O : sO} {post : Int32 → sG → Prop} {I : Nat → Int32} {X : Nat → Nat → Int32} {Q : Int32 → Prop} (C : gX p s m args meth c cX6_isTaken 5 (some .boolean) wsX6_isTaken RX6 D B A) (hpost : ∀ (v : Int32) , Q v  → post v (S, K, L, Y, (I, X), O)) {G5 : Int32 → Int32 → Int32 → Int32 → Prop} (hG5 : ∀  (y1 : Int32) (y2 : Int32) (y3 : Int32) (y4 : Int32) (H : Heap) (locs : List Loc) (ls : Array Slot), G5 y1 y2 y3 y4 → GS D B A s.heap (S, K, L, Y, (I, X), O) H locs → lv_has ls 5 [(0, .ref (B 0)), (1, .int y1), (2, .int y2), (3, .int y3), (4, .int y4)] → W p l e (headSpec wsX6_isTaken rX6_isTaken).room s m args below meth c H locs 0 0 (MQ below (va_Qi post (gB D B A) A) args s 0 0 A) (F0 m 5 ls []))  (y1 : Int32) (y2 : Int32) (y4 : Int32) (H : Heap) (locs : List Loc) (ls : Array Slot) (hf : fX6_isTaken_b44 I X G5 Q y1 y2 y4) (hG : GS D B A s.heap (S, K, L, Y, (I, X), O) H locs) (hl : lv_has ls 5 [(0, .ref (B 0)), (1, .int y1), (2, .int y2), (4, .int y4)]) : W p l e (headSpec wsX6_isTaken rX6_isTaken).room s m args below meth c H locs 0 0 (MQ below (va_Qi post (gB D B A) A) args s 0 0 A) (F0 m 44 ls []) := by
  obtain ⟨hx, hb, hml, hown, hts, hK, hr, hlk, hA, hN⟩ := id C
  unfold fX6_isTaken_b44 at hf
  refine lv_iconst (v := (0 : Int32)) hx hb dX6_isTaken_44 (by decide) ?_
  exact vX6_isTaken_b45 C hpost hG5 y1 y2 y4 (0 : Int32) _ _ _ hf hG (lv_sub hl [0, 1, 2, 3] rfl)
set_option maxHeartbeats 4000000 in
set_option maxRecDepth 100000 in
theorem vX6_isTaken_b40 {p : Program} {l : Launch} {e : Env} {s : State} {m : MethodId} {args : Array Value} {below : List Frame} {meth : Method} {c : Code} {D : va_G} {B : Nat → Nat} {A : Nat → Prop} {S : sS} {K : sK} {L : sL} {Y : sY} {O : sO} {post : Int32 → sG → Prop} {I : Nat → Int32} {X : Nat → Nat → Int32} {Q : Int32 → Prop} (C : gX p s m args meth c cX6_isTaken 5 (some .boolean) wsX6_isTaken RX6 D B A) (hpost : ∀ (v : Int32) , Q v  → post v (S, K, L, Y, (I, X), O)) {G5 : Int32 → Int32 → Int32 → Int32 → Prop} (hG5 : ∀  (y1 : Int32) (y2 : Int32) (y3 : Int32) (y4 : Int32) (H : Heap) (locs : List Loc) (ls : Array Slot), G5 y1 y2 y3 y4 → GS D B A s.heap (S, K, L, Y, (I, X), O) H locs → lv_has ls 5 [(0, .ref (B 0)), (1, .int y1), (2, .int y2), (3, .int y3), (4, .int y4)] → W p l e (headSpec wsX6_isTaken rX6_isTaken).room s m args below meth c H locs 0 0 (MQ below (va_Qi post (gB D B A) A) args s 0 0 A) (F0 m 5 ls []))  (y1 : Int32) (y2 : Int32) (y4 : Int32) (H : Heap) (locs : List Loc) (ls : Array Slot) (hf : fX6_isTaken_b40 I X G5 Q y1 y2 y4) (hG : GS D B A s.heap (S, K, L, Y, (I, X), O) H locs) (hl : lv_has ls 5 [(0, .ref (B 0)), (1, .int y1), (2, .int y2), (4, .int y4)]) : W p l e (headSpec wsX6_isTaken rX6_isTaken).room s m args below meth c H locs 0 0 (MQ below (va_Qi post (gB D B A) A) args s 0 0 A) (F0 m 40 ls []) := by
  obtain ⟨hx, hb, hml, hown, hts, hK, hr, hlk, hA, hN⟩ := id C
  unfold fX6_isTaken_b40 at hf
  refine lv_iconst (v := (1 : Int32)) hx hb dX6_isTaken_40 (by decide) ?_
  refine lv_goto (tgt := 45) hx hb dX6_isTaken_41 (by decide) ?_
  exact vX6_isTaken_b45 C hpost hG5 y1 y2 y4 (1 : Int32) _ _ _ hf hG (lv_sub hl [0, 1, 2, 3] rfl)
set_option maxHeartbeats 4000000 in
set_option maxRecDepth 100000 in
theorem vX6_isTaken_h5 {p : Program} {l : Launch} {e : Env} {s : State} {m : MethodId} {args : Array Value} {below : List Frame} {meth : Method} {c : Code} {D : va_G} {B : Nat → Nat} {A : Nat → Prop} {S : sS} {K : sK} {L : sL} {Y : sY} {O : sO} {post : Int32 → sG → Prop} {I : Nat → Int32} {X : Nat → Nat → Int32} {Q : Int32 → Prop} (C : gX p s m args meth c cX6_isTaken 5 (some .boolean) wsX6_isTaken RX6 D B A) (hpost : ∀ (v : Int32) , Q v  → post v (S, K, L, Y, (I, X), O))  : ∀ (n5 : Nat)  (y1 : Int32) (y2 : Int32) (y3 : Int32) (y4 : Int32) (H : Heap) (locs : List Loc) (ls : Array Slot), fX6_isTaken_h5 I X Q n5 y1 y2 y3 y4 → GS D B A s.heap (S, K, L, Y, (I, X), O) H locs → lv_has ls 5 [(0, .ref (B 0)), (1, .int y1), (2, .int y2), (3, .int y3), (4, .int y4)] → W p l e (headSpec wsX6_isTaken rX6_isTaken).room s m args below meth c H locs 0 0 (MQ below (va_Qi post (gB D B A) A) args s 0 0 A) (F0 m 5 ls []) := by
  obtain ⟨hx, hb, hml, hown, hts, hK, hr, hlk, hA, hN⟩ := id C
  intro n5
  induction n5 with
  | zero =>
    intro y1 y2 y3 y4 H locs ls hf
    exact False.elim hf
  | succ n5 hG5 =>
    intro y1 y2 y3 y4 H locs ls hf hG hl
    unfold fX6_isTaken_h5 at hf
    refine lv_iload hx hb dX6_isTaken_5 (lv_at hl 4 rfl) ?_
    refine lv_aload_n hx hb dX6_isTaken_7 rfl (lv_at hl 0 rfl) ?_
    refine gg_M_32 C hG inX6_isTaken_wsX60 (hts _ (List.mem_of_getElem? (i := 1) rfl)) dX6_isTaken_8 ?_
    refine lv_icmp_ge (tgt := 52) hx hb dX6_isTaken_11 (by decide) (fun c_1 => ?_) (fun c_1 => ?_)
    · replace hf := hf.1 c_1
      refine lv_iload_n hx hb dX6_isTaken_52 rfl (lv_at hl 3 rfl) ?_
      obtain ⟨h_2, hf⟩ := hf
      exact g_zret C hG h_2 (hpost _ hf) dX6_isTaken_53
    · replace hf := hf.2 c_1
      refine lv_iload_n hx hb dX6_isTaken_14 rfl (lv_at hl 3 rfl) ?_
      refine lv_if_ne (tgt := 40) hx hb dX6_isTaken_15 (by decide) (fun c_3 => ?_) (fun c_3 => ?_)
      · replace hf := hf.1 c_3
        exact vX6_isTaken_b40 C hpost hG5 y1 y2 y4 _ _ _ hf hG (lv_sub hl [0, 1, 2, 4] rfl)
      · replace hf := hf.2 c_3
        refine lv_aload_n hx hb dX6_isTaken_18 rfl (lv_at hl 0 rfl) ?_
        refine gg_M_29 C hG inX6_isTaken_wsX60 (hts _ (List.mem_of_getElem? (i := 2) rfl)) dX6_isTaken_19 ?_
        refine lv_iload hx hb dX6_isTaken_22 (lv_at hl 4 rfl) ?_
        obtain ⟨h_4, hf⟩ := hf
        refine ga_M_29 C hG h_4 dX6_isTaken_24 ?_
        refine lv_iload_n hx hb dX6_isTaken_25 rfl (lv_at hl 1 rfl) ?_
        refine lv_icmp_ne (tgt := 44) hx hb dX6_isTaken_26 (by decide) (fun c_5 => ?_) (fun c_5 => ?_)
        · replace hf := hf.1 c_5
          exact vX6_isTaken_b44 C hpost hG5 y1 y2 y4 _ _ _ hf hG (lv_sub hl [0, 1, 2, 4] rfl)
        · replace hf := hf.2 c_5
          refine lv_aload_n hx hb dX6_isTaken_29 rfl (lv_at hl 0 rfl) ?_
          refine gg_M_30 C hG inX6_isTaken_wsX60 (hts _ (List.mem_of_getElem? (i := 3) rfl)) dX6_isTaken_30 ?_
          refine lv_iload hx hb dX6_isTaken_33 (lv_at hl 4 rfl) ?_
          obtain ⟨h_6, hf⟩ := hf
          refine ga_M_30 C hG h_6 dX6_isTaken_35 ?_
          refine lv_iload_n hx hb dX6_isTaken_36 rfl (lv_at hl 2 rfl) ?_
          refine lv_icmp_ne (tgt := 44) hx hb dX6_isTaken_37 (by decide) (fun c_7 => ?_) (fun c_7 => ?_)
          · replace hf := hf.1 c_7
            exact vX6_isTaken_b44 C hpost hG5 y1 y2 y4 _ _ _ hf hG (lv_sub hl [0, 1, 2, 4] rfl)
          · replace hf := hf.2 c_7
            exact vX6_isTaken_b40 C hpost hG5 y1 y2 y4 _ _ _ hf hG (lv_sub hl [0, 1, 2, 4] rfl)
set_option maxHeartbeats 4000000 in
set_option maxRecDepth 100000 in
theorem vX6_isTaken_b0 {p : Program} {l : Launch} {e : Env} {s : State} {m : MethodId} {args : Array Value} {below : List Frame} {meth : Method} {c : Code} {D : va_G} {B : Nat → Nat} {A : Nat → Prop} {S : sS} {K : sK} {L : sL} {Y : sY} {O : sO} {post : Int32 → sG → Prop} {I : Nat → Int32} {X : Nat → Nat → Int32} {Q : Int32 → Prop} (C : gX p s m args meth c cX6_isTaken 5 (some .boolean) wsX6_isTaken RX6 D B A) (hpost : ∀ (v : Int32) , Q v  → post v (S, K, L, Y, (I, X), O))   (x1 : Int32) (x2 : Int32) (H : Heap) (locs : List Loc) (ls : Array Slot) (hf : fX6_isTaken I X Q x1 x2) (hG : GS D B A s.heap (S, K, L, Y, (I, X), O) H locs) (hl : lv_has ls 5 [(0, .ref (B 0)), (1, .int x1), (2, .int x2)]) : W p l e (headSpec wsX6_isTaken rX6_isTaken).room s m args below meth c H locs 0 0 (MQ below (va_Qi post (gB D B A) A) args s 0 0 A) (F0 m 0 ls []) := by
  obtain ⟨hx, hb, hml, hown, hts, hK, hr, hlk, hA, hN⟩ := id C
  unfold fX6_isTaken at hf
  refine lv_iconst (v := (0 : Int32)) hx hb dX6_isTaken_0 (by decide) ?_
  refine lv_istore_n (lv' := [(3, .int (0 : Int32)), (0, .ref (B 0)), (1, .int x1), (2, .int x2)]) hx hb dX6_isTaken_1 rfl hl (by decide) rfl (fun ls hl => ?_)
  refine lv_iconst (v := (0 : Int32)) hx hb dX6_isTaken_2 (by decide) ?_
  refine lv_istore (lv' := [(4, .int (0 : Int32)), (3, .int (0 : Int32)), (0, .ref (B 0)), (1, .int x1), (2, .int x2)]) hx hb dX6_isTaken_3 hl (by decide) rfl (fun ls hl => ?_)
  obtain ⟨n5, hf⟩ := hf
  exact vX6_isTaken_h5 C hpost  n5 x1 x2 (0 : Int32) (0 : Int32) _ _ _ hf hG (lv_sub hl [2, 3, 4, 1, 0] rfl)
set_option maxRecDepth 100000 in
theorem kX6_isTaken {l : Launch} {D : va_G} {B : Nat → Nat} {S : sS} {K : sK} {L : sL} {Y : sY} {O : sO} {I : Nat → Int32} {X : Nat → Nat → Int32} {Q : Int32 → Prop} {x1 : Int32} {x2 : Int32} (hf : fX6_isTaken I X Q x1 x2) : gMi D B l yX6_isTaken wsX6_isTaken rX6_isTaken 0 0 [.ref (B 0), .int x1, .int x2] (S, K, L, Y, (I, X), O) (fun r g1 => g1 = (S, K, L, Y, (I, X), O) ∧ Q r ) := by
  refine gMi_of (cc := cX6_isTaken) (maxL := 5) (ret := some .boolean) (by decide +kernel) rfl (Nat.le_of_ble_eq_true rfl) ?_
  intro p e s m below meth c A hA0 C hG ls hl
  exact vX6_isTaken_b0 C (fun v  hq => ⟨rfl, hq⟩) x1 x2 _ _ _ hf hG hl
def rX6_handsOut : Room := { frames := 0, cells := 0, slots := 0, locals := 0 }
theorem hdvX6_handsOut : yX6_handsOut.cls = RX6 ∧ yX6_handsOut.cls ≠ "java/lang/invoke/MethodHandle" ∧ yX6_handsOut.cls ≠ "java/lang/invoke/VarHandle" ∧ (parseMethodDescriptor yX6_handsOut.desc).map (fun d => d.parameters.length) = some 0 := by decide +kernel
theorem inX6_handsOut_wsX60 : ∀ w ∈ wsX60, w ∈ wsX6_handsOut := (fun _ h => List.mem_cons_of_mem _ (List.mem_append_right _ h))
set_option maxHeartbeats 4000000 in
set_option maxRecDepth 100000 in
theorem vX6_handsOut_b122 {p : Program} {l : Launch} {e : Env} {s : State} {m : MethodId} {args : Array Value} {below : List Frame} {meth : Method} {c : Code} {D : va_G} {B : Nat → Nat} {A : Nat → Prop} {S : sS} {K : sK} {L : sL} {Y : sY} {O : sO} {post : sG → Prop} {Q : (Nat → Int32) → (Nat → Nat → Int32) → Prop} (C : gX p s m args meth c cX6_handsOut 4 (none) wsX6_handsOut RX6 D B A) (hpost : ∀ (I : Nat → Int32) (X : Nat → Nat → Int32), Q I X → post (S, K, L, Y, (I, X), O)) {G2 : (Nat → Int32) → (Nat → Nat → Int32) → Int32 → Prop} (hG2 : ∀ (I : Nat → Int32) (X : Nat → Nat → Int32) (y1 : Int32) (H : Heap) (locs : List Loc) (ls : Array Slot), G2 I X y1 → GS D B A s.heap (S, K, L, Y, (I, X), O) H locs → lv_has ls 4 [(0, .ref (B 0)), (1, .int y1)] → W p l e (headSpec wsX6_handsOut rX6_handsOut).room s m args below meth c H locs 0 0 (MQ below (va_Qv post (gB D B A) A) args s 0 0 A) (F0 m 2 ls [])) (I : Nat → Int32) (X : Nat → Nat → Int32) (y1 : Int32) (H : Heap) (locs : List Loc) (ls : Array Slot) (hf : fX6_handsOut_b122 G2 Q I X y1) (hG : GS D B A s.heap (S, K, L, Y, (I, X), O) H locs) (hl : lv_has ls 4 [(0, .ref (B 0)), (1, .int y1)]) : W p l e (headSpec wsX6_handsOut rX6_handsOut).room s m args below meth c H locs 0 0 (MQ below (va_Qv post (gB D B A) A) args s 0 0 A) (F0 m 122 ls []) := by
  obtain ⟨hx, hb, hml, hown, hts, hK, hr, hlk, hA, hN⟩ := id C
  unfold fX6_handsOut_b122 at hf
  obtain ⟨x1_22, ex1_22⟩ : ∃ y : Int32, y = y1 + (1 : Int32) := ⟨_, rfl⟩
  replace hf := hf x1_22 ex1_22
  refine lv_iinc (v := x1_22) (lv' := [(1, .int x1_22), (0, .ref (B 0))]) hx hb dX6_handsOut_122 hl (k := 1) rfl (by rw [ex1_22]; rfl) (by decide) rfl (fun ls hl => ?_)
  refine lv_goto (tgt := 2) hx hb dX6_handsOut_125 (by decide) ?_
  exact hG2 I X x1_22 _ _ _ hf hG (lv_sub hl [1, 0] rfl)
set_option maxHeartbeats 4000000 in
set_option maxRecDepth 100000 in
theorem vX6_handsOut_b91 {p : Program} {l : Launch} {e : Env} {s : State} {m : MethodId} {args : Array Value} {below : List Frame} {meth : Method} {c : Code} {D : va_G} {B : Nat → Nat} {A : Nat → Prop} {S : sS} {K : sK} {L : sL} {Y : sY} {O : sO} {post : sG → Prop} {Q : (Nat → Int32) → (Nat → Nat → Int32) → Prop} (C : gX p s m args meth c cX6_handsOut 4 (none) wsX6_handsOut RX6 D B A) (hpost : ∀ (I : Nat → Int32) (X : Nat → Nat → Int32), Q I X → post (S, K, L, Y, (I, X), O)) {G2 : (Nat → Int32) → (Nat → Nat → Int32) → Int32 → Prop} (hG2 : ∀ (I : Nat → Int32) (X : Nat → Nat → Int32) (y1 : Int32) (H : Heap) (locs : List Loc) (ls : Array Slot), G2 I X y1 → GS D B A s.heap (S, K, L, Y, (I, X), O) H locs → lv_has ls 4 [(0, .ref (B 0)), (1, .int y1)] → W p l e (headSpec wsX6_handsOut rX6_handsOut).room s m args below meth c H locs 0 0 (MQ below (va_Qv post (gB D B A) A) args s 0 0 A) (F0 m 2 ls [])) {G27 : (Nat → Int32) → (Nat → Nat → Int32) → Int32 → Int32 → Int32 → Prop} (hG27 : ∀ (I : Nat → Int32) (X : Nat → Nat → Int32) (y1 : Int32) (y2 : Int32) (y3 : Int32) (H : Heap) (locs : List Loc) (ls : Array Slot), G27 I X y1 y2 y3 → GS D B A s.heap (S, K, L, Y, (I, X), O) H locs → lv_has ls 4 [(0, .ref (B 0)), (1, .int y1), (2, .int y2), (3, .int y3)] → W p l e (headSpec wsX6_handsOut rX6_handsOut).room s m args below meth c H locs 0 0 (MQ below (va_Qv post (gB D B A) A) args s 0 0 A) (F0 m 27 ls [])) (I : Nat → Int32) (X : Nat → Nat → Int32) (y1 : Int32) (y3 : Int32) (t0 : Int32) (H : Heap) (locs : List Loc) (ls : Array Slot) (hf : fX6_handsOut_b91 G2 G27 Q I X y1 y3 t0) (hG : GS D B A s.heap (S, K, L, Y, (I, X), O) H locs) (hl : lv_has ls 4 [(0, .ref (B 0)), (1, .int y1), (3, .int y3)]) : W p l e (headSpec wsX6_handsOut rX6_handsOut).room s m args below meth c H locs 0 0 (MQ below (va_Qv post (gB D B A) A) args s 0 0 A) (F0 m 91 ls [.int t0]) := by
  obtain ⟨hx, hb, hml, hown, hts, hK, hr, hlk, hA, hN⟩ := id C
  unfold fX6_handsOut_b91 at hf
  refine lv_istore_n (lv' := [(2, .int t0), (0, .ref (B 0)), (1, .int y1), (3, .int y3)]) hx hb dX6_handsOut_91 rfl hl (by decide) rfl (fun ls hl => ?_)
  obtain ⟨x3_21, ex3_21⟩ : ∃ y : Int32, y = y3 + (1 : Int32) := ⟨_, rfl⟩
  replace hf := hf x3_21 ex3_21
  refine lv_iinc (v := x3_21) (lv' := [(3, .int x3_21), (2, .int t0), (0, .ref (B 0)), (1, .int y1)]) hx hb dX6_handsOut_92 hl (k := 3) rfl (by rw [ex3_21]; rfl) (by decide) rfl (fun ls hl => ?_)
  refine lv_goto (tgt := 27) hx hb dX6_handsOut_95 (by decide) ?_
  exact hG27 I X y1 t0 x3_21 _ _ _ hf hG (lv_sub hl [2, 3, 1, 0] rfl)
set_option maxHeartbeats 4000000 in
set_option maxRecDepth 100000 in
theorem vX6_handsOut_b90 {p : Program} {l : Launch} {e : Env} {s : State} {m : MethodId} {args : Array Value} {below : List Frame} {meth : Method} {c : Code} {D : va_G} {B : Nat → Nat} {A : Nat → Prop} {S : sS} {K : sK} {L : sL} {Y : sY} {O : sO} {post : sG → Prop} {Q : (Nat → Int32) → (Nat → Nat → Int32) → Prop} (C : gX p s m args meth c cX6_handsOut 4 (none) wsX6_handsOut RX6 D B A) (hpost : ∀ (I : Nat → Int32) (X : Nat → Nat → Int32), Q I X → post (S, K, L, Y, (I, X), O)) {G2 : (Nat → Int32) → (Nat → Nat → Int32) → Int32 → Prop} (hG2 : ∀ (I : Nat → Int32) (X : Nat → Nat → Int32) (y1 : Int32) (H : Heap) (locs : List Loc) (ls : Array Slot), G2 I X y1 → GS D B A s.heap (S, K, L, Y, (I, X), O) H locs → lv_has ls 4 [(0, .ref (B 0)), (1, .int y1)] → W p l e (headSpec wsX6_handsOut rX6_handsOut).room s m args below meth c H locs 0 0 (MQ below (va_Qv post (gB D B A) A) args s 0 0 A) (F0 m 2 ls [])) {G27 : (Nat → Int32) → (Nat → Nat → Int32) → Int32 → Int32 → Int32 → Prop} (hG27 : ∀ (I : Nat → Int32) (X : Nat → Nat → Int32) (y1 : Int32) (y2 : Int32) (y3 : Int32) (H : Heap) (locs : List Loc) (ls : Array Slot), G27 I X y1 y2 y3 → GS D B A s.heap (S, K, L, Y, (I, X), O) H locs → lv_has ls 4 [(0, .ref (B 0)), (1, .int y1), (2, .int y2), (3, .int y3)] → W p l e (headSpec wsX6_handsOut rX6_handsOut).room s m args below meth c H locs 0 0 (MQ below (va_Qv post (gB D B A) A) args s 0 0 A) (F0 m 27 ls [])) (I : Nat → Int32) (X : Nat → Nat → Int32) (y1 : Int32) (y3 : Int32) (H : Heap) (locs : List Loc) (ls : Array Slot) (hf : fX6_handsOut_b90 G2 G27 Q I X y1 y3) (hG : GS D B A s.heap (S, K, L, Y, (I, X), O) H locs) (hl : lv_has ls 4 [(0, .ref (B 0)), (1, .int y1), (3, .int y3)]) : W p l e (headSpec wsX6_handsOut rX6_handsOut).room s m args below meth c H locs 0 0 (MQ below (va_Qv post (gB D B A) A) args s 0 0 A) (F0 m 90 ls []) := by
  obtain ⟨hx, hb, hml, hown, hts, hK, hr, hlk, hA, hN⟩ := id C
  unfold fX6_handsOut_b90 at hf
  refine lv_iconst (v := (0 : Int32)) hx hb dX6_handsOut_90 (by decide) ?_
  exact vX6_handsOut_b91 C hpost hG2 hG27 I X y1 y3 (0 : Int32) _ _ _ hf hG (lv_sub hl [0, 1, 2] rfl)
set_option maxHeartbeats 4000000 in
set_option maxRecDepth 100000 in
theorem vX6_handsOut_b86 {p : Program} {l : Launch} {e : Env} {s : State} {m : MethodId} {args : Array Value} {below : List Frame} {meth : Method} {c : Code} {D : va_G} {B : Nat → Nat} {A : Nat → Prop} {S : sS} {K : sK} {L : sL} {Y : sY} {O : sO} {post : sG → Prop} {Q : (Nat → Int32) → (Nat → Nat → Int32) → Prop} (C : gX p s m args meth c cX6_handsOut 4 (none) wsX6_handsOut RX6 D B A) (hpost : ∀ (I : Nat → Int32) (X : Nat → Nat → Int32), Q I X → post (S, K, L, Y, (I, X), O)) {G2 : (Nat → Int32) → (Nat → Nat → Int32) → Int32 → Prop} (hG2 : ∀ (I : Nat → Int32) (X : Nat → Nat → Int32) (y1 : Int32) (H : Heap) (locs : List Loc) (ls : Array Slot), G2 I X y1 → GS D B A s.heap (S, K, L, Y, (I, X), O) H locs → lv_has ls 4 [(0, .ref (B 0)), (1, .int y1)] → W p l e (headSpec wsX6_handsOut rX6_handsOut).room s m args below meth c H locs 0 0 (MQ below (va_Qv post (gB D B A) A) args s 0 0 A) (F0 m 2 ls [])) {G27 : (Nat → Int32) → (Nat → Nat → Int32) → Int32 → Int32 → Int32 → Prop} (hG27 : ∀ (I : Nat → Int32) (X : Nat → Nat → Int32) (y1 : Int32) (y2 : Int32) (y3 : Int32) (H : Heap) (locs : List Loc) (ls : Array Slot), G27 I X y1 y2 y3 → GS D B A s.heap (S, K, L, Y, (I, X), O) H locs → lv_has ls 4 [(0, .ref (B 0)), (1, .int y1), (2, .int y2), (3, .int y3)] → W p l e (headSpec wsX6_handsOut rX6_handsOut).room s m args below meth c H locs 0 0 (MQ below (va_Qv post (gB D B A) A) args s 0 0 A) (F0 m 27 ls [])) (I : Nat → Int32) (X : Nat → Nat → Int32) (y1 : Int32) (y3 : Int32) (H : Heap) (locs : List Loc) (ls : Array Slot) (hf : fX6_handsOut_b86 G2 G27 Q I X y1 y3) (hG : GS D B A s.heap (S, K, L, Y, (I, X), O) H locs) (hl : lv_has ls 4 [(0, .ref (B 0)), (1, .int y1), (3, .int y3)]) : W p l e (headSpec wsX6_handsOut rX6_handsOut).room s m args below meth c H locs 0 0 (MQ below (va_Qv post (gB D B A) A) args s 0 0 A) (F0 m 86 ls []) := by
  obtain ⟨hx, hb, hml, hown, hts, hK, hr, hlk, hA, hN⟩ := id C
  unfold fX6_handsOut_b86 at hf
  refine lv_iconst (v := (1 : Int32)) hx hb dX6_handsOut_86 (by decide) ?_
  refine lv_goto (tgt := 91) hx hb dX6_handsOut_87 (by decide) ?_
  exact vX6_handsOut_b91 C hpost hG2 hG27 I X y1 y3 (1 : Int32) _ _ _ hf hG (lv_sub hl [0, 1, 2] rfl)
set_option maxHeartbeats 4000000 in
set_option maxRecDepth 100000 in
theorem vX6_handsOut_h27 {p : Program} {l : Launch} {e : Env} {s : State} {m : MethodId} {args : Array Value} {below : List Frame} {meth : Method} {c : Code} {D : va_G} {B : Nat → Nat} {A : Nat → Prop} {S : sS} {K : sK} {L : sL} {Y : sY} {O : sO} {post : sG → Prop} {Q : (Nat → Int32) → (Nat → Nat → Int32) → Prop} (C : gX p s m args meth c cX6_handsOut 4 (none) wsX6_handsOut RX6 D B A) (hpost : ∀ (I : Nat → Int32) (X : Nat → Nat → Int32), Q I X → post (S, K, L, Y, (I, X), O)) {G2 : (Nat → Int32) → (Nat → Nat → Int32) → Int32 → Prop} (hG2 : ∀ (I : Nat → Int32) (X : Nat → Nat → Int32) (y1 : Int32) (H : Heap) (locs : List Loc) (ls : Array Slot), G2 I X y1 → GS D B A s.heap (S, K, L, Y, (I, X), O) H locs → lv_has ls 4 [(0, .ref (B 0)), (1, .int y1)] → W p l e (headSpec wsX6_handsOut rX6_handsOut).room s m args below meth c H locs 0 0 (MQ below (va_Qv post (gB D B A) A) args s 0 0 A) (F0 m 2 ls [])) : ∀ (n27 : Nat) (I : Nat → Int32) (X : Nat → Nat → Int32) (y1 : Int32) (y2 : Int32) (y3 : Int32) (H : Heap) (locs : List Loc) (ls : Array Slot), fX6_handsOut_h27 G2 Q n27 I X y1 y2 y3 → GS D B A s.heap (S, K, L, Y, (I, X), O) H locs → lv_has ls 4 [(0, .ref (B 0)), (1, .int y1), (2, .int y2), (3, .int y3)] → W p l e (headSpec wsX6_handsOut rX6_handsOut).room s m args below meth c H locs 0 0 (MQ below (va_Qv post (gB D B A) A) args s 0 0 A) (F0 m 27 ls []) := by
  obtain ⟨hx, hb, hml, hown, hts, hK, hr, hlk, hA, hN⟩ := id C
  intro n27
  induction n27 with
  | zero =>
    intro I X y1 y2 y3 H locs ls hf
    exact False.elim hf
  | succ n27 hG27 =>
    intro I X y1 y2 y3 H locs ls hf hG hl
    unfold fX6_handsOut_h27 at hf
    refine lv_iload_n hx hb dX6_handsOut_27 rfl (lv_at hl 3 rfl) ?_
    refine lv_iload_n hx hb dX6_handsOut_28 rfl (lv_at hl 1 rfl) ?_
    refine lv_icmp_ge (tgt := 98) hx hb dX6_handsOut_29 (by decide) (fun c_4 => ?_) (fun c_4 => ?_)
    · replace hf := hf.1 c_4
      refine lv_iload_n hx hb dX6_handsOut_98 rfl (lv_at hl 2 rfl) ?_
      refine lv_if_ne (tgt := 105) hx hb dX6_handsOut_99 (by decide) (fun c_5 => ?_) (fun c_5 => ?_)
      · replace hf := hf.1 c_5
        refine lv_aload_n hx hb dX6_handsOut_105 rfl (lv_at hl 0 rfl) ?_
        refine gg_M_21 C hG inX6_handsOut_wsX60 (hts _ (List.mem_of_getElem? (i := 2) rfl)) dX6_handsOut_106 ?_
        refine lv_iload_n hx hb dX6_handsOut_109 rfl (lv_at hl 1 rfl) ?_
        refine lv_iconst (v := (4 : Int32)) hx hb dX6_handsOut_110 (by decide) ?_
        obtain ⟨h_6, hf⟩ := hf
        refine gs_M_21 C hG h_6 dX6_handsOut_111 (fun X_7 H locs eX_7 hG => ?_)
        replace hf := hf X_7 eX_7
        refine lv_aload_n hx hb dX6_handsOut_112 rfl (lv_at hl 0 rfl) ?_
        refine gg_M_28 C hG inX6_handsOut_wsX60 (hts _ (List.mem_of_getElem? (i := 5) rfl)) dX6_handsOut_113 ?_
        refine lv_iload_n hx hb dX6_handsOut_116 rfl (lv_at hl 1 rfl) ?_
        refine lv_aload_n hx hb dX6_handsOut_117 rfl (lv_at hl 0 rfl) ?_
        refine gg_M_1 C hG inX6_handsOut_wsX60 (hts _ (List.mem_of_getElem? (i := 6) rfl)) dX6_handsOut_118 ?_
        obtain ⟨h_8, hf⟩ := hf
        refine gs_M_28 C hG h_8 dX6_handsOut_121 (fun X_9 H locs eX_9 hG => ?_)
        replace hf := hf X_9 eX_9
        exact vX6_handsOut_b122 C hpost hG2 I X_9 y1 _ _ _ hf hG (lv_sub hl [0, 1] rfl)
      · replace hf := hf.2 c_5
        refine lv_goto (tgt := 122) hx hb dX6_handsOut_102 (by decide) ?_
        exact vX6_handsOut_b122 C hpost hG2 I X y1 _ _ _ hf hG (lv_sub hl [0, 1] rfl)
    · replace hf := hf.2 c_4
      refine lv_iload_n hx hb dX6_handsOut_32 rfl (lv_at hl 2 rfl) ?_
      refine lv_if_eq (tgt := 90) hx hb dX6_handsOut_33 (by decide) (fun c_10 => ?_) (fun c_10 => ?_)
      · replace hf := hf.1 c_10
        exact vX6_handsOut_b90 C hpost hG2 hG27 I X y1 y3 _ _ _ hf hG (lv_sub hl [0, 1, 3] rfl)
      · replace hf := hf.2 c_10
        refine lv_aload_n hx hb dX6_handsOut_36 rfl (lv_at hl 0 rfl) ?_
        refine gg_M_19 C hG inX6_handsOut_wsX60 (hts _ (List.mem_of_getElem? (i := 3) rfl)) dX6_handsOut_37 ?_
        refine lv_iload_n hx hb dX6_handsOut_40 rfl (lv_at hl 3 rfl) ?_
        obtain ⟨h_11, hf⟩ := hf
        refine ga_M_19 C hG h_11 dX6_handsOut_41 ?_
        refine lv_aload_n hx hb dX6_handsOut_42 rfl (lv_at hl 0 rfl) ?_
        refine gg_M_19 C hG inX6_handsOut_wsX60 (hts _ (List.mem_of_getElem? (i := 3) rfl)) dX6_handsOut_43 ?_
        refine lv_iload_n hx hb dX6_handsOut_46 rfl (lv_at hl 1 rfl) ?_
        obtain ⟨h_12, hf⟩ := hf
        refine ga_M_19 C hG h_12 dX6_handsOut_47 ?_
        refine lv_icmp_ne (tgt := 86) hx hb dX6_handsOut_48 (by decide) (fun c_13 => ?_) (fun c_13 => ?_)
        · replace hf := hf.1 c_13
          exact vX6_handsOut_b86 C hpost hG2 hG27 I X y1 y3 _ _ _ hf hG (lv_sub hl [0, 1, 3] rfl)
        · replace hf := hf.2 c_13
          refine lv_aload_n hx hb dX6_handsOut_51 rfl (lv_at hl 0 rfl) ?_
          refine gg_M_20 C hG inX6_handsOut_wsX60 (hts _ (List.mem_of_getElem? (i := 4) rfl)) dX6_handsOut_52 ?_
          refine lv_iload_n hx hb dX6_handsOut_55 rfl (lv_at hl 3 rfl) ?_
          obtain ⟨h_14, hf⟩ := hf
          refine ga_M_20 C hG h_14 dX6_handsOut_56 ?_
          refine lv_aload_n hx hb dX6_handsOut_57 rfl (lv_at hl 0 rfl) ?_
          refine gg_M_20 C hG inX6_handsOut_wsX60 (hts _ (List.mem_of_getElem? (i := 4) rfl)) dX6_handsOut_58 ?_
          refine lv_iload_n hx hb dX6_handsOut_61 rfl (lv_at hl 1 rfl) ?_
          obtain ⟨h_15, hf⟩ := hf
          refine ga_M_20 C hG h_15 dX6_handsOut_62 ?_
          refine lv_icmp_ne (tgt := 86) hx hb dX6_handsOut_63 (by decide) (fun c_16 => ?_) (fun c_16 => ?_)
          · replace hf := hf.1 c_16
            exact vX6_handsOut_b86 C hpost hG2 hG27 I X y1 y3 _ _ _ hf hG (lv_sub hl [0, 1, 3] rfl)
          · replace hf := hf.2 c_16
            refine lv_aload_n hx hb dX6_handsOut_66 rfl (lv_at hl 0 rfl) ?_
            refine gg_M_21 C hG inX6_handsOut_wsX60 (hts _ (List.mem_of_getElem? (i := 2) rfl)) dX6_handsOut_67 ?_
            refine lv_iload_n hx hb dX6_handsOut_70 rfl (lv_at hl 3 rfl) ?_
            obtain ⟨h_17, hf⟩ := hf
            refine ga_M_21 C hG h_17 dX6_handsOut_71 ?_
            refine lv_iconst (v := (4 : Int32)) hx hb dX6_handsOut_72 (by decide) ?_
            refine lv_icmp_eq (tgt := 86) hx hb dX6_handsOut_73 (by decide) (fun c_18 => ?_) (fun c_18 => ?_)
            · replace hf := hf.1 c_18
              exact vX6_handsOut_b86 C hpost hG2 hG27 I X y1 y3 _ _ _ hf hG (lv_sub hl [0, 1, 3] rfl)
            · replace hf := hf.2 c_18
              refine lv_aload_n hx hb dX6_handsOut_76 rfl (lv_at hl 0 rfl) ?_
              refine gg_M_21 C hG inX6_handsOut_wsX60 (hts _ (List.mem_of_getElem? (i := 2) rfl)) dX6_handsOut_77 ?_
              refine lv_iload_n hx hb dX6_handsOut_80 rfl (lv_at hl 3 rfl) ?_
              obtain ⟨h_19, hf⟩ := hf
              refine ga_M_21 C hG h_19 dX6_handsOut_81 ?_
              refine lv_iconst (v := (5 : Int32)) hx hb dX6_handsOut_82 (by decide) ?_
              refine lv_icmp_ne (tgt := 90) hx hb dX6_handsOut_83 (by decide) (fun c_20 => ?_) (fun c_20 => ?_)
              · replace hf := hf.1 c_20
                exact vX6_handsOut_b90 C hpost hG2 hG27 I X y1 y3 _ _ _ hf hG (lv_sub hl [0, 1, 3] rfl)
              · replace hf := hf.2 c_20
                exact vX6_handsOut_b86 C hpost hG2 hG27 I X y1 y3 _ _ _ hf hG (lv_sub hl [0, 1, 3] rfl)
set_option maxHeartbeats 4000000 in
set_option maxRecDepth 100000 in
theorem vX6_handsOut_h2 {p : Program} {l : Launch} {e : Env} {s : State} {m : MethodId} {args : Array Value} {below : List Frame} {meth : Method} {c : Code} {D : va_G} {B : Nat → Nat} {A : Nat → Prop} {S : sS} {K : sK} {L : sL} {Y : sY} {O : sO} {post : sG → Prop} {Q : (Nat → Int32) → (Nat → Nat → Int32) → Prop} (C : gX p s m args meth c cX6_handsOut 4 (none) wsX6_handsOut RX6 D B A) (hpost : ∀ (I : Nat → Int32) (X : Nat → Nat → Int32), Q I X → post (S, K, L, Y, (I, X), O))  : ∀ (n2 : Nat) (I : Nat → Int32) (X : Nat → Nat → Int32) (y1 : Int32) (H : Heap) (locs : List Loc) (ls : Array Slot), fX6_handsOut_h2 Q n2 I X y1 → GS D B A s.heap (S, K, L, Y, (I, X), O) H locs → lv_has ls 4 [(0, .ref (B 0)), (1, .int y1)] → W p l e (headSpec wsX6_handsOut rX6_handsOut).room s m args below meth c H locs 0 0 (MQ below (va_Qv post (gB D B A) A) args s 0 0 A) (F0 m 2 ls []) := by
  obtain ⟨hx, hb, hml, hown, hts, hK, hr, hlk, hA, hN⟩ := id C
  intro n2
  induction n2 with
  | zero =>
    intro I X y1 H locs ls hf
    exact False.elim hf
  | succ n2 hG2 =>
    intro I X y1 H locs ls hf hG hl
    unfold fX6_handsOut_h2 at hf
    refine lv_iload_n hx hb dX6_handsOut_2 rfl (lv_at hl 1 rfl) ?_
    refine lv_aload_n hx hb dX6_handsOut_3 rfl (lv_at hl 0 rfl) ?_
    refine gg_M_31 C hG inX6_handsOut_wsX60 (hts _ (List.mem_of_getElem? (i := 1) rfl)) dX6_handsOut_4 ?_
    refine lv_icmp_ge (tgt := 128) hx hb dX6_handsOut_7 (by decide) (fun c_1 => ?_) (fun c_1 => ?_)
    · replace hf := hf.1 c_1
      exact g_vret C hG (hpost _ _ hf) dX6_handsOut_128
    · replace hf := hf.2 c_1
      refine lv_aload_n hx hb dX6_handsOut_10 rfl (lv_at hl 0 rfl) ?_
      refine gg_M_21 C hG inX6_handsOut_wsX60 (hts _ (List.mem_of_getElem? (i := 2) rfl)) dX6_handsOut_11 ?_
      refine lv_iload_n hx hb dX6_handsOut_14 rfl (lv_at hl 1 rfl) ?_
      obtain ⟨h_2, hf⟩ := hf
      refine ga_M_21 C hG h_2 dX6_handsOut_15 ?_
      refine lv_iconst (v := (3 : Int32)) hx hb dX6_handsOut_16 (by decide) ?_
      refine lv_icmp_eq (tgt := 23) hx hb dX6_handsOut_17 (by decide) (fun c_3 => ?_) (fun c_3 => ?_)
      · replace hf := hf.1 c_3
        refine lv_iconst (v := (1 : Int32)) hx hb dX6_handsOut_23 (by decide) ?_
        refine lv_istore_n (lv' := [(2, .int (1 : Int32)), (0, .ref (B 0)), (1, .int y1)]) hx hb dX6_handsOut_24 rfl hl (by decide) rfl (fun ls hl => ?_)
        refine lv_iconst (v := (0 : Int32)) hx hb dX6_handsOut_25 (by decide) ?_
        refine lv_istore_n (lv' := [(3, .int (0 : Int32)), (2, .int (1 : Int32)), (0, .ref (B 0)), (1, .int y1)]) hx hb dX6_handsOut_26 rfl hl (by decide) rfl (fun ls hl => ?_)
        obtain ⟨n27, hf⟩ := hf
        exact vX6_handsOut_h27 C hpost hG2 n27 I X y1 (1 : Int32) (0 : Int32) _ _ _ hf hG (lv_sub hl [2, 3, 1, 0] rfl)
      · replace hf := hf.2 c_3
        refine lv_goto (tgt := 122) hx hb dX6_handsOut_20 (by decide) ?_
        exact vX6_handsOut_b122 C hpost hG2 I X y1 _ _ _ hf hG (lv_sub hl [0, 1] rfl)
set_option maxHeartbeats 4000000 in
set_option maxRecDepth 100000 in
theorem vX6_handsOut_b0 {p : Program} {l : Launch} {e : Env} {s : State} {m : MethodId} {args : Array Value} {below : List Frame} {meth : Method} {c : Code} {D : va_G} {B : Nat → Nat} {A : Nat → Prop} {S : sS} {K : sK} {L : sL} {Y : sY} {O : sO} {post : sG → Prop} {Q : (Nat → Int32) → (Nat → Nat → Int32) → Prop} (C : gX p s m args meth c cX6_handsOut 4 (none) wsX6_handsOut RX6 D B A) (hpost : ∀ (I : Nat → Int32) (X : Nat → Nat → Int32), Q I X → post (S, K, L, Y, (I, X), O))  (I : Nat → Int32) (X : Nat → Nat → Int32)  (H : Heap) (locs : List Loc) (ls : Array Slot) (hf : fX6_handsOut Q I X) (hG : GS D B A s.heap (S, K, L, Y, (I, X), O) H locs) (hl : lv_has ls 4 [(0, .ref (B 0))]) : W p l e (headSpec wsX6_handsOut rX6_handsOut).room s m args below meth c H locs 0 0 (MQ below (va_Qv post (gB D B A) A) args s 0 0 A) (F0 m 0 ls []) := by
  obtain ⟨hx, hb, hml, hown, hts, hK, hr, hlk, hA, hN⟩ := id C
  unfold fX6_handsOut at hf
  refine lv_iconst (v := (0 : Int32)) hx hb dX6_handsOut_0 (by decide) ?_
  refine lv_istore_n (lv' := [(1, .int (0 : Int32)), (0, .ref (B 0))]) hx hb dX6_handsOut_1 rfl hl (by decide) rfl (fun ls hl => ?_)
  obtain ⟨n2, hf⟩ := hf
  exact vX6_handsOut_h2 C hpost  n2 I X (0 : Int32) _ _ _ hf hG (lv_sub hl [1, 0] rfl)
set_option maxRecDepth 100000 in
theorem kX6_handsOut {l : Launch} {D : va_G} {B : Nat → Nat} {S : sS} {K : sK} {L : sL} {Y : sY} {O : sO}  {Q : (Nat → Int32) → (Nat → Nat → Int32) → Prop} {I : Nat → Int32} {X : Nat → Nat → Int32} (hf : fX6_handsOut Q I X) : gMv D B l yX6_handsOut wsX6_handsOut rX6_handsOut 0 0 [.ref (B 0)] (S, K, L, Y, (I, X), O) (fun g1 => ∃ (I1 : Nat → Int32) (X1 : Nat → Nat → Int32), g1 = (S, K, L, Y, (I1, X1), O) ∧ Q I1 X1) := by
  refine gMv_of (cc := cX6_handsOut) (maxL := 4) (ret := none) (by decide +kernel) rfl (Nat.le_of_ble_eq_true rfl) ?_
  intro p e s m below meth c A hA0 C hG ls hl
  exact vX6_handsOut_b0 C (fun I X hq => ⟨I, X, rfl, hq⟩) I X _ _ _ hf hG hl
def rX6_look : Room := { frames := 1, cells := 0, slots := 0, locals := 22 }
theorem hdvX6_look : yX6_look.cls = RX6 ∧ yX6_look.cls ≠ "java/lang/invoke/MethodHandle" ∧ yX6_look.cls ≠ "java/lang/invoke/VarHandle" ∧ (parseMethodDescriptor yX6_look.desc).map (fun d => d.parameters.length) = some 2 := by decide +kernel
theorem inX6_look_wsX60 : ∀ w ∈ wsX60, w ∈ wsX6_look := (fun _ h => List.mem_cons_of_mem _ (List.mem_append_right _ h))
set_option maxHeartbeats 4000000 in
set_option maxRecDepth 100000 in
theorem vX6_look_b25 {p : Program} {l : Launch} {e : Env} {s : State} {m : MethodId} {args : Array Value} {below : List Frame} {meth : Method} {c : Code} {D : va_G} {B : Nat → Nat} {A : Nat → Prop} {S : sS} {K : sK} {L : sL} {Y : sY} {O : sO} {post : Int32 → sG → Prop} {Q : Int32 → (Nat → Int32) → (Nat → Nat → Int32) → Prop} (C : gX p s m args meth c cX6_look 3 (some .int) wsX6_look RX6 D B A) (hpost : ∀ (v : Int32) (I : Nat → Int32) (X : Nat → Nat → Int32), Q v I X → post v (S, K, L, Y, (I, X), O))  (I : Nat → Int32) (X : Nat → Nat → Int32) (y1 : Int32) (y2 : Int32) (t0 : Int32) (H : Heap) (locs : List Loc) (ls : Array Slot) (hf : fX6_look_b25 Q I X y1 y2 t0) (hG : GS D B A s.heap (S, K, L, Y, (I, X), O) H locs) (hl : lv_has ls 3 [(0, .ref (B 0)), (1, .int y1), (2, .int y2)]) : W p l e (headSpec wsX6_look rX6_look).room s m args below meth c H locs 0 0 (MQ below (va_Qi post (gB D B A) A) args s 0 0 A) (F0 m 25 ls [.int t0, .ref (B 0)]) := by
  obtain ⟨hx, hb, hml, hown, hts, hK, hr, hlk, hA, hN⟩ := id C
  unfold fX6_look_b25 at hf
  refine lv_iconst (v := (1 : Int32)) hx hb dX6_look_25 (by decide) ?_
  refine g_callVi0 (As := [.int t0, .int (1 : Int32)]) C hG (kX6_throwsIf hf) (cwV 2 hts gX6_look_X6_throwsIf rfl rfl rfl hdvX6_throwsIf ⟨Nat.le_of_ble_eq_true rfl, Nat.le_of_ble_eq_true rfl⟩) (va_recv hK hG.1 (ci := 6) (q0 := 0) rfl rfl) rfl hl.1 rfl (Nat.le_of_ble_eq_true rfl) dX6_look_26 ⟨Nat.zero_le _, Nat.zero_le _⟩ (fun r_6 g1 H locs hq hG => ?_)
  obtain ⟨I_4, X_5, rfl, hf⟩ := hq
  refine lv_if_eq (tgt := 34) hx hb dX6_look_29 (by decide) (fun c_7 => ?_) (fun c_7 => ?_)
  · replace hf := hf.1 c_7
    refine lv_iload_n hx hb dX6_look_34 rfl (lv_at hl 2 rfl) ?_
    by_cases q_8 : y2 = (0 : Int32)
    · refine lv_tableIn (tgt := 72) (off := 37) hx hb dX6_look_35 (by rw [q_8]; decide) (by rw [q_8]; decide) (by rw [q_8]; decide) (by decide) ?_
      replace hf := hf.1 q_8
      refine lv_aload_n hx hb dX6_look_72 rfl (lv_at hl 0 rfl) ?_
      refine gg_M_21 C hG inX6_look_wsX60 (hts _ (List.mem_of_getElem? (i := 3) rfl)) dX6_look_73 ?_
      refine lv_iload_n hx hb dX6_look_76 rfl (lv_at hl 1 rfl) ?_
      obtain ⟨h_9, hf⟩ := hf
      refine ga_M_21 C hG h_9 dX6_look_77 ?_
      exact g_iret C hG (hpost _ _ _ hf) dX6_look_78
    replace hf := hf.2 q_8
    by_cases q_10 : y2 = (1 : Int32)
    · refine lv_tableIn (tgt := 79) (off := 44) hx hb dX6_look_35 (by rw [q_10]; decide) (by rw [q_10]; decide) (by rw [q_10]; decide) (by decide) ?_
      replace hf := hf.1 q_10
      refine lv_aload_n hx hb dX6_look_79 rfl (lv_at hl 0 rfl) ?_
      refine gg_M_21 C hG inX6_look_wsX60 (hts _ (List.mem_of_getElem? (i := 3) rfl)) dX6_look_80 ?_
      refine lv_iload_n hx hb dX6_look_83 rfl (lv_at hl 1 rfl) ?_
      obtain ⟨h_11, hf⟩ := hf
      refine ga_M_21 C hG h_11 dX6_look_84 ?_
      refine lv_iconst (v := (1 : Int32)) hx hb dX6_look_85 (by decide) ?_
      refine lv_icmp_ne (tgt := 98) hx hb dX6_look_86 (by decide) (fun c_12 => ?_) (fun c_12 => ?_)
      · replace hf := hf.1 c_12
        refine lv_aload_n hx hb dX6_look_98 rfl (lv_at hl 0 rfl) ?_
        refine gg_M_21 C hG inX6_look_wsX60 (hts _ (List.mem_of_getElem? (i := 3) rfl)) dX6_look_99 ?_
        refine lv_iload_n hx hb dX6_look_102 rfl (lv_at hl 1 rfl) ?_
        obtain ⟨h_13, hf⟩ := hf
        refine ga_M_21 C hG h_13 dX6_look_103 ?_
        refine lv_iconst (v := (2 : Int32)) hx hb dX6_look_104 (by decide) ?_
        refine lv_icmp_ne (tgt := 129) hx hb dX6_look_105 (by decide) (fun c_14 => ?_) (fun c_14 => ?_)
        · replace hf := hf.1 c_14
          refine lv_iconst (v := (-1 : Int32)) hx hb dX6_look_129 (by decide) ?_
          exact g_iret C hG (hpost _ _ _ hf) dX6_look_130
        · replace hf := hf.2 c_14
          refine lv_aload_n hx hb dX6_look_108 rfl (lv_at hl 0 rfl) ?_
          refine gg_M_23 C hG inX6_look_wsX60 (hts _ (List.mem_of_getElem? (i := 5) rfl)) dX6_look_109 ?_
          refine lv_iload_n hx hb dX6_look_112 rfl (lv_at hl 1 rfl) ?_
          obtain ⟨h_15, hf⟩ := hf
          refine ga_M_23 C hG h_15 dX6_look_113 ?_
          refine lv_sipush (v := (1000 : Int32)) hx hb dX6_look_114 (by decide) ?_
          refine lv_icmp_eq (tgt := 129) hx hb dX6_look_117 (by decide) (fun c_16 => ?_) (fun c_16 => ?_)
          · replace hf := hf.1 c_16
            refine lv_iconst (v := (-1 : Int32)) hx hb dX6_look_129 (by decide) ?_
            exact g_iret C hG (hpost _ _ _ hf) dX6_look_130
          · replace hf := hf.2 c_16
            refine lv_aload_n hx hb dX6_look_120 rfl (lv_at hl 0 rfl) ?_
            refine gg_M_23 C hG inX6_look_wsX60 (hts _ (List.mem_of_getElem? (i := 5) rfl)) dX6_look_121 ?_
            refine lv_iload_n hx hb dX6_look_124 rfl (lv_at hl 1 rfl) ?_
            obtain ⟨h_17, hf⟩ := hf
            refine ga_M_23 C hG h_17 dX6_look_125 ?_
            refine lv_goto (tgt := 130) hx hb dX6_look_126 (by decide) ?_
            exact g_iret C hG (hpost _ _ _ hf) dX6_look_130
      · replace hf := hf.2 c_12
        refine lv_aload_n hx hb dX6_look_89 rfl (lv_at hl 0 rfl) ?_
        refine gg_M_22 C hG inX6_look_wsX60 (hts _ (List.mem_of_getElem? (i := 4) rfl)) dX6_look_90 ?_
        refine lv_iload_n hx hb dX6_look_93 rfl (lv_at hl 1 rfl) ?_
        obtain ⟨h_18, hf⟩ := hf
        refine ga_M_22 C hG h_18 dX6_look_94 ?_
        refine lv_goto (tgt := 130) hx hb dX6_look_95 (by decide) ?_
        exact g_iret C hG (hpost _ _ _ hf) dX6_look_130
    replace hf := hf.2 q_10
    by_cases q_19 : y2 = (2 : Int32)
    · refine lv_tableIn (tgt := 131) (off := 96) hx hb dX6_look_35 (by rw [q_19]; decide) (by rw [q_19]; decide) (by rw [q_19]; decide) (by decide) ?_
      replace hf := hf.1 q_19
      refine lv_aload_n hx hb dX6_look_131 rfl (lv_at hl 0 rfl) ?_
      refine gg_M_25 C hG inX6_look_wsX60 (hts _ (List.mem_of_getElem? (i := 6) rfl)) dX6_look_132 ?_
      refine lv_iload_n hx hb dX6_look_135 rfl (lv_at hl 1 rfl) ?_
      obtain ⟨h_20, hf⟩ := hf
      refine ga_M_25 C hG h_20 dX6_look_136 ?_
      exact g_iret C hG (hpost _ _ _ hf) dX6_look_137
    replace hf := hf.2 q_19
    by_cases q_21 : y2 = (3 : Int32)
    · refine lv_tableIn (tgt := 138) (off := 103) hx hb dX6_look_35 (by rw [q_21]; decide) (by rw [q_21]; decide) (by rw [q_21]; decide) (by decide) ?_
      replace hf := hf.1 q_21
      refine lv_aload_n hx hb dX6_look_138 rfl (lv_at hl 0 rfl) ?_
      refine gg_M_26 C hG inX6_look_wsX60 (hts _ (List.mem_of_getElem? (i := 7) rfl)) dX6_look_139 ?_
      refine lv_iload_n hx hb dX6_look_142 rfl (lv_at hl 1 rfl) ?_
      obtain ⟨h_22, hf⟩ := hf
      refine ga_M_26 C hG h_22 dX6_look_143 ?_
      exact g_iret C hG (hpost _ _ _ hf) dX6_look_144
    replace hf := hf.2 q_21
    by_cases q_23 : y2 = (4 : Int32)
    · refine lv_tableIn (tgt := 145) (off := 110) hx hb dX6_look_35 (by rw [q_23]; decide) (by rw [q_23]; decide) (by rw [q_23]; decide) (by decide) ?_
      replace hf := hf.1 q_23
      refine lv_aload_n hx hb dX6_look_145 rfl (lv_at hl 0 rfl) ?_
      refine gg_M_27 C hG inX6_look_wsX60 (hts _ (List.mem_of_getElem? (i := 8) rfl)) dX6_look_146 ?_
      refine lv_iload_n hx hb dX6_look_149 rfl (lv_at hl 1 rfl) ?_
      obtain ⟨h_24, hf⟩ := hf
      refine ga_M_27 C hG h_24 dX6_look_150 ?_
      exact g_iret C hG (hpost _ _ _ hf) dX6_look_151
    replace hf := hf.2 q_23
    by_cases q_25 : y2 = (5 : Int32)
    · refine lv_tableIn (tgt := 152) (off := 117) hx hb dX6_look_35 (by rw [q_25]; decide) (by rw [q_25]; decide) (by rw [q_25]; decide) (by decide) ?_
      replace hf := hf.1 q_25
      refine lv_aload_n hx hb dX6_look_152 rfl (lv_at hl 0 rfl) ?_
      refine gg_M_28 C hG inX6_look_wsX60 (hts _ (List.mem_of_getElem? (i := 9) rfl)) dX6_look_153 ?_
      refine lv_iload_n hx hb dX6_look_156 rfl (lv_at hl 1 rfl) ?_
      obtain ⟨h_26, hf⟩ := hf
      refine ga_M_28 C hG h_26 dX6_look_157 ?_
      exact g_iret C hG (hpost _ _ _ hf) dX6_look_158
    replace hf := hf.2 q_25
    have nq_8 := lv_neT q_8 (show ((0 : Int32)).toInt = (0 : Int) by decide)
    have nq_10 := lv_neT q_10 (show ((1 : Int32)).toInt = (1 : Int) by decide)
    have nq_19 := lv_neT q_19 (show ((2 : Int32)).toInt = (2 : Int) by decide)
    have nq_21 := lv_neT q_21 (show ((3 : Int32)).toInt = (3 : Int) by decide)
    have nq_23 := lv_neT q_23 (show ((4 : Int32)).toInt = (4 : Int) by decide)
    have nq_25 := lv_neT q_25 (show ((5 : Int32)).toInt = (5 : Int) by decide)
    refine lv_tableOut (tgt := 159) hx hb dX6_look_35 (by omega) (by decide) ?_
    refine lv_aload_n hx hb dX6_look_159 rfl (lv_at hl 0 rfl) ?_
    refine lv_iconst (v := (2 : Int32)) hx hb dX6_look_160 (by decide) ?_
    refine gp_M_0 C hG inX6_look_wsX60 (hts _ (List.mem_of_getElem? (i := 1) rfl)) dX6_look_161 (fun I_27 H locs eI_27 hG => ?_)
    replace hf := hf I_27 eI_27
    refine lv_iconst (v := (0 : Int32)) hx hb dX6_look_164 (by decide) ?_
    exact g_iret C hG (hpost _ _ _ hf) dX6_look_165
  · replace hf := hf.2 c_7
    refine lv_iconst (v := (0 : Int32)) hx hb dX6_look_32 (by decide) ?_
    exact g_iret C hG (hpost _ _ _ hf) dX6_look_33
set_option maxHeartbeats 4000000 in
set_option maxRecDepth 100000 in
theorem vX6_look_b0 {p : Program} {l : Launch} {e : Env} {s : State} {m : MethodId} {args : Array Value} {below : List Frame} {meth : Method} {c : Code} {D : va_G} {B : Nat → Nat} {A : Nat → Prop} {S : sS} {K : sK} {L : sL} {Y : sY} {O : sO} {post : Int32 → sG → Prop} {Q : Int32 → (Nat → Int32) → (Nat → Nat → Int32) → Prop} (C : gX p s m args meth c cX6_look 3 (some .int) wsX6_look RX6 D B A) (hpost : ∀ (v : Int32) (I : Nat → Int32) (X : Nat → Nat → Int32), Q v I X → post v (S, K, L, Y, (I, X), O))  (I : Nat → Int32) (X : Nat → Nat → Int32) (x1 : Int32) (x2 : Int32) (H : Heap) (locs : List Loc) (ls : Array Slot) (hf : fX6_look Q I X x1 x2) (hG : GS D B A s.heap (S, K, L, Y, (I, X), O) H locs) (hl : lv_has ls 3 [(0, .ref (B 0)), (1, .int x1), (2, .int x2)]) : W p l e (headSpec wsX6_look rX6_look).room s m args below meth c H locs 0 0 (MQ below (va_Qi post (gB D B A) A) args s 0 0 A) (F0 m 0 ls []) := by
  obtain ⟨hx, hb, hml, hown, hts, hK, hr, hlk, hA, hN⟩ := id C
  unfold fX6_look at hf
  refine lv_aload_n hx hb dX6_look_0 rfl (lv_at hl 0 rfl) ?_
  refine lv_iconst (v := (0 : Int32)) hx hb dX6_look_1 (by decide) ?_
  refine gp_M_0 C hG inX6_look_wsX60 (hts _ (List.mem_of_getElem? (i := 1) rfl)) dX6_look_2 (fun I_1 H locs eI_1 hG => ?_)
  replace hf := hf I_1 eI_1
  refine lv_aload_n hx hb dX6_look_5 rfl (lv_at hl 0 rfl) ?_
  refine lv_iload_n hx hb dX6_look_6 rfl (lv_at hl 1 rfl) ?_
  refine lv_iconst (v := (0 : Int32)) hx hb dX6_look_7 (by decide) ?_
  refine lv_aload_n hx hb dX6_look_8 rfl (lv_at hl 0 rfl) ?_
  refine gg_M_31 C hG inX6_look_wsX60 (hts _ (List.mem_of_getElem? (i := 2) rfl)) dX6_look_9 ?_
  refine lv_iconst (v := (1 : Int32)) hx hb dX6_look_12 (by decide) ?_
  refine lv_isub hx hb dX6_look_13 ?_
  refine g_callSi0 (As := [.int x1, .int (0 : Int32), .int (I_1 31 - (1 : Int32))]) C hG (kX6_in hf) (va_cwS 3 hts gX6_look_X6_in rfl rfl rfl hdsX6_in ⟨Nat.le_of_ble_eq_true rfl, Nat.le_of_ble_eq_true rfl⟩) rfl hl.1 rfl (Nat.le_of_ble_eq_true rfl) dX6_look_14 ⟨Nat.zero_le _, Nat.zero_le _⟩ (fun r_2 g1 H locs hq hG => ?_)
  obtain ⟨rfl, hf⟩ := hq
  refine lv_if_ne (tgt := 24) hx hb dX6_look_17 (by decide) (fun c_3 => ?_) (fun c_3 => ?_)
  · replace hf := hf.1 c_3
    refine lv_iconst (v := (0 : Int32)) hx hb dX6_look_24 (by decide) ?_
    exact vX6_look_b25 C hpost  I_1 X x1 x2 (0 : Int32) _ _ _ hf hG (lv_sub hl [0, 1, 2] rfl)
  · replace hf := hf.2 c_3
    refine lv_iconst (v := (1 : Int32)) hx hb dX6_look_20 (by decide) ?_
    refine lv_goto (tgt := 25) hx hb dX6_look_21 (by decide) ?_
    exact vX6_look_b25 C hpost  I_1 X x1 x2 (1 : Int32) _ _ _ hf hG (lv_sub hl [0, 1, 2] rfl)
set_option maxRecDepth 100000 in
theorem kX6_look {l : Launch} {D : va_G} {B : Nat → Nat} {S : sS} {K : sK} {L : sL} {Y : sY} {O : sO}  {Q : Int32 → (Nat → Int32) → (Nat → Nat → Int32) → Prop} {I : Nat → Int32} {X : Nat → Nat → Int32} {x1 : Int32} {x2 : Int32} (hf : fX6_look Q I X x1 x2) : gMi D B l yX6_look wsX6_look rX6_look 0 0 [.ref (B 0), .int x1, .int x2] (S, K, L, Y, (I, X), O) (fun r g1 => ∃ (I1 : Nat → Int32) (X1 : Nat → Nat → Int32), g1 = (S, K, L, Y, (I1, X1), O) ∧ Q r I1 X1) := by
  refine gMi_of (cc := cX6_look) (maxL := 3) (ret := some .int) (by decide +kernel) rfl (Nat.le_of_ble_eq_true rfl) ?_
  intro p e s m below meth c A hA0 C hG ls hl
  exact vX6_look_b0 C (fun v I X hq => ⟨I, X, rfl, hq⟩) I X x1 x2 _ _ _ hf hG hl
def rX6_count : Room := { frames := 3, cells := 0, slots := 0, locals := 69 }
theorem hdvX6_count : yX6_count.cls = RX6 ∧ yX6_count.cls ≠ "java/lang/invoke/MethodHandle" ∧ yX6_count.cls ≠ "java/lang/invoke/VarHandle" ∧ (parseMethodDescriptor yX6_count.desc).map (fun d => d.parameters.length) = some 1 := by decide +kernel
theorem inX6_count_wsX60 : ∀ w ∈ wsX60, w ∈ wsX6_count := (fun _ h => List.mem_cons_of_mem _ (List.mem_append_right _ h))
set_option maxHeartbeats 4000000 in
set_option maxRecDepth 100000 in
theorem vX6_count_b205 {p : Program} {l : Launch} {e : Env} {s : State} {m : MethodId} {args : Array Value} {below : List Frame} {meth : Method} {c : Code} {D : va_G} {B : Nat → Nat} {A : Nat → Prop} {S : sS} {K : sK} {L : sL} {Y : sY} {O : sO} {post : Int32 → sG → Prop} {Q : Int32 → (Nat → Int32) → (Nat → Nat → Int32) → Prop} (C : gX p s m args meth c cX6_count 5 (some .int) wsX6_count RX6 D B A) (hpost : ∀ (v : Int32) (I : Nat → Int32) (X : Nat → Nat → Int32), Q v I X → post v (S, K, L, Y, (I, X), O)) {G168 : (Nat → Int32) → (Nat → Nat → Int32) → Int32 → Int32 → Prop} (hG168 : ∀ (I : Nat → Int32) (X : Nat → Nat → Int32) (y2 : Int32) (y3 : Int32) (H : Heap) (locs : List Loc) (ls : Array Slot), G168 I X y2 y3 → GS D B A s.heap (S, K, L, Y, (I, X), O) H locs → lv_has ls 5 [(0, .ref (B 0)), (2, .int y2), (3, .int y3)] → W p l e (headSpec wsX6_count rX6_count).room s m args below meth c H locs 0 0 (MQ below (va_Qi post (gB D B A) A) args s 0 0 A) (F0 m 168 ls [])) {G179 : (Nat → Int32) → (Nat → Nat → Int32) → Int32 → Int32 → Int32 → Prop} (hG179 : ∀ (I : Nat → Int32) (X : Nat → Nat → Int32) (y2 : Int32) (y3 : Int32) (y4 : Int32) (H : Heap) (locs : List Loc) (ls : Array Slot), G179 I X y2 y3 y4 → GS D B A s.heap (S, K, L, Y, (I, X), O) H locs → lv_has ls 5 [(0, .ref (B 0)), (2, .int y2), (3, .int y3), (4, .int y4)] → W p l e (headSpec wsX6_count rX6_count).room s m args below meth c H locs 0 0 (MQ below (va_Qi post (gB D B A) A) args s 0 0 A) (F0 m 179 ls [])) (I : Nat → Int32) (X : Nat → Nat → Int32) (y3 : Int32) (y4 : Int32) (t0 : Int32) (t1 : Int32) (H : Heap) (locs : List Loc) (ls : Array Slot) (hf : fX6_count_b205 G168 G179 Q I X y3 y4 t0 t1) (hG : GS D B A s.heap (S, K, L, Y, (I, X), O) H locs) (hl : lv_has ls 5 [(0, .ref (B 0)), (3, .int y3), (4, .int y4)]) : W p l e (headSpec wsX6_count rX6_count).room s m args below meth c H locs 0 0 (MQ below (va_Qi post (gB D B A) A) args s 0 0 A) (F0 m 205 ls [.int t0, .int t1]) := by
  obtain ⟨hx, hb, hml, hown, hts, hK, hr, hlk, hA, hN⟩ := id C
  unfold fX6_count_b205 at hf
  refine lv_iadd hx hb dX6_count_205 ?_
  refine lv_topi (fun x2_27 ex2_27 => ?_)
  replace hf := hf x2_27 ex2_27
  refine lv_istore_n (lv' := [(2, .int x2_27), (0, .ref (B 0)), (3, .int y3), (4, .int y4)]) hx hb dX6_count_206 rfl hl (by decide) rfl (fun ls hl => ?_)
  obtain ⟨x4_28, ex4_28⟩ : ∃ y : Int32, y = y4 + (1 : Int32) := ⟨_, rfl⟩
  replace hf := hf x4_28 ex4_28
  refine lv_iinc (v := x4_28) (lv' := [(4, .int x4_28), (2, .int x2_27), (0, .ref (B 0)), (3, .int y3)]) hx hb dX6_count_207 hl (k := 3) rfl (by rw [ex4_28]; rfl) (by decide) rfl (fun ls hl => ?_)
  refine lv_goto (tgt := 179) hx hb dX6_count_210 (by decide) ?_
  exact hG179 I X x2_27 y3 x4_28 _ _ _ hf hG (lv_sub hl [2, 1, 3, 0] rfl)
set_option maxHeartbeats 4000000 in
set_option maxRecDepth 100000 in
theorem vX6_count_h179 {p : Program} {l : Launch} {e : Env} {s : State} {m : MethodId} {args : Array Value} {below : List Frame} {meth : Method} {c : Code} {D : va_G} {B : Nat → Nat} {A : Nat → Prop} {S : sS} {K : sK} {L : sL} {Y : sY} {O : sO} {post : Int32 → sG → Prop} {Q : Int32 → (Nat → Int32) → (Nat → Nat → Int32) → Prop} (C : gX p s m args meth c cX6_count 5 (some .int) wsX6_count RX6 D B A) (hpost : ∀ (v : Int32) (I : Nat → Int32) (X : Nat → Nat → Int32), Q v I X → post v (S, K, L, Y, (I, X), O)) {G168 : (Nat → Int32) → (Nat → Nat → Int32) → Int32 → Int32 → Prop} (hG168 : ∀ (I : Nat → Int32) (X : Nat → Nat → Int32) (y2 : Int32) (y3 : Int32) (H : Heap) (locs : List Loc) (ls : Array Slot), G168 I X y2 y3 → GS D B A s.heap (S, K, L, Y, (I, X), O) H locs → lv_has ls 5 [(0, .ref (B 0)), (2, .int y2), (3, .int y3)] → W p l e (headSpec wsX6_count rX6_count).room s m args below meth c H locs 0 0 (MQ below (va_Qi post (gB D B A) A) args s 0 0 A) (F0 m 168 ls [])) : ∀ (n179 : Nat) (I : Nat → Int32) (X : Nat → Nat → Int32) (y2 : Int32) (y3 : Int32) (y4 : Int32) (H : Heap) (locs : List Loc) (ls : Array Slot), fX6_count_h179 G168 Q n179 I X y2 y3 y4 → GS D B A s.heap (S, K, L, Y, (I, X), O) H locs → lv_has ls 5 [(0, .ref (B 0)), (2, .int y2), (3, .int y3), (4, .int y4)] → W p l e (headSpec wsX6_count rX6_count).room s m args below meth c H locs 0 0 (MQ below (va_Qi post (gB D B A) A) args s 0 0 A) (F0 m 179 ls []) := by
  obtain ⟨hx, hb, hml, hown, hts, hK, hr, hlk, hA, hN⟩ := id C
  intro n179
  induction n179 with
  | zero =>
    intro I X y2 y3 y4 H locs ls hf
    exact False.elim hf
  | succ n179 hG179 =>
    intro I X y2 y3 y4 H locs ls hf hG hl
    unfold fX6_count_h179 at hf
    refine lv_iload hx hb dX6_count_179 (lv_at hl 3 rfl) ?_
    refine lv_iload_n hx hb dX6_count_181 rfl (lv_at hl 2 rfl) ?_
    refine lv_icmp_ge (tgt := 213) hx hb dX6_count_182 (by decide) (fun c_23 => ?_) (fun c_23 => ?_)
    · replace hf := hf.1 c_23
      obtain ⟨x3_24, ex3_24⟩ : ∃ y : Int32, y = y3 + (1 : Int32) := ⟨_, rfl⟩
      replace hf := hf x3_24 ex3_24
      refine lv_iinc (v := x3_24) (lv' := [(3, .int x3_24), (0, .ref (B 0)), (2, .int y2), (4, .int y4)]) hx hb dX6_count_213 hl (k := 2) rfl (by rw [ex3_24]; rfl) (by decide) rfl (fun ls hl => ?_)
      refine lv_goto (tgt := 168) hx hb dX6_count_216 (by decide) ?_
      exact hG168 I X y2 x3_24 _ _ _ hf hG (lv_sub hl [1, 2, 0] rfl)
    · replace hf := hf.2 c_23
      refine lv_iload_n hx hb dX6_count_185 rfl (lv_at hl 1 rfl) ?_
      refine lv_aload_n hx hb dX6_count_186 rfl (lv_at hl 0 rfl) ?_
      refine lv_iload_n hx hb dX6_count_187 rfl (lv_at hl 2 rfl) ?_
      refine lv_iload hx hb dX6_count_188 (lv_at hl 3 rfl) ?_
      refine lv_aload_n hx hb dX6_count_190 rfl (lv_at hl 0 rfl) ?_
      refine gg_M_1 C hG inX6_count_wsX60 (hts _ (List.mem_of_getElem? (i := 2) rfl)) dX6_count_191 ?_
      refine g_callVi0 (As := [.int y3, .int y4, .int (I 1)]) C hG (kX6_linkOf hf) (cwV 3 hts gX6_count_X6_linkOf rfl rfl rfl hdvX6_linkOf ⟨Nat.le_of_ble_eq_true rfl, Nat.le_of_ble_eq_true rfl⟩) (va_recv hK hG.1 (ci := 6) (q0 := 0) rfl rfl) rfl hl.1 rfl (Nat.le_of_ble_eq_true rfl) dX6_count_194 ⟨Nat.zero_le _, Nat.zero_le _⟩ (fun r_25 g1 H locs hq hG => ?_)
      obtain ⟨rfl, hf⟩ := hq
      refine lv_if_le (tgt := 204) hx hb dX6_count_197 (by decide) (fun c_26 => ?_) (fun c_26 => ?_)
      · replace hf := hf.1 c_26
        refine lv_iconst (v := (0 : Int32)) hx hb dX6_count_204 (by decide) ?_
        exact vX6_count_b205 C hpost hG168 hG179 I X y3 y4 (0 : Int32) y2 _ _ _ hf hG (lv_sub hl [0, 2, 3] rfl)
      · replace hf := hf.2 c_26
        refine lv_iconst (v := (1 : Int32)) hx hb dX6_count_200 (by decide) ?_
        refine lv_goto (tgt := 205) hx hb dX6_count_201 (by decide) ?_
        exact vX6_count_b205 C hpost hG168 hG179 I X y3 y4 (1 : Int32) y2 _ _ _ hf hG (lv_sub hl [0, 2, 3] rfl)
set_option maxHeartbeats 4000000 in
set_option maxRecDepth 100000 in
theorem vX6_count_h168 {p : Program} {l : Launch} {e : Env} {s : State} {m : MethodId} {args : Array Value} {below : List Frame} {meth : Method} {c : Code} {D : va_G} {B : Nat → Nat} {A : Nat → Prop} {S : sS} {K : sK} {L : sL} {Y : sY} {O : sO} {post : Int32 → sG → Prop} {Q : Int32 → (Nat → Int32) → (Nat → Nat → Int32) → Prop} (C : gX p s m args meth c cX6_count 5 (some .int) wsX6_count RX6 D B A) (hpost : ∀ (v : Int32) (I : Nat → Int32) (X : Nat → Nat → Int32), Q v I X → post v (S, K, L, Y, (I, X), O))  : ∀ (n168 : Nat) (I : Nat → Int32) (X : Nat → Nat → Int32) (y2 : Int32) (y3 : Int32) (H : Heap) (locs : List Loc) (ls : Array Slot), fX6_count_h168 Q n168 I X y2 y3 → GS D B A s.heap (S, K, L, Y, (I, X), O) H locs → lv_has ls 5 [(0, .ref (B 0)), (2, .int y2), (3, .int y3)] → W p l e (headSpec wsX6_count rX6_count).room s m args below meth c H locs 0 0 (MQ below (va_Qi post (gB D B A) A) args s 0 0 A) (F0 m 168 ls []) := by
  obtain ⟨hx, hb, hml, hown, hts, hK, hr, hlk, hA, hN⟩ := id C
  intro n168
  induction n168 with
  | zero =>
    intro I X y2 y3 H locs ls hf
    exact False.elim hf
  | succ n168 hG168 =>
    intro I X y2 y3 H locs ls hf hG hl
    unfold fX6_count_h168 at hf
    refine lv_iload_n hx hb dX6_count_168 rfl (lv_at hl 2 rfl) ?_
    refine lv_aload_n hx hb dX6_count_169 rfl (lv_at hl 0 rfl) ?_
    refine gg_M_9 C hG inX6_count_wsX60 (hts _ (List.mem_of_getElem? (i := 4) rfl)) dX6_count_170 ?_
    refine lv_icmp_ge (tgt := 219) hx hb dX6_count_173 (by decide) (fun c_22 => ?_) (fun c_22 => ?_)
    · replace hf := hf.1 c_22
      refine lv_iload_n hx hb dX6_count_219 rfl (lv_at hl 1 rfl) ?_
      exact g_iret C hG (hpost _ _ _ hf) dX6_count_220
    · replace hf := hf.2 c_22
      refine lv_iconst (v := (0 : Int32)) hx hb dX6_count_176 (by decide) ?_
      refine lv_istore (lv' := [(4, .int (0 : Int32)), (0, .ref (B 0)), (2, .int y2), (3, .int y3)]) hx hb dX6_count_177 hl (by decide) rfl (fun ls hl => ?_)
      obtain ⟨n179, hf⟩ := hf
      exact vX6_count_h179 C hpost hG168 n179 I X y2 y3 (0 : Int32) _ _ _ hf hG (lv_sub hl [1, 2, 3, 0] rfl)
set_option maxHeartbeats 4000000 in
set_option maxRecDepth 100000 in
theorem vX6_count_b156 {p : Program} {l : Launch} {e : Env} {s : State} {m : MethodId} {args : Array Value} {below : List Frame} {meth : Method} {c : Code} {D : va_G} {B : Nat → Nat} {A : Nat → Prop} {S : sS} {K : sK} {L : sL} {Y : sY} {O : sO} {post : Int32 → sG → Prop} {Q : Int32 → (Nat → Int32) → (Nat → Nat → Int32) → Prop} (C : gX p s m args meth c cX6_count 5 (some .int) wsX6_count RX6 D B A) (hpost : ∀ (v : Int32) (I : Nat → Int32) (X : Nat → Nat → Int32), Q v I X → post v (S, K, L, Y, (I, X), O)) {G122 : (Nat → Int32) → (Nat → Nat → Int32) → Int32 → Int32 → Int32 → Prop} (hG122 : ∀ (I : Nat → Int32) (X : Nat → Nat → Int32) (y1 : Int32) (y2 : Int32) (y3 : Int32) (H : Heap) (locs : List Loc) (ls : Array Slot), G122 I X y1 y2 y3 → GS D B A s.heap (S, K, L, Y, (I, X), O) H locs → lv_has ls 5 [(0, .ref (B 0)), (1, .int y1), (2, .int y2), (3, .int y3)] → W p l e (headSpec wsX6_count rX6_count).room s m args below meth c H locs 0 0 (MQ below (va_Qi post (gB D B A) A) args s 0 0 A) (F0 m 122 ls [])) (I : Nat → Int32) (X : Nat → Nat → Int32) (y1 : Int32) (y3 : Int32) (t0 : Int32) (t1 : Int32) (H : Heap) (locs : List Loc) (ls : Array Slot) (hf : fX6_count_b156 G122 Q I X y1 y3 t0 t1) (hG : GS D B A s.heap (S, K, L, Y, (I, X), O) H locs) (hl : lv_has ls 5 [(0, .ref (B 0)), (1, .int y1), (3, .int y3)]) : W p l e (headSpec wsX6_count rX6_count).room s m args below meth c H locs 0 0 (MQ below (va_Qi post (gB D B A) A) args s 0 0 A) (F0 m 156 ls [.int t0, .int t1]) := by
  obtain ⟨hx, hb, hml, hown, hts, hK, hr, hlk, hA, hN⟩ := id C
  unfold fX6_count_b156 at hf
  refine lv_iadd hx hb dX6_count_156 ?_
  refine lv_topi (fun x2_20 ex2_20 => ?_)
  replace hf := hf x2_20 ex2_20
  refine lv_istore_n (lv' := [(2, .int x2_20), (0, .ref (B 0)), (1, .int y1), (3, .int y3)]) hx hb dX6_count_157 rfl hl (by decide) rfl (fun ls hl => ?_)
  obtain ⟨x3_21, ex3_21⟩ : ∃ y : Int32, y = y3 + (1 : Int32) := ⟨_, rfl⟩
  replace hf := hf x3_21 ex3_21
  refine lv_iinc (v := x3_21) (lv' := [(3, .int x3_21), (2, .int x2_20), (0, .ref (B 0)), (1, .int y1)]) hx hb dX6_count_158 hl (k := 3) rfl (by rw [ex3_21]; rfl) (by decide) rfl (fun ls hl => ?_)
  refine lv_goto (tgt := 122) hx hb dX6_count_161 (by decide) ?_
  exact hG122 I X y1 x2_20 x3_21 _ _ _ hf hG (lv_sub hl [2, 3, 1, 0] rfl)
set_option maxHeartbeats 4000000 in
set_option maxRecDepth 100000 in
theorem vX6_count_b148 {p : Program} {l : Launch} {e : Env} {s : State} {m : MethodId} {args : Array Value} {below : List Frame} {meth : Method} {c : Code} {D : va_G} {B : Nat → Nat} {A : Nat → Prop} {S : sS} {K : sK} {L : sL} {Y : sY} {O : sO} {post : Int32 → sG → Prop} {Q : Int32 → (Nat → Int32) → (Nat → Nat → Int32) → Prop} (C : gX p s m args meth c cX6_count 5 (some .int) wsX6_count RX6 D B A) (hpost : ∀ (v : Int32) (I : Nat → Int32) (X : Nat → Nat → Int32), Q v I X → post v (S, K, L, Y, (I, X), O)) {G122 : (Nat → Int32) → (Nat → Nat → Int32) → Int32 → Int32 → Int32 → Prop} (hG122 : ∀ (I : Nat → Int32) (X : Nat → Nat → Int32) (y1 : Int32) (y2 : Int32) (y3 : Int32) (H : Heap) (locs : List Loc) (ls : Array Slot), G122 I X y1 y2 y3 → GS D B A s.heap (S, K, L, Y, (I, X), O) H locs → lv_has ls 5 [(0, .ref (B 0)), (1, .int y1), (2, .int y2), (3, .int y3)] → W p l e (headSpec wsX6_count rX6_count).room s m args below meth c H locs 0 0 (MQ below (va_Qi post (gB D B A) A) args s 0 0 A) (F0 m 122 ls [])) (I : Nat → Int32) (X : Nat → Nat → Int32) (y1 : Int32) (y3 : Int32) (t0 : Int32) (t1 : Int32) (t2 : Int32) (H : Heap) (locs : List Loc) (ls : Array Slot) (hf : fX6_count_b148 G122 Q I X y1 y3 t0 t1 t2) (hG : GS D B A s.heap (S, K, L, Y, (I, X), O) H locs) (hl : lv_has ls 5 [(0, .ref (B 0)), (1, .int y1), (3, .int y3)]) : W p l e (headSpec wsX6_count rX6_count).room s m args below meth c H locs 0 0 (MQ below (va_Qi post (gB D B A) A) args s 0 0 A) (F0 m 148 ls [.int t0, .int t1, .int t2]) := by
  obtain ⟨hx, hb, hml, hown, hts, hK, hr, hlk, hA, hN⟩ := id C
  unfold fX6_count_b148 at hf
  refine lv_icmp_ne (tgt := 155) hx hb dX6_count_148 (by decide) (fun c_19 => ?_) (fun c_19 => ?_)
  · replace hf := hf.1 c_19
    refine lv_iconst (v := (0 : Int32)) hx hb dX6_count_155 (by decide) ?_
    exact vX6_count_b156 C hpost hG122 I X y1 y3 (0 : Int32) t2 _ _ _ hf hG (lv_sub hl [0, 1, 2] rfl)
  · replace hf := hf.2 c_19
    refine lv_iconst (v := (1 : Int32)) hx hb dX6_count_151 (by decide) ?_
    refine lv_goto (tgt := 156) hx hb dX6_count_152 (by decide) ?_
    exact vX6_count_b156 C hpost hG122 I X y1 y3 (1 : Int32) t2 _ _ _ hf hG (lv_sub hl [0, 1, 2] rfl)
set_option maxHeartbeats 4000000 in
set_option maxRecDepth 100000 in
theorem vX6_count_h122 {p : Program} {l : Launch} {e : Env} {s : State} {m : MethodId} {args : Array Value} {below : List Frame} {meth : Method} {c : Code} {D : va_G} {B : Nat → Nat} {A : Nat → Prop} {S : sS} {K : sK} {L : sL} {Y : sY} {O : sO} {post : Int32 → sG → Prop} {Q : Int32 → (Nat → Int32) → (Nat → Nat → Int32) → Prop} (C : gX p s m args meth c cX6_count 5 (some .int) wsX6_count RX6 D B A) (hpost : ∀ (v : Int32) (I : Nat → Int32) (X : Nat → Nat → Int32), Q v I X → post v (S, K, L, Y, (I, X), O))  : ∀ (n122 : Nat) (I : Nat → Int32) (X : Nat → Nat → Int32) (y1 : Int32) (y2 : Int32) (y3 : Int32) (H : Heap) (locs : List Loc) (ls : Array Slot), fX6_count_h122 Q n122 I X y1 y2 y3 → GS D B A s.heap (S, K, L, Y, (I, X), O) H locs → lv_has ls 5 [(0, .ref (B 0)), (1, .int y1), (2, .int y2), (3, .int y3)] → W p l e (headSpec wsX6_count rX6_count).room s m args below meth c H locs 0 0 (MQ below (va_Qi post (gB D B A) A) args s 0 0 A) (F0 m 122 ls []) := by
  obtain ⟨hx, hb, hml, hown, hts, hK, hr, hlk, hA, hN⟩ := id C
  intro n122
  induction n122 with
  | zero =>
    intro I X y1 y2 y3 H locs ls hf
    exact False.elim hf
  | succ n122 hG122 =>
    intro I X y1 y2 y3 H locs ls hf hG hl
    unfold fX6_count_h122 at hf
    refine lv_iload_n hx hb dX6_count_122 rfl (lv_at hl 3 rfl) ?_
    refine lv_aload_n hx hb dX6_count_123 rfl (lv_at hl 0 rfl) ?_
    refine gg_M_31 C hG inX6_count_wsX60 (hts _ (List.mem_of_getElem? (i := 7) rfl)) dX6_count_124 ?_
    refine lv_icmp_ge (tgt := 164) hx hb dX6_count_127 (by decide) (fun c_16 => ?_) (fun c_16 => ?_)
    · replace hf := hf.1 c_16
      refine lv_iload_n hx hb dX6_count_164 rfl (lv_at hl 2 rfl) ?_
      exact g_iret C hG (hpost _ _ _ hf) dX6_count_165
    · replace hf := hf.2 c_16
      refine lv_iload_n hx hb dX6_count_130 rfl (lv_at hl 2 rfl) ?_
      refine lv_aload_n hx hb dX6_count_131 rfl (lv_at hl 0 rfl) ?_
      refine gg_M_21 C hG inX6_count_wsX60 (hts _ (List.mem_of_getElem? (i := 8) rfl)) dX6_count_132 ?_
      refine lv_iload_n hx hb dX6_count_135 rfl (lv_at hl 3 rfl) ?_
      obtain ⟨h_17, hf⟩ := hf
      refine ga_M_21 C hG h_17 dX6_count_136 ?_
      refine lv_iload_n hx hb dX6_count_137 rfl (lv_at hl 1 rfl) ?_
      refine lv_bipush (v := (6 : Int32)) hx hb dX6_count_138 (by decide) ?_
      refine lv_icmp_ne (tgt := 147) hx hb dX6_count_140 (by decide) (fun c_18 => ?_) (fun c_18 => ?_)
      · replace hf := hf.1 c_18
        refine lv_iconst (v := (5 : Int32)) hx hb dX6_count_147 (by decide) ?_
        exact vX6_count_b148 C hpost hG122 I X y1 y3 (5 : Int32) (X 21 y3.toNatClampNeg) y2 _ _ _ hf hG (lv_sub hl [0, 1, 3] rfl)
      · replace hf := hf.2 c_18
        refine lv_iconst (v := (4 : Int32)) hx hb dX6_count_143 (by decide) ?_
        refine lv_goto (tgt := 148) hx hb dX6_count_144 (by decide) ?_
        exact vX6_count_b148 C hpost hG122 I X y1 y3 (4 : Int32) (X 21 y3.toNatClampNeg) y2 _ _ _ hf hG (lv_sub hl [0, 1, 3] rfl)
set_option maxHeartbeats 4000000 in
set_option maxRecDepth 100000 in
theorem vX6_count_b100 {p : Program} {l : Launch} {e : Env} {s : State} {m : MethodId} {args : Array Value} {below : List Frame} {meth : Method} {c : Code} {D : va_G} {B : Nat → Nat} {A : Nat → Prop} {S : sS} {K : sK} {L : sL} {Y : sY} {O : sO} {post : Int32 → sG → Prop} {Q : Int32 → (Nat → Int32) → (Nat → Nat → Int32) → Prop} (C : gX p s m args meth c cX6_count 5 (some .int) wsX6_count RX6 D B A) (hpost : ∀ (v : Int32) (I : Nat → Int32) (X : Nat → Nat → Int32), Q v I X → post v (S, K, L, Y, (I, X), O)) {G77 : (Nat → Int32) → (Nat → Nat → Int32) → Int32 → Int32 → Prop} (hG77 : ∀ (I : Nat → Int32) (X : Nat → Nat → Int32) (y2 : Int32) (y3 : Int32) (H : Heap) (locs : List Loc) (ls : Array Slot), G77 I X y2 y3 → GS D B A s.heap (S, K, L, Y, (I, X), O) H locs → lv_has ls 5 [(0, .ref (B 0)), (2, .int y2), (3, .int y3)] → W p l e (headSpec wsX6_count rX6_count).room s m args below meth c H locs 0 0 (MQ below (va_Qi post (gB D B A) A) args s 0 0 A) (F0 m 77 ls [])) (I : Nat → Int32) (X : Nat → Nat → Int32) (y3 : Int32) (t0 : Int32) (t1 : Int32) (H : Heap) (locs : List Loc) (ls : Array Slot) (hf : fX6_count_b100 G77 Q I X y3 t0 t1) (hG : GS D B A s.heap (S, K, L, Y, (I, X), O) H locs) (hl : lv_has ls 5 [(0, .ref (B 0)), (3, .int y3)]) : W p l e (headSpec wsX6_count rX6_count).room s m args below meth c H locs 0 0 (MQ below (va_Qi post (gB D B A) A) args s 0 0 A) (F0 m 100 ls [.int t0, .int t1]) := by
  obtain ⟨hx, hb, hml, hown, hts, hK, hr, hlk, hA, hN⟩ := id C
  unfold fX6_count_b100 at hf
  refine lv_iadd hx hb dX6_count_100 ?_
  refine lv_topi (fun x2_14 ex2_14 => ?_)
  replace hf := hf x2_14 ex2_14
  refine lv_istore_n (lv' := [(2, .int x2_14), (0, .ref (B 0)), (3, .int y3)]) hx hb dX6_count_101 rfl hl (by decide) rfl (fun ls hl => ?_)
  obtain ⟨x3_15, ex3_15⟩ : ∃ y : Int32, y = y3 + (1 : Int32) := ⟨_, rfl⟩
  replace hf := hf x3_15 ex3_15
  refine lv_iinc (v := x3_15) (lv' := [(3, .int x3_15), (2, .int x2_14), (0, .ref (B 0))]) hx hb dX6_count_102 hl (k := 2) rfl (by rw [ex3_15]; rfl) (by decide) rfl (fun ls hl => ?_)
  refine lv_goto (tgt := 77) hx hb dX6_count_105 (by decide) ?_
  exact hG77 I X x2_14 x3_15 _ _ _ hf hG (lv_sub hl [2, 1, 0] rfl)
set_option maxHeartbeats 4000000 in
set_option maxRecDepth 100000 in
theorem vX6_count_h77 {p : Program} {l : Launch} {e : Env} {s : State} {m : MethodId} {args : Array Value} {below : List Frame} {meth : Method} {c : Code} {D : va_G} {B : Nat → Nat} {A : Nat → Prop} {S : sS} {K : sK} {L : sL} {Y : sY} {O : sO} {post : Int32 → sG → Prop} {Q : Int32 → (Nat → Int32) → (Nat → Nat → Int32) → Prop} (C : gX p s m args meth c cX6_count 5 (some .int) wsX6_count RX6 D B A) (hpost : ∀ (v : Int32) (I : Nat → Int32) (X : Nat → Nat → Int32), Q v I X → post v (S, K, L, Y, (I, X), O))  : ∀ (n77 : Nat) (I : Nat → Int32) (X : Nat → Nat → Int32) (y2 : Int32) (y3 : Int32) (H : Heap) (locs : List Loc) (ls : Array Slot), fX6_count_h77 Q n77 I X y2 y3 → GS D B A s.heap (S, K, L, Y, (I, X), O) H locs → lv_has ls 5 [(0, .ref (B 0)), (2, .int y2), (3, .int y3)] → W p l e (headSpec wsX6_count rX6_count).room s m args below meth c H locs 0 0 (MQ below (va_Qi post (gB D B A) A) args s 0 0 A) (F0 m 77 ls []) := by
  obtain ⟨hx, hb, hml, hown, hts, hK, hr, hlk, hA, hN⟩ := id C
  intro n77
  induction n77 with
  | zero =>
    intro I X y2 y3 H locs ls hf
    exact False.elim hf
  | succ n77 hG77 =>
    intro I X y2 y3 H locs ls hf hG hl
    unfold fX6_count_h77 at hf
    refine lv_iload_n hx hb dX6_count_77 rfl (lv_at hl 2 rfl) ?_
    refine lv_aload_n hx hb dX6_count_78 rfl (lv_at hl 0 rfl) ?_
    refine gg_M_9 C hG inX6_count_wsX60 (hts _ (List.mem_of_getElem? (i := 4) rfl)) dX6_count_79 ?_
    refine lv_icmp_ge (tgt := 108) hx hb dX6_count_82 (by decide) (fun c_11 => ?_) (fun c_11 => ?_)
    · replace hf := hf.1 c_11
      refine lv_iload_n hx hb dX6_count_108 rfl (lv_at hl 1 rfl) ?_
      exact g_iret C hG (hpost _ _ _ hf) dX6_count_109
    · replace hf := hf.2 c_11
      refine lv_iload_n hx hb dX6_count_85 rfl (lv_at hl 1 rfl) ?_
      refine lv_aload_n hx hb dX6_count_86 rfl (lv_at hl 0 rfl) ?_
      refine gg_M_8 C hG inX6_count_wsX60 (hts _ (List.mem_of_getElem? (i := 5) rfl)) dX6_count_87 ?_
      refine lv_iload_n hx hb dX6_count_90 rfl (lv_at hl 2 rfl) ?_
      obtain ⟨h_12, hf⟩ := hf
      refine ga_M_8 C hG h_12 dX6_count_91 ?_
      refine lv_if_eq (tgt := 99) hx hb dX6_count_92 (by decide) (fun c_13 => ?_) (fun c_13 => ?_)
      · replace hf := hf.1 c_13
        refine lv_iconst (v := (0 : Int32)) hx hb dX6_count_99 (by decide) ?_
        exact vX6_count_b100 C hpost hG77 I X y3 (0 : Int32) y2 _ _ _ hf hG (lv_sub hl [0, 2] rfl)
      · replace hf := hf.2 c_13
        refine lv_iconst (v := (1 : Int32)) hx hb dX6_count_95 (by decide) ?_
        refine lv_goto (tgt := 100) hx hb dX6_count_96 (by decide) ?_
        exact vX6_count_b100 C hpost hG77 I X y3 (1 : Int32) y2 _ _ _ hf hG (lv_sub hl [0, 2] rfl)
set_option maxHeartbeats 4000000 in
set_option maxRecDepth 100000 in
theorem vX6_count_b0 {p : Program} {l : Launch} {e : Env} {s : State} {m : MethodId} {args : Array Value} {below : List Frame} {meth : Method} {c : Code} {D : va_G} {B : Nat → Nat} {A : Nat → Prop} {S : sS} {K : sK} {L : sL} {Y : sY} {O : sO} {post : Int32 → sG → Prop} {Q : Int32 → (Nat → Int32) → (Nat → Nat → Int32) → Prop} (C : gX p s m args meth c cX6_count 5 (some .int) wsX6_count RX6 D B A) (hpost : ∀ (v : Int32) (I : Nat → Int32) (X : Nat → Nat → Int32), Q v I X → post v (S, K, L, Y, (I, X), O))  (I : Nat → Int32) (X : Nat → Nat → Int32) (x1 : Int32) (H : Heap) (locs : List Loc) (ls : Array Slot) (hf : fX6_count Q I X x1) (hG : GS D B A s.heap (S, K, L, Y, (I, X), O) H locs) (hl : lv_has ls 5 [(0, .ref (B 0)), (1, .int x1)]) : W p l e (headSpec wsX6_count rX6_count).room s m args below meth c H locs 0 0 (MQ below (va_Qi post (gB D B A) A) args s 0 0 A) (F0 m 0 ls []) := by
  obtain ⟨hx, hb, hml, hown, hts, hK, hr, hlk, hA, hN⟩ := id C
  unfold fX6_count at hf
  refine lv_aload_n hx hb dX6_count_0 rfl (lv_at hl 0 rfl) ?_
  refine lv_iconst (v := (0 : Int32)) hx hb dX6_count_1 (by decide) ?_
  refine gp_M_0 C hG inX6_count_wsX60 (hts _ (List.mem_of_getElem? (i := 1) rfl)) dX6_count_2 (fun I_1 H locs eI_1 hG => ?_)
  replace hf := hf I_1 eI_1
  refine lv_iconst (v := (0 : Int32)) hx hb dX6_count_5 (by decide) ?_
  refine lv_istore_n (lv' := [(2, .int (0 : Int32)), (0, .ref (B 0)), (1, .int x1)]) hx hb dX6_count_6 rfl hl (by decide) rfl (fun ls hl => ?_)
  refine lv_iload_n hx hb dX6_count_7 rfl (lv_at hl 2 rfl) ?_
  by_cases q_2 : x1 = (0 : Int32)
  · refine lv_tableIn (tgt := 60) (off := 52) hx hb dX6_count_8 (by rw [q_2]; decide) (by rw [q_2]; decide) (by rw [q_2]; decide) (by decide) ?_
    replace hf := hf.1 q_2
    refine lv_aload_n hx hb dX6_count_60 rfl (lv_at hl 1 rfl) ?_
    refine gg_M_1 C hG inX6_count_wsX60 (hts _ (List.mem_of_getElem? (i := 2) rfl)) dX6_count_61 ?_
    exact g_iret C hG (hpost _ _ _ hf) dX6_count_64
  replace hf := hf.2 q_2
  by_cases q_3 : x1 = (1 : Int32)
  · refine lv_tableIn (tgt := 65) (off := 57) hx hb dX6_count_8 (by rw [q_3]; decide) (by rw [q_3]; decide) (by rw [q_3]; decide) (by decide) ?_
    replace hf := hf.1 q_3
    refine lv_aload_n hx hb dX6_count_65 rfl (lv_at hl 1 rfl) ?_
    refine gg_M_6 C hG inX6_count_wsX60 (hts _ (List.mem_of_getElem? (i := 3) rfl)) dX6_count_66 ?_
    exact g_iret C hG (hpost _ _ _ hf) dX6_count_69
  replace hf := hf.2 q_3
  by_cases q_4 : x1 = (2 : Int32)
  · refine lv_tableIn (tgt := 70) (off := 62) hx hb dX6_count_8 (by rw [q_4]; decide) (by rw [q_4]; decide) (by rw [q_4]; decide) (by decide) ?_
    replace hf := hf.1 q_4
    refine lv_aload_n hx hb dX6_count_70 rfl (lv_at hl 1 rfl) ?_
    refine gg_M_9 C hG inX6_count_wsX60 (hts _ (List.mem_of_getElem? (i := 4) rfl)) dX6_count_71 ?_
    exact g_iret C hG (hpost _ _ _ hf) dX6_count_74
  replace hf := hf.2 q_4
  by_cases q_5 : x1 = (3 : Int32)
  · refine lv_tableIn (tgt := 75) (off := 67) hx hb dX6_count_8 (by rw [q_5]; decide) (by rw [q_5]; decide) (by rw [q_5]; decide) (by decide) ?_
    replace hf := hf.1 q_5
    refine lv_iconst (v := (0 : Int32)) hx hb dX6_count_75 (by decide) ?_
    refine lv_istore_n (lv' := [(3, .int (0 : Int32)), (2, .int (0 : Int32)), (0, .ref (B 0)), (1, .int x1)]) hx hb dX6_count_76 rfl hl (by decide) rfl (fun ls hl => ?_)
    obtain ⟨n77, hf⟩ := hf
    exact vX6_count_h77 C hpost  n77 I_1 X (0 : Int32) (0 : Int32) _ _ _ hf hG (lv_sub hl [2, 1, 0] rfl)
  replace hf := hf.2 q_5
  by_cases q_6 : x1 = (4 : Int32)
  · refine lv_tableIn (tgt := 110) (off := 102) hx hb dX6_count_8 (by rw [q_6]; decide) (by rw [q_6]; decide) (by rw [q_6]; decide) (by decide) ?_
    replace hf := hf.1 q_6
    refine lv_aload_n hx hb dX6_count_110 rfl (lv_at hl 1 rfl) ?_
    refine gg_M_13 C hG inX6_count_wsX60 (hts _ (List.mem_of_getElem? (i := 6) rfl)) dX6_count_111 ?_
    exact g_iret C hG (hpost _ _ _ hf) dX6_count_114
  replace hf := hf.2 q_6
  by_cases q_7 : x1 = (5 : Int32)
  · refine lv_tableIn (tgt := 115) (off := 107) hx hb dX6_count_8 (by rw [q_7]; decide) (by rw [q_7]; decide) (by rw [q_7]; decide) (by decide) ?_
    replace hf := hf.1 q_7
    refine lv_aload_n hx hb dX6_count_115 rfl (lv_at hl 1 rfl) ?_
    refine gg_M_31 C hG inX6_count_wsX60 (hts _ (List.mem_of_getElem? (i := 7) rfl)) dX6_count_116 ?_
    exact g_iret C hG (hpost _ _ _ hf) dX6_count_119
  replace hf := hf.2 q_7
  by_cases q_8 : x1 = (6 : Int32)
  · refine lv_tableIn (tgt := 120) (off := 112) hx hb dX6_count_8 (by rw [q_8]; decide) (by rw [q_8]; decide) (by rw [q_8]; decide) (by decide) ?_
    replace hf := hf.1 q_8
    refine lv_iconst (v := (0 : Int32)) hx hb dX6_count_120 (by decide) ?_
    refine lv_istore_n (lv' := [(3, .int (0 : Int32)), (2, .int (0 : Int32)), (0, .ref (B 0)), (1, .int x1)]) hx hb dX6_count_121 rfl hl (by decide) rfl (fun ls hl => ?_)
    obtain ⟨n122, hf⟩ := hf
    exact vX6_count_h122 C hpost  n122 I_1 X x1 (0 : Int32) (0 : Int32) _ _ _ hf hG (lv_sub hl [2, 3, 1, 0] rfl)
  replace hf := hf.2 q_8
  by_cases q_9 : x1 = (7 : Int32)
  · refine lv_tableIn (tgt := 120) (off := 112) hx hb dX6_count_8 (by rw [q_9]; decide) (by rw [q_9]; decide) (by rw [q_9]; decide) (by decide) ?_
    replace hf := hf.1 q_9
    refine lv_iconst (v := (0 : Int32)) hx hb dX6_count_120 (by decide) ?_
    refine lv_istore_n (lv' := [(3, .int (0 : Int32)), (2, .int (0 : Int32)), (0, .ref (B 0)), (1, .int x1)]) hx hb dX6_count_121 rfl hl (by decide) rfl (fun ls hl => ?_)
    obtain ⟨n122, hf⟩ := hf
    exact vX6_count_h122 C hpost  n122 I_1 X x1 (0 : Int32) (0 : Int32) _ _ _ hf hG (lv_sub hl [2, 3, 1, 0] rfl)
  replace hf := hf.2 q_9
  by_cases q_10 : x1 = (8 : Int32)
  · refine lv_tableIn (tgt := 166) (off := 158) hx hb dX6_count_8 (by rw [q_10]; decide) (by rw [q_10]; decide) (by rw [q_10]; decide) (by decide) ?_
    replace hf := hf.1 q_10
    refine lv_iconst (v := (0 : Int32)) hx hb dX6_count_166 (by decide) ?_
    refine lv_istore_n (lv' := [(3, .int (0 : Int32)), (2, .int (0 : Int32)), (0, .ref (B 0)), (1, .int x1)]) hx hb dX6_count_167 rfl hl (by decide) rfl (fun ls hl => ?_)
    obtain ⟨n168, hf⟩ := hf
    exact vX6_count_h168 C hpost  n168 I_1 X (0 : Int32) (0 : Int32) _ _ _ hf hG (lv_sub hl [2, 1, 0] rfl)
  replace hf := hf.2 q_10
  have nq_2 := lv_neT q_2 (show ((0 : Int32)).toInt = (0 : Int) by decide)
  have nq_3 := lv_neT q_3 (show ((1 : Int32)).toInt = (1 : Int) by decide)
  have nq_4 := lv_neT q_4 (show ((2 : Int32)).toInt = (2 : Int) by decide)
  have nq_5 := lv_neT q_5 (show ((3 : Int32)).toInt = (3 : Int) by decide)
  have nq_6 := lv_neT q_6 (show ((4 : Int32)).toInt = (4 : Int) by decide)
  have nq_7 := lv_neT q_7 (show ((5 : Int32)).toInt = (5 : Int) by decide)
  have nq_8 := lv_neT q_8 (show ((6 : Int32)).toInt = (6 : Int) by decide)
  have nq_9 := lv_neT q_9 (show ((7 : Int32)).toInt = (7 : Int) by decide)
  have nq_10 := lv_neT q_10 (show ((8 : Int32)).toInt = (8 : Int) by decide)
  refine lv_tableOut (tgt := 221) hx hb dX6_count_8 (by omega) (by decide) ?_
  refine lv_iconst (v := (-1 : Int32)) hx hb dX6_count_221 (by decide) ?_
  exact g_iret C hG (hpost _ _ _ hf) dX6_count_222
set_option maxRecDepth 100000 in
theorem kX6_count {l : Launch} {D : va_G} {B : Nat → Nat} {S : sS} {K : sK} {L : sL} {Y : sY} {O : sO}  {Q : Int32 → (Nat → Int32) → (Nat → Nat → Int32) → Prop} {I : Nat → Int32} {X : Nat → Nat → Int32} {x1 : Int32} (hf : fX6_count Q I X x1) : gMi D B l yX6_count wsX6_count rX6_count 0 0 [.ref (B 0), .int x1] (S, K, L, Y, (I, X), O) (fun r g1 => ∃ (I1 : Nat → Int32) (X1 : Nat → Nat → Int32), g1 = (S, K, L, Y, (I1, X1), O) ∧ Q r I1 X1) := by
  refine gMi_of (cc := cX6_count) (maxL := 5) (ret := some .int) (by decide +kernel) rfl (Nat.le_of_ble_eq_true rfl) ?_
  intro p e s m below meth c A hA0 C hG ls hl
  exact vX6_count_b0 C (fun v I X hq => ⟨I, X, rfl, hq⟩) I X x1 _ _ _ hf hG hl
def rX6_dead : Room := { frames := 2, cells := 0, slots := 0, locals := 43 }
theorem hdvX6_dead : yX6_dead.cls = RX6 ∧ yX6_dead.cls ≠ "java/lang/invoke/MethodHandle" ∧ yX6_dead.cls ≠ "java/lang/invoke/VarHandle" ∧ (parseMethodDescriptor yX6_dead.desc).map (fun d => d.parameters.length) = some 2 := by decide +kernel
theorem inX6_dead_wsX60 : ∀ w ∈ wsX60, w ∈ wsX6_dead := (fun _ h => List.mem_cons_of_mem _ (List.mem_append_right _ h))
set_option maxHeartbeats 4000000 in
set_option maxRecDepth 100000 in
theorem vX6_dead_b138 {p : Program} {l : Launch} {e : Env} {s : State} {m : MethodId} {args : Array Value} {below : List Frame} {meth : Method} {c : Code} {D : va_G} {B : Nat → Nat} {A : Nat → Prop} {S : sS} {K : sK} {L : sL} {Y : sY} {O : sO} {post : Int32 → sG → Prop} {Q : Int32 → (Nat → Int32) → (Nat → Nat → Int32) → Prop} (C : gX p s m args meth c cX6_dead 6 (some .boolean) wsX6_dead RX6 D B A) (hpost : ∀ (v : Int32) (I : Nat → Int32) (X : Nat → Nat → Int32), Q v I X → post v (S, K, L, Y, (I, X), O)) {G54 : (Nat → Int32) → (Nat → Nat → Int32) → Int32 → Int32 → Prop} (hG54 : ∀ (I : Nat → Int32) (X : Nat → Nat → Int32) (y1 : Int32) (y4 : Int32) (H : Heap) (locs : List Loc) (ls : Array Slot), G54 I X y1 y4 → GS D B A s.heap (S, K, L, Y, (I, X), O) H locs → lv_has ls 6 [(0, .ref (B 0)), (1, .int y1), (4, .int y4)] → W p l e (headSpec wsX6_dead rX6_dead).room s m args below meth c H locs 0 0 (MQ below (va_Qi post (gB D B A) A) args s 0 0 A) (F0 m 54 ls [])) (I : Nat → Int32) (X : Nat → Nat → Int32) (y1 : Int32) (y4 : Int32) (H : Heap) (locs : List Loc) (ls : Array Slot) (hf : fX6_dead_b138 G54 Q I X y1 y4) (hG : GS D B A s.heap (S, K, L, Y, (I, X), O) H locs) (hl : lv_has ls 6 [(0, .ref (B 0)), (1, .int y1), (4, .int y4)]) : W p l e (headSpec wsX6_dead rX6_dead).room s m args below meth c H locs 0 0 (MQ below (va_Qi post (gB D B A) A) args s 0 0 A) (F0 m 138 ls []) := by
  obtain ⟨hx, hb, hml, hown, hts, hK, hr, hlk, hA, hN⟩ := id C
  unfold fX6_dead_b138 at hf
  obtain ⟨x4_31, ex4_31⟩ : ∃ y : Int32, y = y4 + (1 : Int32) := ⟨_, rfl⟩
  replace hf := hf x4_31 ex4_31
  refine lv_iinc (v := x4_31) (lv' := [(4, .int x4_31), (0, .ref (B 0)), (1, .int y1)]) hx hb dX6_dead_138 hl (k := 2) rfl (by rw [ex4_31]; rfl) (by decide) rfl (fun ls hl => ?_)
  refine lv_goto (tgt := 54) hx hb dX6_dead_141 (by decide) ?_
  exact hG54 I X y1 x4_31 _ _ _ hf hG (lv_sub hl [1, 2, 0] rfl)
set_option maxHeartbeats 4000000 in
set_option maxRecDepth 100000 in
theorem vX6_dead_b123 {p : Program} {l : Launch} {e : Env} {s : State} {m : MethodId} {args : Array Value} {below : List Frame} {meth : Method} {c : Code} {D : va_G} {B : Nat → Nat} {A : Nat → Prop} {S : sS} {K : sK} {L : sL} {Y : sY} {O : sO} {post : Int32 → sG → Prop} {Q : Int32 → (Nat → Int32) → (Nat → Nat → Int32) → Prop} (C : gX p s m args meth c cX6_dead 6 (some .boolean) wsX6_dead RX6 D B A) (hpost : ∀ (v : Int32) (I : Nat → Int32) (X : Nat → Nat → Int32), Q v I X → post v (S, K, L, Y, (I, X), O)) {G54 : (Nat → Int32) → (Nat → Nat → Int32) → Int32 → Int32 → Prop} (hG54 : ∀ (I : Nat → Int32) (X : Nat → Nat → Int32) (y1 : Int32) (y4 : Int32) (H : Heap) (locs : List Loc) (ls : Array Slot), G54 I X y1 y4 → GS D B A s.heap (S, K, L, Y, (I, X), O) H locs → lv_has ls 6 [(0, .ref (B 0)), (1, .int y1), (4, .int y4)] → W p l e (headSpec wsX6_dead rX6_dead).room s m args below meth c H locs 0 0 (MQ below (va_Qi post (gB D B A) A) args s 0 0 A) (F0 m 54 ls [])) (I : Nat → Int32) (X : Nat → Nat → Int32) (y1 : Int32) (y4 : Int32) (t0 : Int32) (H : Heap) (locs : List Loc) (ls : Array Slot) (hf : fX6_dead_b123 G54 Q I X y1 y4 t0) (hG : GS D B A s.heap (S, K, L, Y, (I, X), O) H locs) (hl : lv_has ls 6 [(0, .ref (B 0)), (1, .int y1), (4, .int y4)]) : W p l e (headSpec wsX6_dead rX6_dead).room s m args below meth c H locs 0 0 (MQ below (va_Qi post (gB D B A) A) args s 0 0 A) (F0 m 123 ls [.int t0]) := by
  obtain ⟨hx, hb, hml, hown, hts, hK, hr, hlk, hA, hN⟩ := id C
  unfold fX6_dead_b123 at hf
  refine lv_istore (lv' := [(5, .int t0), (0, .ref (B 0)), (1, .int y1), (4, .int y4)]) hx hb dX6_dead_123 hl (by decide) rfl (fun ls hl => ?_)
  refine lv_iload hx hb dX6_dead_125 (lv_at hl 0 rfl) ?_
  refine lv_if_eq (tgt := 138) hx hb dX6_dead_127 (by decide) (fun c_28 => ?_) (fun c_28 => ?_)
  · replace hf := hf.1 c_28
    exact vX6_dead_b138 C hpost hG54 I X y1 y4 _ _ _ hf hG (lv_sub hl [1, 2, 3] rfl)
  · replace hf := hf.2 c_28
    refine lv_aload_n hx hb dX6_dead_130 rfl (lv_at hl 1 rfl) ?_
    refine gg_M_21 C hG inX6_dead_wsX60 (hts _ (List.mem_of_getElem? (i := 4) rfl)) dX6_dead_131 ?_
    refine lv_iload hx hb dX6_dead_134 (lv_at hl 3 rfl) ?_
    refine lv_iconst (v := (5 : Int32)) hx hb dX6_dead_136 (by decide) ?_
    obtain ⟨h_29, hf⟩ := hf
    refine gs_M_21 C hG h_29 dX6_dead_137 (fun X_30 H locs eX_30 hG => ?_)
    replace hf := hf X_30 eX_30
    exact vX6_dead_b138 C hpost hG54 I X_30 y1 y4 _ _ _ hf hG (lv_sub hl [1, 2, 3] rfl)
set_option maxHeartbeats 4000000 in
set_option maxRecDepth 100000 in
theorem vX6_dead_b122 {p : Program} {l : Launch} {e : Env} {s : State} {m : MethodId} {args : Array Value} {below : List Frame} {meth : Method} {c : Code} {D : va_G} {B : Nat → Nat} {A : Nat → Prop} {S : sS} {K : sK} {L : sL} {Y : sY} {O : sO} {post : Int32 → sG → Prop} {Q : Int32 → (Nat → Int32) → (Nat → Nat → Int32) → Prop} (C : gX p s m args meth c cX6_dead 6 (some .boolean) wsX6_dead RX6 D B A) (hpost : ∀ (v : Int32) (I : Nat → Int32) (X : Nat → Nat → Int32), Q v I X → post v (S, K, L, Y, (I, X), O)) {G54 : (Nat → Int32) → (Nat → Nat → Int32) → Int32 → Int32 → Prop} (hG54 : ∀ (I : Nat → Int32) (X : Nat → Nat → Int32) (y1 : Int32) (y4 : Int32) (H : Heap) (locs : List Loc) (ls : Array Slot), G54 I X y1 y4 → GS D B A s.heap (S, K, L, Y, (I, X), O) H locs → lv_has ls 6 [(0, .ref (B 0)), (1, .int y1), (4, .int y4)] → W p l e (headSpec wsX6_dead rX6_dead).room s m args below meth c H locs 0 0 (MQ below (va_Qi post (gB D B A) A) args s 0 0 A) (F0 m 54 ls [])) (I : Nat → Int32) (X : Nat → Nat → Int32) (y1 : Int32) (y4 : Int32) (H : Heap) (locs : List Loc) (ls : Array Slot) (hf : fX6_dead_b122 G54 Q I X y1 y4) (hG : GS D B A s.heap (S, K, L, Y, (I, X), O) H locs) (hl : lv_has ls 6 [(0, .ref (B 0)), (1, .int y1), (4, .int y4)]) : W p l e (headSpec wsX6_dead rX6_dead).room s m args below meth c H locs 0 0 (MQ below (va_Qi post (gB D B A) A) args s 0 0 A) (F0 m 122 ls []) := by
  obtain ⟨hx, hb, hml, hown, hts, hK, hr, hlk, hA, hN⟩ := id C
  unfold fX6_dead_b122 at hf
  refine lv_iconst (v := (0 : Int32)) hx hb dX6_dead_122 (by decide) ?_
  exact vX6_dead_b123 C hpost hG54 I X y1 y4 (0 : Int32) _ _ _ hf hG (lv_sub hl [0, 1, 2] rfl)
set_option maxHeartbeats 4000000 in
set_option maxRecDepth 100000 in
theorem vX6_dead_b118 {p : Program} {l : Launch} {e : Env} {s : State} {m : MethodId} {args : Array Value} {below : List Frame} {meth : Method} {c : Code} {D : va_G} {B : Nat → Nat} {A : Nat → Prop} {S : sS} {K : sK} {L : sL} {Y : sY} {O : sO} {post : Int32 → sG → Prop} {Q : Int32 → (Nat → Int32) → (Nat → Nat → Int32) → Prop} (C : gX p s m args meth c cX6_dead 6 (some .boolean) wsX6_dead RX6 D B A) (hpost : ∀ (v : Int32) (I : Nat → Int32) (X : Nat → Nat → Int32), Q v I X → post v (S, K, L, Y, (I, X), O)) {G54 : (Nat → Int32) → (Nat → Nat → Int32) → Int32 → Int32 → Prop} (hG54 : ∀ (I : Nat → Int32) (X : Nat → Nat → Int32) (y1 : Int32) (y4 : Int32) (H : Heap) (locs : List Loc) (ls : Array Slot), G54 I X y1 y4 → GS D B A s.heap (S, K, L, Y, (I, X), O) H locs → lv_has ls 6 [(0, .ref (B 0)), (1, .int y1), (4, .int y4)] → W p l e (headSpec wsX6_dead rX6_dead).room s m args below meth c H locs 0 0 (MQ below (va_Qi post (gB D B A) A) args s 0 0 A) (F0 m 54 ls [])) (I : Nat → Int32) (X : Nat → Nat → Int32) (y1 : Int32) (y4 : Int32) (H : Heap) (locs : List Loc) (ls : Array Slot) (hf : fX6_dead_b118 G54 Q I X y1 y4) (hG : GS D B A s.heap (S, K, L, Y, (I, X), O) H locs) (hl : lv_has ls 6 [(0, .ref (B 0)), (1, .int y1), (4, .int y4)]) : W p l e (headSpec wsX6_dead rX6_dead).room s m args below meth c H locs 0 0 (MQ below (va_Qi post (gB D B A) A) args s 0 0 A) (F0 m 118 ls []) := by
  obtain ⟨hx, hb, hml, hown, hts, hK, hr, hlk, hA, hN⟩ := id C
  unfold fX6_dead_b118 at hf
  refine lv_iconst (v := (1 : Int32)) hx hb dX6_dead_118 (by decide) ?_
  refine lv_goto (tgt := 123) hx hb dX6_dead_119 (by decide) ?_
  exact vX6_dead_b123 C hpost hG54 I X y1 y4 (1 : Int32) _ _ _ hf hG (lv_sub hl [0, 1, 2] rfl)
set_option maxHeartbeats 4000000 in
set_option maxRecDepth 100000 in
theorem vX6_dead_b85 {p : Program} {l : Launch} {e : Env} {s : State} {m : MethodId} {args : Array Value} {below : List Frame} {meth : Method} {c : Code} {D : va_G} {B : Nat → Nat} {A : Nat → Prop} {S : sS} {K : sK} {L : sL} {Y : sY} {O : sO} {post : Int32 → sG → Prop} {Q : Int32 → (Nat → Int32) → (Nat → Nat → Int32) → Prop} (C : gX p s m args meth c cX6_dead 6 (some .boolean) wsX6_dead RX6 D B A) (hpost : ∀ (v : Int32) (I : Nat → Int32) (X : Nat → Nat → Int32), Q v I X → post v (S, K, L, Y, (I, X), O)) {G54 : (Nat → Int32) → (Nat → Nat → Int32) → Int32 → Int32 → Prop} (hG54 : ∀ (I : Nat → Int32) (X : Nat → Nat → Int32) (y1 : Int32) (y4 : Int32) (H : Heap) (locs : List Loc) (ls : Array Slot), G54 I X y1 y4 → GS D B A s.heap (S, K, L, Y, (I, X), O) H locs → lv_has ls 6 [(0, .ref (B 0)), (1, .int y1), (4, .int y4)] → W p l e (headSpec wsX6_dead rX6_dead).room s m args below meth c H locs 0 0 (MQ below (va_Qi post (gB D B A) A) args s 0 0 A) (F0 m 54 ls [])) (I : Nat → Int32) (X : Nat → Nat → Int32) (y1 : Int32) (y4 : Int32) (H : Heap) (locs : List Loc) (ls : Array Slot) (hf : fX6_dead_b85 G54 Q I X y1 y4) (hG : GS D B A s.heap (S, K, L, Y, (I, X), O) H locs) (hl : lv_has ls 6 [(0, .ref (B 0)), (1, .int y1), (4, .int y4)]) : W p l e (headSpec wsX6_dead rX6_dead).room s m args below meth c H locs 0 0 (MQ below (va_Qi post (gB D B A) A) args s 0 0 A) (F0 m 85 ls []) := by
  obtain ⟨hx, hb, hml, hown, hts, hK, hr, hlk, hA, hN⟩ := id C
  unfold fX6_dead_b85 at hf
  refine lv_aload_n hx hb dX6_dead_85 rfl (lv_at hl 0 rfl) ?_
  refine gg_M_21 C hG inX6_dead_wsX60 (hts _ (List.mem_of_getElem? (i := 4) rfl)) dX6_dead_86 ?_
  refine lv_iload hx hb dX6_dead_89 (lv_at hl 2 rfl) ?_
  obtain ⟨h_22, hf⟩ := hf
  refine ga_M_21 C hG h_22 dX6_dead_91 ?_
  refine lv_iconst (v := (2 : Int32)) hx hb dX6_dead_92 (by decide) ?_
  refine lv_icmp_ne (tgt := 122) hx hb dX6_dead_93 (by decide) (fun c_23 => ?_) (fun c_23 => ?_)
  · replace hf := hf.1 c_23
    exact vX6_dead_b122 C hpost hG54 I X y1 y4 _ _ _ hf hG (lv_sub hl [0, 1, 2] rfl)
  · replace hf := hf.2 c_23
    refine lv_aload_n hx hb dX6_dead_96 rfl (lv_at hl 0 rfl) ?_
    refine gg_M_22 C hG inX6_dead_wsX60 (hts _ (List.mem_of_getElem? (i := 5) rfl)) dX6_dead_97 ?_
    refine lv_iload hx hb dX6_dead_100 (lv_at hl 2 rfl) ?_
    obtain ⟨h_24, hf⟩ := hf
    refine ga_M_22 C hG h_24 dX6_dead_102 ?_
    refine lv_iload_n hx hb dX6_dead_103 rfl (lv_at hl 1 rfl) ?_
    refine lv_icmp_eq (tgt := 118) hx hb dX6_dead_104 (by decide) (fun c_25 => ?_) (fun c_25 => ?_)
    · replace hf := hf.1 c_25
      exact vX6_dead_b118 C hpost hG54 I X y1 y4 _ _ _ hf hG (lv_sub hl [0, 1, 2] rfl)
    · replace hf := hf.2 c_25
      refine lv_aload_n hx hb dX6_dead_107 rfl (lv_at hl 0 rfl) ?_
      refine gg_M_23 C hG inX6_dead_wsX60 (hts _ (List.mem_of_getElem? (i := 6) rfl)) dX6_dead_108 ?_
      refine lv_iload hx hb dX6_dead_111 (lv_at hl 2 rfl) ?_
      obtain ⟨h_26, hf⟩ := hf
      refine ga_M_23 C hG h_26 dX6_dead_113 ?_
      refine lv_iload_n hx hb dX6_dead_114 rfl (lv_at hl 1 rfl) ?_
      refine lv_icmp_ne (tgt := 122) hx hb dX6_dead_115 (by decide) (fun c_27 => ?_) (fun c_27 => ?_)
      · replace hf := hf.1 c_27
        exact vX6_dead_b122 C hpost hG54 I X y1 y4 _ _ _ hf hG (lv_sub hl [0, 1, 2] rfl)
      · replace hf := hf.2 c_27
        exact vX6_dead_b118 C hpost hG54 I X y1 y4 _ _ _ hf hG (lv_sub hl [0, 1, 2] rfl)
set_option maxHeartbeats 4000000 in
set_option maxRecDepth 100000 in
theorem vX6_dead_h54 {p : Program} {l : Launch} {e : Env} {s : State} {m : MethodId} {args : Array Value} {below : List Frame} {meth : Method} {c : Code} {D : va_G} {B : Nat → Nat} {A : Nat → Prop} {S : sS} {K : sK} {L : sL} {Y : sY} {O : sO} {post : Int32 → sG → Prop} {Q : Int32 → (Nat → Int32) → (Nat → Nat → Int32) → Prop} (C : gX p s m args meth c cX6_dead 6 (some .boolean) wsX6_dead RX6 D B A) (hpost : ∀ (v : Int32) (I : Nat → Int32) (X : Nat → Nat → Int32), Q v I X → post v (S, K, L, Y, (I, X), O))  : ∀ (n54 : Nat) (I : Nat → Int32) (X : Nat → Nat → Int32) (y1 : Int32) (y4 : Int32) (H : Heap) (locs : List Loc) (ls : Array Slot), fX6_dead_h54 Q n54 I X y1 y4 → GS D B A s.heap (S, K, L, Y, (I, X), O) H locs → lv_has ls 6 [(0, .ref (B 0)), (1, .int y1), (4, .int y4)] → W p l e (headSpec wsX6_dead rX6_dead).room s m args below meth c H locs 0 0 (MQ below (va_Qi post (gB D B A) A) args s 0 0 A) (F0 m 54 ls []) := by
  obtain ⟨hx, hb, hml, hown, hts, hK, hr, hlk, hA, hN⟩ := id C
  intro n54
  induction n54 with
  | zero =>
    intro I X y1 y4 H locs ls hf
    exact False.elim hf
  | succ n54 hG54 =>
    intro I X y1 y4 H locs ls hf hG hl
    unfold fX6_dead_h54 at hf
    refine lv_iload hx hb dX6_dead_54 (lv_at hl 2 rfl) ?_
    refine lv_aload_n hx hb dX6_dead_56 rfl (lv_at hl 0 rfl) ?_
    refine gg_M_31 C hG inX6_dead_wsX60 (hts _ (List.mem_of_getElem? (i := 3) rfl)) dX6_dead_57 ?_
    refine lv_icmp_ge (tgt := 144) hx hb dX6_dead_60 (by decide) (fun c_15 => ?_) (fun c_15 => ?_)
    · replace hf := hf.1 c_15
      refine lv_aload_n hx hb dX6_dead_144 rfl (lv_at hl 0 rfl) ?_
      refine g_callVv0 (As := []) C hG (kX6_handsOut hf) (cwV 0 hts gX6_dead_X6_handsOut rfl rfl rfl hdvX6_handsOut ⟨Nat.le_of_ble_eq_true rfl, Nat.le_of_ble_eq_true rfl⟩) (va_recv hK hG.1 (ci := 6) (q0 := 0) rfl rfl) rfl hl.1 rfl (Nat.le_of_ble_eq_true rfl) dX6_dead_145 ⟨Nat.zero_le _, Nat.zero_le _⟩ (fun g1 H locs hq hG => ?_)
      obtain ⟨I_16, X_17, rfl, hf⟩ := hq
      refine lv_iconst (v := (1 : Int32)) hx hb dX6_dead_148 (by decide) ?_
      exact g_zret C hG rfl (hpost _ _ _ hf) dX6_dead_149
    · replace hf := hf.2 c_15
      refine lv_aload_n hx hb dX6_dead_63 rfl (lv_at hl 0 rfl) ?_
      refine gg_M_21 C hG inX6_dead_wsX60 (hts _ (List.mem_of_getElem? (i := 4) rfl)) dX6_dead_64 ?_
      refine lv_iload hx hb dX6_dead_67 (lv_at hl 2 rfl) ?_
      obtain ⟨h_18, hf⟩ := hf
      refine ga_M_21 C hG h_18 dX6_dead_69 ?_
      refine lv_iconst (v := (1 : Int32)) hx hb dX6_dead_70 (by decide) ?_
      refine lv_icmp_ne (tgt := 85) hx hb dX6_dead_71 (by decide) (fun c_19 => ?_) (fun c_19 => ?_)
      · replace hf := hf.1 c_19
        exact vX6_dead_b85 C hpost hG54 I X y1 y4 _ _ _ hf hG (lv_sub hl [0, 1, 2] rfl)
      · replace hf := hf.2 c_19
        refine lv_aload_n hx hb dX6_dead_74 rfl (lv_at hl 0 rfl) ?_
        refine gg_M_22 C hG inX6_dead_wsX60 (hts _ (List.mem_of_getElem? (i := 5) rfl)) dX6_dead_75 ?_
        refine lv_iload hx hb dX6_dead_78 (lv_at hl 2 rfl) ?_
        obtain ⟨h_20, hf⟩ := hf
        refine ga_M_22 C hG h_20 dX6_dead_80 ?_
        refine lv_iload_n hx hb dX6_dead_81 rfl (lv_at hl 1 rfl) ?_
        refine lv_icmp_eq (tgt := 118) hx hb dX6_dead_82 (by decide) (fun c_21 => ?_) (fun c_21 => ?_)
        · replace hf := hf.1 c_21
          exact vX6_dead_b118 C hpost hG54 I X y1 y4 _ _ _ hf hG (lv_sub hl [0, 1, 2] rfl)
        · replace hf := hf.2 c_21
          exact vX6_dead_b85 C hpost hG54 I X y1 y4 _ _ _ hf hG (lv_sub hl [0, 1, 2] rfl)
set_option maxHeartbeats 4000000 in
set_option maxRecDepth 100000 in
theorem vX6_dead_b0 {p : Program} {l : Launch} {e : Env} {s : State} {m : MethodId} {args : Array Value} {below : List Frame} {meth : Method} {c : Code} {D : va_G} {B : Nat → Nat} {A : Nat → Prop} {S : sS} {K : sK} {L : sL} {Y : sY} {O : sO} {post : Int32 → sG → Prop} {Q : Int32 → (Nat → Int32) → (Nat → Nat → Int32) → Prop} (C : gX p s m args meth c cX6_dead 6 (some .boolean) wsX6_dead RX6 D B A) (hpost : ∀ (v : Int32) (I : Nat → Int32) (X : Nat → Nat → Int32), Q v I X → post v (S, K, L, Y, (I, X), O))  (I : Nat → Int32) (X : Nat → Nat → Int32) (x1 : Int32) (x2 : Int32) (H : Heap) (locs : List Loc) (ls : Array Slot) (hf : fX6_dead Q I X x1 x2) (hG : GS D B A s.heap (S, K, L, Y, (I, X), O) H locs) (hl : lv_has ls 6 [(0, .ref (B 0)), (1, .int x1), (2, .int x2)]) : W p l e (headSpec wsX6_dead rX6_dead).room s m args below meth c H locs 0 0 (MQ below (va_Qi post (gB D B A) A) args s 0 0 A) (F0 m 0 ls []) := by
  obtain ⟨hx, hb, hml, hown, hts, hK, hr, hlk, hA, hN⟩ := id C
  unfold fX6_dead at hf
  refine lv_aload_n hx hb dX6_dead_0 rfl (lv_at hl 0 rfl) ?_
  refine lv_iconst (v := (0 : Int32)) hx hb dX6_dead_1 (by decide) ?_
  refine gp_M_0 C hG inX6_dead_wsX60 (hts _ (List.mem_of_getElem? (i := 1) rfl)) dX6_dead_2 (fun I_1 H locs eI_1 hG => ?_)
  replace hf := hf I_1 eI_1
  refine lv_aload_n hx hb dX6_dead_5 rfl (lv_at hl 0 rfl) ?_
  refine lv_aload_n hx hb dX6_dead_6 rfl (lv_at hl 0 rfl) ?_
  refine lv_iload_n hx hb dX6_dead_7 rfl (lv_at hl 1 rfl) ?_
  refine g_callVi0 (As := [.int x1]) C hG (kX6_noRelay hf) (cwV 1 hts gX6_dead_X6_noRelay rfl rfl rfl hdvX6_noRelay ⟨Nat.le_of_ble_eq_true rfl, Nat.le_of_ble_eq_true rfl⟩) (va_recv hK hG.1 (ci := 6) (q0 := 0) rfl rfl) rfl hl.1 rfl (Nat.le_of_ble_eq_true rfl) dX6_dead_8 ⟨Nat.zero_le _, Nat.zero_le _⟩ (fun r_2 g1 H locs hq hG => ?_)
  obtain ⟨rfl, hf⟩ := hq
  refine lv_iconst (v := (1 : Int32)) hx hb dX6_dead_11 (by decide) ?_
  refine g_callVi0 (As := [.int r_2, .int (1 : Int32)]) C hG (kX6_throwsIf hf) (cwV 2 hts gX6_dead_X6_throwsIf rfl rfl rfl hdvX6_throwsIf ⟨Nat.le_of_ble_eq_true rfl, Nat.le_of_ble_eq_true rfl⟩) (va_recv hK hG.1 (ci := 6) (q0 := 0) rfl rfl) rfl hl.1 rfl (Nat.le_of_ble_eq_true rfl) dX6_dead_12 ⟨Nat.zero_le _, Nat.zero_le _⟩ (fun r_5 g1 H locs hq hG => ?_)
  obtain ⟨I_3, X_4, rfl, hf⟩ := hq
  refine lv_if_eq (tgt := 20) hx hb dX6_dead_15 (by decide) (fun c_6 => ?_) (fun c_6 => ?_)
  · replace hf := hf.1 c_6
    refine lv_aload_n hx hb dX6_dead_20 rfl (lv_at hl 0 rfl) ?_
    refine gg_M_8 C hG inX6_dead_wsX60 (hts _ (List.mem_of_getElem? (i := 2) rfl)) dX6_dead_21 ?_
    refine lv_iload_n hx hb dX6_dead_24 rfl (lv_at hl 1 rfl) ?_
    obtain ⟨h_7, hf⟩ := hf
    refine ga_M_8 C hG h_7 dX6_dead_25 ?_
    refine lv_topi (fun x3_8 ex3_8 => ?_)
    replace hf := hf x3_8 ex3_8
    refine lv_istore_n (lv' := [(3, .int x3_8), (0, .ref (B 0)), (1, .int x1), (2, .int x2)]) hx hb dX6_dead_26 rfl hl (by decide) rfl (fun ls hl => ?_)
    refine lv_aload_n hx hb dX6_dead_27 rfl (lv_at hl 1 rfl) ?_
    refine gg_M_8 C hG inX6_dead_wsX60 (hts _ (List.mem_of_getElem? (i := 2) rfl)) dX6_dead_28 ?_
    refine lv_iload_n hx hb dX6_dead_31 rfl (lv_at hl 2 rfl) ?_
    refine lv_iload_n hx hb dX6_dead_32 rfl (lv_at hl 3 rfl) ?_
    obtain ⟨h_9, hf⟩ := hf
    refine gs_M_8 C hG h_9 dX6_dead_33 (fun X_10 H locs eX_10 hG => ?_)
    replace hf := hf X_10 eX_10
    refine lv_iload_n hx hb dX6_dead_34 rfl (lv_at hl 0 rfl) ?_
    refine lv_iload_n hx hb dX6_dead_35 rfl (lv_at hl 3 rfl) ?_
    refine lv_icmp_ne (tgt := 41) hx hb dX6_dead_36 (by decide) (fun c_11 => ?_) (fun c_11 => ?_)
    · replace hf := hf.1 c_11
      refine lv_aload_n hx hb dX6_dead_41 rfl (lv_at hl 1 rfl) ?_
      refine g_callVv0 (As := []) C hG (kX6_forgets hf) (cwV 0 hts gX6_dead_X6_forgets rfl rfl rfl hdvX6_forgets ⟨Nat.le_of_ble_eq_true rfl, Nat.le_of_ble_eq_true rfl⟩) (va_recv hK hG.1 (ci := 6) (q0 := 0) rfl rfl) rfl hl.1 rfl (Nat.le_of_ble_eq_true rfl) dX6_dead_42 ⟨Nat.zero_le _, Nat.zero_le _⟩ (fun g1 H locs hq hG => ?_)
      obtain ⟨I_12, X_13, rfl, hf⟩ := hq
      refine lv_iload_n hx hb dX6_dead_45 rfl (lv_at hl 3 rfl) ?_
      refine lv_if_ne (tgt := 51) hx hb dX6_dead_46 (by decide) (fun c_14 => ?_) (fun c_14 => ?_)
      · replace hf := hf.1 c_14
        refine lv_iconst (v := (0 : Int32)) hx hb dX6_dead_51 (by decide) ?_
        refine lv_istore (lv' := [(4, .int (0 : Int32)), (3, .int x3_8), (0, .ref (B 0)), (1, .int x1), (2, .int x2)]) hx hb dX6_dead_52 hl (by decide) rfl (fun ls hl => ?_)
        obtain ⟨n54, hf⟩ := hf
        exact vX6_dead_h54 C hpost  n54 I_12 X_13 x1 (0 : Int32) _ _ _ hf hG (lv_sub hl [2, 3, 0] rfl)
      · replace hf := hf.2 c_14
        refine lv_iconst (v := (1 : Int32)) hx hb dX6_dead_49 (by decide) ?_
        exact g_zret C hG rfl (hpost _ _ _ hf) dX6_dead_50
    · replace hf := hf.2 c_11
      refine lv_iconst (v := (0 : Int32)) hx hb dX6_dead_39 (by decide) ?_
      exact g_zret C hG rfl (hpost _ _ _ hf) dX6_dead_40
  · replace hf := hf.2 c_6
    refine lv_iconst (v := (0 : Int32)) hx hb dX6_dead_18 (by decide) ?_
    exact g_zret C hG rfl (hpost _ _ _ hf) dX6_dead_19
set_option maxRecDepth 100000 in
theorem kX6_dead {l : Launch} {D : va_G} {B : Nat → Nat} {S : sS} {K : sK} {L : sL} {Y : sY} {O : sO}  {Q : Int32 → (Nat → Int32) → (Nat → Nat → Int32) → Prop} {I : Nat → Int32} {X : Nat → Nat → Int32} {x1 : Int32} {x2 : Int32} (hf : fX6_dead Q I X x1 x2) : gMi D B l yX6_dead wsX6_dead rX6_dead 0 0 [.ref (B 0), .int x1, .int x2] (S, K, L, Y, (I, X), O) (fun r g1 => ∃ (I1 : Nat → Int32) (X1 : Nat → Nat → Int32), g1 = (S, K, L, Y, (I1, X1), O) ∧ Q r I1 X1) := by
  refine gMi_of (cc := cX6_dead) (maxL := 6) (ret := some .boolean) (by decide +kernel) rfl (Nat.le_of_ble_eq_true rfl) ?_
  intro p e s m below meth c A hA0 C hG ls hl
  exact vX6_dead_b0 C (fun v I X hq => ⟨I, X, rfl, hq⟩) I X x1 x2 _ _ _ hf hG hl
def rX6_plane : Room := { frames := 1, cells := 0, slots := 0, locals := 22 }
theorem hdvX6_plane : yX6_plane.cls = RX6 ∧ yX6_plane.cls ≠ "java/lang/invoke/MethodHandle" ∧ yX6_plane.cls ≠ "java/lang/invoke/VarHandle" ∧ (parseMethodDescriptor yX6_plane.desc).map (fun d => d.parameters.length) = some 3 := by decide +kernel
theorem inX6_plane_wsX60 : ∀ w ∈ wsX60, w ∈ wsX6_plane := (fun _ h => List.mem_cons_of_mem _ (List.mem_append_right _ h))
set_option maxHeartbeats 4000000 in
set_option maxRecDepth 100000 in
theorem vX6_plane_h138 {p : Program} {l : Launch} {e : Env} {s : State} {m : MethodId} {args : Array Value} {below : List Frame} {meth : Method} {c : Code} {D : va_G} {B : Nat → Nat} {A : Nat → Prop} {S : sS} {K : sK} {L : sL} {Y : sY} {O : sO} {post : Int32 → sG → Prop} {Q : Int32 → (Nat → Int32) → (Nat → Nat → Int32) → Prop} (C : gX p s m args meth c cX6_plane 5 (some .int) wsX6_plane RX6 D B A) (hpost : ∀ (v : Int32) (I : Nat → Int32) (X : Nat → Nat → Int32), Q v I X → post v (S, K, L, Y, (I, X), O))  : ∀ (n138 : Nat) (I : Nat → Int32) (X : Nat → Nat → Int32) (y1 : Int32) (y4 : Int32) (H : Heap) (locs : List Loc) (ls : Array Slot), fX6_plane_h138 Q n138 I X y1 y4 → GS D B A s.heap (S, K, L, Y, (I, X), O) H locs → lv_has ls 5 [(0, .ref (B 0)), (1, .int y1), (4, .int y4)] → W p l e (headSpec wsX6_plane rX6_plane).room s m args below meth c H locs 0 0 (MQ below (va_Qi post (gB D B A) A) args s 0 0 A) (F0 m 138 ls []) := by
  obtain ⟨hx, hb, hml, hown, hts, hK, hr, hlk, hA, hN⟩ := id C
  intro n138
  induction n138 with
  | zero =>
    intro I X y1 y4 H locs ls hf
    exact False.elim hf
  | succ n138 hG138 =>
    intro I X y1 y4 H locs ls hf hG hl
    unfold fX6_plane_h138 at hf
    refine lv_iload hx hb dX6_plane_138 (lv_at hl 2 rfl) ?_
    refine lv_iload_n hx hb dX6_plane_140 rfl (lv_at hl 1 rfl) ?_
    refine lv_icmp_ge (tgt := 173) hx hb dX6_plane_141 (by decide) (fun c_30 => ?_) (fun c_30 => ?_)
    · replace hf := hf.1 c_30
      refine lv_aload_n hx hb dX6_plane_173 rfl (lv_at hl 0 rfl) ?_
      refine lv_dup hx hb dX6_plane_174 rfl ?_
      refine gg_M_6 C hG inX6_plane_wsX60 (hts _ (List.mem_of_getElem? (i := 3) rfl)) dX6_plane_175 ?_
      refine lv_iconst (v := (1 : Int32)) hx hb dX6_plane_178 (by decide) ?_
      refine lv_iadd hx hb dX6_plane_179 ?_
      refine gp_M_6 C hG inX6_plane_wsX60 (hts _ (List.mem_of_getElem? (i := 3) rfl)) dX6_plane_180 (fun I_31 H locs eI_31 hG => ?_)
      replace hf := hf I_31 eI_31
      refine lv_aload_n hx hb dX6_plane_183 rfl (lv_at hl 0 rfl) ?_
      refine g_callVv0 (As := []) C hG (kX6_forgets hf) (cwV 0 hts gX6_plane_X6_forgets rfl rfl rfl hdvX6_forgets ⟨Nat.le_of_ble_eq_true rfl, Nat.le_of_ble_eq_true rfl⟩) (va_recv hK hG.1 (ci := 6) (q0 := 0) rfl rfl) rfl hl.1 rfl (Nat.le_of_ble_eq_true rfl) dX6_plane_184 ⟨Nat.zero_le _, Nat.zero_le _⟩ (fun g1 H locs hq hG => ?_)
      obtain ⟨I_32, X_33, rfl, hf⟩ := hq
      refine lv_aload_n hx hb dX6_plane_187 rfl (lv_at hl 0 rfl) ?_
      refine gg_M_6 C hG inX6_plane_wsX60 (hts _ (List.mem_of_getElem? (i := 3) rfl)) dX6_plane_188 ?_
      refine lv_iconst (v := (1 : Int32)) hx hb dX6_plane_191 (by decide) ?_
      refine lv_isub hx hb dX6_plane_192 ?_
      exact g_iret C hG (hpost _ _ _ hf) dX6_plane_193
    · replace hf := hf.2 c_30
      refine lv_aload_n hx hb dX6_plane_144 rfl (lv_at hl 0 rfl) ?_
      refine gg_M_7 C hG inX6_plane_wsX60 (hts _ (List.mem_of_getElem? (i := 9) rfl)) dX6_plane_145 ?_
      refine lv_aload_n hx hb dX6_plane_148 rfl (lv_at hl 0 rfl) ?_
      refine gg_M_9 C hG inX6_plane_wsX60 (hts _ (List.mem_of_getElem? (i := 8) rfl)) dX6_plane_149 ?_
      refine lv_aload_n hx hb dX6_plane_152 rfl (lv_at hl 0 rfl) ?_
      refine gg_M_6 C hG inX6_plane_wsX60 (hts _ (List.mem_of_getElem? (i := 3) rfl)) dX6_plane_153 ?_
      obtain ⟨h_34, hf⟩ := hf
      refine gs_M_7 C hG h_34 dX6_plane_156 (fun X_35 H locs eX_35 hG => ?_)
      replace hf := hf X_35 eX_35
      refine lv_aload_n hx hb dX6_plane_157 rfl (lv_at hl 0 rfl) ?_
      refine lv_dup hx hb dX6_plane_158 rfl ?_
      refine gg_M_9 C hG inX6_plane_wsX60 (hts _ (List.mem_of_getElem? (i := 8) rfl)) dX6_plane_159 ?_
      refine lv_iconst (v := (1 : Int32)) hx hb dX6_plane_162 (by decide) ?_
      refine lv_iadd hx hb dX6_plane_163 ?_
      refine gp_M_9 C hG inX6_plane_wsX60 (hts _ (List.mem_of_getElem? (i := 8) rfl)) dX6_plane_164 (fun I_36 H locs eI_36 hG => ?_)
      replace hf := hf I_36 eI_36
      obtain ⟨x4_37, ex4_37⟩ : ∃ y : Int32, y = y4 + (1 : Int32) := ⟨_, rfl⟩
      replace hf := hf x4_37 ex4_37
      refine lv_iinc (v := x4_37) (lv' := [(4, .int x4_37), (0, .ref (B 0)), (1, .int y1)]) hx hb dX6_plane_167 hl (k := 2) rfl (by rw [ex4_37]; rfl) (by decide) rfl (fun ls hl => ?_)
      refine lv_goto (tgt := 138) hx hb dX6_plane_170 (by decide) ?_
      exact hG138 I_36 X_35 y1 x4_37 _ _ _ hf hG (lv_sub hl [1, 2, 0] rfl)
set_option maxHeartbeats 4000000 in
set_option maxRecDepth 100000 in
theorem vX6_plane_b83 {p : Program} {l : Launch} {e : Env} {s : State} {m : MethodId} {args : Array Value} {below : List Frame} {meth : Method} {c : Code} {D : va_G} {B : Nat → Nat} {A : Nat → Prop} {S : sS} {K : sK} {L : sL} {Y : sY} {O : sO} {post : Int32 → sG → Prop} {Q : Int32 → (Nat → Int32) → (Nat → Nat → Int32) → Prop} (C : gX p s m args meth c cX6_plane 5 (some .int) wsX6_plane RX6 D B A) (hpost : ∀ (v : Int32) (I : Nat → Int32) (X : Nat → Nat → Int32), Q v I X → post v (S, K, L, Y, (I, X), O))  (I : Nat → Int32) (X : Nat → Nat → Int32) (y1 : Int32) (y2 : Int32) (y3 : Int32) (t0 : Int32) (H : Heap) (locs : List Loc) (ls : Array Slot) (hf : fX6_plane_b83 Q I X y1 y2 y3 t0) (hG : GS D B A s.heap (S, K, L, Y, (I, X), O) H locs) (hl : lv_has ls 5 [(0, .ref (B 0)), (1, .int y1), (2, .int y2), (3, .int y3)]) : W p l e (headSpec wsX6_plane rX6_plane).room s m args below meth c H locs 0 0 (MQ below (va_Qi post (gB D B A) A) args s 0 0 A) (F0 m 83 ls [.int t0, .ref (B 0)]) := by
  obtain ⟨hx, hb, hml, hown, hts, hK, hr, hlk, hA, hN⟩ := id C
  unfold fX6_plane_b83 at hf
  refine lv_iconst (v := (3 : Int32)) hx hb dX6_plane_83 (by decide) ?_
  refine g_callVi0 (As := [.int t0, .int (3 : Int32)]) C hG (kX6_throwsIf hf) (cwV 2 hts gX6_plane_X6_throwsIf rfl rfl rfl hdvX6_throwsIf ⟨Nat.le_of_ble_eq_true rfl, Nat.le_of_ble_eq_true rfl⟩) (va_recv hK hG.1 (ci := 6) (q0 := 0) rfl rfl) rfl hl.1 rfl (Nat.le_of_ble_eq_true rfl) dX6_plane_84 ⟨Nat.zero_le _, Nat.zero_le _⟩ (fun r_20 g1 H locs hq hG => ?_)
  obtain ⟨I_18, X_19, rfl, hf⟩ := hq
  refine lv_if_eq (tgt := 92) hx hb dX6_plane_87 (by decide) (fun c_21 => ?_) (fun c_21 => ?_)
  · replace hf := hf.1 c_21
    refine lv_aload_n hx hb dX6_plane_92 rfl (lv_at hl 0 rfl) ?_
    refine gg_M_2 C hG inX6_plane_wsX60 (hts _ (List.mem_of_getElem? (i := 4) rfl)) dX6_plane_93 ?_
    refine lv_aload_n hx hb dX6_plane_96 rfl (lv_at hl 0 rfl) ?_
    refine gg_M_6 C hG inX6_plane_wsX60 (hts _ (List.mem_of_getElem? (i := 3) rfl)) dX6_plane_97 ?_
    refine lv_iload_n hx hb dX6_plane_100 rfl (lv_at hl 1 rfl) ?_
    obtain ⟨h_22, hf⟩ := hf
    refine gs_M_2 C hG h_22 dX6_plane_101 (fun X_23 H locs eX_23 hG => ?_)
    replace hf := hf X_23 eX_23
    refine lv_aload_n hx hb dX6_plane_102 rfl (lv_at hl 0 rfl) ?_
    refine gg_M_3 C hG inX6_plane_wsX60 (hts _ (List.mem_of_getElem? (i := 5) rfl)) dX6_plane_103 ?_
    refine lv_aload_n hx hb dX6_plane_106 rfl (lv_at hl 0 rfl) ?_
    refine gg_M_6 C hG inX6_plane_wsX60 (hts _ (List.mem_of_getElem? (i := 3) rfl)) dX6_plane_107 ?_
    refine lv_iload_n hx hb dX6_plane_110 rfl (lv_at hl 2 rfl) ?_
    obtain ⟨h_24, hf⟩ := hf
    refine gs_M_3 C hG h_24 dX6_plane_111 (fun X_25 H locs eX_25 hG => ?_)
    replace hf := hf X_25 eX_25
    refine lv_aload_n hx hb dX6_plane_112 rfl (lv_at hl 0 rfl) ?_
    refine gg_M_4 C hG inX6_plane_wsX60 (hts _ (List.mem_of_getElem? (i := 6) rfl)) dX6_plane_113 ?_
    refine lv_aload_n hx hb dX6_plane_116 rfl (lv_at hl 0 rfl) ?_
    refine gg_M_6 C hG inX6_plane_wsX60 (hts _ (List.mem_of_getElem? (i := 3) rfl)) dX6_plane_117 ?_
    refine lv_iload_n hx hb dX6_plane_120 rfl (lv_at hl 3 rfl) ?_
    obtain ⟨h_26, hf⟩ := hf
    refine gs_M_4 C hG h_26 dX6_plane_121 (fun X_27 H locs eX_27 hG => ?_)
    replace hf := hf X_27 eX_27
    refine lv_aload_n hx hb dX6_plane_122 rfl (lv_at hl 0 rfl) ?_
    refine gg_M_5 C hG inX6_plane_wsX60 (hts _ (List.mem_of_getElem? (i := 7) rfl)) dX6_plane_123 ?_
    refine lv_aload_n hx hb dX6_plane_126 rfl (lv_at hl 0 rfl) ?_
    refine gg_M_6 C hG inX6_plane_wsX60 (hts _ (List.mem_of_getElem? (i := 3) rfl)) dX6_plane_127 ?_
    refine lv_aload_n hx hb dX6_plane_130 rfl (lv_at hl 0 rfl) ?_
    refine gg_M_9 C hG inX6_plane_wsX60 (hts _ (List.mem_of_getElem? (i := 8) rfl)) dX6_plane_131 ?_
    obtain ⟨h_28, hf⟩ := hf
    refine gs_M_5 C hG h_28 dX6_plane_134 (fun X_29 H locs eX_29 hG => ?_)
    replace hf := hf X_29 eX_29
    refine lv_iconst (v := (0 : Int32)) hx hb dX6_plane_135 (by decide) ?_
    refine lv_istore (lv' := [(4, .int (0 : Int32)), (0, .ref (B 0)), (1, .int y1), (2, .int y2), (3, .int y3)]) hx hb dX6_plane_136 hl (by decide) rfl (fun ls hl => ?_)
    obtain ⟨n138, hf⟩ := hf
    exact vX6_plane_h138 C hpost  n138 I_18 X_29 y1 (0 : Int32) _ _ _ hf hG (lv_sub hl [1, 2, 0] rfl)
  · replace hf := hf.2 c_21
    refine lv_iconst (v := (0 : Int32)) hx hb dX6_plane_90 (by decide) ?_
    exact g_iret C hG (hpost _ _ _ hf) dX6_plane_91
set_option maxHeartbeats 4000000 in
set_option maxRecDepth 100000 in
theorem vX6_plane_b61 {p : Program} {l : Launch} {e : Env} {s : State} {m : MethodId} {args : Array Value} {below : List Frame} {meth : Method} {c : Code} {D : va_G} {B : Nat → Nat} {A : Nat → Prop} {S : sS} {K : sK} {L : sL} {Y : sY} {O : sO} {post : Int32 → sG → Prop} {Q : Int32 → (Nat → Int32) → (Nat → Nat → Int32) → Prop} (C : gX p s m args meth c cX6_plane 5 (some .int) wsX6_plane RX6 D B A) (hpost : ∀ (v : Int32) (I : Nat → Int32) (X : Nat → Nat → Int32), Q v I X → post v (S, K, L, Y, (I, X), O))  (I : Nat → Int32) (X : Nat → Nat → Int32) (y1 : Int32) (y2 : Int32) (y3 : Int32) (t0 : Int32) (H : Heap) (locs : List Loc) (ls : Array Slot) (hf : fX6_plane_b61 Q I X y1 y2 y3 t0) (hG : GS D B A s.heap (S, K, L, Y, (I, X), O) H locs) (hl : lv_has ls 5 [(0, .ref (B 0)), (1, .int y1), (2, .int y2), (3, .int y3)]) : W p l e (headSpec wsX6_plane rX6_plane).room s m args below meth c H locs 0 0 (MQ below (va_Qi post (gB D B A) A) args s 0 0 A) (F0 m 61 ls [.int t0, .ref (B 0)]) := by
  obtain ⟨hx, hb, hml, hown, hts, hK, hr, hlk, hA, hN⟩ := id C
  unfold fX6_plane_b61 at hf
  refine lv_iconst (v := (2 : Int32)) hx hb dX6_plane_61 (by decide) ?_
  refine g_callVi0 (As := [.int t0, .int (2 : Int32)]) C hG (kX6_throwsIf hf) (cwV 2 hts gX6_plane_X6_throwsIf rfl rfl rfl hdvX6_throwsIf ⟨Nat.le_of_ble_eq_true rfl, Nat.le_of_ble_eq_true rfl⟩) (va_recv hK hG.1 (ci := 6) (q0 := 0) rfl rfl) rfl hl.1 rfl (Nat.le_of_ble_eq_true rfl) dX6_plane_62 ⟨Nat.zero_le _, Nat.zero_le _⟩ (fun r_15 g1 H locs hq hG => ?_)
  obtain ⟨I_13, X_14, rfl, hf⟩ := hq
  refine lv_if_ne (tgt := 90) hx hb dX6_plane_65 (by decide) (fun c_16 => ?_) (fun c_16 => ?_)
  · replace hf := hf.1 c_16
    refine lv_iconst (v := (0 : Int32)) hx hb dX6_plane_90 (by decide) ?_
    exact g_iret C hG (hpost _ _ _ hf) dX6_plane_91
  · replace hf := hf.2 c_16
    refine lv_aload_n hx hb dX6_plane_68 rfl (lv_at hl 0 rfl) ?_
    refine lv_aload_n hx hb dX6_plane_69 rfl (lv_at hl 0 rfl) ?_
    refine gg_M_6 C hG inX6_plane_wsX60 (hts _ (List.mem_of_getElem? (i := 3) rfl)) dX6_plane_70 ?_
    refine lv_bipush (v := (6 : Int32)) hx hb dX6_plane_73 (by decide) ?_
    refine lv_icmp_ne (tgt := 82) hx hb dX6_plane_75 (by decide) (fun c_17 => ?_) (fun c_17 => ?_)
    · replace hf := hf.1 c_17
      refine lv_iconst (v := (0 : Int32)) hx hb dX6_plane_82 (by decide) ?_
      exact vX6_plane_b83 C hpost  I_13 X_14 y1 y2 y3 (0 : Int32) _ _ _ hf hG (lv_sub hl [0, 1, 2, 3] rfl)
    · replace hf := hf.2 c_17
      refine lv_iconst (v := (1 : Int32)) hx hb dX6_plane_78 (by decide) ?_
      refine lv_goto (tgt := 83) hx hb dX6_plane_79 (by decide) ?_
      exact vX6_plane_b83 C hpost  I_13 X_14 y1 y2 y3 (1 : Int32) _ _ _ hf hG (lv_sub hl [0, 1, 2, 3] rfl)
set_option maxHeartbeats 4000000 in
set_option maxRecDepth 100000 in
theorem vX6_plane_b56 {p : Program} {l : Launch} {e : Env} {s : State} {m : MethodId} {args : Array Value} {below : List Frame} {meth : Method} {c : Code} {D : va_G} {B : Nat → Nat} {A : Nat → Prop} {S : sS} {K : sK} {L : sL} {Y : sY} {O : sO} {post : Int32 → sG → Prop} {Q : Int32 → (Nat → Int32) → (Nat → Nat → Int32) → Prop} (C : gX p s m args meth c cX6_plane 5 (some .int) wsX6_plane RX6 D B A) (hpost : ∀ (v : Int32) (I : Nat → Int32) (X : Nat → Nat → Int32), Q v I X → post v (S, K, L, Y, (I, X), O))  (I : Nat → Int32) (X : Nat → Nat → Int32) (y1 : Int32) (y2 : Int32) (y3 : Int32) (H : Heap) (locs : List Loc) (ls : Array Slot) (hf : fX6_plane_b56 Q I X y1 y2 y3) (hG : GS D B A s.heap (S, K, L, Y, (I, X), O) H locs) (hl : lv_has ls 5 [(0, .ref (B 0)), (1, .int y1), (2, .int y2), (3, .int y3)]) : W p l e (headSpec wsX6_plane rX6_plane).room s m args below meth c H locs 0 0 (MQ below (va_Qi post (gB D B A) A) args s 0 0 A) (F0 m 56 ls [.ref (B 0)]) := by
  obtain ⟨hx, hb, hml, hown, hts, hK, hr, hlk, hA, hN⟩ := id C
  unfold fX6_plane_b56 at hf
  refine lv_iconst (v := (1 : Int32)) hx hb dX6_plane_56 (by decide) ?_
  refine lv_goto (tgt := 61) hx hb dX6_plane_57 (by decide) ?_
  exact vX6_plane_b61 C hpost  I X y1 y2 y3 (1 : Int32) _ _ _ hf hG (lv_sub hl [0, 1, 2, 3] rfl)
set_option maxHeartbeats 4000000 in
set_option maxRecDepth 100000 in
theorem vX6_plane_b18 {p : Program} {l : Launch} {e : Env} {s : State} {m : MethodId} {args : Array Value} {below : List Frame} {meth : Method} {c : Code} {D : va_G} {B : Nat → Nat} {A : Nat → Prop} {S : sS} {K : sK} {L : sL} {Y : sY} {O : sO} {post : Int32 → sG → Prop} {Q : Int32 → (Nat → Int32) → (Nat → Nat → Int32) → Prop} (C : gX p s m args meth c cX6_plane 5 (some .int) wsX6_plane RX6 D B A) (hpost : ∀ (v : Int32) (I : Nat → Int32) (X : Nat → Nat → Int32), Q v I X → post v (S, K, L, Y, (I, X), O))  (I : Nat → Int32) (X : Nat → Nat → Int32) (y1 : Int32) (y2 : Int32) (y3 : Int32) (t0 : Int32) (H : Heap) (locs : List Loc) (ls : Array Slot) (hf : fX6_plane_b18 Q I X y1 y2 y3 t0) (hG : GS D B A s.heap (S, K, L, Y, (I, X), O) H locs) (hl : lv_has ls 5 [(0, .ref (B 0)), (1, .int y1), (2, .int y2), (3, .int y3)]) : W p l e (headSpec wsX6_plane rX6_plane).room s m args below meth c H locs 0 0 (MQ below (va_Qi post (gB D B A) A) args s 0 0 A) (F0 m 18 ls [.int t0, .ref (B 0)]) := by
  obtain ⟨hx, hb, hml, hown, hts, hK, hr, hlk, hA, hN⟩ := id C
  unfold fX6_plane_b18 at hf
  refine lv_iconst (v := (1 : Int32)) hx hb dX6_plane_18 (by decide) ?_
  refine g_callVi0 (As := [.int t0, .int (1 : Int32)]) C hG (kX6_throwsIf hf) (cwV 2 hts gX6_plane_X6_throwsIf rfl rfl rfl hdvX6_throwsIf ⟨Nat.le_of_ble_eq_true rfl, Nat.le_of_ble_eq_true rfl⟩) (va_recv hK hG.1 (ci := 6) (q0 := 0) rfl rfl) rfl hl.1 rfl (Nat.le_of_ble_eq_true rfl) dX6_plane_19 ⟨Nat.zero_le _, Nat.zero_le _⟩ (fun r_5 g1 H locs hq hG => ?_)
  obtain ⟨I_3, X_4, rfl, hf⟩ := hq
  refine lv_if_ne (tgt := 90) hx hb dX6_plane_22 (by decide) (fun c_6 => ?_) (fun c_6 => ?_)
  · replace hf := hf.1 c_6
    refine lv_iconst (v := (0 : Int32)) hx hb dX6_plane_90 (by decide) ?_
    exact g_iret C hG (hpost _ _ _ hf) dX6_plane_91
  · replace hf := hf.2 c_6
    refine lv_aload_n hx hb dX6_plane_25 rfl (lv_at hl 0 rfl) ?_
    refine lv_iload_n hx hb dX6_plane_26 rfl (lv_at hl 1 rfl) ?_
    refine lv_iconst (v := (1 : Int32)) hx hb dX6_plane_27 (by decide) ?_
    refine lv_bipush (v := (8 : Int32)) hx hb dX6_plane_28 (by decide) ?_
    refine g_callSi0 (As := [.int y1, .int (1 : Int32), .int (8 : Int32)]) C hG (kX6_in hf) (va_cwS 3 hts gX6_plane_X6_in rfl rfl rfl hdsX6_in ⟨Nat.le_of_ble_eq_true rfl, Nat.le_of_ble_eq_true rfl⟩) rfl hl.1 rfl (Nat.le_of_ble_eq_true rfl) dX6_plane_30 ⟨Nat.zero_le _, Nat.zero_le _⟩ (fun r_7 g1 H locs hq hG => ?_)
    obtain ⟨rfl, hf⟩ := hq
    refine lv_if_eq (tgt := 56) hx hb dX6_plane_33 (by decide) (fun c_8 => ?_) (fun c_8 => ?_)
    · replace hf := hf.1 c_8
      exact vX6_plane_b56 C hpost  I_3 X_4 y1 y2 y3 _ _ _ hf hG (lv_sub hl [0, 1, 2, 3] rfl)
    · replace hf := hf.2 c_8
      refine lv_iload_n hx hb dX6_plane_36 rfl (lv_at hl 2 rfl) ?_
      refine lv_iconst (v := (0 : Int32)) hx hb dX6_plane_37 (by decide) ?_
      refine lv_bipush (v := (31 : Int32)) hx hb dX6_plane_38 (by decide) ?_
      refine g_callSi0 (As := [.int y2, .int (0 : Int32), .int (31 : Int32)]) C hG (kX6_in hf) (va_cwS 3 hts gX6_plane_X6_in rfl rfl rfl hdsX6_in ⟨Nat.le_of_ble_eq_true rfl, Nat.le_of_ble_eq_true rfl⟩) rfl hl.1 rfl (Nat.le_of_ble_eq_true rfl) dX6_plane_40 ⟨Nat.zero_le _, Nat.zero_le _⟩ (fun r_9 g1 H locs hq hG => ?_)
      obtain ⟨rfl, hf⟩ := hq
      refine lv_if_eq (tgt := 56) hx hb dX6_plane_43 (by decide) (fun c_10 => ?_) (fun c_10 => ?_)
      · replace hf := hf.1 c_10
        exact vX6_plane_b56 C hpost  I_3 X_4 y1 y2 y3 _ _ _ hf hG (lv_sub hl [0, 1, 2, 3] rfl)
      · replace hf := hf.2 c_10
        refine lv_iload_n hx hb dX6_plane_46 rfl (lv_at hl 3 rfl) ?_
        refine lv_bipush (v := (-3 : Int32)) hx hb dX6_plane_47 (by decide) ?_
        refine lv_iconst (v := (3 : Int32)) hx hb dX6_plane_49 (by decide) ?_
        refine g_callSi0 (As := [.int y3, .int (-3 : Int32), .int (3 : Int32)]) C hG (kX6_in hf) (va_cwS 3 hts gX6_plane_X6_in rfl rfl rfl hdsX6_in ⟨Nat.le_of_ble_eq_true rfl, Nat.le_of_ble_eq_true rfl⟩) rfl hl.1 rfl (Nat.le_of_ble_eq_true rfl) dX6_plane_50 ⟨Nat.zero_le _, Nat.zero_le _⟩ (fun r_11 g1 H locs hq hG => ?_)
        obtain ⟨rfl, hf⟩ := hq
        refine lv_if_ne (tgt := 60) hx hb dX6_plane_53 (by decide) (fun c_12 => ?_) (fun c_12 => ?_)
        · replace hf := hf.1 c_12
          refine lv_iconst (v := (0 : Int32)) hx hb dX6_plane_60 (by decide) ?_
          exact vX6_plane_b61 C hpost  I_3 X_4 y1 y2 y3 (0 : Int32) _ _ _ hf hG (lv_sub hl [0, 1, 2, 3] rfl)
        · replace hf := hf.2 c_12
          exact vX6_plane_b56 C hpost  I_3 X_4 y1 y2 y3 _ _ _ hf hG (lv_sub hl [0, 1, 2, 3] rfl)
set_option maxHeartbeats 4000000 in
set_option maxRecDepth 100000 in
theorem vX6_plane_b0 {p : Program} {l : Launch} {e : Env} {s : State} {m : MethodId} {args : Array Value} {below : List Frame} {meth : Method} {c : Code} {D : va_G} {B : Nat → Nat} {A : Nat → Prop} {S : sS} {K : sK} {L : sL} {Y : sY} {O : sO} {post : Int32 → sG → Prop} {Q : Int32 → (Nat → Int32) → (Nat → Nat → Int32) → Prop} (C : gX p s m args meth c cX6_plane 5 (some .int) wsX6_plane RX6 D B A) (hpost : ∀ (v : Int32) (I : Nat → Int32) (X : Nat → Nat → Int32), Q v I X → post v (S, K, L, Y, (I, X), O))  (I : Nat → Int32) (X : Nat → Nat → Int32) (x1 : Int32) (x2 : Int32) (x3 : Int32) (H : Heap) (locs : List Loc) (ls : Array Slot) (hf : fX6_plane Q I X x1 x2 x3) (hG : GS D B A s.heap (S, K, L, Y, (I, X), O) H locs) (hl : lv_has ls 5 [(0, .ref (B 0)), (1, .int x1), (2, .int x2), (3, .int x3)]) : W p l e (headSpec wsX6_plane rX6_plane).room s m args below meth c H locs 0 0 (MQ below (va_Qi post (gB D B A) A) args s 0 0 A) (F0 m 0 ls []) := by
  obtain ⟨hx, hb, hml, hown, hts, hK, hr, hlk, hA, hN⟩ := id C
  unfold fX6_plane at hf
  refine lv_aload_n hx hb dX6_plane_0 rfl (lv_at hl 0 rfl) ?_
  refine lv_iconst (v := (0 : Int32)) hx hb dX6_plane_1 (by decide) ?_
  refine gp_M_0 C hG inX6_plane_wsX60 (hts _ (List.mem_of_getElem? (i := 1) rfl)) dX6_plane_2 (fun I_1 H locs eI_1 hG => ?_)
  replace hf := hf I_1 eI_1
  refine lv_aload_n hx hb dX6_plane_5 rfl (lv_at hl 0 rfl) ?_
  refine lv_aload_n hx hb dX6_plane_6 rfl (lv_at hl 0 rfl) ?_
  refine gg_M_31 C hG inX6_plane_wsX60 (hts _ (List.mem_of_getElem? (i := 2) rfl)) dX6_plane_7 ?_
  refine lv_if_le (tgt := 17) hx hb dX6_plane_10 (by decide) (fun c_2 => ?_) (fun c_2 => ?_)
  · replace hf := hf.1 c_2
    refine lv_iconst (v := (0 : Int32)) hx hb dX6_plane_17 (by decide) ?_
    exact vX6_plane_b18 C hpost  I_1 X x1 x2 x3 (0 : Int32) _ _ _ hf hG (lv_sub hl [0, 1, 2, 3] rfl)
  · replace hf := hf.2 c_2
    refine lv_iconst (v := (1 : Int32)) hx hb dX6_plane_13 (by decide) ?_
    refine lv_goto (tgt := 18) hx hb dX6_plane_14 (by decide) ?_
    exact vX6_plane_b18 C hpost  I_1 X x1 x2 x3 (1 : Int32) _ _ _ hf hG (lv_sub hl [0, 1, 2, 3] rfl)
set_option maxRecDepth 100000 in
theorem kX6_plane {l : Launch} {D : va_G} {B : Nat → Nat} {S : sS} {K : sK} {L : sL} {Y : sY} {O : sO}  {Q : Int32 → (Nat → Int32) → (Nat → Nat → Int32) → Prop} {I : Nat → Int32} {X : Nat → Nat → Int32} {x1 : Int32} {x2 : Int32} {x3 : Int32} (hf : fX6_plane Q I X x1 x2 x3) : gMi D B l yX6_plane wsX6_plane rX6_plane 0 0 [.ref (B 0), .int x1, .int x2, .int x3] (S, K, L, Y, (I, X), O) (fun r g1 => ∃ (I1 : Nat → Int32) (X1 : Nat → Nat → Int32), g1 = (S, K, L, Y, (I1, X1), O) ∧ Q r I1 X1) := by
  refine gMi_of (cc := cX6_plane) (maxL := 5) (ret := some .int) (by decide +kernel) rfl (Nat.le_of_ble_eq_true rfl) ?_
  intro p e s m below meth c A hA0 C hG ls hl
  exact vX6_plane_b0 C (fun v I X hq => ⟨I, X, rfl, hq⟩) I X x1 x2 x3 _ _ _ hf hG hl
def rX6_post : Room := { frames := 1, cells := 0, slots := 0, locals := 22 }
theorem hdvX6_post : yX6_post.cls = RX6 ∧ yX6_post.cls ≠ "java/lang/invoke/MethodHandle" ∧ yX6_post.cls ≠ "java/lang/invoke/VarHandle" ∧ (parseMethodDescriptor yX6_post.desc).map (fun d => d.parameters.length) = some 3 := by decide +kernel
theorem inX6_post_wsX60 : ∀ w ∈ wsX60, w ∈ wsX6_post := (fun _ h => List.mem_cons_of_mem _ (List.mem_append_right _ h))
set_option maxHeartbeats 4000000 in
set_option maxRecDepth 100000 in
theorem vX6_post_b82 {p : Program} {l : Launch} {e : Env} {s : State} {m : MethodId} {args : Array Value} {below : List Frame} {meth : Method} {c : Code} {D : va_G} {B : Nat → Nat} {A : Nat → Prop} {S : sS} {K : sK} {L : sL} {Y : sY} {O : sO} {post : Int32 → sG → Prop} {Q : Int32 → (Nat → Int32) → (Nat → Nat → Int32) → Prop} (C : gX p s m args meth c cX6_post 4 (some .int) wsX6_post RX6 D B A) (hpost : ∀ (v : Int32) (I : Nat → Int32) (X : Nat → Nat → Int32), Q v I X → post v (S, K, L, Y, (I, X), O))  (I : Nat → Int32) (X : Nat → Nat → Int32) (y1 : Int32) (y2 : Int32) (y3 : Int32) (t0 : Int32) (H : Heap) (locs : List Loc) (ls : Array Slot) (hf : fX6_post_b82 Q I X y1 y2 y3 t0) (hG : GS D B A s.heap (S, K, L, Y, (I, X), O) H locs) (hl : lv_has ls 4 [(0, .ref (B 0)), (1, .int y1), (2, .int y2), (3, .int y3)]) : W p l e (headSpec wsX6_post rX6_post).room s m args below meth c H locs 0 0 (MQ below (va_Qi post (gB D B A) A) args s 0 0 A) (F0 m 82 ls [.int t0, .ref (B 0)]) := by
  obtain ⟨hx, hb, hml, hown, hts, hK, hr, hlk, hA, hN⟩ := id C
  unfold fX6_post_b82 at hf
  refine lv_iconst (v := (3 : Int32)) hx hb dX6_post_82 (by decide) ?_
  refine g_callVi0 (As := [.int t0, .int (3 : Int32)]) C hG (kX6_throwsIf hf) (cwV 2 hts gX6_post_X6_throwsIf rfl rfl rfl hdvX6_throwsIf ⟨Nat.le_of_ble_eq_true rfl, Nat.le_of_ble_eq_true rfl⟩) (va_recv hK hG.1 (ci := 6) (q0 := 0) rfl rfl) rfl hl.1 rfl (Nat.le_of_ble_eq_true rfl) dX6_post_83 ⟨Nat.zero_le _, Nat.zero_le _⟩ (fun r_20 g1 H locs hq hG => ?_)
  obtain ⟨I_18, X_19, rfl, hf⟩ := hq
  refine lv_if_eq (tgt := 91) hx hb dX6_post_86 (by decide) (fun c_21 => ?_) (fun c_21 => ?_)
  · replace hf := hf.1 c_21
    refine lv_aload_n hx hb dX6_post_91 rfl (lv_at hl 0 rfl) ?_
    refine gg_M_10 C hG inX6_post_wsX60 (hts _ (List.mem_of_getElem? (i := 4) rfl)) dX6_post_92 ?_
    refine lv_aload_n hx hb dX6_post_95 rfl (lv_at hl 0 rfl) ?_
    refine gg_M_13 C hG inX6_post_wsX60 (hts _ (List.mem_of_getElem? (i := 3) rfl)) dX6_post_96 ?_
    refine lv_iload_n hx hb dX6_post_99 rfl (lv_at hl 1 rfl) ?_
    obtain ⟨h_22, hf⟩ := hf
    refine gs_M_10 C hG h_22 dX6_post_100 (fun X_23 H locs eX_23 hG => ?_)
    replace hf := hf X_23 eX_23
    refine lv_aload_n hx hb dX6_post_101 rfl (lv_at hl 0 rfl) ?_
    refine gg_M_11 C hG inX6_post_wsX60 (hts _ (List.mem_of_getElem? (i := 5) rfl)) dX6_post_102 ?_
    refine lv_aload_n hx hb dX6_post_105 rfl (lv_at hl 0 rfl) ?_
    refine gg_M_13 C hG inX6_post_wsX60 (hts _ (List.mem_of_getElem? (i := 3) rfl)) dX6_post_106 ?_
    refine lv_iload_n hx hb dX6_post_109 rfl (lv_at hl 2 rfl) ?_
    obtain ⟨h_24, hf⟩ := hf
    refine gs_M_11 C hG h_24 dX6_post_110 (fun X_25 H locs eX_25 hG => ?_)
    replace hf := hf X_25 eX_25
    refine lv_aload_n hx hb dX6_post_111 rfl (lv_at hl 0 rfl) ?_
    refine gg_M_12 C hG inX6_post_wsX60 (hts _ (List.mem_of_getElem? (i := 6) rfl)) dX6_post_112 ?_
    refine lv_aload_n hx hb dX6_post_115 rfl (lv_at hl 0 rfl) ?_
    refine gg_M_13 C hG inX6_post_wsX60 (hts _ (List.mem_of_getElem? (i := 3) rfl)) dX6_post_116 ?_
    refine lv_iload_n hx hb dX6_post_119 rfl (lv_at hl 3 rfl) ?_
    obtain ⟨h_26, hf⟩ := hf
    refine gs_M_12 C hG h_26 dX6_post_120 (fun X_27 H locs eX_27 hG => ?_)
    replace hf := hf X_27 eX_27
    refine lv_aload_n hx hb dX6_post_121 rfl (lv_at hl 0 rfl) ?_
    refine lv_dup hx hb dX6_post_122 rfl ?_
    refine gg_M_13 C hG inX6_post_wsX60 (hts _ (List.mem_of_getElem? (i := 3) rfl)) dX6_post_123 ?_
    refine lv_iconst (v := (1 : Int32)) hx hb dX6_post_126 (by decide) ?_
    refine lv_iadd hx hb dX6_post_127 ?_
    refine gp_M_13 C hG inX6_post_wsX60 (hts _ (List.mem_of_getElem? (i := 3) rfl)) dX6_post_128 (fun I_28 H locs eI_28 hG => ?_)
    replace hf := hf I_28 eI_28
    refine lv_aload_n hx hb dX6_post_131 rfl (lv_at hl 0 rfl) ?_
    refine g_callVv0 (As := []) C hG (kX6_forgets hf) (cwV 0 hts gX6_post_X6_forgets rfl rfl rfl hdvX6_forgets ⟨Nat.le_of_ble_eq_true rfl, Nat.le_of_ble_eq_true rfl⟩) (va_recv hK hG.1 (ci := 6) (q0 := 0) rfl rfl) rfl hl.1 rfl (Nat.le_of_ble_eq_true rfl) dX6_post_132 ⟨Nat.zero_le _, Nat.zero_le _⟩ (fun g1 H locs hq hG => ?_)
    obtain ⟨I_29, X_30, rfl, hf⟩ := hq
    refine lv_aload_n hx hb dX6_post_135 rfl (lv_at hl 0 rfl) ?_
    refine gg_M_13 C hG inX6_post_wsX60 (hts _ (List.mem_of_getElem? (i := 3) rfl)) dX6_post_136 ?_
    refine lv_iconst (v := (1 : Int32)) hx hb dX6_post_139 (by decide) ?_
    refine lv_isub hx hb dX6_post_140 ?_
    exact g_iret C hG (hpost _ _ _ hf) dX6_post_141
  · replace hf := hf.2 c_21
    refine lv_iconst (v := (0 : Int32)) hx hb dX6_post_89 (by decide) ?_
    exact g_iret C hG (hpost _ _ _ hf) dX6_post_90
set_option maxHeartbeats 4000000 in
set_option maxRecDepth 100000 in
theorem vX6_post_b60 {p : Program} {l : Launch} {e : Env} {s : State} {m : MethodId} {args : Array Value} {below : List Frame} {meth : Method} {c : Code} {D : va_G} {B : Nat → Nat} {A : Nat → Prop} {S : sS} {K : sK} {L : sL} {Y : sY} {O : sO} {post : Int32 → sG → Prop} {Q : Int32 → (Nat → Int32) → (Nat → Nat → Int32) → Prop} (C : gX p s m args meth c cX6_post 4 (some .int) wsX6_post RX6 D B A) (hpost : ∀ (v : Int32) (I : Nat → Int32) (X : Nat → Nat → Int32), Q v I X → post v (S, K, L, Y, (I, X), O))  (I : Nat → Int32) (X : Nat → Nat → Int32) (y1 : Int32) (y2 : Int32) (y3 : Int32) (t0 : Int32) (H : Heap) (locs : List Loc) (ls : Array Slot) (hf : fX6_post_b60 Q I X y1 y2 y3 t0) (hG : GS D B A s.heap (S, K, L, Y, (I, X), O) H locs) (hl : lv_has ls 4 [(0, .ref (B 0)), (1, .int y1), (2, .int y2), (3, .int y3)]) : W p l e (headSpec wsX6_post rX6_post).room s m args below meth c H locs 0 0 (MQ below (va_Qi post (gB D B A) A) args s 0 0 A) (F0 m 60 ls [.int t0, .ref (B 0)]) := by
  obtain ⟨hx, hb, hml, hown, hts, hK, hr, hlk, hA, hN⟩ := id C
  unfold fX6_post_b60 at hf
  refine lv_iconst (v := (2 : Int32)) hx hb dX6_post_60 (by decide) ?_
  refine g_callVi0 (As := [.int t0, .int (2 : Int32)]) C hG (kX6_throwsIf hf) (cwV 2 hts gX6_post_X6_throwsIf rfl rfl rfl hdvX6_throwsIf ⟨Nat.le_of_ble_eq_true rfl, Nat.le_of_ble_eq_true rfl⟩) (va_recv hK hG.1 (ci := 6) (q0 := 0) rfl rfl) rfl hl.1 rfl (Nat.le_of_ble_eq_true rfl) dX6_post_61 ⟨Nat.zero_le _, Nat.zero_le _⟩ (fun r_15 g1 H locs hq hG => ?_)
  obtain ⟨I_13, X_14, rfl, hf⟩ := hq
  refine lv_if_ne (tgt := 89) hx hb dX6_post_64 (by decide) (fun c_16 => ?_) (fun c_16 => ?_)
  · replace hf := hf.1 c_16
    refine lv_iconst (v := (0 : Int32)) hx hb dX6_post_89 (by decide) ?_
    exact g_iret C hG (hpost _ _ _ hf) dX6_post_90
  · replace hf := hf.2 c_16
    refine lv_aload_n hx hb dX6_post_67 rfl (lv_at hl 0 rfl) ?_
    refine lv_aload_n hx hb dX6_post_68 rfl (lv_at hl 0 rfl) ?_
    refine gg_M_13 C hG inX6_post_wsX60 (hts _ (List.mem_of_getElem? (i := 3) rfl)) dX6_post_69 ?_
    refine lv_bipush (v := (8 : Int32)) hx hb dX6_post_72 (by decide) ?_
    refine lv_icmp_ne (tgt := 81) hx hb dX6_post_74 (by decide) (fun c_17 => ?_) (fun c_17 => ?_)
    · replace hf := hf.1 c_17
      refine lv_iconst (v := (0 : Int32)) hx hb dX6_post_81 (by decide) ?_
      exact vX6_post_b82 C hpost  I_13 X_14 y1 y2 y3 (0 : Int32) _ _ _ hf hG (lv_sub hl [0, 1, 2, 3] rfl)
    · replace hf := hf.2 c_17
      refine lv_iconst (v := (1 : Int32)) hx hb dX6_post_77 (by decide) ?_
      refine lv_goto (tgt := 82) hx hb dX6_post_78 (by decide) ?_
      exact vX6_post_b82 C hpost  I_13 X_14 y1 y2 y3 (1 : Int32) _ _ _ hf hG (lv_sub hl [0, 1, 2, 3] rfl)
set_option maxHeartbeats 4000000 in
set_option maxRecDepth 100000 in
theorem vX6_post_b55 {p : Program} {l : Launch} {e : Env} {s : State} {m : MethodId} {args : Array Value} {below : List Frame} {meth : Method} {c : Code} {D : va_G} {B : Nat → Nat} {A : Nat → Prop} {S : sS} {K : sK} {L : sL} {Y : sY} {O : sO} {post : Int32 → sG → Prop} {Q : Int32 → (Nat → Int32) → (Nat → Nat → Int32) → Prop} (C : gX p s m args meth c cX6_post 4 (some .int) wsX6_post RX6 D B A) (hpost : ∀ (v : Int32) (I : Nat → Int32) (X : Nat → Nat → Int32), Q v I X → post v (S, K, L, Y, (I, X), O))  (I : Nat → Int32) (X : Nat → Nat → Int32) (y1 : Int32) (y2 : Int32) (y3 : Int32) (H : Heap) (locs : List Loc) (ls : Array Slot) (hf : fX6_post_b55 Q I X y1 y2 y3) (hG : GS D B A s.heap (S, K, L, Y, (I, X), O) H locs) (hl : lv_has ls 4 [(0, .ref (B 0)), (1, .int y1), (2, .int y2), (3, .int y3)]) : W p l e (headSpec wsX6_post rX6_post).room s m args below meth c H locs 0 0 (MQ below (va_Qi post (gB D B A) A) args s 0 0 A) (F0 m 55 ls [.ref (B 0)]) := by
  obtain ⟨hx, hb, hml, hown, hts, hK, hr, hlk, hA, hN⟩ := id C
  unfold fX6_post_b55 at hf
  refine lv_iconst (v := (1 : Int32)) hx hb dX6_post_55 (by decide) ?_
  refine lv_goto (tgt := 60) hx hb dX6_post_56 (by decide) ?_
  exact vX6_post_b60 C hpost  I X y1 y2 y3 (1 : Int32) _ _ _ hf hG (lv_sub hl [0, 1, 2, 3] rfl)
set_option maxHeartbeats 4000000 in
set_option maxRecDepth 100000 in
theorem vX6_post_b18 {p : Program} {l : Launch} {e : Env} {s : State} {m : MethodId} {args : Array Value} {below : List Frame} {meth : Method} {c : Code} {D : va_G} {B : Nat → Nat} {A : Nat → Prop} {S : sS} {K : sK} {L : sL} {Y : sY} {O : sO} {post : Int32 → sG → Prop} {Q : Int32 → (Nat → Int32) → (Nat → Nat → Int32) → Prop} (C : gX p s m args meth c cX6_post 4 (some .int) wsX6_post RX6 D B A) (hpost : ∀ (v : Int32) (I : Nat → Int32) (X : Nat → Nat → Int32), Q v I X → post v (S, K, L, Y, (I, X), O))  (I : Nat → Int32) (X : Nat → Nat → Int32) (y1 : Int32) (y2 : Int32) (y3 : Int32) (t0 : Int32) (H : Heap) (locs : List Loc) (ls : Array Slot) (hf : fX6_post_b18 Q I X y1 y2 y3 t0) (hG : GS D B A s.heap (S, K, L, Y, (I, X), O) H locs) (hl : lv_has ls 4 [(0, .ref (B 0)), (1, .int y1), (2, .int y2), (3, .int y3)]) : W p l e (headSpec wsX6_post rX6_post).room s m args below meth c H locs 0 0 (MQ below (va_Qi post (gB D B A) A) args s 0 0 A) (F0 m 18 ls [.int t0, .ref (B 0)]) := by
  obtain ⟨hx, hb, hml, hown, hts, hK, hr, hlk, hA, hN⟩ := id C
  unfold fX6_post_b18 at hf
  refine lv_iconst (v := (1 : Int32)) hx hb dX6_post_18 (by decide) ?_
  refine g_callVi0 (As := [.int t0, .int (1 : Int32)]) C hG (kX6_throwsIf hf) (cwV 2 hts gX6_post_X6_throwsIf rfl rfl rfl hdvX6_throwsIf ⟨Nat.le_of_ble_eq_true rfl, Nat.le_of_ble_eq_true rfl⟩) (va_recv hK hG.1 (ci := 6) (q0 := 0) rfl rfl) rfl hl.1 rfl (Nat.le_of_ble_eq_true rfl) dX6_post_19 ⟨Nat.zero_le _, Nat.zero_le _⟩ (fun r_5 g1 H locs hq hG => ?_)
  obtain ⟨I_3, X_4, rfl, hf⟩ := hq
  refine lv_if_ne (tgt := 89) hx hb dX6_post_22 (by decide) (fun c_6 => ?_) (fun c_6 => ?_)
  · replace hf := hf.1 c_6
    refine lv_iconst (v := (0 : Int32)) hx hb dX6_post_89 (by decide) ?_
    exact g_iret C hG (hpost _ _ _ hf) dX6_post_90
  · replace hf := hf.2 c_6
    refine lv_aload_n hx hb dX6_post_25 rfl (lv_at hl 0 rfl) ?_
    refine lv_iload_n hx hb dX6_post_26 rfl (lv_at hl 1 rfl) ?_
    refine lv_iconst (v := (0 : Int32)) hx hb dX6_post_27 (by decide) ?_
    refine lv_bipush (v := (31 : Int32)) hx hb dX6_post_28 (by decide) ?_
    refine g_callSi0 (As := [.int y1, .int (0 : Int32), .int (31 : Int32)]) C hG (kX6_in hf) (va_cwS 3 hts gX6_post_X6_in rfl rfl rfl hdsX6_in ⟨Nat.le_of_ble_eq_true rfl, Nat.le_of_ble_eq_true rfl⟩) rfl hl.1 rfl (Nat.le_of_ble_eq_true rfl) dX6_post_30 ⟨Nat.zero_le _, Nat.zero_le _⟩ (fun r_7 g1 H locs hq hG => ?_)
    obtain ⟨rfl, hf⟩ := hq
    refine lv_if_eq (tgt := 55) hx hb dX6_post_33 (by decide) (fun c_8 => ?_) (fun c_8 => ?_)
    · replace hf := hf.1 c_8
      exact vX6_post_b55 C hpost  I_3 X_4 y1 y2 y3 _ _ _ hf hG (lv_sub hl [0, 1, 2, 3] rfl)
    · replace hf := hf.2 c_8
      refine lv_iload_n hx hb dX6_post_36 rfl (lv_at hl 2 rfl) ?_
      refine lv_iconst (v := (0 : Int32)) hx hb dX6_post_37 (by decide) ?_
      refine lv_iconst (v := (5 : Int32)) hx hb dX6_post_38 (by decide) ?_
      refine g_callSi0 (As := [.int y2, .int (0 : Int32), .int (5 : Int32)]) C hG (kX6_in hf) (va_cwS 3 hts gX6_post_X6_in rfl rfl rfl hdsX6_in ⟨Nat.le_of_ble_eq_true rfl, Nat.le_of_ble_eq_true rfl⟩) rfl hl.1 rfl (Nat.le_of_ble_eq_true rfl) dX6_post_39 ⟨Nat.zero_le _, Nat.zero_le _⟩ (fun r_9 g1 H locs hq hG => ?_)
      obtain ⟨rfl, hf⟩ := hq
      refine lv_if_eq (tgt := 55) hx hb dX6_post_42 (by decide) (fun c_10 => ?_) (fun c_10 => ?_)
      · replace hf := hf.1 c_10
        exact vX6_post_b55 C hpost  I_3 X_4 y1 y2 y3 _ _ _ hf hG (lv_sub hl [0, 1, 2, 3] rfl)
      · replace hf := hf.2 c_10
        refine lv_iload_n hx hb dX6_post_45 rfl (lv_at hl 3 rfl) ?_
        refine lv_iconst (v := (0 : Int32)) hx hb dX6_post_46 (by decide) ?_
        refine lv_bipush (v := (8 : Int32)) hx hb dX6_post_47 (by decide) ?_
        refine g_callSi0 (As := [.int y3, .int (0 : Int32), .int (8 : Int32)]) C hG (kX6_in hf) (va_cwS 3 hts gX6_post_X6_in rfl rfl rfl hdsX6_in ⟨Nat.le_of_ble_eq_true rfl, Nat.le_of_ble_eq_true rfl⟩) rfl hl.1 rfl (Nat.le_of_ble_eq_true rfl) dX6_post_49 ⟨Nat.zero_le _, Nat.zero_le _⟩ (fun r_11 g1 H locs hq hG => ?_)
        obtain ⟨rfl, hf⟩ := hq
        refine lv_if_ne (tgt := 59) hx hb dX6_post_52 (by decide) (fun c_12 => ?_) (fun c_12 => ?_)
        · replace hf := hf.1 c_12
          refine lv_iconst (v := (0 : Int32)) hx hb dX6_post_59 (by decide) ?_
          exact vX6_post_b60 C hpost  I_3 X_4 y1 y2 y3 (0 : Int32) _ _ _ hf hG (lv_sub hl [0, 1, 2, 3] rfl)
        · replace hf := hf.2 c_12
          exact vX6_post_b55 C hpost  I_3 X_4 y1 y2 y3 _ _ _ hf hG (lv_sub hl [0, 1, 2, 3] rfl)
set_option maxHeartbeats 4000000 in
set_option maxRecDepth 100000 in
theorem vX6_post_b0 {p : Program} {l : Launch} {e : Env} {s : State} {m : MethodId} {args : Array Value} {below : List Frame} {meth : Method} {c : Code} {D : va_G} {B : Nat → Nat} {A : Nat → Prop} {S : sS} {K : sK} {L : sL} {Y : sY} {O : sO} {post : Int32 → sG → Prop} {Q : Int32 → (Nat → Int32) → (Nat → Nat → Int32) → Prop} (C : gX p s m args meth c cX6_post 4 (some .int) wsX6_post RX6 D B A) (hpost : ∀ (v : Int32) (I : Nat → Int32) (X : Nat → Nat → Int32), Q v I X → post v (S, K, L, Y, (I, X), O))  (I : Nat → Int32) (X : Nat → Nat → Int32) (x1 : Int32) (x2 : Int32) (x3 : Int32) (H : Heap) (locs : List Loc) (ls : Array Slot) (hf : fX6_post Q I X x1 x2 x3) (hG : GS D B A s.heap (S, K, L, Y, (I, X), O) H locs) (hl : lv_has ls 4 [(0, .ref (B 0)), (1, .int x1), (2, .int x2), (3, .int x3)]) : W p l e (headSpec wsX6_post rX6_post).room s m args below meth c H locs 0 0 (MQ below (va_Qi post (gB D B A) A) args s 0 0 A) (F0 m 0 ls []) := by
  obtain ⟨hx, hb, hml, hown, hts, hK, hr, hlk, hA, hN⟩ := id C
  unfold fX6_post at hf
  refine lv_aload_n hx hb dX6_post_0 rfl (lv_at hl 0 rfl) ?_
  refine lv_iconst (v := (0 : Int32)) hx hb dX6_post_1 (by decide) ?_
  refine gp_M_0 C hG inX6_post_wsX60 (hts _ (List.mem_of_getElem? (i := 1) rfl)) dX6_post_2 (fun I_1 H locs eI_1 hG => ?_)
  replace hf := hf I_1 eI_1
  refine lv_aload_n hx hb dX6_post_5 rfl (lv_at hl 0 rfl) ?_
  refine lv_aload_n hx hb dX6_post_6 rfl (lv_at hl 0 rfl) ?_
  refine gg_M_31 C hG inX6_post_wsX60 (hts _ (List.mem_of_getElem? (i := 2) rfl)) dX6_post_7 ?_
  refine lv_if_le (tgt := 17) hx hb dX6_post_10 (by decide) (fun c_2 => ?_) (fun c_2 => ?_)
  · replace hf := hf.1 c_2
    refine lv_iconst (v := (0 : Int32)) hx hb dX6_post_17 (by decide) ?_
    exact vX6_post_b18 C hpost  I_1 X x1 x2 x3 (0 : Int32) _ _ _ hf hG (lv_sub hl [0, 1, 2, 3] rfl)
  · replace hf := hf.2 c_2
    refine lv_iconst (v := (1 : Int32)) hx hb dX6_post_13 (by decide) ?_
    refine lv_goto (tgt := 18) hx hb dX6_post_14 (by decide) ?_
    exact vX6_post_b18 C hpost  I_1 X x1 x2 x3 (1 : Int32) _ _ _ hf hG (lv_sub hl [0, 1, 2, 3] rfl)
set_option maxRecDepth 100000 in
theorem kX6_post {l : Launch} {D : va_G} {B : Nat → Nat} {S : sS} {K : sK} {L : sL} {Y : sY} {O : sO}  {Q : Int32 → (Nat → Int32) → (Nat → Nat → Int32) → Prop} {I : Nat → Int32} {X : Nat → Nat → Int32} {x1 : Int32} {x2 : Int32} {x3 : Int32} (hf : fX6_post Q I X x1 x2 x3) : gMi D B l yX6_post wsX6_post rX6_post 0 0 [.ref (B 0), .int x1, .int x2, .int x3] (S, K, L, Y, (I, X), O) (fun r g1 => ∃ (I1 : Nat → Int32) (X1 : Nat → Nat → Int32), g1 = (S, K, L, Y, (I1, X1), O) ∧ Q r I1 X1) := by
  refine gMi_of (cc := cX6_post) (maxL := 4) (ret := some .int) (by decide +kernel) rfl (Nat.le_of_ble_eq_true rfl) ?_
  intro p e s m below meth c A hA0 C hG ls hl
  exact vX6_post_b0 C (fun v I X hq => ⟨I, X, rfl, hq⟩) I X x1 x2 x3 _ _ _ hf hG hl
def rX6_send : Room := { frames := 2, cells := 0, slots := 0, locals := 43 }
theorem hdvX6_send : yX6_send.cls = RX6 ∧ yX6_send.cls ≠ "java/lang/invoke/MethodHandle" ∧ yX6_send.cls ≠ "java/lang/invoke/VarHandle" ∧ (parseMethodDescriptor yX6_send.desc).map (fun d => d.parameters.length) = some 2 := by decide +kernel
theorem inX6_send_wsX60 : ∀ w ∈ wsX60, w ∈ wsX6_send := (fun _ h => List.mem_cons_of_mem _ (List.mem_append_right _ h))
set_option maxHeartbeats 4000000 in
set_option maxRecDepth 100000 in
theorem vX6_send_b67 {p : Program} {l : Launch} {e : Env} {s : State} {m : MethodId} {args : Array Value} {below : List Frame} {meth : Method} {c : Code} {D : va_G} {B : Nat → Nat} {A : Nat → Prop} {S : sS} {K : sK} {L : sL} {Y : sY} {O : sO} {post : Int32 → sG → Prop} {Q : Int32 → (Nat → Int32) → (Nat → Nat → Int32) → Prop} (C : gX p s m args meth c cX6_send 3 (some .int) wsX6_send RX6 D B A) (hpost : ∀ (v : Int32) (I : Nat → Int32) (X : Nat → Nat → Int32), Q v I X → post v (S, K, L, Y, (I, X), O))  (I : Nat → Int32) (X : Nat → Nat → Int32) (y1 : Int32) (y2 : Int32) (t0 : Int32) (H : Heap) (locs : List Loc) (ls : Array Slot) (hf : fX6_send_b67 Q I X y1 y2 t0) (hG : GS D B A s.heap (S, K, L, Y, (I, X), O) H locs) (hl : lv_has ls 3 [(0, .ref (B 0)), (1, .int y1), (2, .int y2)]) : W p l e (headSpec wsX6_send rX6_send).room s m args below meth c H locs 0 0 (MQ below (va_Qi post (gB D B A) A) args s 0 0 A) (F0 m 67 ls [.int t0, .ref (B 0)]) := by
  obtain ⟨hx, hb, hml, hown, hts, hK, hr, hlk, hA, hN⟩ := id C
  unfold fX6_send_b67 at hf
  refine lv_iconst (v := (3 : Int32)) hx hb dX6_send_67 (by decide) ?_
  refine g_callVi0 (As := [.int t0, .int (3 : Int32)]) C hG (kX6_throwsIf hf) (cwV 2 hts gX6_send_X6_throwsIf rfl rfl rfl hdvX6_throwsIf ⟨Nat.le_of_ble_eq_true rfl, Nat.le_of_ble_eq_true rfl⟩) (va_recv hK hG.1 (ci := 6) (q0 := 0) rfl rfl) rfl hl.1 rfl (Nat.le_of_ble_eq_true rfl) dX6_send_68 ⟨Nat.zero_le _, Nat.zero_le _⟩ (fun r_18 g1 H locs hq hG => ?_)
  obtain ⟨I_16, X_17, rfl, hf⟩ := hq
  refine lv_if_eq (tgt := 76) hx hb dX6_send_71 (by decide) (fun c_19 => ?_) (fun c_19 => ?_)
  · replace hf := hf.1 c_19
    refine lv_aload_n hx hb dX6_send_76 rfl (lv_at hl 0 rfl) ?_
    refine gg_M_19 C hG inX6_send_wsX60 (hts _ (List.mem_of_getElem? (i := 3) rfl)) dX6_send_77 ?_
    refine lv_aload_n hx hb dX6_send_80 rfl (lv_at hl 0 rfl) ?_
    refine gg_M_31 C hG inX6_send_wsX60 (hts _ (List.mem_of_getElem? (i := 2) rfl)) dX6_send_81 ?_
    refine lv_iload_n hx hb dX6_send_84 rfl (lv_at hl 1 rfl) ?_
    obtain ⟨h_20, hf⟩ := hf
    refine gs_M_19 C hG h_20 dX6_send_85 (fun X_21 H locs eX_21 hG => ?_)
    replace hf := hf X_21 eX_21
    refine lv_aload_n hx hb dX6_send_86 rfl (lv_at hl 0 rfl) ?_
    refine gg_M_20 C hG inX6_send_wsX60 (hts _ (List.mem_of_getElem? (i := 4) rfl)) dX6_send_87 ?_
    refine lv_aload_n hx hb dX6_send_90 rfl (lv_at hl 0 rfl) ?_
    refine gg_M_31 C hG inX6_send_wsX60 (hts _ (List.mem_of_getElem? (i := 2) rfl)) dX6_send_91 ?_
    refine lv_iload_n hx hb dX6_send_94 rfl (lv_at hl 2 rfl) ?_
    obtain ⟨h_22, hf⟩ := hf
    refine gs_M_20 C hG h_22 dX6_send_95 (fun X_23 H locs eX_23 hG => ?_)
    replace hf := hf X_23 eX_23
    refine lv_aload_n hx hb dX6_send_96 rfl (lv_at hl 0 rfl) ?_
    refine gg_M_21 C hG inX6_send_wsX60 (hts _ (List.mem_of_getElem? (i := 5) rfl)) dX6_send_97 ?_
    refine lv_aload_n hx hb dX6_send_100 rfl (lv_at hl 0 rfl) ?_
    refine gg_M_31 C hG inX6_send_wsX60 (hts _ (List.mem_of_getElem? (i := 2) rfl)) dX6_send_101 ?_
    refine lv_iconst (v := (0 : Int32)) hx hb dX6_send_104 (by decide) ?_
    obtain ⟨h_24, hf⟩ := hf
    refine gs_M_21 C hG h_24 dX6_send_105 (fun X_25 H locs eX_25 hG => ?_)
    replace hf := hf X_25 eX_25
    refine lv_aload_n hx hb dX6_send_106 rfl (lv_at hl 0 rfl) ?_
    refine gg_M_22 C hG inX6_send_wsX60 (hts _ (List.mem_of_getElem? (i := 6) rfl)) dX6_send_107 ?_
    refine lv_aload_n hx hb dX6_send_110 rfl (lv_at hl 0 rfl) ?_
    refine gg_M_31 C hG inX6_send_wsX60 (hts _ (List.mem_of_getElem? (i := 2) rfl)) dX6_send_111 ?_
    refine lv_iconst (v := (-1 : Int32)) hx hb dX6_send_114 (by decide) ?_
    obtain ⟨h_26, hf⟩ := hf
    refine gs_M_22 C hG h_26 dX6_send_115 (fun X_27 H locs eX_27 hG => ?_)
    replace hf := hf X_27 eX_27
    refine lv_aload_n hx hb dX6_send_116 rfl (lv_at hl 0 rfl) ?_
    refine gg_M_23 C hG inX6_send_wsX60 (hts _ (List.mem_of_getElem? (i := 7) rfl)) dX6_send_117 ?_
    refine lv_aload_n hx hb dX6_send_120 rfl (lv_at hl 0 rfl) ?_
    refine gg_M_31 C hG inX6_send_wsX60 (hts _ (List.mem_of_getElem? (i := 2) rfl)) dX6_send_121 ?_
    refine lv_iconst (v := (-1 : Int32)) hx hb dX6_send_124 (by decide) ?_
    obtain ⟨h_28, hf⟩ := hf
    refine gs_M_23 C hG h_28 dX6_send_125 (fun X_29 H locs eX_29 hG => ?_)
    replace hf := hf X_29 eX_29
    refine lv_aload_n hx hb dX6_send_126 rfl (lv_at hl 0 rfl) ?_
    refine gg_M_26 C hG inX6_send_wsX60 (hts _ (List.mem_of_getElem? (i := 8) rfl)) dX6_send_127 ?_
    refine lv_aload_n hx hb dX6_send_130 rfl (lv_at hl 0 rfl) ?_
    refine gg_M_31 C hG inX6_send_wsX60 (hts _ (List.mem_of_getElem? (i := 2) rfl)) dX6_send_131 ?_
    refine lv_aload_n hx hb dX6_send_134 rfl (lv_at hl 0 rfl) ?_
    refine gg_M_1 C hG inX6_send_wsX60 (hts _ (List.mem_of_getElem? (i := 9) rfl)) dX6_send_135 ?_
    obtain ⟨h_30, hf⟩ := hf
    refine gs_M_26 C hG h_30 dX6_send_138 (fun X_31 H locs eX_31 hG => ?_)
    replace hf := hf X_31 eX_31
    refine lv_aload_n hx hb dX6_send_139 rfl (lv_at hl 0 rfl) ?_
    refine gg_M_27 C hG inX6_send_wsX60 (hts _ (List.mem_of_getElem? (i := 10) rfl)) dX6_send_140 ?_
    refine lv_aload_n hx hb dX6_send_143 rfl (lv_at hl 0 rfl) ?_
    refine gg_M_31 C hG inX6_send_wsX60 (hts _ (List.mem_of_getElem? (i := 2) rfl)) dX6_send_144 ?_
    refine lv_iconst (v := (-1 : Int32)) hx hb dX6_send_147 (by decide) ?_
    obtain ⟨h_32, hf⟩ := hf
    refine gs_M_27 C hG h_32 dX6_send_148 (fun X_33 H locs eX_33 hG => ?_)
    replace hf := hf X_33 eX_33
    refine lv_aload_n hx hb dX6_send_149 rfl (lv_at hl 0 rfl) ?_
    refine gg_M_28 C hG inX6_send_wsX60 (hts _ (List.mem_of_getElem? (i := 11) rfl)) dX6_send_150 ?_
    refine lv_aload_n hx hb dX6_send_153 rfl (lv_at hl 0 rfl) ?_
    refine gg_M_31 C hG inX6_send_wsX60 (hts _ (List.mem_of_getElem? (i := 2) rfl)) dX6_send_154 ?_
    refine lv_iconst (v := (-1 : Int32)) hx hb dX6_send_157 (by decide) ?_
    obtain ⟨h_34, hf⟩ := hf
    refine gs_M_28 C hG h_34 dX6_send_158 (fun X_35 H locs eX_35 hG => ?_)
    replace hf := hf X_35 eX_35
    refine lv_aload_n hx hb dX6_send_159 rfl (lv_at hl 0 rfl) ?_
    refine lv_dup hx hb dX6_send_160 rfl ?_
    refine gg_M_31 C hG inX6_send_wsX60 (hts _ (List.mem_of_getElem? (i := 2) rfl)) dX6_send_161 ?_
    refine lv_iconst (v := (1 : Int32)) hx hb dX6_send_164 (by decide) ?_
    refine lv_iadd hx hb dX6_send_165 ?_
    refine gp_M_31 C hG inX6_send_wsX60 (hts _ (List.mem_of_getElem? (i := 2) rfl)) dX6_send_166 (fun I_36 H locs eI_36 hG => ?_)
    replace hf := hf I_36 eI_36
    refine lv_aload_n hx hb dX6_send_169 rfl (lv_at hl 0 rfl) ?_
    refine gg_M_31 C hG inX6_send_wsX60 (hts _ (List.mem_of_getElem? (i := 2) rfl)) dX6_send_170 ?_
    refine lv_iconst (v := (1 : Int32)) hx hb dX6_send_173 (by decide) ?_
    refine lv_isub hx hb dX6_send_174 ?_
    exact g_iret C hG (hpost _ _ _ hf) dX6_send_175
  · replace hf := hf.2 c_19
    refine lv_iconst (v := (0 : Int32)) hx hb dX6_send_74 (by decide) ?_
    exact g_iret C hG (hpost _ _ _ hf) dX6_send_75
set_option maxHeartbeats 4000000 in
set_option maxRecDepth 100000 in
theorem vX6_send_b45 {p : Program} {l : Launch} {e : Env} {s : State} {m : MethodId} {args : Array Value} {below : List Frame} {meth : Method} {c : Code} {D : va_G} {B : Nat → Nat} {A : Nat → Prop} {S : sS} {K : sK} {L : sL} {Y : sY} {O : sO} {post : Int32 → sG → Prop} {Q : Int32 → (Nat → Int32) → (Nat → Nat → Int32) → Prop} (C : gX p s m args meth c cX6_send 3 (some .int) wsX6_send RX6 D B A) (hpost : ∀ (v : Int32) (I : Nat → Int32) (X : Nat → Nat → Int32), Q v I X → post v (S, K, L, Y, (I, X), O))  (I : Nat → Int32) (X : Nat → Nat → Int32) (y1 : Int32) (y2 : Int32) (t0 : Int32) (H : Heap) (locs : List Loc) (ls : Array Slot) (hf : fX6_send_b45 Q I X y1 y2 t0) (hG : GS D B A s.heap (S, K, L, Y, (I, X), O) H locs) (hl : lv_has ls 3 [(0, .ref (B 0)), (1, .int y1), (2, .int y2)]) : W p l e (headSpec wsX6_send rX6_send).room s m args below meth c H locs 0 0 (MQ below (va_Qi post (gB D B A) A) args s 0 0 A) (F0 m 45 ls [.int t0, .ref (B 0)]) := by
  obtain ⟨hx, hb, hml, hown, hts, hK, hr, hlk, hA, hN⟩ := id C
  unfold fX6_send_b45 at hf
  refine lv_iconst (v := (2 : Int32)) hx hb dX6_send_45 (by decide) ?_
  refine g_callVi0 (As := [.int t0, .int (2 : Int32)]) C hG (kX6_throwsIf hf) (cwV 2 hts gX6_send_X6_throwsIf rfl rfl rfl hdvX6_throwsIf ⟨Nat.le_of_ble_eq_true rfl, Nat.le_of_ble_eq_true rfl⟩) (va_recv hK hG.1 (ci := 6) (q0 := 0) rfl rfl) rfl hl.1 rfl (Nat.le_of_ble_eq_true rfl) dX6_send_46 ⟨Nat.zero_le _, Nat.zero_le _⟩ (fun r_13 g1 H locs hq hG => ?_)
  obtain ⟨I_11, X_12, rfl, hf⟩ := hq
  refine lv_if_ne (tgt := 74) hx hb dX6_send_49 (by decide) (fun c_14 => ?_) (fun c_14 => ?_)
  · replace hf := hf.1 c_14
    refine lv_iconst (v := (0 : Int32)) hx hb dX6_send_74 (by decide) ?_
    exact g_iret C hG (hpost _ _ _ hf) dX6_send_75
  · replace hf := hf.2 c_14
    refine lv_aload_n hx hb dX6_send_52 rfl (lv_at hl 0 rfl) ?_
    refine lv_aload_n hx hb dX6_send_53 rfl (lv_at hl 0 rfl) ?_
    refine gg_M_31 C hG inX6_send_wsX60 (hts _ (List.mem_of_getElem? (i := 2) rfl)) dX6_send_54 ?_
    refine lv_bipush (v := (60 : Int32)) hx hb dX6_send_57 (by decide) ?_
    refine lv_icmp_ne (tgt := 66) hx hb dX6_send_59 (by decide) (fun c_15 => ?_) (fun c_15 => ?_)
    · replace hf := hf.1 c_15
      refine lv_iconst (v := (0 : Int32)) hx hb dX6_send_66 (by decide) ?_
      exact vX6_send_b67 C hpost  I_11 X_12 y1 y2 (0 : Int32) _ _ _ hf hG (lv_sub hl [0, 1, 2] rfl)
    · replace hf := hf.2 c_15
      refine lv_iconst (v := (1 : Int32)) hx hb dX6_send_62 (by decide) ?_
      refine lv_goto (tgt := 67) hx hb dX6_send_63 (by decide) ?_
      exact vX6_send_b67 C hpost  I_11 X_12 y1 y2 (1 : Int32) _ _ _ hf hG (lv_sub hl [0, 1, 2] rfl)
set_option maxHeartbeats 4000000 in
set_option maxRecDepth 100000 in
theorem vX6_send_b27 {p : Program} {l : Launch} {e : Env} {s : State} {m : MethodId} {args : Array Value} {below : List Frame} {meth : Method} {c : Code} {D : va_G} {B : Nat → Nat} {A : Nat → Prop} {S : sS} {K : sK} {L : sL} {Y : sY} {O : sO} {post : Int32 → sG → Prop} {Q : Int32 → (Nat → Int32) → (Nat → Nat → Int32) → Prop} (C : gX p s m args meth c cX6_send 3 (some .int) wsX6_send RX6 D B A) (hpost : ∀ (v : Int32) (I : Nat → Int32) (X : Nat → Nat → Int32), Q v I X → post v (S, K, L, Y, (I, X), O))  (I : Nat → Int32) (X : Nat → Nat → Int32) (y1 : Int32) (y2 : Int32) (t0 : Int32) (H : Heap) (locs : List Loc) (ls : Array Slot) (hf : fX6_send_b27 Q I X y1 y2 t0) (hG : GS D B A s.heap (S, K, L, Y, (I, X), O) H locs) (hl : lv_has ls 3 [(0, .ref (B 0)), (1, .int y1), (2, .int y2)]) : W p l e (headSpec wsX6_send rX6_send).room s m args below meth c H locs 0 0 (MQ below (va_Qi post (gB D B A) A) args s 0 0 A) (F0 m 27 ls [.int t0, .ref (B 0)]) := by
  obtain ⟨hx, hb, hml, hown, hts, hK, hr, hlk, hA, hN⟩ := id C
  unfold fX6_send_b27 at hf
  refine lv_iconst (v := (1 : Int32)) hx hb dX6_send_27 (by decide) ?_
  refine g_callVi0 (As := [.int t0, .int (1 : Int32)]) C hG (kX6_throwsIf hf) (cwV 2 hts gX6_send_X6_throwsIf rfl rfl rfl hdvX6_throwsIf ⟨Nat.le_of_ble_eq_true rfl, Nat.le_of_ble_eq_true rfl⟩) (va_recv hK hG.1 (ci := 6) (q0 := 0) rfl rfl) rfl hl.1 rfl (Nat.le_of_ble_eq_true rfl) dX6_send_28 ⟨Nat.zero_le _, Nat.zero_le _⟩ (fun r_8 g1 H locs hq hG => ?_)
  obtain ⟨I_6, X_7, rfl, hf⟩ := hq
  refine lv_if_ne (tgt := 74) hx hb dX6_send_31 (by decide) (fun c_9 => ?_) (fun c_9 => ?_)
  · replace hf := hf.1 c_9
    refine lv_iconst (v := (0 : Int32)) hx hb dX6_send_74 (by decide) ?_
    exact g_iret C hG (hpost _ _ _ hf) dX6_send_75
  · replace hf := hf.2 c_9
    refine lv_aload_n hx hb dX6_send_34 rfl (lv_at hl 0 rfl) ?_
    refine lv_iload_n hx hb dX6_send_35 rfl (lv_at hl 1 rfl) ?_
    refine lv_iload_n hx hb dX6_send_36 rfl (lv_at hl 2 rfl) ?_
    refine lv_icmp_ne (tgt := 44) hx hb dX6_send_37 (by decide) (fun c_10 => ?_) (fun c_10 => ?_)
    · replace hf := hf.1 c_10
      refine lv_iconst (v := (0 : Int32)) hx hb dX6_send_44 (by decide) ?_
      exact vX6_send_b45 C hpost  I_6 X_7 y1 y2 (0 : Int32) _ _ _ hf hG (lv_sub hl [0, 1, 2] rfl)
    · replace hf := hf.2 c_10
      refine lv_iconst (v := (1 : Int32)) hx hb dX6_send_40 (by decide) ?_
      refine lv_goto (tgt := 45) hx hb dX6_send_41 (by decide) ?_
      exact vX6_send_b45 C hpost  I_6 X_7 y1 y2 (1 : Int32) _ _ _ hf hG (lv_sub hl [0, 1, 2] rfl)
set_option maxHeartbeats 4000000 in
set_option maxRecDepth 100000 in
theorem vX6_send_b22 {p : Program} {l : Launch} {e : Env} {s : State} {m : MethodId} {args : Array Value} {below : List Frame} {meth : Method} {c : Code} {D : va_G} {B : Nat → Nat} {A : Nat → Prop} {S : sS} {K : sK} {L : sL} {Y : sY} {O : sO} {post : Int32 → sG → Prop} {Q : Int32 → (Nat → Int32) → (Nat → Nat → Int32) → Prop} (C : gX p s m args meth c cX6_send 3 (some .int) wsX6_send RX6 D B A) (hpost : ∀ (v : Int32) (I : Nat → Int32) (X : Nat → Nat → Int32), Q v I X → post v (S, K, L, Y, (I, X), O))  (I : Nat → Int32) (X : Nat → Nat → Int32) (y1 : Int32) (y2 : Int32) (H : Heap) (locs : List Loc) (ls : Array Slot) (hf : fX6_send_b22 Q I X y1 y2) (hG : GS D B A s.heap (S, K, L, Y, (I, X), O) H locs) (hl : lv_has ls 3 [(0, .ref (B 0)), (1, .int y1), (2, .int y2)]) : W p l e (headSpec wsX6_send rX6_send).room s m args below meth c H locs 0 0 (MQ below (va_Qi post (gB D B A) A) args s 0 0 A) (F0 m 22 ls [.ref (B 0)]) := by
  obtain ⟨hx, hb, hml, hown, hts, hK, hr, hlk, hA, hN⟩ := id C
  unfold fX6_send_b22 at hf
  refine lv_iconst (v := (1 : Int32)) hx hb dX6_send_22 (by decide) ?_
  refine lv_goto (tgt := 27) hx hb dX6_send_23 (by decide) ?_
  exact vX6_send_b27 C hpost  I X y1 y2 (1 : Int32) _ _ _ hf hG (lv_sub hl [0, 1, 2] rfl)
set_option maxHeartbeats 4000000 in
set_option maxRecDepth 100000 in
theorem vX6_send_b0 {p : Program} {l : Launch} {e : Env} {s : State} {m : MethodId} {args : Array Value} {below : List Frame} {meth : Method} {c : Code} {D : va_G} {B : Nat → Nat} {A : Nat → Prop} {S : sS} {K : sK} {L : sL} {Y : sY} {O : sO} {post : Int32 → sG → Prop} {Q : Int32 → (Nat → Int32) → (Nat → Nat → Int32) → Prop} (C : gX p s m args meth c cX6_send 3 (some .int) wsX6_send RX6 D B A) (hpost : ∀ (v : Int32) (I : Nat → Int32) (X : Nat → Nat → Int32), Q v I X → post v (S, K, L, Y, (I, X), O))  (I : Nat → Int32) (X : Nat → Nat → Int32) (x1 : Int32) (x2 : Int32) (H : Heap) (locs : List Loc) (ls : Array Slot) (hf : fX6_send Q I X x1 x2) (hG : GS D B A s.heap (S, K, L, Y, (I, X), O) H locs) (hl : lv_has ls 3 [(0, .ref (B 0)), (1, .int x1), (2, .int x2)]) : W p l e (headSpec wsX6_send rX6_send).room s m args below meth c H locs 0 0 (MQ below (va_Qi post (gB D B A) A) args s 0 0 A) (F0 m 0 ls []) := by
  obtain ⟨hx, hb, hml, hown, hts, hK, hr, hlk, hA, hN⟩ := id C
  unfold fX6_send at hf
  refine lv_aload_n hx hb dX6_send_0 rfl (lv_at hl 0 rfl) ?_
  refine lv_iconst (v := (0 : Int32)) hx hb dX6_send_1 (by decide) ?_
  refine gp_M_0 C hG inX6_send_wsX60 (hts _ (List.mem_of_getElem? (i := 1) rfl)) dX6_send_2 (fun I_1 H locs eI_1 hG => ?_)
  replace hf := hf I_1 eI_1
  refine lv_aload_n hx hb dX6_send_5 rfl (lv_at hl 0 rfl) ?_
  refine lv_aload_n hx hb dX6_send_6 rfl (lv_at hl 0 rfl) ?_
  refine lv_iload_n hx hb dX6_send_7 rfl (lv_at hl 1 rfl) ?_
  refine g_callVi0 (As := [.int x1]) C hG (kX6_noPost hf) (cwV 1 hts gX6_send_X6_noPost rfl rfl rfl hdvX6_noPost ⟨Nat.le_of_ble_eq_true rfl, Nat.le_of_ble_eq_true rfl⟩) (va_recv hK hG.1 (ci := 6) (q0 := 0) rfl rfl) rfl hl.1 rfl (Nat.le_of_ble_eq_true rfl) dX6_send_8 ⟨Nat.zero_le _, Nat.zero_le _⟩ (fun r_2 g1 H locs hq hG => ?_)
  obtain ⟨rfl, hf⟩ := hq
  refine lv_if_ne (tgt := 22) hx hb dX6_send_11 (by decide) (fun c_3 => ?_) (fun c_3 => ?_)
  · replace hf := hf.1 c_3
    exact vX6_send_b22 C hpost  I_1 X x1 x2 _ _ _ hf hG (lv_sub hl [0, 1, 2] rfl)
  · replace hf := hf.2 c_3
    refine lv_aload_n hx hb dX6_send_14 rfl (lv_at hl 0 rfl) ?_
    refine lv_iload_n hx hb dX6_send_15 rfl (lv_at hl 2 rfl) ?_
    refine g_callVi0 (As := [.int x2]) C hG (kX6_noPost hf) (cwV 1 hts gX6_send_X6_noPost rfl rfl rfl hdvX6_noPost ⟨Nat.le_of_ble_eq_true rfl, Nat.le_of_ble_eq_true rfl⟩) (va_recv hK hG.1 (ci := 6) (q0 := 0) rfl rfl) rfl hl.1 rfl (Nat.le_of_ble_eq_true rfl) dX6_send_16 ⟨Nat.zero_le _, Nat.zero_le _⟩ (fun r_4 g1 H locs hq hG => ?_)
    obtain ⟨rfl, hf⟩ := hq
    refine lv_if_eq (tgt := 26) hx hb dX6_send_19 (by decide) (fun c_5 => ?_) (fun c_5 => ?_)
    · replace hf := hf.1 c_5
      refine lv_iconst (v := (0 : Int32)) hx hb dX6_send_26 (by decide) ?_
      exact vX6_send_b27 C hpost  I_1 X x1 x2 (0 : Int32) _ _ _ hf hG (lv_sub hl [0, 1, 2] rfl)
    · replace hf := hf.2 c_5
      exact vX6_send_b22 C hpost  I_1 X x1 x2 _ _ _ hf hG (lv_sub hl [0, 1, 2] rfl)
set_option maxRecDepth 100000 in
theorem kX6_send {l : Launch} {D : va_G} {B : Nat → Nat} {S : sS} {K : sK} {L : sL} {Y : sY} {O : sO}  {Q : Int32 → (Nat → Int32) → (Nat → Nat → Int32) → Prop} {I : Nat → Int32} {X : Nat → Nat → Int32} {x1 : Int32} {x2 : Int32} (hf : fX6_send Q I X x1 x2) : gMi D B l yX6_send wsX6_send rX6_send 0 0 [.ref (B 0), .int x1, .int x2] (S, K, L, Y, (I, X), O) (fun r g1 => ∃ (I1 : Nat → Int32) (X1 : Nat → Nat → Int32), g1 = (S, K, L, Y, (I1, X1), O) ∧ Q r I1 X1) := by
  refine gMi_of (cc := cX6_send) (maxL := 3) (ret := some .int) (by decide +kernel) rfl (Nat.le_of_ble_eq_true rfl) ?_
  intro p e s m below meth c A hA0 C hG ls hl
  exact vX6_send_b0 C (fun v I X hq => ⟨I, X, rfl, hq⟩) I X x1 x2 _ _ _ hf hG hl
def rX6_knows : Room := { frames := 4, cells := 0, slots := 0, locals := 94 }
theorem hdvX6_knows : yX6_knows.cls = RX6 ∧ yX6_knows.cls ≠ "java/lang/invoke/MethodHandle" ∧ yX6_knows.cls ≠ "java/lang/invoke/VarHandle" ∧ (parseMethodDescriptor yX6_knows.desc).map (fun d => d.parameters.length) = some 1 := by decide +kernel
theorem inX6_knows_wsX60 : ∀ w ∈ wsX60, w ∈ wsX6_knows := (fun _ h => List.mem_cons_of_mem _ (List.mem_append_right _ h))
set_option maxHeartbeats 4000000 in
set_option maxRecDepth 100000 in
theorem vX6_knows_b208 {p : Program} {l : Launch} {e : Env} {s : State} {m : MethodId} {args : Array Value} {below : List Frame} {meth : Method} {c : Code} {D : va_G} {B : Nat → Nat} {A : Nat → Prop} {S : sS} {K : sK} {L : sL} {Y : sY} {O : sO} {post : sG → Prop} {Q : (Nat → Int32) → (Nat → Nat → Int32) → Prop} (C : gX p s m args meth c cX6_knows 9 (none) wsX6_knows RX6 D B A) (hpost : ∀ (I : Nat → Int32) (X : Nat → Nat → Int32), Q I X → post (S, K, L, Y, (I, X), O)) {G52 : (Nat → Int32) → (Nat → Nat → Int32) → Int32 → Int32 → Prop} (hG52 : ∀ (I : Nat → Int32) (X : Nat → Nat → Int32) (y1 : Int32) (y3 : Int32) (H : Heap) (locs : List Loc) (ls : Array Slot), G52 I X y1 y3 → GS D B A s.heap (S, K, L, Y, (I, X), O) H locs → lv_has ls 9 [(0, .ref (B 0)), (1, .int y1), (3, .int y3)] → W p l e (headSpec wsX6_knows rX6_knows).room s m args below meth c H locs 0 0 (MQ below (va_Qv post (gB D B A) A) args s 0 0 A) (F0 m 52 ls [])) {G62 : (Nat → Int32) → (Nat → Nat → Int32) → Int32 → Int32 → Int32 → Prop} (hG62 : ∀ (I : Nat → Int32) (X : Nat → Nat → Int32) (y1 : Int32) (y3 : Int32) (y4 : Int32) (H : Heap) (locs : List Loc) (ls : Array Slot), G62 I X y1 y3 y4 → GS D B A s.heap (S, K, L, Y, (I, X), O) H locs → lv_has ls 9 [(0, .ref (B 0)), (1, .int y1), (3, .int y3), (4, .int y4)] → W p l e (headSpec wsX6_knows rX6_knows).room s m args below meth c H locs 0 0 (MQ below (va_Qv post (gB D B A) A) args s 0 0 A) (F0 m 62 ls [])) {G70 : (Nat → Int32) → (Nat → Nat → Int32) → Int32 → Int32 → Int32 → Int32 → Prop} (hG70 : ∀ (I : Nat → Int32) (X : Nat → Nat → Int32) (y1 : Int32) (y3 : Int32) (y4 : Int32) (y5 : Int32) (H : Heap) (locs : List Loc) (ls : Array Slot), G70 I X y1 y3 y4 y5 → GS D B A s.heap (S, K, L, Y, (I, X), O) H locs → lv_has ls 9 [(0, .ref (B 0)), (1, .int y1), (3, .int y3), (4, .int y4), (5, .int y5)] → W p l e (headSpec wsX6_knows rX6_knows).room s m args below meth c H locs 0 0 (MQ below (va_Qv post (gB D B A) A) args s 0 0 A) (F0 m 70 ls [])) (I : Nat → Int32) (X : Nat → Nat → Int32) (y1 : Int32) (y3 : Int32) (y4 : Int32) (y5 : Int32) (H : Heap) (locs : List Loc) (ls : Array Slot) (hf : fX6_knows_b208 G52 G62 G70 Q I X y1 y3 y4 y5) (hG : GS D B A s.heap (S, K, L, Y, (I, X), O) H locs) (hl : lv_has ls 9 [(0, .ref (B 0)), (1, .int y1), (3, .int y3), (4, .int y4), (5, .int y5)]) : W p l e (headSpec wsX6_knows rX6_knows).room s m args below meth c H locs 0 0 (MQ below (va_Qv post (gB D B A) A) args s 0 0 A) (F0 m 208 ls []) := by
  obtain ⟨hx, hb, hml, hown, hts, hK, hr, hlk, hA, hN⟩ := id C
  unfold fX6_knows_b208 at hf
  obtain ⟨x5_28, ex5_28⟩ : ∃ y : Int32, y = y5 + (1 : Int32) := ⟨_, rfl⟩
  replace hf := hf x5_28 ex5_28
  refine lv_iinc (v := x5_28) (lv' := [(5, .int x5_28), (0, .ref (B 0)), (1, .int y1), (3, .int y3), (4, .int y4)]) hx hb dX6_knows_208 hl (k := 4) rfl (by rw [ex5_28]; rfl) (by decide) rfl (fun ls hl => ?_)
  refine lv_goto (tgt := 70) hx hb dX6_knows_211 (by decide) ?_
  exact hG70 I X y1 y3 y4 x5_28 _ _ _ hf hG (lv_sub hl [1, 2, 3, 4, 0] rfl)
set_option maxHeartbeats 4000000 in
set_option maxRecDepth 100000 in
theorem vX6_knows_b160 {p : Program} {l : Launch} {e : Env} {s : State} {m : MethodId} {args : Array Value} {below : List Frame} {meth : Method} {c : Code} {D : va_G} {B : Nat → Nat} {A : Nat → Prop} {S : sS} {K : sK} {L : sL} {Y : sY} {O : sO} {post : sG → Prop} {Q : (Nat → Int32) → (Nat → Nat → Int32) → Prop} (C : gX p s m args meth c cX6_knows 9 (none) wsX6_knows RX6 D B A) (hpost : ∀ (I : Nat → Int32) (X : Nat → Nat → Int32), Q I X → post (S, K, L, Y, (I, X), O)) {G52 : (Nat → Int32) → (Nat → Nat → Int32) → Int32 → Int32 → Prop} (hG52 : ∀ (I : Nat → Int32) (X : Nat → Nat → Int32) (y1 : Int32) (y3 : Int32) (H : Heap) (locs : List Loc) (ls : Array Slot), G52 I X y1 y3 → GS D B A s.heap (S, K, L, Y, (I, X), O) H locs → lv_has ls 9 [(0, .ref (B 0)), (1, .int y1), (3, .int y3)] → W p l e (headSpec wsX6_knows rX6_knows).room s m args below meth c H locs 0 0 (MQ below (va_Qv post (gB D B A) A) args s 0 0 A) (F0 m 52 ls [])) {G62 : (Nat → Int32) → (Nat → Nat → Int32) → Int32 → Int32 → Int32 → Prop} (hG62 : ∀ (I : Nat → Int32) (X : Nat → Nat → Int32) (y1 : Int32) (y3 : Int32) (y4 : Int32) (H : Heap) (locs : List Loc) (ls : Array Slot), G62 I X y1 y3 y4 → GS D B A s.heap (S, K, L, Y, (I, X), O) H locs → lv_has ls 9 [(0, .ref (B 0)), (1, .int y1), (3, .int y3), (4, .int y4)] → W p l e (headSpec wsX6_knows rX6_knows).room s m args below meth c H locs 0 0 (MQ below (va_Qv post (gB D B A) A) args s 0 0 A) (F0 m 62 ls [])) {G70 : (Nat → Int32) → (Nat → Nat → Int32) → Int32 → Int32 → Int32 → Int32 → Prop} (hG70 : ∀ (I : Nat → Int32) (X : Nat → Nat → Int32) (y1 : Int32) (y3 : Int32) (y4 : Int32) (y5 : Int32) (H : Heap) (locs : List Loc) (ls : Array Slot), G70 I X y1 y3 y4 y5 → GS D B A s.heap (S, K, L, Y, (I, X), O) H locs → lv_has ls 9 [(0, .ref (B 0)), (1, .int y1), (3, .int y3), (4, .int y4), (5, .int y5)] → W p l e (headSpec wsX6_knows rX6_knows).room s m args below meth c H locs 0 0 (MQ below (va_Qv post (gB D B A) A) args s 0 0 A) (F0 m 70 ls [])) {G112 : (Nat → Int32) → (Nat → Nat → Int32) → Int32 → Int32 → Int32 → Int32 → Int32 → Int32 → Prop} (hG112 : ∀ (I : Nat → Int32) (X : Nat → Nat → Int32) (y1 : Int32) (y3 : Int32) (y4 : Int32) (y5 : Int32) (y6 : Int32) (y7 : Int32) (H : Heap) (locs : List Loc) (ls : Array Slot), G112 I X y1 y3 y4 y5 y6 y7 → GS D B A s.heap (S, K, L, Y, (I, X), O) H locs → lv_has ls 9 [(0, .ref (B 0)), (1, .int y1), (3, .int y3), (4, .int y4), (5, .int y5), (6, .int y6), (7, .int y7)] → W p l e (headSpec wsX6_knows rX6_knows).room s m args below meth c H locs 0 0 (MQ below (va_Qv post (gB D B A) A) args s 0 0 A) (F0 m 112 ls [])) (I : Nat → Int32) (X : Nat → Nat → Int32) (y1 : Int32) (y3 : Int32) (y4 : Int32) (y5 : Int32) (y6 : Int32) (y7 : Int32) (H : Heap) (locs : List Loc) (ls : Array Slot) (hf : fX6_knows_b160 G52 G62 G70 G112 Q I X y1 y3 y4 y5 y6 y7) (hG : GS D B A s.heap (S, K, L, Y, (I, X), O) H locs) (hl : lv_has ls 9 [(0, .ref (B 0)), (1, .int y1), (3, .int y3), (4, .int y4), (5, .int y5), (6, .int y6), (7, .int y7)]) : W p l e (headSpec wsX6_knows rX6_knows).room s m args below meth c H locs 0 0 (MQ below (va_Qv post (gB D B A) A) args s 0 0 A) (F0 m 160 ls []) := by
  obtain ⟨hx, hb, hml, hown, hts, hK, hr, hlk, hA, hN⟩ := id C
  unfold fX6_knows_b160 at hf
  obtain ⟨x7_27, ex7_27⟩ : ∃ y : Int32, y = y7 + (1 : Int32) := ⟨_, rfl⟩
  replace hf := hf x7_27 ex7_27
  refine lv_iinc (v := x7_27) (lv' := [(7, .int x7_27), (0, .ref (B 0)), (1, .int y1), (3, .int y3), (4, .int y4), (5, .int y5), (6, .int y6)]) hx hb dX6_knows_160 hl (k := 6) rfl (by rw [ex7_27]; rfl) (by decide) rfl (fun ls hl => ?_)
  refine lv_goto (tgt := 112) hx hb dX6_knows_163 (by decide) ?_
  exact hG112 I X y1 y3 y4 y5 y6 x7_27 _ _ _ hf hG (lv_sub hl [1, 2, 3, 4, 5, 6, 0] rfl)
set_option maxHeartbeats 4000000 in
set_option maxRecDepth 100000 in
theorem vX6_knows_h112 {p : Program} {l : Launch} {e : Env} {s : State} {m : MethodId} {args : Array Value} {below : List Frame} {meth : Method} {c : Code} {D : va_G} {B : Nat → Nat} {A : Nat → Prop} {S : sS} {K : sK} {L : sL} {Y : sY} {O : sO} {post : sG → Prop} {Q : (Nat → Int32) → (Nat → Nat → Int32) → Prop} (C : gX p s m args meth c cX6_knows 9 (none) wsX6_knows RX6 D B A) (hpost : ∀ (I : Nat → Int32) (X : Nat → Nat → Int32), Q I X → post (S, K, L, Y, (I, X), O)) {G52 : (Nat → Int32) → (Nat → Nat → Int32) → Int32 → Int32 → Prop} (hG52 : ∀ (I : Nat → Int32) (X : Nat → Nat → Int32) (y1 : Int32) (y3 : Int32) (H : Heap) (locs : List Loc) (ls : Array Slot), G52 I X y1 y3 → GS D B A s.heap (S, K, L, Y, (I, X), O) H locs → lv_has ls 9 [(0, .ref (B 0)), (1, .int y1), (3, .int y3)] → W p l e (headSpec wsX6_knows rX6_knows).room s m args below meth c H locs 0 0 (MQ below (va_Qv post (gB D B A) A) args s 0 0 A) (F0 m 52 ls [])) {G62 : (Nat → Int32) → (Nat → Nat → Int32) → Int32 → Int32 → Int32 → Prop} (hG62 : ∀ (I : Nat → Int32) (X : Nat → Nat → Int32) (y1 : Int32) (y3 : Int32) (y4 : Int32) (H : Heap) (locs : List Loc) (ls : Array Slot), G62 I X y1 y3 y4 → GS D B A s.heap (S, K, L, Y, (I, X), O) H locs → lv_has ls 9 [(0, .ref (B 0)), (1, .int y1), (3, .int y3), (4, .int y4)] → W p l e (headSpec wsX6_knows rX6_knows).room s m args below meth c H locs 0 0 (MQ below (va_Qv post (gB D B A) A) args s 0 0 A) (F0 m 62 ls [])) {G70 : (Nat → Int32) → (Nat → Nat → Int32) → Int32 → Int32 → Int32 → Int32 → Prop} (hG70 : ∀ (I : Nat → Int32) (X : Nat → Nat → Int32) (y1 : Int32) (y3 : Int32) (y4 : Int32) (y5 : Int32) (H : Heap) (locs : List Loc) (ls : Array Slot), G70 I X y1 y3 y4 y5 → GS D B A s.heap (S, K, L, Y, (I, X), O) H locs → lv_has ls 9 [(0, .ref (B 0)), (1, .int y1), (3, .int y3), (4, .int y4), (5, .int y5)] → W p l e (headSpec wsX6_knows rX6_knows).room s m args below meth c H locs 0 0 (MQ below (va_Qv post (gB D B A) A) args s 0 0 A) (F0 m 70 ls [])) : ∀ (n112 : Nat) (I : Nat → Int32) (X : Nat → Nat → Int32) (y1 : Int32) (y3 : Int32) (y4 : Int32) (y5 : Int32) (y6 : Int32) (y7 : Int32) (H : Heap) (locs : List Loc) (ls : Array Slot), fX6_knows_h112 G52 G62 G70 Q n112 I X y1 y3 y4 y5 y6 y7 → GS D B A s.heap (S, K, L, Y, (I, X), O) H locs → lv_has ls 9 [(0, .ref (B 0)), (1, .int y1), (3, .int y3), (4, .int y4), (5, .int y5), (6, .int y6), (7, .int y7)] → W p l e (headSpec wsX6_knows rX6_knows).room s m args below meth c H locs 0 0 (MQ below (va_Qv post (gB D B A) A) args s 0 0 A) (F0 m 112 ls []) := by
  obtain ⟨hx, hb, hml, hown, hts, hK, hr, hlk, hA, hN⟩ := id C
  intro n112
  induction n112 with
  | zero =>
    intro I X y1 y3 y4 y5 y6 y7 H locs ls hf
    exact False.elim hf
  | succ n112 hG112 =>
    intro I X y1 y3 y4 y5 y6 y7 H locs ls hf hG hl
    unfold fX6_knows_h112 at hf
    refine lv_iload hx hb dX6_knows_112 (lv_at hl 6 rfl) ?_
    refine lv_aload_n hx hb dX6_knows_114 rfl (lv_at hl 0 rfl) ?_
    refine gg_M_9 C hG inX6_knows_wsX60 (hts _ (List.mem_of_getElem? (i := 4) rfl)) dX6_knows_115 ?_
    refine lv_icmp_ge (tgt := 166) hx hb dX6_knows_118 (by decide) (fun c_18 => ?_) (fun c_18 => ?_)
    · replace hf := hf.1 c_18
      refine lv_iload hx hb dX6_knows_166 (lv_at hl 5 rfl) ?_
      refine lv_aload_n hx hb dX6_knows_168 rfl (lv_at hl 0 rfl) ?_
      refine lv_iload_n hx hb dX6_knows_169 rfl (lv_at hl 1 rfl) ?_
      refine lv_iload hx hb dX6_knows_170 (lv_at hl 4 rfl) ?_
      refine lv_iload hx hb dX6_knows_172 (lv_at hl 3 rfl) ?_
      refine g_callVi0 (As := [.int y1, .int y5, .int y4]) C hG (kX6_takesFrom hf) (cwV 3 hts gX6_knows_X6_takesFrom rfl rfl rfl hdvX6_takesFrom ⟨Nat.le_of_ble_eq_true rfl, Nat.le_of_ble_eq_true rfl⟩) (va_recv hK hG.1 (ci := 6) (q0 := 0) rfl rfl) rfl hl.1 rfl (Nat.le_of_ble_eq_true rfl) dX6_knows_174 ⟨Nat.zero_le _, Nat.zero_le _⟩ (fun r_19 g1 H locs hq hG => ?_)
      obtain ⟨rfl, hf⟩ := hq
      refine lv_icmp_lt (tgt := 183) hx hb dX6_knows_177 (by decide) (fun c_20 => ?_) (fun c_20 => ?_)
      · replace hf := hf.1 c_20
        refine lv_aload_n hx hb dX6_knows_183 rfl (lv_at hl 0 rfl) ?_
        refine gg_M_14 C hG inX6_knows_wsX60 (hts _ (List.mem_of_getElem? (i := 2) rfl)) dX6_knows_184 ?_
        refine lv_bipush (v := (48 : Int32)) hx hb dX6_knows_187 (by decide) ?_
        refine lv_iload_n hx hb dX6_knows_189 rfl (lv_at hl 1 rfl) ?_
        refine lv_imul hx hb dX6_knows_190 ?_
        refine lv_iload hx hb dX6_knows_191 (lv_at hl 4 rfl) ?_
        refine lv_iadd hx hb dX6_knows_193 ?_
        refine lv_bipush (v := (32 : Int32)) hx hb dX6_knows_194 (by decide) ?_
        refine lv_imul hx hb dX6_knows_196 ?_
        refine lv_iload hx hb dX6_knows_197 (lv_at hl 3 rfl) ?_
        refine lv_bipush (v := (32 : Int32)) hx hb dX6_knows_199 (by decide) ?_
        refine lv_irem hx hb dX6_knows_201 (by decide) ?_
        refine lv_iadd hx hb dX6_knows_202 ?_
        refine lv_iload hx hb dX6_knows_203 (lv_at hl 5 rfl) ?_
        obtain ⟨h_21, hf⟩ := hf
        refine gs_M_14 C hG h_21 dX6_knows_205 (fun X_22 H locs eX_22 hG => ?_)
        replace hf := hf X_22 eX_22
        refine lv_iconst (v := (1 : Int32)) hx hb dX6_knows_206 (by decide) ?_
        refine lv_istore_n (lv' := [(3, .int (1 : Int32)), (0, .ref (B 0)), (1, .int y1), (4, .int y4), (5, .int y5), (6, .int y6), (7, .int y7)]) hx hb dX6_knows_207 rfl hl (by decide) rfl (fun ls hl => ?_)
        exact vX6_knows_b208 C hpost hG52 hG62 hG70 I X_22 y1 (1 : Int32) y4 y5 _ _ _ hf hG (lv_sub hl [1, 2, 0, 3, 4] rfl)
      · replace hf := hf.2 c_20
        refine lv_goto (tgt := 208) hx hb dX6_knows_180 (by decide) ?_
        exact vX6_knows_b208 C hpost hG52 hG62 hG70 I X y1 y3 y4 y5 _ _ _ hf hG (lv_sub hl [0, 1, 2, 3, 4] rfl)
    · replace hf := hf.2 c_18
      refine lv_aload_n hx hb dX6_knows_121 rfl (lv_at hl 0 rfl) ?_
      refine lv_iload hx hb dX6_knows_122 (lv_at hl 4 rfl) ?_
      refine lv_iload hx hb dX6_knows_124 (lv_at hl 6 rfl) ?_
      refine lv_iload hx hb dX6_knows_126 (lv_at hl 3 rfl) ?_
      refine g_callVi0 (As := [.int y5, .int y7, .int y4]) C hG (kX6_taken hf) (cwV 3 hts gX6_knows_X6_taken rfl rfl rfl hdvX6_taken ⟨Nat.le_of_ble_eq_true rfl, Nat.le_of_ble_eq_true rfl⟩) (va_recv hK hG.1 (ci := 6) (q0 := 0) rfl rfl) rfl hl.1 rfl (Nat.le_of_ble_eq_true rfl) dX6_knows_128 ⟨Nat.zero_le _, Nat.zero_le _⟩ (fun r_23 g1 H locs hq hG => ?_)
      obtain ⟨rfl, hf⟩ := hq
      refine lv_istore (lv' := [(8, .int r_23), (0, .ref (B 0)), (1, .int y1), (3, .int y3), (4, .int y4), (5, .int y5), (6, .int y6), (7, .int y7)]) hx hb dX6_knows_131 hl (by decide) rfl (fun ls hl => ?_)
      refine lv_iload hx hb dX6_knows_133 (lv_at hl 0 rfl) ?_
      refine lv_if_le (tgt := 160) hx hb dX6_knows_135 (by decide) (fun c_24 => ?_) (fun c_24 => ?_)
      · replace hf := hf.1 c_24
        exact vX6_knows_b160 C hpost hG52 hG62 hG70 hG112 I X y1 y3 y4 y5 y6 y7 _ _ _ hf hG (lv_sub hl [1, 2, 3, 4, 5, 6, 7] rfl)
      · replace hf := hf.2 c_24
        refine lv_iload hx hb dX6_knows_138 (lv_at hl 6 rfl) ?_
        refine lv_iload hx hb dX6_knows_140 (lv_at hl 0 rfl) ?_
        refine lv_aload_n hx hb dX6_knows_142 rfl (lv_at hl 1 rfl) ?_
        refine lv_iload_n hx hb dX6_knows_143 rfl (lv_at hl 2 rfl) ?_
        refine lv_iload hx hb dX6_knows_144 (lv_at hl 7 rfl) ?_
        refine lv_iload hx hb dX6_knows_146 (lv_at hl 4 rfl) ?_
        refine lv_iload hx hb dX6_knows_148 (lv_at hl 0 rfl) ?_
        refine lv_iadd hx hb dX6_knows_150 ?_
        refine g_callVi0 (As := [.int y1, .int y7, .int (y4 + r_23)]) C hG (kX6_takesFrom hf) (cwV 3 hts gX6_knows_X6_takesFrom rfl rfl rfl hdvX6_takesFrom ⟨Nat.le_of_ble_eq_true rfl, Nat.le_of_ble_eq_true rfl⟩) (va_recv hK hG.1 (ci := 6) (q0 := 0) rfl rfl) rfl hl.1 rfl (Nat.le_of_ble_eq_true rfl) dX6_knows_151 ⟨Nat.zero_le _, Nat.zero_le _⟩ (fun r_25 g1 H locs hq hG => ?_)
        obtain ⟨rfl, hf⟩ := hq
        refine lv_iadd hx hb dX6_knows_154 ?_
        refine va_mmin hx hb (hml.trans hl.1.symm) hown (hts _ (List.mem_of_getElem? (i := 5) rfl)) (hts _ (List.mem_of_getElem? (i := 6) rfl)) (hts _ (List.mem_of_getElem? (i := 7) rfl)) (hts _ (List.mem_of_getElem? (i := 8) rfl)) (Nat.le_of_ble_eq_true rfl) (Nat.le_of_ble_eq_true rfl) (Nat.zero_le _) (Nat.zero_le _) dX6_knows_155 ?_
        refine lv_topi (fun x6_26 ex6_26 => ?_)
        replace hf := hf x6_26 ex6_26
        refine lv_istore (lv' := [(6, .int x6_26), (8, .int r_23), (0, .ref (B 0)), (1, .int y1), (3, .int y3), (4, .int y4), (5, .int y5), (7, .int y7)]) hx hb dX6_knows_158 hl (by decide) rfl (fun ls hl => ?_)
        exact vX6_knows_b160 C hpost hG52 hG62 hG70 hG112 I X y1 y3 y4 y5 x6_26 y7 _ _ _ hf hG (lv_sub hl [2, 3, 4, 5, 6, 0, 7] rfl)
set_option maxHeartbeats 4000000 in
set_option maxRecDepth 100000 in
theorem vX6_knows_b109 {p : Program} {l : Launch} {e : Env} {s : State} {m : MethodId} {args : Array Value} {below : List Frame} {meth : Method} {c : Code} {D : va_G} {B : Nat → Nat} {A : Nat → Prop} {S : sS} {K : sK} {L : sL} {Y : sY} {O : sO} {post : sG → Prop} {Q : (Nat → Int32) → (Nat → Nat → Int32) → Prop} (C : gX p s m args meth c cX6_knows 9 (none) wsX6_knows RX6 D B A) (hpost : ∀ (I : Nat → Int32) (X : Nat → Nat → Int32), Q I X → post (S, K, L, Y, (I, X), O)) {G52 : (Nat → Int32) → (Nat → Nat → Int32) → Int32 → Int32 → Prop} (hG52 : ∀ (I : Nat → Int32) (X : Nat → Nat → Int32) (y1 : Int32) (y3 : Int32) (H : Heap) (locs : List Loc) (ls : Array Slot), G52 I X y1 y3 → GS D B A s.heap (S, K, L, Y, (I, X), O) H locs → lv_has ls 9 [(0, .ref (B 0)), (1, .int y1), (3, .int y3)] → W p l e (headSpec wsX6_knows rX6_knows).room s m args below meth c H locs 0 0 (MQ below (va_Qv post (gB D B A) A) args s 0 0 A) (F0 m 52 ls [])) {G62 : (Nat → Int32) → (Nat → Nat → Int32) → Int32 → Int32 → Int32 → Prop} (hG62 : ∀ (I : Nat → Int32) (X : Nat → Nat → Int32) (y1 : Int32) (y3 : Int32) (y4 : Int32) (H : Heap) (locs : List Loc) (ls : Array Slot), G62 I X y1 y3 y4 → GS D B A s.heap (S, K, L, Y, (I, X), O) H locs → lv_has ls 9 [(0, .ref (B 0)), (1, .int y1), (3, .int y3), (4, .int y4)] → W p l e (headSpec wsX6_knows rX6_knows).room s m args below meth c H locs 0 0 (MQ below (va_Qv post (gB D B A) A) args s 0 0 A) (F0 m 62 ls [])) {G70 : (Nat → Int32) → (Nat → Nat → Int32) → Int32 → Int32 → Int32 → Int32 → Prop} (hG70 : ∀ (I : Nat → Int32) (X : Nat → Nat → Int32) (y1 : Int32) (y3 : Int32) (y4 : Int32) (y5 : Int32) (H : Heap) (locs : List Loc) (ls : Array Slot), G70 I X y1 y3 y4 y5 → GS D B A s.heap (S, K, L, Y, (I, X), O) H locs → lv_has ls 9 [(0, .ref (B 0)), (1, .int y1), (3, .int y3), (4, .int y4), (5, .int y5)] → W p l e (headSpec wsX6_knows rX6_knows).room s m args below meth c H locs 0 0 (MQ below (va_Qv post (gB D B A) A) args s 0 0 A) (F0 m 70 ls [])) (I : Nat → Int32) (X : Nat → Nat → Int32) (y1 : Int32) (y3 : Int32) (y4 : Int32) (y5 : Int32) (y6 : Int32) (H : Heap) (locs : List Loc) (ls : Array Slot) (hf : fX6_knows_b109 G52 G62 G70 Q I X y1 y3 y4 y5 y6) (hG : GS D B A s.heap (S, K, L, Y, (I, X), O) H locs) (hl : lv_has ls 9 [(0, .ref (B 0)), (1, .int y1), (3, .int y3), (4, .int y4), (5, .int y5), (6, .int y6)]) : W p l e (headSpec wsX6_knows rX6_knows).room s m args below meth c H locs 0 0 (MQ below (va_Qv post (gB D B A) A) args s 0 0 A) (F0 m 109 ls []) := by
  obtain ⟨hx, hb, hml, hown, hts, hK, hr, hlk, hA, hN⟩ := id C
  unfold fX6_knows_b109 at hf
  refine lv_iconst (v := (0 : Int32)) hx hb dX6_knows_109 (by decide) ?_
  refine lv_istore (lv' := [(7, .int (0 : Int32)), (0, .ref (B 0)), (1, .int y1), (3, .int y3), (4, .int y4), (5, .int y5), (6, .int y6)]) hx hb dX6_knows_110 hl (by decide) rfl (fun ls hl => ?_)
  obtain ⟨n112, hf⟩ := hf
  exact vX6_knows_h112 C hpost hG52 hG62 hG70 n112 I X y1 y3 y4 y5 y6 (0 : Int32) _ _ _ hf hG (lv_sub hl [1, 2, 3, 4, 5, 6, 0] rfl)
set_option maxHeartbeats 4000000 in
set_option maxRecDepth 100000 in
theorem vX6_knows_h70 {p : Program} {l : Launch} {e : Env} {s : State} {m : MethodId} {args : Array Value} {below : List Frame} {meth : Method} {c : Code} {D : va_G} {B : Nat → Nat} {A : Nat → Prop} {S : sS} {K : sK} {L : sL} {Y : sY} {O : sO} {post : sG → Prop} {Q : (Nat → Int32) → (Nat → Nat → Int32) → Prop} (C : gX p s m args meth c cX6_knows 9 (none) wsX6_knows RX6 D B A) (hpost : ∀ (I : Nat → Int32) (X : Nat → Nat → Int32), Q I X → post (S, K, L, Y, (I, X), O)) {G52 : (Nat → Int32) → (Nat → Nat → Int32) → Int32 → Int32 → Prop} (hG52 : ∀ (I : Nat → Int32) (X : Nat → Nat → Int32) (y1 : Int32) (y3 : Int32) (H : Heap) (locs : List Loc) (ls : Array Slot), G52 I X y1 y3 → GS D B A s.heap (S, K, L, Y, (I, X), O) H locs → lv_has ls 9 [(0, .ref (B 0)), (1, .int y1), (3, .int y3)] → W p l e (headSpec wsX6_knows rX6_knows).room s m args below meth c H locs 0 0 (MQ below (va_Qv post (gB D B A) A) args s 0 0 A) (F0 m 52 ls [])) {G62 : (Nat → Int32) → (Nat → Nat → Int32) → Int32 → Int32 → Int32 → Prop} (hG62 : ∀ (I : Nat → Int32) (X : Nat → Nat → Int32) (y1 : Int32) (y3 : Int32) (y4 : Int32) (H : Heap) (locs : List Loc) (ls : Array Slot), G62 I X y1 y3 y4 → GS D B A s.heap (S, K, L, Y, (I, X), O) H locs → lv_has ls 9 [(0, .ref (B 0)), (1, .int y1), (3, .int y3), (4, .int y4)] → W p l e (headSpec wsX6_knows rX6_knows).room s m args below meth c H locs 0 0 (MQ below (va_Qv post (gB D B A) A) args s 0 0 A) (F0 m 62 ls [])) : ∀ (n70 : Nat) (I : Nat → Int32) (X : Nat → Nat → Int32) (y1 : Int32) (y3 : Int32) (y4 : Int32) (y5 : Int32) (H : Heap) (locs : List Loc) (ls : Array Slot), fX6_knows_h70 G52 G62 Q n70 I X y1 y3 y4 y5 → GS D B A s.heap (S, K, L, Y, (I, X), O) H locs → lv_has ls 9 [(0, .ref (B 0)), (1, .int y1), (3, .int y3), (4, .int y4), (5, .int y5)] → W p l e (headSpec wsX6_knows rX6_knows).room s m args below meth c H locs 0 0 (MQ below (va_Qv post (gB D B A) A) args s 0 0 A) (F0 m 70 ls []) := by
  obtain ⟨hx, hb, hml, hown, hts, hK, hr, hlk, hA, hN⟩ := id C
  intro n70
  induction n70 with
  | zero =>
    intro I X y1 y3 y4 y5 H locs ls hf
    exact False.elim hf
  | succ n70 hG70 =>
    intro I X y1 y3 y4 y5 H locs ls hf hG hl
    unfold fX6_knows_h70 at hf
    refine lv_iload hx hb dX6_knows_70 (lv_at hl 4 rfl) ?_
    refine lv_aload_n hx hb dX6_knows_72 rfl (lv_at hl 0 rfl) ?_
    refine gg_M_9 C hG inX6_knows_wsX60 (hts _ (List.mem_of_getElem? (i := 4) rfl)) dX6_knows_73 ?_
    refine lv_icmp_ge (tgt := 214) hx hb dX6_knows_76 (by decide) (fun c_12 => ?_) (fun c_12 => ?_)
    · replace hf := hf.1 c_12
      obtain ⟨x4_13, ex4_13⟩ : ∃ y : Int32, y = y4 + (-1 : Int32) := ⟨_, rfl⟩
      replace hf := hf x4_13 ex4_13
      refine lv_iinc (v := x4_13) (lv' := [(4, .int x4_13), (0, .ref (B 0)), (1, .int y1), (3, .int y3), (5, .int y5)]) hx hb dX6_knows_214 hl (k := 3) rfl (by rw [ex4_13]; rfl) (by decide) rfl (fun ls hl => ?_)
      refine lv_goto (tgt := 62) hx hb dX6_knows_217 (by decide) ?_
      exact hG62 I X y1 y3 x4_13 _ _ _ hf hG (lv_sub hl [1, 2, 3, 0] rfl)
    · replace hf := hf.2 c_12
      refine lv_iconst (v := (1 : Int32)) hx hb dX6_knows_79 (by decide) ?_
      refine lv_aload_n hx hb dX6_knows_80 rfl (lv_at hl 0 rfl) ?_
      refine lv_iload_n hx hb dX6_knows_81 rfl (lv_at hl 1 rfl) ?_
      refine lv_iload hx hb dX6_knows_82 (lv_at hl 4 rfl) ?_
      refine lv_iload hx hb dX6_knows_84 (lv_at hl 3 rfl) ?_
      refine lv_iconst (v := (1 : Int32)) hx hb dX6_knows_86 (by decide) ?_
      refine lv_iadd hx hb dX6_knows_87 ?_
      refine g_callVi0 (As := [.int y1, .int y5, .int (y4 + (1 : Int32))]) C hG (kX6_takesFrom hf) (cwV 3 hts gX6_knows_X6_takesFrom rfl rfl rfl hdvX6_takesFrom ⟨Nat.le_of_ble_eq_true rfl, Nat.le_of_ble_eq_true rfl⟩) (va_recv hK hG.1 (ci := 6) (q0 := 0) rfl rfl) rfl hl.1 rfl (Nat.le_of_ble_eq_true rfl) dX6_knows_88 ⟨Nat.zero_le _, Nat.zero_le _⟩ (fun r_14 g1 H locs hq hG => ?_)
      obtain ⟨rfl, hf⟩ := hq
      refine lv_iadd hx hb dX6_knows_91 ?_
      refine lv_topi (fun x6_15 ex6_15 => ?_)
      replace hf := hf x6_15 ex6_15
      refine lv_istore (lv' := [(6, .int x6_15), (0, .ref (B 0)), (1, .int y1), (3, .int y3), (4, .int y4), (5, .int y5)]) hx hb dX6_knows_92 hl (by decide) rfl (fun ls hl => ?_)
      refine lv_aload_n hx hb dX6_knows_94 rfl (lv_at hl 1 rfl) ?_
      refine lv_iload_n hx hb dX6_knows_95 rfl (lv_at hl 2 rfl) ?_
      refine lv_iload hx hb dX6_knows_96 (lv_at hl 5 rfl) ?_
      refine lv_iload hx hb dX6_knows_98 (lv_at hl 4 rfl) ?_
      refine g_callVi0 (As := [.int y1, .int y5, .int y4]) C hG (kX6_takesPost hf) (cwV 3 hts gX6_knows_X6_takesPost rfl rfl rfl hdvX6_takesPost ⟨Nat.le_of_ble_eq_true rfl, Nat.le_of_ble_eq_true rfl⟩) (va_recv hK hG.1 (ci := 6) (q0 := 0) rfl rfl) rfl hl.1 rfl (Nat.le_of_ble_eq_true rfl) dX6_knows_100 ⟨Nat.zero_le _, Nat.zero_le _⟩ (fun r_16 g1 H locs hq hG => ?_)
      obtain ⟨rfl, hf⟩ := hq
      refine lv_if_eq (tgt := 109) hx hb dX6_knows_103 (by decide) (fun c_17 => ?_) (fun c_17 => ?_)
      · replace hf := hf.1 c_17
        exact vX6_knows_b109 C hpost hG52 hG62 hG70 I X y1 y3 y4 y5 x6_15 _ _ _ hf hG (lv_sub hl [1, 2, 3, 4, 5, 0] rfl)
      · replace hf := hf.2 c_17
        refine lv_iconst (v := (1 : Int32)) hx hb dX6_knows_106 (by decide) ?_
        refine lv_istore (lv' := [(6, .int (1 : Int32)), (0, .ref (B 0)), (1, .int y1), (3, .int y3), (4, .int y4), (5, .int y5)]) hx hb dX6_knows_107 hl (by decide) rfl (fun ls hl => ?_)
        exact vX6_knows_b109 C hpost hG52 hG62 hG70 I X y1 y3 y4 y5 (1 : Int32) _ _ _ hf hG (lv_sub hl [1, 2, 3, 4, 5, 0] rfl)
set_option maxHeartbeats 4000000 in
set_option maxRecDepth 100000 in
theorem vX6_knows_h62 {p : Program} {l : Launch} {e : Env} {s : State} {m : MethodId} {args : Array Value} {below : List Frame} {meth : Method} {c : Code} {D : va_G} {B : Nat → Nat} {A : Nat → Prop} {S : sS} {K : sK} {L : sL} {Y : sY} {O : sO} {post : sG → Prop} {Q : (Nat → Int32) → (Nat → Nat → Int32) → Prop} (C : gX p s m args meth c cX6_knows 9 (none) wsX6_knows RX6 D B A) (hpost : ∀ (I : Nat → Int32) (X : Nat → Nat → Int32), Q I X → post (S, K, L, Y, (I, X), O)) {G52 : (Nat → Int32) → (Nat → Nat → Int32) → Int32 → Int32 → Prop} (hG52 : ∀ (I : Nat → Int32) (X : Nat → Nat → Int32) (y1 : Int32) (y3 : Int32) (H : Heap) (locs : List Loc) (ls : Array Slot), G52 I X y1 y3 → GS D B A s.heap (S, K, L, Y, (I, X), O) H locs → lv_has ls 9 [(0, .ref (B 0)), (1, .int y1), (3, .int y3)] → W p l e (headSpec wsX6_knows rX6_knows).room s m args below meth c H locs 0 0 (MQ below (va_Qv post (gB D B A) A) args s 0 0 A) (F0 m 52 ls [])) : ∀ (n62 : Nat) (I : Nat → Int32) (X : Nat → Nat → Int32) (y1 : Int32) (y3 : Int32) (y4 : Int32) (H : Heap) (locs : List Loc) (ls : Array Slot), fX6_knows_h62 G52 Q n62 I X y1 y3 y4 → GS D B A s.heap (S, K, L, Y, (I, X), O) H locs → lv_has ls 9 [(0, .ref (B 0)), (1, .int y1), (3, .int y3), (4, .int y4)] → W p l e (headSpec wsX6_knows rX6_knows).room s m args below meth c H locs 0 0 (MQ below (va_Qv post (gB D B A) A) args s 0 0 A) (F0 m 62 ls []) := by
  obtain ⟨hx, hb, hml, hown, hts, hK, hr, hlk, hA, hN⟩ := id C
  intro n62
  induction n62 with
  | zero =>
    intro I X y1 y3 y4 H locs ls hf
    exact False.elim hf
  | succ n62 hG62 =>
    intro I X y1 y3 y4 H locs ls hf hG hl
    unfold fX6_knows_h62 at hf
    refine lv_iload hx hb dX6_knows_62 (lv_at hl 3 rfl) ?_
    refine lv_if_lt (tgt := 220) hx hb dX6_knows_64 (by decide) (fun c_11 => ?_) (fun c_11 => ?_)
    · replace hf := hf.1 c_11
      refine lv_goto (tgt := 52) hx hb dX6_knows_220 (by decide) ?_
      exact hG52 I X y1 y3 _ _ _ hf hG (lv_sub hl [0, 1, 2] rfl)
    · replace hf := hf.2 c_11
      refine lv_iconst (v := (0 : Int32)) hx hb dX6_knows_67 (by decide) ?_
      refine lv_istore (lv' := [(5, .int (0 : Int32)), (0, .ref (B 0)), (1, .int y1), (3, .int y3), (4, .int y4)]) hx hb dX6_knows_68 hl (by decide) rfl (fun ls hl => ?_)
      obtain ⟨n70, hf⟩ := hf
      exact vX6_knows_h70 C hpost hG52 hG62 n70 I X y1 y3 y4 (0 : Int32) _ _ _ hf hG (lv_sub hl [1, 2, 3, 4, 0] rfl)
set_option maxHeartbeats 4000000 in
set_option maxRecDepth 100000 in
theorem vX6_knows_h52 {p : Program} {l : Launch} {e : Env} {s : State} {m : MethodId} {args : Array Value} {below : List Frame} {meth : Method} {c : Code} {D : va_G} {B : Nat → Nat} {A : Nat → Prop} {S : sS} {K : sK} {L : sL} {Y : sY} {O : sO} {post : sG → Prop} {Q : (Nat → Int32) → (Nat → Nat → Int32) → Prop} (C : gX p s m args meth c cX6_knows 9 (none) wsX6_knows RX6 D B A) (hpost : ∀ (I : Nat → Int32) (X : Nat → Nat → Int32), Q I X → post (S, K, L, Y, (I, X), O))  : ∀ (n52 : Nat) (I : Nat → Int32) (X : Nat → Nat → Int32) (y1 : Int32) (y3 : Int32) (H : Heap) (locs : List Loc) (ls : Array Slot), fX6_knows_h52 Q n52 I X y1 y3 → GS D B A s.heap (S, K, L, Y, (I, X), O) H locs → lv_has ls 9 [(0, .ref (B 0)), (1, .int y1), (3, .int y3)] → W p l e (headSpec wsX6_knows rX6_knows).room s m args below meth c H locs 0 0 (MQ below (va_Qv post (gB D B A) A) args s 0 0 A) (F0 m 52 ls []) := by
  obtain ⟨hx, hb, hml, hown, hts, hK, hr, hlk, hA, hN⟩ := id C
  intro n52
  induction n52 with
  | zero =>
    intro I X y1 y3 H locs ls hf
    exact False.elim hf
  | succ n52 hG52 =>
    intro I X y1 y3 H locs ls hf hG hl
    unfold fX6_knows_h52 at hf
    refine lv_iload_n hx hb dX6_knows_52 rfl (lv_at hl 2 rfl) ?_
    refine lv_if_eq (tgt := 223) hx hb dX6_knows_53 (by decide) (fun c_10 => ?_) (fun c_10 => ?_)
    · replace hf := hf.1 c_10
      exact g_vret C hG (hpost _ _ hf) dX6_knows_223
    · replace hf := hf.2 c_10
      refine lv_iconst (v := (0 : Int32)) hx hb dX6_knows_56 (by decide) ?_
      refine lv_istore_n (lv' := [(3, .int (0 : Int32)), (0, .ref (B 0)), (1, .int y1)]) hx hb dX6_knows_57 rfl hl (by decide) rfl (fun ls hl => ?_)
      refine lv_bipush (v := (63 : Int32)) hx hb dX6_knows_58 (by decide) ?_
      refine lv_istore (lv' := [(4, .int (63 : Int32)), (3, .int (0 : Int32)), (0, .ref (B 0)), (1, .int y1)]) hx hb dX6_knows_60 hl (by decide) rfl (fun ls hl => ?_)
      obtain ⟨n62, hf⟩ := hf
      exact vX6_knows_h62 C hpost hG52 n62 I X y1 (0 : Int32) (63 : Int32) _ _ _ hf hG (lv_sub hl [2, 3, 1, 0] rfl)
set_option maxHeartbeats 4000000 in
set_option maxRecDepth 100000 in
theorem vX6_knows_h27 {p : Program} {l : Launch} {e : Env} {s : State} {m : MethodId} {args : Array Value} {below : List Frame} {meth : Method} {c : Code} {D : va_G} {B : Nat → Nat} {A : Nat → Prop} {S : sS} {K : sK} {L : sL} {Y : sY} {O : sO} {post : sG → Prop} {Q : (Nat → Int32) → (Nat → Nat → Int32) → Prop} (C : gX p s m args meth c cX6_knows 9 (none) wsX6_knows RX6 D B A) (hpost : ∀ (I : Nat → Int32) (X : Nat → Nat → Int32), Q I X → post (S, K, L, Y, (I, X), O))  : ∀ (n27 : Nat) (I : Nat → Int32) (X : Nat → Nat → Int32) (y1 : Int32) (y2 : Int32) (y3 : Int32) (H : Heap) (locs : List Loc) (ls : Array Slot), fX6_knows_h27 Q n27 I X y1 y2 y3 → GS D B A s.heap (S, K, L, Y, (I, X), O) H locs → lv_has ls 9 [(0, .ref (B 0)), (1, .int y1), (2, .int y2), (3, .int y3)] → W p l e (headSpec wsX6_knows rX6_knows).room s m args below meth c H locs 0 0 (MQ below (va_Qv post (gB D B A) A) args s 0 0 A) (F0 m 27 ls []) := by
  obtain ⟨hx, hb, hml, hown, hts, hK, hr, hlk, hA, hN⟩ := id C
  intro n27
  induction n27 with
  | zero =>
    intro I X y1 y2 y3 H locs ls hf
    exact False.elim hf
  | succ n27 hG27 =>
    intro I X y1 y2 y3 H locs ls hf hG hl
    unfold fX6_knows_h27 at hf
    refine lv_iload_n hx hb dX6_knows_27 rfl (lv_at hl 3 rfl) ?_
    refine lv_iload_n hx hb dX6_knows_28 rfl (lv_at hl 2 rfl) ?_
    refine lv_sipush (v := (1536 : Int32)) hx hb dX6_knows_29 (by decide) ?_
    refine lv_iadd hx hb dX6_knows_32 ?_
    refine lv_icmp_ge (tgt := 50) hx hb dX6_knows_33 (by decide) (fun c_6 => ?_) (fun c_6 => ?_)
    · replace hf := hf.1 c_6
      refine lv_iconst (v := (1 : Int32)) hx hb dX6_knows_50 (by decide) ?_
      refine lv_istore_n (lv' := [(3, .int (1 : Int32)), (0, .ref (B 0)), (1, .int y1), (2, .int y2)]) hx hb dX6_knows_51 rfl hl (by decide) rfl (fun ls hl => ?_)
      obtain ⟨n52, hf⟩ := hf
      exact vX6_knows_h52 C hpost  n52 I X y1 (1 : Int32) _ _ _ hf hG (lv_sub hl [1, 2, 0] rfl)
    · replace hf := hf.2 c_6
      refine lv_aload_n hx hb dX6_knows_36 rfl (lv_at hl 0 rfl) ?_
      refine gg_M_14 C hG inX6_knows_wsX60 (hts _ (List.mem_of_getElem? (i := 2) rfl)) dX6_knows_37 ?_
      refine lv_iload_n hx hb dX6_knows_40 rfl (lv_at hl 3 rfl) ?_
      refine lv_ldc (v := (1000000 : Int32)) hx hb hown (hts _ (List.mem_of_getElem? (i := 3) rfl)) dX6_knows_41 ?_
      obtain ⟨h_7, hf⟩ := hf
      refine gs_M_14 C hG h_7 dX6_knows_43 (fun X_8 H locs eX_8 hG => ?_)
      replace hf := hf X_8 eX_8
      obtain ⟨x3_9, ex3_9⟩ : ∃ y : Int32, y = y3 + (1 : Int32) := ⟨_, rfl⟩
      replace hf := hf x3_9 ex3_9
      refine lv_iinc (v := x3_9) (lv' := [(3, .int x3_9), (0, .ref (B 0)), (1, .int y1), (2, .int y2)]) hx hb dX6_knows_44 hl (k := 3) rfl (by rw [ex3_9]; rfl) (by decide) rfl (fun ls hl => ?_)
      refine lv_goto (tgt := 27) hx hb dX6_knows_47 (by decide) ?_
      exact hG27 I X_8 y1 y2 x3_9 _ _ _ hf hG (lv_sub hl [1, 2, 3, 0] rfl)
set_option maxHeartbeats 4000000 in
set_option maxRecDepth 100000 in
theorem vX6_knows_b0 {p : Program} {l : Launch} {e : Env} {s : State} {m : MethodId} {args : Array Value} {below : List Frame} {meth : Method} {c : Code} {D : va_G} {B : Nat → Nat} {A : Nat → Prop} {S : sS} {K : sK} {L : sL} {Y : sY} {O : sO} {post : sG → Prop} {Q : (Nat → Int32) → (Nat → Nat → Int32) → Prop} (C : gX p s m args meth c cX6_knows 9 (none) wsX6_knows RX6 D B A) (hpost : ∀ (I : Nat → Int32) (X : Nat → Nat → Int32), Q I X → post (S, K, L, Y, (I, X), O))  (I : Nat → Int32) (X : Nat → Nat → Int32) (x1 : Int32) (H : Heap) (locs : List Loc) (ls : Array Slot) (hf : fX6_knows Q I X x1) (hG : GS D B A s.heap (S, K, L, Y, (I, X), O) H locs) (hl : lv_has ls 9 [(0, .ref (B 0)), (1, .int x1)]) : W p l e (headSpec wsX6_knows rX6_knows).room s m args below meth c H locs 0 0 (MQ below (va_Qv post (gB D B A) A) args s 0 0 A) (F0 m 0 ls []) := by
  obtain ⟨hx, hb, hml, hown, hts, hK, hr, hlk, hA, hN⟩ := id C
  unfold fX6_knows at hf
  refine lv_aload_n hx hb dX6_knows_0 rfl (lv_at hl 0 rfl) ?_
  refine gg_M_15 C hG inX6_knows_wsX60 (hts _ (List.mem_of_getElem? (i := 1) rfl)) dX6_knows_1 ?_
  refine lv_iload_n hx hb dX6_knows_4 rfl (lv_at hl 1 rfl) ?_
  obtain ⟨h_1, hf⟩ := hf
  refine ga_M_15 C hG h_1 dX6_knows_5 ?_
  refine lv_if_eq (tgt := 10) hx hb dX6_knows_6 (by decide) (fun c_2 => ?_) (fun c_2 => ?_)
  · replace hf := hf.1 c_2
    refine lv_aload_n hx hb dX6_knows_10 rfl (lv_at hl 0 rfl) ?_
    refine gg_M_15 C hG inX6_knows_wsX60 (hts _ (List.mem_of_getElem? (i := 1) rfl)) dX6_knows_11 ?_
    refine lv_iload_n hx hb dX6_knows_14 rfl (lv_at hl 1 rfl) ?_
    refine lv_iconst (v := (1 : Int32)) hx hb dX6_knows_15 (by decide) ?_
    obtain ⟨h_3, hf⟩ := hf
    refine gs_M_15 C hG h_3 dX6_knows_16 (fun X_4 H locs eX_4 hG => ?_)
    replace hf := hf X_4 eX_4
    refine lv_bipush (v := (48 : Int32)) hx hb dX6_knows_17 (by decide) ?_
    refine lv_iload_n hx hb dX6_knows_19 rfl (lv_at hl 1 rfl) ?_
    refine lv_imul hx hb dX6_knows_20 ?_
    refine lv_bipush (v := (32 : Int32)) hx hb dX6_knows_21 (by decide) ?_
    refine lv_imul hx hb dX6_knows_23 ?_
    refine lv_topi (fun x2_5 ex2_5 => ?_)
    replace hf := hf x2_5 ex2_5
    refine lv_istore_n (lv' := [(2, .int x2_5), (0, .ref (B 0)), (1, .int x1)]) hx hb dX6_knows_24 rfl hl (by decide) rfl (fun ls hl => ?_)
    refine lv_iload_n hx hb dX6_knows_25 rfl (lv_at hl 0 rfl) ?_
    refine lv_istore_n (lv' := [(3, .int x2_5), (2, .int x2_5), (0, .ref (B 0)), (1, .int x1)]) hx hb dX6_knows_26 rfl hl (by decide) rfl (fun ls hl => ?_)
    obtain ⟨n27, hf⟩ := hf
    exact vX6_knows_h27 C hpost  n27 I X_4 x1 x2_5 x2_5 _ _ _ hf hG (lv_sub hl [2, 3, 1, 0] rfl)
  · replace hf := hf.2 c_2
    exact g_vret C hG (hpost _ _ hf) dX6_knows_9
set_option maxRecDepth 100000 in
theorem kX6_knows {l : Launch} {D : va_G} {B : Nat → Nat} {S : sS} {K : sK} {L : sL} {Y : sY} {O : sO}  {Q : (Nat → Int32) → (Nat → Nat → Int32) → Prop} {I : Nat → Int32} {X : Nat → Nat → Int32} {x1 : Int32} (hf : fX6_knows Q I X x1) : gMv D B l yX6_knows wsX6_knows rX6_knows 0 0 [.ref (B 0), .int x1] (S, K, L, Y, (I, X), O) (fun g1 => ∃ (I1 : Nat → Int32) (X1 : Nat → Nat → Int32), g1 = (S, K, L, Y, (I1, X1), O) ∧ Q I1 X1) := by
  refine gMv_of (cc := cX6_knows) (maxL := 9) (ret := none) (by decide +kernel) rfl (Nat.le_of_ble_eq_true rfl) ?_
  intro p e s m below meth c A hA0 C hG ls hl
  exact vX6_knows_b0 C (fun I X hq => ⟨I, X, rfl, hq⟩) I X x1 _ _ _ hf hG hl
def rX6_takesPosts : Room := { frames := 5, cells := 0, slots := 0, locals := 122 }
theorem hdvX6_takesPosts : yX6_takesPosts.cls = RX6 ∧ yX6_takesPosts.cls ≠ "java/lang/invoke/MethodHandle" ∧ yX6_takesPosts.cls ≠ "java/lang/invoke/VarHandle" ∧ (parseMethodDescriptor yX6_takesPosts.desc).map (fun d => d.parameters.length) = some 3 := by decide +kernel
theorem inX6_takesPosts_wsX60 : ∀ w ∈ wsX60, w ∈ wsX6_takesPosts := (fun _ h => List.mem_cons_of_mem _ (List.mem_append_right _ h))
set_option maxHeartbeats 4000000 in
set_option maxRecDepth 100000 in
theorem vX6_takesPosts_b70 {p : Program} {l : Launch} {e : Env} {s : State} {m : MethodId} {args : Array Value} {below : List Frame} {meth : Method} {c : Code} {D : va_G} {B : Nat → Nat} {A : Nat → Prop} {S : sS} {K : sK} {L : sL} {Y : sY} {O : sO} {post : Int32 → sG → Prop} {Q : Int32 → (Nat → Int32) → (Nat → Nat → Int32) → Prop} (C : gX p s m args meth c cX6_takesPosts 7 (some .int) wsX6_takesPosts RX6 D B A) (hpost : ∀ (v : Int32) (I : Nat → Int32) (X : Nat → Nat → Int32), Q v I X → post v (S, K, L, Y, (I, X), O)) {G12 : (Nat → Int32) → (Nat → Nat → Int32) → Int32 → Int32 → Int32 → Int32 → Int32 → Prop} (hG12 : ∀ (I : Nat → Int32) (X : Nat → Nat → Int32) (y1 : Int32) (y2 : Int32) (y3 : Int32) (y4 : Int32) (y5 : Int32) (H : Heap) (locs : List Loc) (ls : Array Slot), G12 I X y1 y2 y3 y4 y5 → GS D B A s.heap (S, K, L, Y, (I, X), O) H locs → lv_has ls 7 [(0, .ref (B 0)), (1, .int y1), (2, .int y2), (3, .int y3), (4, .int y4), (5, .int y5)] → W p l e (headSpec wsX6_takesPosts rX6_takesPosts).room s m args below meth c H locs 0 0 (MQ below (va_Qi post (gB D B A) A) args s 0 0 A) (F0 m 12 ls [])) {G22 : (Nat → Int32) → (Nat → Nat → Int32) → Int32 → Int32 → Int32 → Int32 → Int32 → Int32 → Prop} (hG22 : ∀ (I : Nat → Int32) (X : Nat → Nat → Int32) (y1 : Int32) (y2 : Int32) (y3 : Int32) (y4 : Int32) (y5 : Int32) (y6 : Int32) (H : Heap) (locs : List Loc) (ls : Array Slot), G22 I X y1 y2 y3 y4 y5 y6 → GS D B A s.heap (S, K, L, Y, (I, X), O) H locs → lv_has ls 7 [(0, .ref (B 0)), (1, .int y1), (2, .int y2), (3, .int y3), (4, .int y4), (5, .int y5), (6, .int y6)] → W p l e (headSpec wsX6_takesPosts rX6_takesPosts).room s m args below meth c H locs 0 0 (MQ below (va_Qi post (gB D B A) A) args s 0 0 A) (F0 m 22 ls [])) (I : Nat → Int32) (X : Nat → Nat → Int32) (y1 : Int32) (y2 : Int32) (y3 : Int32) (y4 : Int32) (y5 : Int32) (y6 : Int32) (H : Heap) (locs : List Loc) (ls : Array Slot) (hf : fX6_takesPosts_b70 G12 G22 Q I X y1 y2 y3 y4 y5 y6) (hG : GS D B A s.heap (S, K, L, Y, (I, X), O) H locs) (hl : lv_has ls 7 [(0, .ref (B 0)), (1, .int y1), (2, .int y2), (3, .int y3), (4, .int y4), (5, .int y5), (6, .int y6)]) : W p l e (headSpec wsX6_takesPosts rX6_takesPosts).room s m args below meth c H locs 0 0 (MQ below (va_Qi post (gB D B A) A) args s 0 0 A) (F0 m 70 ls []) := by
  obtain ⟨hx, hb, hml, hown, hts, hK, hr, hlk, hA, hN⟩ := id C
  unfold fX6_takesPosts_b70 at hf
  obtain ⟨x6_10, ex6_10⟩ : ∃ y : Int32, y = y6 + (1 : Int32) := ⟨_, rfl⟩
  replace hf := hf x6_10 ex6_10
  refine lv_iinc (v := x6_10) (lv' := [(6, .int x6_10), (0, .ref (B 0)), (1, .int y1), (2, .int y2), (3, .int y3), (4, .int y4), (5, .int y5)]) hx hb dX6_takesPosts_70 hl (k := 6) rfl (by rw [ex6_10]; rfl) (by decide) rfl (fun ls hl => ?_)
  refine lv_goto (tgt := 22) hx hb dX6_takesPosts_73 (by decide) ?_
  exact hG22 I X y1 y2 y3 y4 y5 x6_10 _ _ _ hf hG (lv_sub hl [1, 2, 3, 4, 5, 6, 0] rfl)
set_option maxHeartbeats 4000000 in
set_option maxRecDepth 100000 in
theorem vX6_takesPosts_h22 {p : Program} {l : Launch} {e : Env} {s : State} {m : MethodId} {args : Array Value} {below : List Frame} {meth : Method} {c : Code} {D : va_G} {B : Nat → Nat} {A : Nat → Prop} {S : sS} {K : sK} {L : sL} {Y : sY} {O : sO} {post : Int32 → sG → Prop} {Q : Int32 → (Nat → Int32) → (Nat → Nat → Int32) → Prop} (C : gX p s m args meth c cX6_takesPosts 7 (some .int) wsX6_takesPosts RX6 D B A) (hpost : ∀ (v : Int32) (I : Nat → Int32) (X : Nat → Nat → Int32), Q v I X → post v (S, K, L, Y, (I, X), O)) {G12 : (Nat → Int32) → (Nat → Nat → Int32) → Int32 → Int32 → Int32 → Int32 → Int32 → Prop} (hG12 : ∀ (I : Nat → Int32) (X : Nat → Nat → Int32) (y1 : Int32) (y2 : Int32) (y3 : Int32) (y4 : Int32) (y5 : Int32) (H : Heap) (locs : List Loc) (ls : Array Slot), G12 I X y1 y2 y3 y4 y5 → GS D B A s.heap (S, K, L, Y, (I, X), O) H locs → lv_has ls 7 [(0, .ref (B 0)), (1, .int y1), (2, .int y2), (3, .int y3), (4, .int y4), (5, .int y5)] → W p l e (headSpec wsX6_takesPosts rX6_takesPosts).room s m args below meth c H locs 0 0 (MQ below (va_Qi post (gB D B A) A) args s 0 0 A) (F0 m 12 ls [])) : ∀ (n22 : Nat) (I : Nat → Int32) (X : Nat → Nat → Int32) (y1 : Int32) (y2 : Int32) (y3 : Int32) (y4 : Int32) (y5 : Int32) (y6 : Int32) (H : Heap) (locs : List Loc) (ls : Array Slot), fX6_takesPosts_h22 G12 Q n22 I X y1 y2 y3 y4 y5 y6 → GS D B A s.heap (S, K, L, Y, (I, X), O) H locs → lv_has ls 7 [(0, .ref (B 0)), (1, .int y1), (2, .int y2), (3, .int y3), (4, .int y4), (5, .int y5), (6, .int y6)] → W p l e (headSpec wsX6_takesPosts rX6_takesPosts).room s m args below meth c H locs 0 0 (MQ below (va_Qi post (gB D B A) A) args s 0 0 A) (F0 m 22 ls []) := by
  obtain ⟨hx, hb, hml, hown, hts, hK, hr, hlk, hA, hN⟩ := id C
  intro n22
  induction n22 with
  | zero =>
    intro I X y1 y2 y3 y4 y5 y6 H locs ls hf
    exact False.elim hf
  | succ n22 hG22 =>
    intro I X y1 y2 y3 y4 y5 y6 H locs ls hf hG hl
    unfold fX6_takesPosts_h22 at hf
    refine lv_iload hx hb dX6_takesPosts_22 (lv_at hl 6 rfl) ?_
    refine lv_aload_n hx hb dX6_takesPosts_24 rfl (lv_at hl 0 rfl) ?_
    refine gg_M_9 C hG inX6_takesPosts_wsX60 (hts _ (List.mem_of_getElem? (i := 2) rfl)) dX6_takesPosts_25 ?_
    refine lv_icmp_ge (tgt := 76) hx hb dX6_takesPosts_28 (by decide) (fun c_4 => ?_) (fun c_4 => ?_)
    · replace hf := hf.1 c_4
      obtain ⟨x5_5, ex5_5⟩ : ∃ y : Int32, y = y5 + (1 : Int32) := ⟨_, rfl⟩
      replace hf := hf x5_5 ex5_5
      refine lv_iinc (v := x5_5) (lv' := [(5, .int x5_5), (0, .ref (B 0)), (1, .int y1), (2, .int y2), (3, .int y3), (4, .int y4), (6, .int y6)]) hx hb dX6_takesPosts_76 hl (k := 5) rfl (by rw [ex5_5]; rfl) (by decide) rfl (fun ls hl => ?_)
      refine lv_goto (tgt := 12) hx hb dX6_takesPosts_79 (by decide) ?_
      exact hG12 I X y1 y2 y3 y4 x5_5 _ _ _ hf hG (lv_sub hl [1, 2, 3, 4, 5, 0] rfl)
    · replace hf := hf.2 c_4
      refine lv_aload_n hx hb dX6_takesPosts_31 rfl (lv_at hl 0 rfl) ?_
      refine lv_iload_n hx hb dX6_takesPosts_32 rfl (lv_at hl 1 rfl) ?_
      refine lv_iload hx hb dX6_takesPosts_33 (lv_at hl 6 rfl) ?_
      refine lv_iload_n hx hb dX6_takesPosts_35 rfl (lv_at hl 3 rfl) ?_
      refine lv_iload hx hb dX6_takesPosts_36 (lv_at hl 5 rfl) ?_
      refine lv_iadd hx hb dX6_takesPosts_38 ?_
      refine g_callVi0 (As := [.int y1, .int y6, .int (y3 + y5)]) C hG (kX6_takesPost hf) (cwV 3 hts gX6_takesPosts_X6_takesPost rfl rfl rfl hdvX6_takesPost ⟨Nat.le_of_ble_eq_true rfl, Nat.le_of_ble_eq_true rfl⟩) (va_recv hK hG.1 (ci := 6) (q0 := 0) rfl rfl) rfl hl.1 rfl (Nat.le_of_ble_eq_true rfl) dX6_takesPosts_39 ⟨Nat.zero_le _, Nat.zero_le _⟩ (fun r_6 g1 H locs hq hG => ?_)
      obtain ⟨rfl, hf⟩ := hq
      refine lv_if_eq (tgt := 70) hx hb dX6_takesPosts_42 (by decide) (fun c_7 => ?_) (fun c_7 => ?_)
      · replace hf := hf.1 c_7
        exact vX6_takesPosts_b70 C hpost hG12 hG22 I X y1 y2 y3 y4 y5 y6 _ _ _ hf hG (lv_sub hl [0, 1, 2, 3, 4, 5, 6] rfl)
      · replace hf := hf.2 c_7
        refine lv_iload hx hb dX6_takesPosts_45 (lv_at hl 4 rfl) ?_
        refine lv_iload hx hb dX6_takesPosts_47 (lv_at hl 5 rfl) ?_
        refine lv_iconst (v := (1 : Int32)) hx hb dX6_takesPosts_49 (by decide) ?_
        refine lv_iadd hx hb dX6_takesPosts_50 ?_
        refine lv_aload_n hx hb dX6_takesPosts_51 rfl (lv_at hl 0 rfl) ?_
        refine lv_iload_n hx hb dX6_takesPosts_52 rfl (lv_at hl 2 rfl) ?_
        refine lv_iload hx hb dX6_takesPosts_53 (lv_at hl 6 rfl) ?_
        refine lv_iload_n hx hb dX6_takesPosts_55 rfl (lv_at hl 3 rfl) ?_
        refine lv_iload hx hb dX6_takesPosts_56 (lv_at hl 5 rfl) ?_
        refine lv_iadd hx hb dX6_takesPosts_58 ?_
        refine lv_iconst (v := (1 : Int32)) hx hb dX6_takesPosts_59 (by decide) ?_
        refine lv_iadd hx hb dX6_takesPosts_60 ?_
        refine g_callVi0 (As := [.int y2, .int y6, .int ((y3 + y5) + (1 : Int32))]) C hG (kX6_takesFrom hf) (cwV 3 hts gX6_takesPosts_X6_takesFrom rfl rfl rfl hdvX6_takesFrom ⟨Nat.le_of_ble_eq_true rfl, Nat.le_of_ble_eq_true rfl⟩) (va_recv hK hG.1 (ci := 6) (q0 := 0) rfl rfl) rfl hl.1 rfl (Nat.le_of_ble_eq_true rfl) dX6_takesPosts_61 ⟨Nat.zero_le _, Nat.zero_le _⟩ (fun r_8 g1 H locs hq hG => ?_)
        obtain ⟨rfl, hf⟩ := hq
        refine lv_iadd hx hb dX6_takesPosts_64 ?_
        refine va_mmin hx hb (hml.trans hl.1.symm) hown (hts _ (List.mem_of_getElem? (i := 3) rfl)) (hts _ (List.mem_of_getElem? (i := 4) rfl)) (hts _ (List.mem_of_getElem? (i := 5) rfl)) (hts _ (List.mem_of_getElem? (i := 6) rfl)) (Nat.le_of_ble_eq_true rfl) (Nat.le_of_ble_eq_true rfl) (Nat.zero_le _) (Nat.zero_le _) dX6_takesPosts_65 ?_
        refine lv_topi (fun x4_9 ex4_9 => ?_)
        replace hf := hf x4_9 ex4_9
        refine lv_istore (lv' := [(4, .int x4_9), (0, .ref (B 0)), (1, .int y1), (2, .int y2), (3, .int y3), (5, .int y5), (6, .int y6)]) hx hb dX6_takesPosts_68 hl (by decide) rfl (fun ls hl => ?_)
        exact vX6_takesPosts_b70 C hpost hG12 hG22 I X y1 y2 y3 x4_9 y5 y6 _ _ _ hf hG (lv_sub hl [1, 2, 3, 4, 0, 5, 6] rfl)
set_option maxHeartbeats 4000000 in
set_option maxRecDepth 100000 in
theorem vX6_takesPosts_h12 {p : Program} {l : Launch} {e : Env} {s : State} {m : MethodId} {args : Array Value} {below : List Frame} {meth : Method} {c : Code} {D : va_G} {B : Nat → Nat} {A : Nat → Prop} {S : sS} {K : sK} {L : sL} {Y : sY} {O : sO} {post : Int32 → sG → Prop} {Q : Int32 → (Nat → Int32) → (Nat → Nat → Int32) → Prop} (C : gX p s m args meth c cX6_takesPosts 7 (some .int) wsX6_takesPosts RX6 D B A) (hpost : ∀ (v : Int32) (I : Nat → Int32) (X : Nat → Nat → Int32), Q v I X → post v (S, K, L, Y, (I, X), O))  : ∀ (n12 : Nat) (I : Nat → Int32) (X : Nat → Nat → Int32) (y1 : Int32) (y2 : Int32) (y3 : Int32) (y4 : Int32) (y5 : Int32) (H : Heap) (locs : List Loc) (ls : Array Slot), fX6_takesPosts_h12 Q n12 I X y1 y2 y3 y4 y5 → GS D B A s.heap (S, K, L, Y, (I, X), O) H locs → lv_has ls 7 [(0, .ref (B 0)), (1, .int y1), (2, .int y2), (3, .int y3), (4, .int y4), (5, .int y5)] → W p l e (headSpec wsX6_takesPosts rX6_takesPosts).room s m args below meth c H locs 0 0 (MQ below (va_Qi post (gB D B A) A) args s 0 0 A) (F0 m 12 ls []) := by
  obtain ⟨hx, hb, hml, hown, hts, hK, hr, hlk, hA, hN⟩ := id C
  intro n12
  induction n12 with
  | zero =>
    intro I X y1 y2 y3 y4 y5 H locs ls hf
    exact False.elim hf
  | succ n12 hG12 =>
    intro I X y1 y2 y3 y4 y5 H locs ls hf hG hl
    unfold fX6_takesPosts_h12 at hf
    refine lv_iload hx hb dX6_takesPosts_12 (lv_at hl 5 rfl) ?_
    refine lv_bipush (v := (32 : Int32)) hx hb dX6_takesPosts_14 (by decide) ?_
    refine lv_icmp_ge (tgt := 82) hx hb dX6_takesPosts_16 (by decide) (fun c_3 => ?_) (fun c_3 => ?_)
    · replace hf := hf.1 c_3
      refine lv_iload hx hb dX6_takesPosts_82 (lv_at hl 4 rfl) ?_
      exact g_iret C hG (hpost _ _ _ hf) dX6_takesPosts_84
    · replace hf := hf.2 c_3
      refine lv_iconst (v := (0 : Int32)) hx hb dX6_takesPosts_19 (by decide) ?_
      refine lv_istore (lv' := [(6, .int (0 : Int32)), (0, .ref (B 0)), (1, .int y1), (2, .int y2), (3, .int y3), (4, .int y4), (5, .int y5)]) hx hb dX6_takesPosts_20 hl (by decide) rfl (fun ls hl => ?_)
      obtain ⟨n22, hf⟩ := hf
      exact vX6_takesPosts_h22 C hpost hG12 n22 I X y1 y2 y3 y4 y5 (0 : Int32) _ _ _ hf hG (lv_sub hl [1, 2, 3, 4, 5, 6, 0] rfl)
set_option maxHeartbeats 4000000 in
set_option maxRecDepth 100000 in
theorem vX6_takesPosts_b0 {p : Program} {l : Launch} {e : Env} {s : State} {m : MethodId} {args : Array Value} {below : List Frame} {meth : Method} {c : Code} {D : va_G} {B : Nat → Nat} {A : Nat → Prop} {S : sS} {K : sK} {L : sL} {Y : sY} {O : sO} {post : Int32 → sG → Prop} {Q : Int32 → (Nat → Int32) → (Nat → Nat → Int32) → Prop} (C : gX p s m args meth c cX6_takesPosts 7 (some .int) wsX6_takesPosts RX6 D B A) (hpost : ∀ (v : Int32) (I : Nat → Int32) (X : Nat → Nat → Int32), Q v I X → post v (S, K, L, Y, (I, X), O))  (I : Nat → Int32) (X : Nat → Nat → Int32) (x1 : Int32) (x2 : Int32) (x3 : Int32) (H : Heap) (locs : List Loc) (ls : Array Slot) (hf : fX6_takesPosts Q I X x1 x2 x3) (hG : GS D B A s.heap (S, K, L, Y, (I, X), O) H locs) (hl : lv_has ls 7 [(0, .ref (B 0)), (1, .int x1), (2, .int x2), (3, .int x3)]) : W p l e (headSpec wsX6_takesPosts rX6_takesPosts).room s m args below meth c H locs 0 0 (MQ below (va_Qi post (gB D B A) A) args s 0 0 A) (F0 m 0 ls []) := by
  obtain ⟨hx, hb, hml, hown, hts, hK, hr, hlk, hA, hN⟩ := id C
  unfold fX6_takesPosts at hf
  refine lv_aload_n hx hb dX6_takesPosts_0 rfl (lv_at hl 0 rfl) ?_
  refine lv_iload_n hx hb dX6_takesPosts_1 rfl (lv_at hl 2 rfl) ?_
  refine g_callVv0 (As := [.int x2]) C hG (kX6_knows hf) (cwV 1 hts gX6_takesPosts_X6_knows rfl rfl rfl hdvX6_knows ⟨Nat.le_of_ble_eq_true rfl, Nat.le_of_ble_eq_true rfl⟩) (va_recv hK hG.1 (ci := 6) (q0 := 0) rfl rfl) rfl hl.1 rfl (Nat.le_of_ble_eq_true rfl) dX6_takesPosts_2 ⟨Nat.zero_le _, Nat.zero_le _⟩ (fun g1 H locs hq hG => ?_)
  obtain ⟨I_1, X_2, rfl, hf⟩ := hq
  refine lv_ldc (v := (1000000 : Int32)) hx hb hown (hts _ (List.mem_of_getElem? (i := 1) rfl)) dX6_takesPosts_5 ?_
  refine lv_istore (lv' := [(4, .int (1000000 : Int32)), (0, .ref (B 0)), (1, .int x1), (2, .int x2), (3, .int x3)]) hx hb dX6_takesPosts_7 hl (by decide) rfl (fun ls hl => ?_)
  refine lv_iconst (v := (0 : Int32)) hx hb dX6_takesPosts_9 (by decide) ?_
  refine lv_istore (lv' := [(5, .int (0 : Int32)), (4, .int (1000000 : Int32)), (0, .ref (B 0)), (1, .int x1), (2, .int x2), (3, .int x3)]) hx hb dX6_takesPosts_10 hl (by decide) rfl (fun ls hl => ?_)
  obtain ⟨n12, hf⟩ := hf
  exact vX6_takesPosts_h12 C hpost  n12 I_1 X_2 x1 x2 x3 (1000000 : Int32) (0 : Int32) _ _ _ hf hG (lv_sub hl [2, 3, 4, 5, 1, 0] rfl)
set_option maxRecDepth 100000 in
theorem kX6_takesPosts {l : Launch} {D : va_G} {B : Nat → Nat} {S : sS} {K : sK} {L : sL} {Y : sY} {O : sO}  {Q : Int32 → (Nat → Int32) → (Nat → Nat → Int32) → Prop} {I : Nat → Int32} {X : Nat → Nat → Int32} {x1 : Int32} {x2 : Int32} {x3 : Int32} (hf : fX6_takesPosts Q I X x1 x2 x3) : gMi D B l yX6_takesPosts wsX6_takesPosts rX6_takesPosts 0 0 [.ref (B 0), .int x1, .int x2, .int x3] (S, K, L, Y, (I, X), O) (fun r g1 => ∃ (I1 : Nat → Int32) (X1 : Nat → Nat → Int32), g1 = (S, K, L, Y, (I1, X1), O) ∧ Q r I1 X1) := by
  refine gMi_of (cc := cX6_takesPosts) (maxL := 7) (ret := some .int) (by decide +kernel) rfl (Nat.le_of_ble_eq_true rfl) ?_
  intro p e s m below meth c A hA0 C hG ls hl
  exact vX6_takesPosts_b0 C (fun v I X hq => ⟨I, X, rfl, hq⟩) I X x1 x2 x3 _ _ _ hf hG hl
def rX6_earliest : Room := { frames := 6, cells := 0, slots := 0, locals := 148 }
theorem hdvX6_earliest : yX6_earliest.cls = RX6 ∧ yX6_earliest.cls ≠ "java/lang/invoke/MethodHandle" ∧ yX6_earliest.cls ≠ "java/lang/invoke/VarHandle" ∧ (parseMethodDescriptor yX6_earliest.desc).map (fun d => d.parameters.length) = some 3 := by decide +kernel
theorem inX6_earliest_wsX60 : ∀ w ∈ wsX60, w ∈ wsX6_earliest := (fun _ h => List.mem_cons_of_mem _ (List.mem_append_right _ h))
set_option maxHeartbeats 4000000 in
set_option maxRecDepth 100000 in
theorem vX6_earliest_b27 {p : Program} {l : Launch} {e : Env} {s : State} {m : MethodId} {args : Array Value} {below : List Frame} {meth : Method} {c : Code} {D : va_G} {B : Nat → Nat} {A : Nat → Prop} {S : sS} {K : sK} {L : sL} {Y : sY} {O : sO} {post : Int32 → sG → Prop} {Q : Int32 → (Nat → Int32) → (Nat → Nat → Int32) → Prop} (C : gX p s m args meth c cX6_earliest 5 (some .int) wsX6_earliest RX6 D B A) (hpost : ∀ (v : Int32) (I : Nat → Int32) (X : Nat → Nat → Int32), Q v I X → post v (S, K, L, Y, (I, X), O))  (I : Nat → Int32) (X : Nat → Nat → Int32) (y1 : Int32) (y2 : Int32) (y3 : Int32) (t0 : Int32) (H : Heap) (locs : List Loc) (ls : Array Slot) (hf : fX6_earliest_b27 Q I X y1 y2 y3 t0) (hG : GS D B A s.heap (S, K, L, Y, (I, X), O) H locs) (hl : lv_has ls 5 [(0, .ref (B 0)), (1, .int y1), (2, .int y2), (3, .int y3)]) : W p l e (headSpec wsX6_earliest rX6_earliest).room s m args below meth c H locs 0 0 (MQ below (va_Qi post (gB D B A) A) args s 0 0 A) (F0 m 27 ls [.int t0, .ref (B 0)]) := by
  obtain ⟨hx, hb, hml, hown, hts, hK, hr, hlk, hA, hN⟩ := id C
  unfold fX6_earliest_b27 at hf
  refine lv_iconst (v := (1 : Int32)) hx hb dX6_earliest_27 (by decide) ?_
  refine g_callVi0 (As := [.int t0, .int (1 : Int32)]) C hG (kX6_throwsIf hf) (cwV 2 hts gX6_earliest_X6_throwsIf rfl rfl rfl hdvX6_throwsIf ⟨Nat.le_of_ble_eq_true rfl, Nat.le_of_ble_eq_true rfl⟩) (va_recv hK hG.1 (ci := 6) (q0 := 0) rfl rfl) rfl hl.1 rfl (Nat.le_of_ble_eq_true rfl) dX6_earliest_28 ⟨Nat.zero_le _, Nat.zero_le _⟩ (fun r_8 g1 H locs hq hG => ?_)
  obtain ⟨I_6, X_7, rfl, hf⟩ := hq
  refine lv_if_ne (tgt := 46) hx hb dX6_earliest_31 (by decide) (fun c_9 => ?_) (fun c_9 => ?_)
  · replace hf := hf.1 c_9
    refine lv_iconst (v := (0 : Int32)) hx hb dX6_earliest_46 (by decide) ?_
    exact g_iret C hG (hpost _ _ _ hf) dX6_earliest_47
  · replace hf := hf.2 c_9
    refine lv_aload_n hx hb dX6_earliest_34 rfl (lv_at hl 0 rfl) ?_
    refine lv_iload_n hx hb dX6_earliest_35 rfl (lv_at hl 3 rfl) ?_
    refine g_callSi0 (As := [.int y3]) C hG (kX6_noTick hf) (va_cwS 1 hts gX6_earliest_X6_noTick rfl rfl rfl hdsX6_noTick ⟨Nat.le_of_ble_eq_true rfl, Nat.le_of_ble_eq_true rfl⟩) rfl hl.1 rfl (Nat.le_of_ble_eq_true rfl) dX6_earliest_36 ⟨Nat.zero_le _, Nat.zero_le _⟩ (fun r_10 g1 H locs hq hG => ?_)
    obtain ⟨rfl, hf⟩ := hq
    refine lv_iconst (v := (2 : Int32)) hx hb dX6_earliest_39 (by decide) ?_
    refine g_callVi0 (As := [.int r_10, .int (2 : Int32)]) C hG (kX6_throwsIf hf) (cwV 2 hts gX6_earliest_X6_throwsIf rfl rfl rfl hdvX6_throwsIf ⟨Nat.le_of_ble_eq_true rfl, Nat.le_of_ble_eq_true rfl⟩) (va_recv hK hG.1 (ci := 6) (q0 := 0) rfl rfl) rfl hl.1 rfl (Nat.le_of_ble_eq_true rfl) dX6_earliest_40 ⟨Nat.zero_le _, Nat.zero_le _⟩ (fun r_13 g1 H locs hq hG => ?_)
    obtain ⟨I_11, X_12, rfl, hf⟩ := hq
    refine lv_if_eq (tgt := 48) hx hb dX6_earliest_43 (by decide) (fun c_14 => ?_) (fun c_14 => ?_)
    · replace hf := hf.1 c_14
      refine lv_iload_n hx hb dX6_earliest_48 rfl (lv_at hl 1 rfl) ?_
      refine lv_iload_n hx hb dX6_earliest_49 rfl (lv_at hl 2 rfl) ?_
      refine lv_icmp_ne (tgt := 55) hx hb dX6_earliest_50 (by decide) (fun c_15 => ?_) (fun c_15 => ?_)
      · replace hf := hf.1 c_15
        refine lv_aload_n hx hb dX6_earliest_55 rfl (lv_at hl 0 rfl) ?_
        refine lv_iload_n hx hb dX6_earliest_56 rfl (lv_at hl 1 rfl) ?_
        refine lv_iload_n hx hb dX6_earliest_57 rfl (lv_at hl 2 rfl) ?_
        refine lv_iload_n hx hb dX6_earliest_58 rfl (lv_at hl 3 rfl) ?_
        refine g_callVi0 (As := [.int y1, .int y2, .int y3]) C hG (kX6_takesPosts hf) (cwV 3 hts gX6_earliest_X6_takesPosts rfl rfl rfl hdvX6_takesPosts ⟨Nat.le_of_ble_eq_true rfl, Nat.le_of_ble_eq_true rfl⟩) (va_recv hK hG.1 (ci := 6) (q0 := 0) rfl rfl) rfl hl.1 rfl (Nat.le_of_ble_eq_true rfl) dX6_earliest_59 ⟨Nat.zero_le _, Nat.zero_le _⟩ (fun r_18 g1 H locs hq hG => ?_)
        obtain ⟨I_16, X_17, rfl, hf⟩ := hq
        refine lv_istore (lv' := [(4, .int r_18), (0, .ref (B 0)), (1, .int y1), (2, .int y2), (3, .int y3)]) hx hb dX6_earliest_62 hl (by decide) rfl (fun ls hl => ?_)
        refine lv_iload hx hb dX6_earliest_64 (lv_at hl 0 rfl) ?_
        refine lv_ldc (v := (1000000 : Int32)) hx hb hown (hts _ (List.mem_of_getElem? (i := 2) rfl)) dX6_earliest_66 ?_
        refine lv_icmp_lt (tgt := 75) hx hb dX6_earliest_68 (by decide) (fun c_19 => ?_) (fun c_19 => ?_)
        · replace hf := hf.1 c_19
          refine lv_iload_n hx hb dX6_earliest_75 rfl (lv_at hl 4 rfl) ?_
          refine lv_iload hx hb dX6_earliest_76 (lv_at hl 0 rfl) ?_
          refine lv_iadd hx hb dX6_earliest_78 ?_
          exact g_iret C hG (hpost _ _ _ hf) dX6_earliest_79
        · replace hf := hf.2 c_19
          refine lv_iconst (v := (-1 : Int32)) hx hb dX6_earliest_71 (by decide) ?_
          refine lv_goto (tgt := 79) hx hb dX6_earliest_72 (by decide) ?_
          exact g_iret C hG (hpost _ _ _ hf) dX6_earliest_79
      · replace hf := hf.2 c_15
        refine lv_iload_n hx hb dX6_earliest_53 rfl (lv_at hl 3 rfl) ?_
        exact g_iret C hG (hpost _ _ _ hf) dX6_earliest_54
    · replace hf := hf.2 c_14
      refine lv_iconst (v := (0 : Int32)) hx hb dX6_earliest_46 (by decide) ?_
      exact g_iret C hG (hpost _ _ _ hf) dX6_earliest_47
set_option maxHeartbeats 4000000 in
set_option maxRecDepth 100000 in
theorem vX6_earliest_b22 {p : Program} {l : Launch} {e : Env} {s : State} {m : MethodId} {args : Array Value} {below : List Frame} {meth : Method} {c : Code} {D : va_G} {B : Nat → Nat} {A : Nat → Prop} {S : sS} {K : sK} {L : sL} {Y : sY} {O : sO} {post : Int32 → sG → Prop} {Q : Int32 → (Nat → Int32) → (Nat → Nat → Int32) → Prop} (C : gX p s m args meth c cX6_earliest 5 (some .int) wsX6_earliest RX6 D B A) (hpost : ∀ (v : Int32) (I : Nat → Int32) (X : Nat → Nat → Int32), Q v I X → post v (S, K, L, Y, (I, X), O))  (I : Nat → Int32) (X : Nat → Nat → Int32) (y1 : Int32) (y2 : Int32) (y3 : Int32) (H : Heap) (locs : List Loc) (ls : Array Slot) (hf : fX6_earliest_b22 Q I X y1 y2 y3) (hG : GS D B A s.heap (S, K, L, Y, (I, X), O) H locs) (hl : lv_has ls 5 [(0, .ref (B 0)), (1, .int y1), (2, .int y2), (3, .int y3)]) : W p l e (headSpec wsX6_earliest rX6_earliest).room s m args below meth c H locs 0 0 (MQ below (va_Qi post (gB D B A) A) args s 0 0 A) (F0 m 22 ls [.ref (B 0)]) := by
  obtain ⟨hx, hb, hml, hown, hts, hK, hr, hlk, hA, hN⟩ := id C
  unfold fX6_earliest_b22 at hf
  refine lv_iconst (v := (1 : Int32)) hx hb dX6_earliest_22 (by decide) ?_
  refine lv_goto (tgt := 27) hx hb dX6_earliest_23 (by decide) ?_
  exact vX6_earliest_b27 C hpost  I X y1 y2 y3 (1 : Int32) _ _ _ hf hG (lv_sub hl [0, 1, 2, 3] rfl)
set_option maxHeartbeats 4000000 in
set_option maxRecDepth 100000 in
theorem vX6_earliest_b0 {p : Program} {l : Launch} {e : Env} {s : State} {m : MethodId} {args : Array Value} {below : List Frame} {meth : Method} {c : Code} {D : va_G} {B : Nat → Nat} {A : Nat → Prop} {S : sS} {K : sK} {L : sL} {Y : sY} {O : sO} {post : Int32 → sG → Prop} {Q : Int32 → (Nat → Int32) → (Nat → Nat → Int32) → Prop} (C : gX p s m args meth c cX6_earliest 5 (some .int) wsX6_earliest RX6 D B A) (hpost : ∀ (v : Int32) (I : Nat → Int32) (X : Nat → Nat → Int32), Q v I X → post v (S, K, L, Y, (I, X), O))  (I : Nat → Int32) (X : Nat → Nat → Int32) (x1 : Int32) (x2 : Int32) (x3 : Int32) (H : Heap) (locs : List Loc) (ls : Array Slot) (hf : fX6_earliest Q I X x1 x2 x3) (hG : GS D B A s.heap (S, K, L, Y, (I, X), O) H locs) (hl : lv_has ls 5 [(0, .ref (B 0)), (1, .int x1), (2, .int x2), (3, .int x3)]) : W p l e (headSpec wsX6_earliest rX6_earliest).room s m args below meth c H locs 0 0 (MQ below (va_Qi post (gB D B A) A) args s 0 0 A) (F0 m 0 ls []) := by
  obtain ⟨hx, hb, hml, hown, hts, hK, hr, hlk, hA, hN⟩ := id C
  unfold fX6_earliest at hf
  refine lv_aload_n hx hb dX6_earliest_0 rfl (lv_at hl 0 rfl) ?_
  refine lv_iconst (v := (0 : Int32)) hx hb dX6_earliest_1 (by decide) ?_
  refine gp_M_0 C hG inX6_earliest_wsX60 (hts _ (List.mem_of_getElem? (i := 1) rfl)) dX6_earliest_2 (fun I_1 H locs eI_1 hG => ?_)
  replace hf := hf I_1 eI_1
  refine lv_aload_n hx hb dX6_earliest_5 rfl (lv_at hl 0 rfl) ?_
  refine lv_aload_n hx hb dX6_earliest_6 rfl (lv_at hl 0 rfl) ?_
  refine lv_iload_n hx hb dX6_earliest_7 rfl (lv_at hl 1 rfl) ?_
  refine g_callVi0 (As := [.int x1]) C hG (kX6_noPost hf) (cwV 1 hts gX6_earliest_X6_noPost rfl rfl rfl hdvX6_noPost ⟨Nat.le_of_ble_eq_true rfl, Nat.le_of_ble_eq_true rfl⟩) (va_recv hK hG.1 (ci := 6) (q0 := 0) rfl rfl) rfl hl.1 rfl (Nat.le_of_ble_eq_true rfl) dX6_earliest_8 ⟨Nat.zero_le _, Nat.zero_le _⟩ (fun r_2 g1 H locs hq hG => ?_)
  obtain ⟨rfl, hf⟩ := hq
  refine lv_if_ne (tgt := 22) hx hb dX6_earliest_11 (by decide) (fun c_3 => ?_) (fun c_3 => ?_)
  · replace hf := hf.1 c_3
    exact vX6_earliest_b22 C hpost  I_1 X x1 x2 x3 _ _ _ hf hG (lv_sub hl [0, 1, 2, 3] rfl)
  · replace hf := hf.2 c_3
    refine lv_aload_n hx hb dX6_earliest_14 rfl (lv_at hl 0 rfl) ?_
    refine lv_iload_n hx hb dX6_earliest_15 rfl (lv_at hl 2 rfl) ?_
    refine g_callVi0 (As := [.int x2]) C hG (kX6_noPost hf) (cwV 1 hts gX6_earliest_X6_noPost rfl rfl rfl hdvX6_noPost ⟨Nat.le_of_ble_eq_true rfl, Nat.le_of_ble_eq_true rfl⟩) (va_recv hK hG.1 (ci := 6) (q0 := 0) rfl rfl) rfl hl.1 rfl (Nat.le_of_ble_eq_true rfl) dX6_earliest_16 ⟨Nat.zero_le _, Nat.zero_le _⟩ (fun r_4 g1 H locs hq hG => ?_)
    obtain ⟨rfl, hf⟩ := hq
    refine lv_if_eq (tgt := 26) hx hb dX6_earliest_19 (by decide) (fun c_5 => ?_) (fun c_5 => ?_)
    · replace hf := hf.1 c_5
      refine lv_iconst (v := (0 : Int32)) hx hb dX6_earliest_26 (by decide) ?_
      exact vX6_earliest_b27 C hpost  I_1 X x1 x2 x3 (0 : Int32) _ _ _ hf hG (lv_sub hl [0, 1, 2, 3] rfl)
    · replace hf := hf.2 c_5
      exact vX6_earliest_b22 C hpost  I_1 X x1 x2 x3 _ _ _ hf hG (lv_sub hl [0, 1, 2, 3] rfl)
set_option maxRecDepth 100000 in
theorem kX6_earliest {l : Launch} {D : va_G} {B : Nat → Nat} {S : sS} {K : sK} {L : sL} {Y : sY} {O : sO}  {Q : Int32 → (Nat → Int32) → (Nat → Nat → Int32) → Prop} {I : Nat → Int32} {X : Nat → Nat → Int32} {x1 : Int32} {x2 : Int32} {x3 : Int32} (hf : fX6_earliest Q I X x1 x2 x3) : gMi D B l yX6_earliest wsX6_earliest rX6_earliest 0 0 [.ref (B 0), .int x1, .int x2, .int x3] (S, K, L, Y, (I, X), O) (fun r g1 => ∃ (I1 : Nat → Int32) (X1 : Nat → Nat → Int32), g1 = (S, K, L, Y, (I1, X1), O) ∧ Q r I1 X1) := by
  refine gMi_of (cc := cX6_earliest) (maxL := 5) (ret := some .int) (by decide +kernel) rfl (Nat.le_of_ble_eq_true rfl) ?_
  intro p e s m below meth c A hA0 C hG ls hl
  exact vX6_earliest_b0 C (fun v I X hq => ⟨I, X, rfl, hq⟩) I X x1 x2 x3 _ _ _ hf hG hl
def rX6_late : Room := { frames := 6, cells := 0, slots := 0, locals := 148 }
theorem hdvX6_late : yX6_late.cls = RX6 ∧ yX6_late.cls ≠ "java/lang/invoke/MethodHandle" ∧ yX6_late.cls ≠ "java/lang/invoke/VarHandle" ∧ (parseMethodDescriptor yX6_late.desc).map (fun d => d.parameters.length) = some 3 := by decide +kernel
theorem inX6_late_wsX60 : ∀ w ∈ wsX60, w ∈ wsX6_late := (fun _ h => List.mem_cons_of_mem _ (List.mem_append_right _ h))
set_option maxHeartbeats 4000000 in
set_option maxRecDepth 100000 in
theorem vX6_late_b104 {p : Program} {l : Launch} {e : Env} {s : State} {m : MethodId} {args : Array Value} {below : List Frame} {meth : Method} {c : Code} {D : va_G} {B : Nat → Nat} {A : Nat → Prop} {S : sS} {K : sK} {L : sL} {Y : sY} {O : sO} {post : Int32 → sG → Prop} {Q : Int32 → (Nat → Int32) → (Nat → Nat → Int32) → Prop} (C : gX p s m args meth c cX6_late 7 (some .int) wsX6_late RX6 D B A) (hpost : ∀ (v : Int32) (I : Nat → Int32) (X : Nat → Nat → Int32), Q v I X → post v (S, K, L, Y, (I, X), O)) {G47 : (Nat → Int32) → (Nat → Nat → Int32) → Int32 → Int32 → Int32 → Int32 → Int32 → Prop} (hG47 : ∀ (I : Nat → Int32) (X : Nat → Nat → Int32) (y1 : Int32) (y2 : Int32) (y3 : Int32) (y4 : Int32) (y5 : Int32) (H : Heap) (locs : List Loc) (ls : Array Slot), G47 I X y1 y2 y3 y4 y5 → GS D B A s.heap (S, K, L, Y, (I, X), O) H locs → lv_has ls 7 [(0, .ref (B 0)), (1, .int y1), (2, .int y2), (3, .int y3), (4, .int y4), (5, .int y5)] → W p l e (headSpec wsX6_late rX6_late).room s m args below meth c H locs 0 0 (MQ below (va_Qi post (gB D B A) A) args s 0 0 A) (F0 m 47 ls [])) (I : Nat → Int32) (X : Nat → Nat → Int32) (y1 : Int32) (y2 : Int32) (y3 : Int32) (y5 : Int32) (t0 : Int32) (H : Heap) (locs : List Loc) (ls : Array Slot) (hf : fX6_late_b104 G47 Q I X y1 y2 y3 y5 t0) (hG : GS D B A s.heap (S, K, L, Y, (I, X), O) H locs) (hl : lv_has ls 7 [(0, .ref (B 0)), (1, .int y1), (2, .int y2), (3, .int y3), (5, .int y5)]) : W p l e (headSpec wsX6_late rX6_late).room s m args below meth c H locs 0 0 (MQ below (va_Qi post (gB D B A) A) args s 0 0 A) (F0 m 104 ls [.int t0]) := by
  obtain ⟨hx, hb, hml, hown, hts, hK, hr, hlk, hA, hN⟩ := id C
  unfold fX6_late_b104 at hf
  refine lv_istore (lv' := [(4, .int t0), (0, .ref (B 0)), (1, .int y1), (2, .int y2), (3, .int y3), (5, .int y5)]) hx hb dX6_late_104 hl (by decide) rfl (fun ls hl => ?_)
  obtain ⟨x5_18, ex5_18⟩ : ∃ y : Int32, y = y5 + (1 : Int32) := ⟨_, rfl⟩
  replace hf := hf x5_18 ex5_18
  refine lv_iinc (v := x5_18) (lv' := [(5, .int x5_18), (4, .int t0), (0, .ref (B 0)), (1, .int y1), (2, .int y2), (3, .int y3)]) hx hb dX6_late_106 hl (k := 5) rfl (by rw [ex5_18]; rfl) (by decide) rfl (fun ls hl => ?_)
  refine lv_goto (tgt := 47) hx hb dX6_late_109 (by decide) ?_
  exact hG47 I X y1 y2 y3 t0 x5_18 _ _ _ hf hG (lv_sub hl [2, 3, 4, 5, 1, 0] rfl)
set_option maxHeartbeats 4000000 in
set_option maxRecDepth 100000 in
theorem vX6_late_h47 {p : Program} {l : Launch} {e : Env} {s : State} {m : MethodId} {args : Array Value} {below : List Frame} {meth : Method} {c : Code} {D : va_G} {B : Nat → Nat} {A : Nat → Prop} {S : sS} {K : sK} {L : sL} {Y : sY} {O : sO} {post : Int32 → sG → Prop} {Q : Int32 → (Nat → Int32) → (Nat → Nat → Int32) → Prop} (C : gX p s m args meth c cX6_late 7 (some .int) wsX6_late RX6 D B A) (hpost : ∀ (v : Int32) (I : Nat → Int32) (X : Nat → Nat → Int32), Q v I X → post v (S, K, L, Y, (I, X), O))  : ∀ (n47 : Nat) (I : Nat → Int32) (X : Nat → Nat → Int32) (y1 : Int32) (y2 : Int32) (y3 : Int32) (y4 : Int32) (y5 : Int32) (H : Heap) (locs : List Loc) (ls : Array Slot), fX6_late_h47 Q n47 I X y1 y2 y3 y4 y5 → GS D B A s.heap (S, K, L, Y, (I, X), O) H locs → lv_has ls 7 [(0, .ref (B 0)), (1, .int y1), (2, .int y2), (3, .int y3), (4, .int y4), (5, .int y5)] → W p l e (headSpec wsX6_late rX6_late).room s m args below meth c H locs 0 0 (MQ below (va_Qi post (gB D B A) A) args s 0 0 A) (F0 m 47 ls []) := by
  obtain ⟨hx, hb, hml, hown, hts, hK, hr, hlk, hA, hN⟩ := id C
  intro n47
  induction n47 with
  | zero =>
    intro I X y1 y2 y3 y4 y5 H locs ls hf
    exact False.elim hf
  | succ n47 hG47 =>
    intro I X y1 y2 y3 y4 y5 H locs ls hf hG hl
    unfold fX6_late_h47 at hf
    refine lv_iload hx hb dX6_late_47 (lv_at hl 5 rfl) ?_
    refine lv_bipush (v := (32 : Int32)) hx hb dX6_late_49 (by decide) ?_
    refine lv_icmp_ge (tgt := 112) hx hb dX6_late_51 (by decide) (fun c_11 => ?_) (fun c_11 => ?_)
    · replace hf := hf.1 c_11
      refine lv_iload hx hb dX6_late_112 (lv_at hl 4 rfl) ?_
      exact g_iret C hG (hpost _ _ _ hf) dX6_late_114
    · replace hf := hf.2 c_11
      refine lv_aload_n hx hb dX6_late_54 rfl (lv_at hl 0 rfl) ?_
      refine lv_iload_n hx hb dX6_late_55 rfl (lv_at hl 1 rfl) ?_
      refine lv_iload_n hx hb dX6_late_56 rfl (lv_at hl 2 rfl) ?_
      refine lv_iload hx hb dX6_late_57 (lv_at hl 5 rfl) ?_
      refine g_callVi0 (As := [.int y1, .int y2, .int y5]) C hG (kX6_takesPosts hf) (cwV 3 hts gX6_late_X6_takesPosts rfl rfl rfl hdvX6_takesPosts ⟨Nat.le_of_ble_eq_true rfl, Nat.le_of_ble_eq_true rfl⟩) (va_recv hK hG.1 (ci := 6) (q0 := 0) rfl rfl) rfl hl.1 rfl (Nat.le_of_ble_eq_true rfl) dX6_late_59 ⟨Nat.zero_le _, Nat.zero_le _⟩ (fun r_14 g1 H locs hq hG => ?_)
      obtain ⟨I_12, X_13, rfl, hf⟩ := hq
      refine lv_istore (lv' := [(6, .int r_14), (0, .ref (B 0)), (1, .int y1), (2, .int y2), (3, .int y3), (4, .int y4), (5, .int y5)]) hx hb dX6_late_62 hl (by decide) rfl (fun ls hl => ?_)
      refine lv_iload hx hb dX6_late_64 (lv_at hl 0 rfl) ?_
      refine lv_ldc (v := (1000000 : Int32)) hx hb hown (hts _ (List.mem_of_getElem? (i := 2) rfl)) dX6_late_66 ?_
      refine lv_icmp_lt (tgt := 73) hx hb dX6_late_68 (by decide) (fun c_15 => ?_) (fun c_15 => ?_)
      · replace hf := hf.1 c_15
        refine lv_iload hx hb dX6_late_73 (lv_at hl 5 rfl) ?_
        refine lv_if_ge (tgt := 83) hx hb dX6_late_75 (by decide) (fun c_16 => ?_) (fun c_16 => ?_)
        · replace hf := hf.1 c_16
          refine lv_iload_n hx hb dX6_late_83 rfl (lv_at hl 4 rfl) ?_
          refine lv_if_eq (tgt := 97) hx hb dX6_late_84 (by decide) (fun c_17 => ?_) (fun c_17 => ?_)
          · replace hf := hf.1 c_17
            refine lv_iload hx hb dX6_late_97 (lv_at hl 5 rfl) ?_
            refine lv_iload hx hb dX6_late_99 (lv_at hl 0 rfl) ?_
            refine va_mmin hx hb (hml.trans hl.1.symm) hown (hts _ (List.mem_of_getElem? (i := 7) rfl)) (hts _ (List.mem_of_getElem? (i := 8) rfl)) (hts _ (List.mem_of_getElem? (i := 5) rfl)) (hts _ (List.mem_of_getElem? (i := 9) rfl)) (Nat.le_of_ble_eq_true rfl) (Nat.le_of_ble_eq_true rfl) (Nat.zero_le _) (Nat.zero_le _) dX6_late_101 ?_
            exact vX6_late_b104 C hpost hG47 I_12 X_13 y1 y2 y3 y5 (if r_14 < y4 then r_14 else y4) _ _ _ hf hG (lv_sub hl [1, 2, 3, 4, 6] rfl)
          · replace hf := hf.2 c_17
            refine lv_iload hx hb dX6_late_87 (lv_at hl 5 rfl) ?_
            refine lv_iload hx hb dX6_late_89 (lv_at hl 0 rfl) ?_
            refine va_mmax hx hb (hml.trans hl.1.symm) hown (hts _ (List.mem_of_getElem? (i := 3) rfl)) (hts _ (List.mem_of_getElem? (i := 4) rfl)) (hts _ (List.mem_of_getElem? (i := 5) rfl)) (hts _ (List.mem_of_getElem? (i := 6) rfl)) (Nat.le_of_ble_eq_true rfl) (Nat.le_of_ble_eq_true rfl) (Nat.zero_le _) (Nat.zero_le _) dX6_late_91 ?_
            refine lv_goto (tgt := 104) hx hb dX6_late_94 (by decide) ?_
            exact vX6_late_b104 C hpost hG47 I_12 X_13 y1 y2 y3 y5 (if y4 < r_14 then r_14 else y4) _ _ _ hf hG (lv_sub hl [1, 2, 3, 4, 6] rfl)
        · replace hf := hf.2 c_16
          refine lv_iload hx hb dX6_late_78 (lv_at hl 0 rfl) ?_
          refine lv_goto (tgt := 104) hx hb dX6_late_80 (by decide) ?_
          exact vX6_late_b104 C hpost hG47 I_12 X_13 y1 y2 y3 y5 r_14 _ _ _ hf hG (lv_sub hl [1, 2, 3, 4, 6] rfl)
      · replace hf := hf.2 c_15
        refine lv_iconst (v := (-1 : Int32)) hx hb dX6_late_71 (by decide) ?_
        exact g_iret C hG (hpost _ _ _ hf) dX6_late_72
set_option maxHeartbeats 4000000 in
set_option maxRecDepth 100000 in
theorem vX6_late_b27 {p : Program} {l : Launch} {e : Env} {s : State} {m : MethodId} {args : Array Value} {below : List Frame} {meth : Method} {c : Code} {D : va_G} {B : Nat → Nat} {A : Nat → Prop} {S : sS} {K : sK} {L : sL} {Y : sY} {O : sO} {post : Int32 → sG → Prop} {Q : Int32 → (Nat → Int32) → (Nat → Nat → Int32) → Prop} (C : gX p s m args meth c cX6_late 7 (some .int) wsX6_late RX6 D B A) (hpost : ∀ (v : Int32) (I : Nat → Int32) (X : Nat → Nat → Int32), Q v I X → post v (S, K, L, Y, (I, X), O))  (I : Nat → Int32) (X : Nat → Nat → Int32) (y1 : Int32) (y2 : Int32) (y3 : Int32) (t0 : Int32) (H : Heap) (locs : List Loc) (ls : Array Slot) (hf : fX6_late_b27 Q I X y1 y2 y3 t0) (hG : GS D B A s.heap (S, K, L, Y, (I, X), O) H locs) (hl : lv_has ls 7 [(0, .ref (B 0)), (1, .int y1), (2, .int y2), (3, .int y3)]) : W p l e (headSpec wsX6_late rX6_late).room s m args below meth c H locs 0 0 (MQ below (va_Qi post (gB D B A) A) args s 0 0 A) (F0 m 27 ls [.int t0, .ref (B 0)]) := by
  obtain ⟨hx, hb, hml, hown, hts, hK, hr, hlk, hA, hN⟩ := id C
  unfold fX6_late_b27 at hf
  refine lv_iconst (v := (1 : Int32)) hx hb dX6_late_27 (by decide) ?_
  refine g_callVi0 (As := [.int t0, .int (1 : Int32)]) C hG (kX6_throwsIf hf) (cwV 2 hts gX6_late_X6_throwsIf rfl rfl rfl hdvX6_throwsIf ⟨Nat.le_of_ble_eq_true rfl, Nat.le_of_ble_eq_true rfl⟩) (va_recv hK hG.1 (ci := 6) (q0 := 0) rfl rfl) rfl hl.1 rfl (Nat.le_of_ble_eq_true rfl) dX6_late_28 ⟨Nat.zero_le _, Nat.zero_le _⟩ (fun r_8 g1 H locs hq hG => ?_)
  obtain ⟨I_6, X_7, rfl, hf⟩ := hq
  refine lv_if_ne (tgt := 39) hx hb dX6_late_31 (by decide) (fun c_9 => ?_) (fun c_9 => ?_)
  · replace hf := hf.1 c_9
    refine lv_iconst (v := (0 : Int32)) hx hb dX6_late_39 (by decide) ?_
    exact g_iret C hG (hpost _ _ _ hf) dX6_late_40
  · replace hf := hf.2 c_9
    refine lv_iload_n hx hb dX6_late_34 rfl (lv_at hl 1 rfl) ?_
    refine lv_iload_n hx hb dX6_late_35 rfl (lv_at hl 2 rfl) ?_
    refine lv_icmp_ne (tgt := 41) hx hb dX6_late_36 (by decide) (fun c_10 => ?_) (fun c_10 => ?_)
    · replace hf := hf.1 c_10
      refine lv_iconst (v := (-1 : Int32)) hx hb dX6_late_41 (by decide) ?_
      refine lv_istore (lv' := [(4, .int (-1 : Int32)), (0, .ref (B 0)), (1, .int y1), (2, .int y2), (3, .int y3)]) hx hb dX6_late_42 hl (by decide) rfl (fun ls hl => ?_)
      refine lv_iconst (v := (0 : Int32)) hx hb dX6_late_44 (by decide) ?_
      refine lv_istore (lv' := [(5, .int (0 : Int32)), (4, .int (-1 : Int32)), (0, .ref (B 0)), (1, .int y1), (2, .int y2), (3, .int y3)]) hx hb dX6_late_45 hl (by decide) rfl (fun ls hl => ?_)
      obtain ⟨n47, hf⟩ := hf
      exact vX6_late_h47 C hpost  n47 I_6 X_7 y1 y2 y3 (-1 : Int32) (0 : Int32) _ _ _ hf hG (lv_sub hl [2, 3, 4, 5, 1, 0] rfl)
    · replace hf := hf.2 c_10
      refine lv_iconst (v := (0 : Int32)) hx hb dX6_late_39 (by decide) ?_
      exact g_iret C hG (hpost _ _ _ hf) dX6_late_40
set_option maxHeartbeats 4000000 in
set_option maxRecDepth 100000 in
theorem vX6_late_b22 {p : Program} {l : Launch} {e : Env} {s : State} {m : MethodId} {args : Array Value} {below : List Frame} {meth : Method} {c : Code} {D : va_G} {B : Nat → Nat} {A : Nat → Prop} {S : sS} {K : sK} {L : sL} {Y : sY} {O : sO} {post : Int32 → sG → Prop} {Q : Int32 → (Nat → Int32) → (Nat → Nat → Int32) → Prop} (C : gX p s m args meth c cX6_late 7 (some .int) wsX6_late RX6 D B A) (hpost : ∀ (v : Int32) (I : Nat → Int32) (X : Nat → Nat → Int32), Q v I X → post v (S, K, L, Y, (I, X), O))  (I : Nat → Int32) (X : Nat → Nat → Int32) (y1 : Int32) (y2 : Int32) (y3 : Int32) (H : Heap) (locs : List Loc) (ls : Array Slot) (hf : fX6_late_b22 Q I X y1 y2 y3) (hG : GS D B A s.heap (S, K, L, Y, (I, X), O) H locs) (hl : lv_has ls 7 [(0, .ref (B 0)), (1, .int y1), (2, .int y2), (3, .int y3)]) : W p l e (headSpec wsX6_late rX6_late).room s m args below meth c H locs 0 0 (MQ below (va_Qi post (gB D B A) A) args s 0 0 A) (F0 m 22 ls [.ref (B 0)]) := by
  obtain ⟨hx, hb, hml, hown, hts, hK, hr, hlk, hA, hN⟩ := id C
  unfold fX6_late_b22 at hf
  refine lv_iconst (v := (1 : Int32)) hx hb dX6_late_22 (by decide) ?_
  refine lv_goto (tgt := 27) hx hb dX6_late_23 (by decide) ?_
  exact vX6_late_b27 C hpost  I X y1 y2 y3 (1 : Int32) _ _ _ hf hG (lv_sub hl [0, 1, 2, 3] rfl)
set_option maxHeartbeats 4000000 in
set_option maxRecDepth 100000 in
theorem vX6_late_b0 {p : Program} {l : Launch} {e : Env} {s : State} {m : MethodId} {args : Array Value} {below : List Frame} {meth : Method} {c : Code} {D : va_G} {B : Nat → Nat} {A : Nat → Prop} {S : sS} {K : sK} {L : sL} {Y : sY} {O : sO} {post : Int32 → sG → Prop} {Q : Int32 → (Nat → Int32) → (Nat → Nat → Int32) → Prop} (C : gX p s m args meth c cX6_late 7 (some .int) wsX6_late RX6 D B A) (hpost : ∀ (v : Int32) (I : Nat → Int32) (X : Nat → Nat → Int32), Q v I X → post v (S, K, L, Y, (I, X), O))  (I : Nat → Int32) (X : Nat → Nat → Int32) (x1 : Int32) (x2 : Int32) (x3 : Int32) (H : Heap) (locs : List Loc) (ls : Array Slot) (hf : fX6_late Q I X x1 x2 x3) (hG : GS D B A s.heap (S, K, L, Y, (I, X), O) H locs) (hl : lv_has ls 7 [(0, .ref (B 0)), (1, .int x1), (2, .int x2), (3, .int x3)]) : W p l e (headSpec wsX6_late rX6_late).room s m args below meth c H locs 0 0 (MQ below (va_Qi post (gB D B A) A) args s 0 0 A) (F0 m 0 ls []) := by
  obtain ⟨hx, hb, hml, hown, hts, hK, hr, hlk, hA, hN⟩ := id C
  unfold fX6_late at hf
  refine lv_aload_n hx hb dX6_late_0 rfl (lv_at hl 0 rfl) ?_
  refine lv_iconst (v := (0 : Int32)) hx hb dX6_late_1 (by decide) ?_
  refine gp_M_0 C hG inX6_late_wsX60 (hts _ (List.mem_of_getElem? (i := 1) rfl)) dX6_late_2 (fun I_1 H locs eI_1 hG => ?_)
  replace hf := hf I_1 eI_1
  refine lv_aload_n hx hb dX6_late_5 rfl (lv_at hl 0 rfl) ?_
  refine lv_aload_n hx hb dX6_late_6 rfl (lv_at hl 0 rfl) ?_
  refine lv_iload_n hx hb dX6_late_7 rfl (lv_at hl 1 rfl) ?_
  refine g_callVi0 (As := [.int x1]) C hG (kX6_noPost hf) (cwV 1 hts gX6_late_X6_noPost rfl rfl rfl hdvX6_noPost ⟨Nat.le_of_ble_eq_true rfl, Nat.le_of_ble_eq_true rfl⟩) (va_recv hK hG.1 (ci := 6) (q0 := 0) rfl rfl) rfl hl.1 rfl (Nat.le_of_ble_eq_true rfl) dX6_late_8 ⟨Nat.zero_le _, Nat.zero_le _⟩ (fun r_2 g1 H locs hq hG => ?_)
  obtain ⟨rfl, hf⟩ := hq
  refine lv_if_ne (tgt := 22) hx hb dX6_late_11 (by decide) (fun c_3 => ?_) (fun c_3 => ?_)
  · replace hf := hf.1 c_3
    exact vX6_late_b22 C hpost  I_1 X x1 x2 x3 _ _ _ hf hG (lv_sub hl [0, 1, 2, 3] rfl)
  · replace hf := hf.2 c_3
    refine lv_aload_n hx hb dX6_late_14 rfl (lv_at hl 0 rfl) ?_
    refine lv_iload_n hx hb dX6_late_15 rfl (lv_at hl 2 rfl) ?_
    refine g_callVi0 (As := [.int x2]) C hG (kX6_noPost hf) (cwV 1 hts gX6_late_X6_noPost rfl rfl rfl hdvX6_noPost ⟨Nat.le_of_ble_eq_true rfl, Nat.le_of_ble_eq_true rfl⟩) (va_recv hK hG.1 (ci := 6) (q0 := 0) rfl rfl) rfl hl.1 rfl (Nat.le_of_ble_eq_true rfl) dX6_late_16 ⟨Nat.zero_le _, Nat.zero_le _⟩ (fun r_4 g1 H locs hq hG => ?_)
    obtain ⟨rfl, hf⟩ := hq
    refine lv_if_eq (tgt := 26) hx hb dX6_late_19 (by decide) (fun c_5 => ?_) (fun c_5 => ?_)
    · replace hf := hf.1 c_5
      refine lv_iconst (v := (0 : Int32)) hx hb dX6_late_26 (by decide) ?_
      exact vX6_late_b27 C hpost  I_1 X x1 x2 x3 (0 : Int32) _ _ _ hf hG (lv_sub hl [0, 1, 2, 3] rfl)
    · replace hf := hf.2 c_5
      exact vX6_late_b22 C hpost  I_1 X x1 x2 x3 _ _ _ hf hG (lv_sub hl [0, 1, 2, 3] rfl)
set_option maxRecDepth 100000 in
theorem kX6_late {l : Launch} {D : va_G} {B : Nat → Nat} {S : sS} {K : sK} {L : sL} {Y : sY} {O : sO}  {Q : Int32 → (Nat → Int32) → (Nat → Nat → Int32) → Prop} {I : Nat → Int32} {X : Nat → Nat → Int32} {x1 : Int32} {x2 : Int32} {x3 : Int32} (hf : fX6_late Q I X x1 x2 x3) : gMi D B l yX6_late wsX6_late rX6_late 0 0 [.ref (B 0), .int x1, .int x2, .int x3] (S, K, L, Y, (I, X), O) (fun r g1 => ∃ (I1 : Nat → Int32) (X1 : Nat → Nat → Int32), g1 = (S, K, L, Y, (I1, X1), O) ∧ Q r I1 X1) := by
  refine gMi_of (cc := cX6_late) (maxL := 7) (ret := some .int) (by decide +kernel) rfl (Nat.le_of_ble_eq_true rfl) ?_
  intro p e s m below meth c A hA0 C hG ls hl
  exact vX6_late_b0 C (fun v I X hq => ⟨I, X, rfl, hq⟩) I X x1 x2 x3 _ _ _ hf hG hl
def rX6_finds : Room := { frames := 0, cells := 0, slots := 0, locals := 0 }
theorem hdvX6_finds : yX6_finds.cls = RX6 ∧ yX6_finds.cls ≠ "java/lang/invoke/MethodHandle" ∧ yX6_finds.cls ≠ "java/lang/invoke/VarHandle" ∧ (parseMethodDescriptor yX6_finds.desc).map (fun d => d.parameters.length) = some 0 := by decide +kernel
theorem inX6_finds_wsX60 : ∀ w ∈ wsX60, w ∈ wsX6_finds := (fun _ h => List.mem_cons_of_mem _ (List.mem_append_right _ h))
set_option maxHeartbeats 4000000 in
set_option maxRecDepth 100000 in
theorem vX6_finds_b130 {p : Program} {l : Launch} {e : Env} {s : State} {m : MethodId} {args : Array Value} {below : List Frame} {meth : Method} {c : Code} {D : va_G} {B : Nat → Nat} {A : Nat → Prop} {S : sS} {K : sK} {L : sL} {Y : sY} {O : sO} {post : Int32 → sG → Prop} {Q : Int32 → (Nat → Int32) → (Nat → Nat → Int32) → Prop} (C : gX p s m args meth c cX6_finds 4 (some .boolean) wsX6_finds RX6 D B A) (hpost : ∀ (v : Int32) (I : Nat → Int32) (X : Nat → Nat → Int32), Q v I X → post v (S, K, L, Y, (I, X), O))  (I : Nat → Int32) (X : Nat → Nat → Int32)  (H : Heap) (locs : List Loc) (ls : Array Slot) (hf : fX6_finds_b130 Q I X) (hG : GS D B A s.heap (S, K, L, Y, (I, X), O) H locs) (hl : lv_has ls 4 [(0, .ref (B 0))]) : W p l e (headSpec wsX6_finds rX6_finds).room s m args below meth c H locs 0 0 (MQ below (va_Qi post (gB D B A) A) args s 0 0 A) (F0 m 130 ls []) := by
  obtain ⟨hx, hb, hml, hown, hts, hK, hr, hlk, hA, hN⟩ := id C
  unfold fX6_finds_b130 at hf
  refine lv_aload_n hx hb dX6_finds_130 rfl (lv_at hl 0 rfl) ?_
  refine gg_M_17 C hG inX6_finds_wsX60 (hts _ (List.mem_of_getElem? (i := 1) rfl)) dX6_finds_131 ?_
  refine lv_bipush (v := (97 : Int32)) hx hb dX6_finds_134 (by decide) ?_
  obtain ⟨h_26, hf⟩ := hf
  refine ga_M_17 C hG h_26 dX6_finds_136 ?_
  refine lv_if_lt (tgt := 144) hx hb dX6_finds_137 (by decide) (fun c_27 => ?_) (fun c_27 => ?_)
  · replace hf := hf.1 c_27
    refine lv_iconst (v := (0 : Int32)) hx hb dX6_finds_144 (by decide) ?_
    exact g_zret C hG rfl (hpost _ _ _ hf) dX6_finds_145
  · replace hf := hf.2 c_27
    refine lv_iconst (v := (1 : Int32)) hx hb dX6_finds_140 (by decide) ?_
    refine lv_goto (tgt := 145) hx hb dX6_finds_141 (by decide) ?_
    exact g_zret C hG rfl (hpost _ _ _ hf) dX6_finds_145
set_option maxHeartbeats 4000000 in
set_option maxRecDepth 100000 in
theorem vX6_finds_b118 {p : Program} {l : Launch} {e : Env} {s : State} {m : MethodId} {args : Array Value} {below : List Frame} {meth : Method} {c : Code} {D : va_G} {B : Nat → Nat} {A : Nat → Prop} {S : sS} {K : sK} {L : sL} {Y : sY} {O : sO} {post : Int32 → sG → Prop} {Q : Int32 → (Nat → Int32) → (Nat → Nat → Int32) → Prop} (C : gX p s m args meth c cX6_finds 4 (some .boolean) wsX6_finds RX6 D B A) (hpost : ∀ (v : Int32) (I : Nat → Int32) (X : Nat → Nat → Int32), Q v I X → post v (S, K, L, Y, (I, X), O)) {G42 : (Nat → Int32) → (Nat → Nat → Int32) → Int32 → Int32 → Prop} (hG42 : ∀ (I : Nat → Int32) (X : Nat → Nat → Int32) (y1 : Int32) (y2 : Int32) (H : Heap) (locs : List Loc) (ls : Array Slot), G42 I X y1 y2 → GS D B A s.heap (S, K, L, Y, (I, X), O) H locs → lv_has ls 4 [(0, .ref (B 0)), (1, .int y1), (2, .int y2)] → W p l e (headSpec wsX6_finds rX6_finds).room s m args below meth c H locs 0 0 (MQ below (va_Qi post (gB D B A) A) args s 0 0 A) (F0 m 42 ls [])) {G59 : (Nat → Int32) → (Nat → Nat → Int32) → Int32 → Int32 → Int32 → Prop} (hG59 : ∀ (I : Nat → Int32) (X : Nat → Nat → Int32) (y1 : Int32) (y2 : Int32) (y3 : Int32) (H : Heap) (locs : List Loc) (ls : Array Slot), G59 I X y1 y2 y3 → GS D B A s.heap (S, K, L, Y, (I, X), O) H locs → lv_has ls 4 [(0, .ref (B 0)), (1, .int y1), (2, .int y2), (3, .int y3)] → W p l e (headSpec wsX6_finds rX6_finds).room s m args below meth c H locs 0 0 (MQ below (va_Qi post (gB D B A) A) args s 0 0 A) (F0 m 59 ls [])) (I : Nat → Int32) (X : Nat → Nat → Int32) (y1 : Int32) (y2 : Int32) (y3 : Int32) (H : Heap) (locs : List Loc) (ls : Array Slot) (hf : fX6_finds_b118 G42 G59 Q I X y1 y2 y3) (hG : GS D B A s.heap (S, K, L, Y, (I, X), O) H locs) (hl : lv_has ls 4 [(0, .ref (B 0)), (1, .int y1), (2, .int y2), (3, .int y3)]) : W p l e (headSpec wsX6_finds rX6_finds).room s m args below meth c H locs 0 0 (MQ below (va_Qi post (gB D B A) A) args s 0 0 A) (F0 m 118 ls []) := by
  obtain ⟨hx, hb, hml, hown, hts, hK, hr, hlk, hA, hN⟩ := id C
  unfold fX6_finds_b118 at hf
  obtain ⟨x3_25, ex3_25⟩ : ∃ y : Int32, y = y3 + (1 : Int32) := ⟨_, rfl⟩
  replace hf := hf x3_25 ex3_25
  refine lv_iinc (v := x3_25) (lv' := [(3, .int x3_25), (0, .ref (B 0)), (1, .int y1), (2, .int y2)]) hx hb dX6_finds_118 hl (k := 3) rfl (by rw [ex3_25]; rfl) (by decide) rfl (fun ls hl => ?_)
  refine lv_goto (tgt := 59) hx hb dX6_finds_121 (by decide) ?_
  exact hG59 I X y1 y2 x3_25 _ _ _ hf hG (lv_sub hl [1, 2, 3, 0] rfl)
set_option maxHeartbeats 4000000 in
set_option maxRecDepth 100000 in
theorem vX6_finds_h59 {p : Program} {l : Launch} {e : Env} {s : State} {m : MethodId} {args : Array Value} {below : List Frame} {meth : Method} {c : Code} {D : va_G} {B : Nat → Nat} {A : Nat → Prop} {S : sS} {K : sK} {L : sL} {Y : sY} {O : sO} {post : Int32 → sG → Prop} {Q : Int32 → (Nat → Int32) → (Nat → Nat → Int32) → Prop} (C : gX p s m args meth c cX6_finds 4 (some .boolean) wsX6_finds RX6 D B A) (hpost : ∀ (v : Int32) (I : Nat → Int32) (X : Nat → Nat → Int32), Q v I X → post v (S, K, L, Y, (I, X), O)) {G42 : (Nat → Int32) → (Nat → Nat → Int32) → Int32 → Int32 → Prop} (hG42 : ∀ (I : Nat → Int32) (X : Nat → Nat → Int32) (y1 : Int32) (y2 : Int32) (H : Heap) (locs : List Loc) (ls : Array Slot), G42 I X y1 y2 → GS D B A s.heap (S, K, L, Y, (I, X), O) H locs → lv_has ls 4 [(0, .ref (B 0)), (1, .int y1), (2, .int y2)] → W p l e (headSpec wsX6_finds rX6_finds).room s m args below meth c H locs 0 0 (MQ below (va_Qi post (gB D B A) A) args s 0 0 A) (F0 m 42 ls [])) : ∀ (n59 : Nat) (I : Nat → Int32) (X : Nat → Nat → Int32) (y1 : Int32) (y2 : Int32) (y3 : Int32) (H : Heap) (locs : List Loc) (ls : Array Slot), fX6_finds_h59 G42 Q n59 I X y1 y2 y3 → GS D B A s.heap (S, K, L, Y, (I, X), O) H locs → lv_has ls 4 [(0, .ref (B 0)), (1, .int y1), (2, .int y2), (3, .int y3)] → W p l e (headSpec wsX6_finds rX6_finds).room s m args below meth c H locs 0 0 (MQ below (va_Qi post (gB D B A) A) args s 0 0 A) (F0 m 59 ls []) := by
  obtain ⟨hx, hb, hml, hown, hts, hK, hr, hlk, hA, hN⟩ := id C
  intro n59
  induction n59 with
  | zero =>
    intro I X y1 y2 y3 H locs ls hf
    exact False.elim hf
  | succ n59 hG59 =>
    intro I X y1 y2 y3 H locs ls hf hG hl
    unfold fX6_finds_h59 at hf
    refine lv_iload_n hx hb dX6_finds_59 rfl (lv_at hl 3 rfl) ?_
    refine lv_bipush (v := (98 : Int32)) hx hb dX6_finds_60 (by decide) ?_
    refine lv_icmp_ge (tgt := 124) hx hb dX6_finds_62 (by decide) (fun c_12 => ?_) (fun c_12 => ?_)
    · replace hf := hf.1 c_12
      obtain ⟨x2_13, ex2_13⟩ : ∃ y : Int32, y = y2 + (1 : Int32) := ⟨_, rfl⟩
      replace hf := hf x2_13 ex2_13
      refine lv_iinc (v := x2_13) (lv' := [(2, .int x2_13), (0, .ref (B 0)), (1, .int y1), (3, .int y3)]) hx hb dX6_finds_124 hl (k := 2) rfl (by rw [ex2_13]; rfl) (by decide) rfl (fun ls hl => ?_)
      refine lv_goto (tgt := 42) hx hb dX6_finds_127 (by decide) ?_
      exact hG42 I X y1 x2_13 _ _ _ hf hG (lv_sub hl [1, 2, 0] rfl)
    · replace hf := hf.2 c_12
      refine lv_aload_n hx hb dX6_finds_65 rfl (lv_at hl 0 rfl) ?_
      refine gg_M_17 C hG inX6_finds_wsX60 (hts _ (List.mem_of_getElem? (i := 1) rfl)) dX6_finds_66 ?_
      refine lv_iload_n hx hb dX6_finds_69 rfl (lv_at hl 3 rfl) ?_
      obtain ⟨h_14, hf⟩ := hf
      refine ga_M_17 C hG h_14 dX6_finds_70 ?_
      refine lv_if_ge (tgt := 118) hx hb dX6_finds_71 (by decide) (fun c_15 => ?_) (fun c_15 => ?_)
      · replace hf := hf.1 c_15
        exact vX6_finds_b118 C hpost hG42 hG59 I X y1 y2 y3 _ _ _ hf hG (lv_sub hl [0, 1, 2, 3] rfl)
      · replace hf := hf.2 c_15
        refine lv_aload_n hx hb dX6_finds_74 rfl (lv_at hl 0 rfl) ?_
        refine gg_M_16 C hG inX6_finds_wsX60 (hts _ (List.mem_of_getElem? (i := 3) rfl)) dX6_finds_75 ?_
        refine lv_bipush (v := (98 : Int32)) hx hb dX6_finds_78 (by decide) ?_
        refine lv_aload_n hx hb dX6_finds_80 rfl (lv_at hl 0 rfl) ?_
        refine gg_M_18 C hG inX6_finds_wsX60 (hts _ (List.mem_of_getElem? (i := 2) rfl)) dX6_finds_81 ?_
        refine lv_iload_n hx hb dX6_finds_84 rfl (lv_at hl 2 rfl) ?_
        obtain ⟨h_16, hf⟩ := hf
        refine ga_M_18 C hG h_16 dX6_finds_85 ?_
        refine lv_imul hx hb dX6_finds_86 ?_
        refine lv_iload_n hx hb dX6_finds_87 rfl (lv_at hl 3 rfl) ?_
        refine lv_iadd hx hb dX6_finds_88 ?_
        obtain ⟨h_17, hf⟩ := hf
        refine ga_M_16 C hG h_17 dX6_finds_89 ?_
        refine lv_if_ne (tgt := 96) hx hb dX6_finds_90 (by decide) (fun c_18 => ?_) (fun c_18 => ?_)
        · replace hf := hf.1 c_18
          refine lv_aload_n hx hb dX6_finds_96 rfl (lv_at hl 0 rfl) ?_
          refine gg_M_17 C hG inX6_finds_wsX60 (hts _ (List.mem_of_getElem? (i := 1) rfl)) dX6_finds_97 ?_
          refine lv_iload_n hx hb dX6_finds_100 rfl (lv_at hl 3 rfl) ?_
          refine lv_aload_n hx hb dX6_finds_101 rfl (lv_at hl 0 rfl) ?_
          refine gg_M_18 C hG inX6_finds_wsX60 (hts _ (List.mem_of_getElem? (i := 2) rfl)) dX6_finds_102 ?_
          refine lv_iload_n hx hb dX6_finds_105 rfl (lv_at hl 2 rfl) ?_
          obtain ⟨h_19, hf⟩ := hf
          refine ga_M_18 C hG h_19 dX6_finds_106 ?_
          obtain ⟨h_20, hf⟩ := hf
          refine gs_M_17 C hG h_20 dX6_finds_107 (fun X_21 H locs eX_21 hG => ?_)
          replace hf := hf X_21 eX_21
          refine lv_aload_n hx hb dX6_finds_108 rfl (lv_at hl 0 rfl) ?_
          refine gg_M_18 C hG inX6_finds_wsX60 (hts _ (List.mem_of_getElem? (i := 2) rfl)) dX6_finds_109 ?_
          refine lv_iload_n hx hb dX6_finds_112 rfl (lv_at hl 1 rfl) ?_
          refine lv_iload_n hx hb dX6_finds_113 rfl (lv_at hl 3 rfl) ?_
          obtain ⟨h_22, hf⟩ := hf
          refine gs_M_18 C hG h_22 dX6_finds_114 (fun X_23 H locs eX_23 hG => ?_)
          replace hf := hf X_23 eX_23
          obtain ⟨x1_24, ex1_24⟩ : ∃ y : Int32, y = y1 + (1 : Int32) := ⟨_, rfl⟩
          replace hf := hf x1_24 ex1_24
          refine lv_iinc (v := x1_24) (lv' := [(1, .int x1_24), (0, .ref (B 0)), (2, .int y2), (3, .int y3)]) hx hb dX6_finds_115 hl (k := 1) rfl (by rw [ex1_24]; rfl) (by decide) rfl (fun ls hl => ?_)
          exact vX6_finds_b118 C hpost hG42 hG59 I X_23 x1_24 y2 y3 _ _ _ hf hG (lv_sub hl [1, 0, 2, 3] rfl)
        · replace hf := hf.2 c_18
          refine lv_goto (tgt := 118) hx hb dX6_finds_93 (by decide) ?_
          exact vX6_finds_b118 C hpost hG42 hG59 I X y1 y2 y3 _ _ _ hf hG (lv_sub hl [0, 1, 2, 3] rfl)
set_option maxHeartbeats 4000000 in
set_option maxRecDepth 100000 in
theorem vX6_finds_h42 {p : Program} {l : Launch} {e : Env} {s : State} {m : MethodId} {args : Array Value} {below : List Frame} {meth : Method} {c : Code} {D : va_G} {B : Nat → Nat} {A : Nat → Prop} {S : sS} {K : sK} {L : sL} {Y : sY} {O : sO} {post : Int32 → sG → Prop} {Q : Int32 → (Nat → Int32) → (Nat → Nat → Int32) → Prop} (C : gX p s m args meth c cX6_finds 4 (some .boolean) wsX6_finds RX6 D B A) (hpost : ∀ (v : Int32) (I : Nat → Int32) (X : Nat → Nat → Int32), Q v I X → post v (S, K, L, Y, (I, X), O))  : ∀ (n42 : Nat) (I : Nat → Int32) (X : Nat → Nat → Int32) (y1 : Int32) (y2 : Int32) (H : Heap) (locs : List Loc) (ls : Array Slot), fX6_finds_h42 Q n42 I X y1 y2 → GS D B A s.heap (S, K, L, Y, (I, X), O) H locs → lv_has ls 4 [(0, .ref (B 0)), (1, .int y1), (2, .int y2)] → W p l e (headSpec wsX6_finds rX6_finds).room s m args below meth c H locs 0 0 (MQ below (va_Qi post (gB D B A) A) args s 0 0 A) (F0 m 42 ls []) := by
  obtain ⟨hx, hb, hml, hown, hts, hK, hr, hlk, hA, hN⟩ := id C
  intro n42
  induction n42 with
  | zero =>
    intro I X y1 y2 H locs ls hf
    exact False.elim hf
  | succ n42 hG42 =>
    intro I X y1 y2 H locs ls hf hG hl
    unfold fX6_finds_h42 at hf
    refine lv_iload_n hx hb dX6_finds_42 rfl (lv_at hl 2 rfl) ?_
    refine lv_iload_n hx hb dX6_finds_43 rfl (lv_at hl 1 rfl) ?_
    refine lv_icmp_ge (tgt := 130) hx hb dX6_finds_44 (by decide) (fun c_9 => ?_) (fun c_9 => ?_)
    · replace hf := hf.1 c_9
      exact vX6_finds_b130 C hpost  I X _ _ _ hf hG (lv_sub hl [0] rfl)
    · replace hf := hf.2 c_9
      refine lv_aload_n hx hb dX6_finds_47 rfl (lv_at hl 0 rfl) ?_
      refine gg_M_17 C hG inX6_finds_wsX60 (hts _ (List.mem_of_getElem? (i := 1) rfl)) dX6_finds_48 ?_
      refine lv_bipush (v := (97 : Int32)) hx hb dX6_finds_51 (by decide) ?_
      obtain ⟨h_10, hf⟩ := hf
      refine ga_M_17 C hG h_10 dX6_finds_53 ?_
      refine lv_if_ge (tgt := 130) hx hb dX6_finds_54 (by decide) (fun c_11 => ?_) (fun c_11 => ?_)
      · replace hf := hf.1 c_11
        exact vX6_finds_b130 C hpost  I X _ _ _ hf hG (lv_sub hl [0] rfl)
      · replace hf := hf.2 c_11
        refine lv_iconst (v := (0 : Int32)) hx hb dX6_finds_57 (by decide) ?_
        refine lv_istore_n (lv' := [(3, .int (0 : Int32)), (0, .ref (B 0)), (1, .int y1), (2, .int y2)]) hx hb dX6_finds_58 rfl hl (by decide) rfl (fun ls hl => ?_)
        obtain ⟨n59, hf⟩ := hf
        exact vX6_finds_h59 C hpost hG42 n59 I X y1 y2 (0 : Int32) _ _ _ hf hG (lv_sub hl [1, 2, 3, 0] rfl)
set_option maxHeartbeats 4000000 in
set_option maxRecDepth 100000 in
theorem vX6_finds_h2 {p : Program} {l : Launch} {e : Env} {s : State} {m : MethodId} {args : Array Value} {below : List Frame} {meth : Method} {c : Code} {D : va_G} {B : Nat → Nat} {A : Nat → Prop} {S : sS} {K : sK} {L : sL} {Y : sY} {O : sO} {post : Int32 → sG → Prop} {Q : Int32 → (Nat → Int32) → (Nat → Nat → Int32) → Prop} (C : gX p s m args meth c cX6_finds 4 (some .boolean) wsX6_finds RX6 D B A) (hpost : ∀ (v : Int32) (I : Nat → Int32) (X : Nat → Nat → Int32), Q v I X → post v (S, K, L, Y, (I, X), O))  : ∀ (n2 : Nat) (I : Nat → Int32) (X : Nat → Nat → Int32) (y1 : Int32) (H : Heap) (locs : List Loc) (ls : Array Slot), fX6_finds_h2 Q n2 I X y1 → GS D B A s.heap (S, K, L, Y, (I, X), O) H locs → lv_has ls 4 [(0, .ref (B 0)), (1, .int y1)] → W p l e (headSpec wsX6_finds rX6_finds).room s m args below meth c H locs 0 0 (MQ below (va_Qi post (gB D B A) A) args s 0 0 A) (F0 m 2 ls []) := by
  obtain ⟨hx, hb, hml, hown, hts, hK, hr, hlk, hA, hN⟩ := id C
  intro n2
  induction n2 with
  | zero =>
    intro I X y1 H locs ls hf
    exact False.elim hf
  | succ n2 hG2 =>
    intro I X y1 H locs ls hf hG hl
    unfold fX6_finds_h2 at hf
    refine lv_iload_n hx hb dX6_finds_2 rfl (lv_at hl 1 rfl) ?_
    refine lv_bipush (v := (98 : Int32)) hx hb dX6_finds_3 (by decide) ?_
    refine lv_icmp_ge (tgt := 21) hx hb dX6_finds_5 (by decide) (fun c_1 => ?_) (fun c_1 => ?_)
    · replace hf := hf.1 c_1
      refine lv_aload_n hx hb dX6_finds_21 rfl (lv_at hl 0 rfl) ?_
      refine gg_M_17 C hG inX6_finds_wsX60 (hts _ (List.mem_of_getElem? (i := 1) rfl)) dX6_finds_22 ?_
      refine lv_bipush (v := (96 : Int32)) hx hb dX6_finds_25 (by decide) ?_
      refine lv_bipush (v := (96 : Int32)) hx hb dX6_finds_27 (by decide) ?_
      obtain ⟨h_2, hf⟩ := hf
      refine gs_M_17 C hG h_2 dX6_finds_29 (fun X_3 H locs eX_3 hG => ?_)
      replace hf := hf X_3 eX_3
      refine lv_aload_n hx hb dX6_finds_30 rfl (lv_at hl 0 rfl) ?_
      refine gg_M_18 C hG inX6_finds_wsX60 (hts _ (List.mem_of_getElem? (i := 2) rfl)) dX6_finds_31 ?_
      refine lv_iconst (v := (0 : Int32)) hx hb dX6_finds_34 (by decide) ?_
      refine lv_bipush (v := (96 : Int32)) hx hb dX6_finds_35 (by decide) ?_
      obtain ⟨h_4, hf⟩ := hf
      refine gs_M_18 C hG h_4 dX6_finds_37 (fun X_5 H locs eX_5 hG => ?_)
      replace hf := hf X_5 eX_5
      refine lv_iconst (v := (1 : Int32)) hx hb dX6_finds_38 (by decide) ?_
      refine lv_istore_n (lv' := [(1, .int (1 : Int32)), (0, .ref (B 0))]) hx hb dX6_finds_39 rfl hl (by decide) rfl (fun ls hl => ?_)
      refine lv_iconst (v := (0 : Int32)) hx hb dX6_finds_40 (by decide) ?_
      refine lv_istore_n (lv' := [(2, .int (0 : Int32)), (1, .int (1 : Int32)), (0, .ref (B 0))]) hx hb dX6_finds_41 rfl hl (by decide) rfl (fun ls hl => ?_)
      obtain ⟨n42, hf⟩ := hf
      exact vX6_finds_h42 C hpost  n42 I X_5 (1 : Int32) (0 : Int32) _ _ _ hf hG (lv_sub hl [2, 1, 0] rfl)
    · replace hf := hf.2 c_1
      refine lv_aload_n hx hb dX6_finds_8 rfl (lv_at hl 0 rfl) ?_
      refine gg_M_17 C hG inX6_finds_wsX60 (hts _ (List.mem_of_getElem? (i := 1) rfl)) dX6_finds_9 ?_
      refine lv_iload_n hx hb dX6_finds_12 rfl (lv_at hl 1 rfl) ?_
      refine lv_iconst (v := (-1 : Int32)) hx hb dX6_finds_13 (by decide) ?_
      obtain ⟨h_6, hf⟩ := hf
      refine gs_M_17 C hG h_6 dX6_finds_14 (fun X_7 H locs eX_7 hG => ?_)
      replace hf := hf X_7 eX_7
      obtain ⟨x1_8, ex1_8⟩ : ∃ y : Int32, y = y1 + (1 : Int32) := ⟨_, rfl⟩
      replace hf := hf x1_8 ex1_8
      refine lv_iinc (v := x1_8) (lv' := [(1, .int x1_8), (0, .ref (B 0))]) hx hb dX6_finds_15 hl (k := 1) rfl (by rw [ex1_8]; rfl) (by decide) rfl (fun ls hl => ?_)
      refine lv_goto (tgt := 2) hx hb dX6_finds_18 (by decide) ?_
      exact hG2 I X_7 x1_8 _ _ _ hf hG (lv_sub hl [1, 0] rfl)
set_option maxHeartbeats 4000000 in
set_option maxRecDepth 100000 in
theorem vX6_finds_b0 {p : Program} {l : Launch} {e : Env} {s : State} {m : MethodId} {args : Array Value} {below : List Frame} {meth : Method} {c : Code} {D : va_G} {B : Nat → Nat} {A : Nat → Prop} {S : sS} {K : sK} {L : sL} {Y : sY} {O : sO} {post : Int32 → sG → Prop} {Q : Int32 → (Nat → Int32) → (Nat → Nat → Int32) → Prop} (C : gX p s m args meth c cX6_finds 4 (some .boolean) wsX6_finds RX6 D B A) (hpost : ∀ (v : Int32) (I : Nat → Int32) (X : Nat → Nat → Int32), Q v I X → post v (S, K, L, Y, (I, X), O))  (I : Nat → Int32) (X : Nat → Nat → Int32)  (H : Heap) (locs : List Loc) (ls : Array Slot) (hf : fX6_finds Q I X) (hG : GS D B A s.heap (S, K, L, Y, (I, X), O) H locs) (hl : lv_has ls 4 [(0, .ref (B 0))]) : W p l e (headSpec wsX6_finds rX6_finds).room s m args below meth c H locs 0 0 (MQ below (va_Qi post (gB D B A) A) args s 0 0 A) (F0 m 0 ls []) := by
  obtain ⟨hx, hb, hml, hown, hts, hK, hr, hlk, hA, hN⟩ := id C
  unfold fX6_finds at hf
  refine lv_iconst (v := (0 : Int32)) hx hb dX6_finds_0 (by decide) ?_
  refine lv_istore_n (lv' := [(1, .int (0 : Int32)), (0, .ref (B 0))]) hx hb dX6_finds_1 rfl hl (by decide) rfl (fun ls hl => ?_)
  obtain ⟨n2, hf⟩ := hf
  exact vX6_finds_h2 C hpost  n2 I X (0 : Int32) _ _ _ hf hG (lv_sub hl [1, 0] rfl)
set_option maxRecDepth 100000 in
theorem kX6_finds {l : Launch} {D : va_G} {B : Nat → Nat} {S : sS} {K : sK} {L : sL} {Y : sY} {O : sO}  {Q : Int32 → (Nat → Int32) → (Nat → Nat → Int32) → Prop} {I : Nat → Int32} {X : Nat → Nat → Int32} (hf : fX6_finds Q I X) : gMi D B l yX6_finds wsX6_finds rX6_finds 0 0 [.ref (B 0)] (S, K, L, Y, (I, X), O) (fun r g1 => ∃ (I1 : Nat → Int32) (X1 : Nat → Nat → Int32), g1 = (S, K, L, Y, (I1, X1), O) ∧ Q r I1 X1) := by
  refine gMi_of (cc := cX6_finds) (maxL := 4) (ret := some .boolean) (by decide +kernel) rfl (Nat.le_of_ble_eq_true rfl) ?_
  intro p e s m below meth c A hA0 C hG ls hl
  exact vX6_finds_b0 C (fun v I X hq => ⟨I, X, rfl, hq⟩) I X _ _ _ hf hG hl
def rX6_flows : Room := { frames := 3, cells := 0, slots := 0, locals := 69 }
theorem hdvX6_flows : yX6_flows.cls = RX6 ∧ yX6_flows.cls ≠ "java/lang/invoke/MethodHandle" ∧ yX6_flows.cls ≠ "java/lang/invoke/VarHandle" ∧ (parseMethodDescriptor yX6_flows.desc).map (fun d => d.parameters.length) = some 3 := by decide +kernel
theorem inX6_flows_wsX60 : ∀ w ∈ wsX60, w ∈ wsX6_flows := (fun _ h => List.mem_cons_of_mem _ (List.mem_append_right _ h))
set_option maxHeartbeats 4000000 in
set_option maxRecDepth 100000 in
theorem vX6_flows_h168 {p : Program} {l : Launch} {e : Env} {s : State} {m : MethodId} {args : Array Value} {below : List Frame} {meth : Method} {c : Code} {D : va_G} {B : Nat → Nat} {A : Nat → Prop} {S : sS} {K : sK} {L : sL} {Y : sY} {O : sO} {post : Int32 → sG → Prop} {Q : Int32 → (Nat → Int32) → (Nat → Nat → Int32) → Prop} (C : gX p s m args meth c cX6_flows 6 (some .int) wsX6_flows RX6 D B A) (hpost : ∀ (v : Int32) (I : Nat → Int32) (X : Nat → Nat → Int32), Q v I X → post v (S, K, L, Y, (I, X), O)) {G157 : (Nat → Int32) → (Nat → Nat → Int32) → Int32 → Prop} (hG157 : ∀ (I : Nat → Int32) (X : Nat → Nat → Int32) (y4 : Int32) (H : Heap) (locs : List Loc) (ls : Array Slot), G157 I X y4 → GS D B A s.heap (S, K, L, Y, (I, X), O) H locs → lv_has ls 6 [(0, .ref (B 0)), (4, .int y4)] → W p l e (headSpec wsX6_flows rX6_flows).room s m args below meth c H locs 0 0 (MQ below (va_Qi post (gB D B A) A) args s 0 0 A) (F0 m 157 ls [])) : ∀ (n168 : Nat) (I : Nat → Int32) (X : Nat → Nat → Int32) (y4 : Int32) (y5 : Int32) (H : Heap) (locs : List Loc) (ls : Array Slot), fX6_flows_h168 G157 Q n168 I X y4 y5 → GS D B A s.heap (S, K, L, Y, (I, X), O) H locs → lv_has ls 6 [(0, .ref (B 0)), (4, .int y4), (5, .int y5)] → W p l e (headSpec wsX6_flows rX6_flows).room s m args below meth c H locs 0 0 (MQ below (va_Qi post (gB D B A) A) args s 0 0 A) (F0 m 168 ls []) := by
  obtain ⟨hx, hb, hml, hown, hts, hK, hr, hlk, hA, hN⟩ := id C
  intro n168
  induction n168 with
  | zero =>
    intro I X y4 y5 H locs ls hf
    exact False.elim hf
  | succ n168 hG168 =>
    intro I X y4 y5 H locs ls hf hG hl
    unfold fX6_flows_h168 at hf
    refine lv_iload hx hb dX6_flows_168 (lv_at hl 2 rfl) ?_
    refine lv_bipush (v := (96 : Int32)) hx hb dX6_flows_170 (by decide) ?_
    refine lv_icmp_eq (tgt := 225) hx hb dX6_flows_172 (by decide) (fun c_25 => ?_) (fun c_25 => ?_)
    · replace hf := hf.1 c_25
      obtain ⟨x4_26, ex4_26⟩ : ∃ y : Int32, y = y4 + (1 : Int32) := ⟨_, rfl⟩
      replace hf := hf x4_26 ex4_26
      refine lv_iinc (v := x4_26) (lv' := [(4, .int x4_26), (0, .ref (B 0)), (5, .int y5)]) hx hb dX6_flows_225 hl (k := 1) rfl (by rw [ex4_26]; rfl) (by decide) rfl (fun ls hl => ?_)
      refine lv_goto (tgt := 157) hx hb dX6_flows_228 (by decide) ?_
      exact hG157 I X x4_26 _ _ _ hf hG (lv_sub hl [1, 0] rfl)
    · replace hf := hf.2 c_25
      refine lv_aload_n hx hb dX6_flows_175 rfl (lv_at hl 0 rfl) ?_
      refine gg_M_16 C hG inX6_flows_wsX60 (hts _ (List.mem_of_getElem? (i := 1) rfl)) dX6_flows_176 ?_
      refine lv_bipush (v := (98 : Int32)) hx hb dX6_flows_179 (by decide) ?_
      refine lv_aload_n hx hb dX6_flows_181 rfl (lv_at hl 0 rfl) ?_
      refine gg_M_17 C hG inX6_flows_wsX60 (hts _ (List.mem_of_getElem? (i := 3) rfl)) dX6_flows_182 ?_
      refine lv_iload hx hb dX6_flows_185 (lv_at hl 2 rfl) ?_
      obtain ⟨h_27, hf⟩ := hf
      refine ga_M_17 C hG h_27 dX6_flows_187 ?_
      refine lv_imul hx hb dX6_flows_188 ?_
      refine lv_iload hx hb dX6_flows_189 (lv_at hl 2 rfl) ?_
      refine lv_iadd hx hb dX6_flows_191 ?_
      refine lv_iconst (v := (0 : Int32)) hx hb dX6_flows_192 (by decide) ?_
      obtain ⟨h_28, hf⟩ := hf
      refine gs_M_16 C hG h_28 dX6_flows_193 (fun X_29 H locs eX_29 hG => ?_)
      replace hf := hf X_29 eX_29
      refine lv_aload_n hx hb dX6_flows_194 rfl (lv_at hl 0 rfl) ?_
      refine gg_M_16 C hG inX6_flows_wsX60 (hts _ (List.mem_of_getElem? (i := 1) rfl)) dX6_flows_195 ?_
      refine lv_bipush (v := (98 : Int32)) hx hb dX6_flows_198 (by decide) ?_
      refine lv_iload hx hb dX6_flows_200 (lv_at hl 2 rfl) ?_
      refine lv_imul hx hb dX6_flows_202 ?_
      refine lv_aload_n hx hb dX6_flows_203 rfl (lv_at hl 0 rfl) ?_
      refine gg_M_17 C hG inX6_flows_wsX60 (hts _ (List.mem_of_getElem? (i := 3) rfl)) dX6_flows_204 ?_
      refine lv_iload hx hb dX6_flows_207 (lv_at hl 2 rfl) ?_
      obtain ⟨h_30, hf⟩ := hf
      refine ga_M_17 C hG h_30 dX6_flows_209 ?_
      refine lv_iadd hx hb dX6_flows_210 ?_
      refine lv_iconst (v := (1 : Int32)) hx hb dX6_flows_211 (by decide) ?_
      obtain ⟨h_31, hf⟩ := hf
      refine gs_M_16 C hG h_31 dX6_flows_212 (fun X_32 H locs eX_32 hG => ?_)
      replace hf := hf X_32 eX_32
      refine lv_aload_n hx hb dX6_flows_213 rfl (lv_at hl 0 rfl) ?_
      refine gg_M_17 C hG inX6_flows_wsX60 (hts _ (List.mem_of_getElem? (i := 3) rfl)) dX6_flows_214 ?_
      refine lv_iload hx hb dX6_flows_217 (lv_at hl 2 rfl) ?_
      obtain ⟨h_33, hf⟩ := hf
      refine ga_M_17 C hG h_33 dX6_flows_219 ?_
      refine lv_topi (fun x5_34 ex5_34 => ?_)
      replace hf := hf x5_34 ex5_34
      refine lv_istore (lv' := [(5, .int x5_34), (0, .ref (B 0)), (4, .int y4)]) hx hb dX6_flows_220 hl (by decide) rfl (fun ls hl => ?_)
      refine lv_goto (tgt := 168) hx hb dX6_flows_222 (by decide) ?_
      exact hG168 I X_32 y4 x5_34 _ _ _ hf hG (lv_sub hl [1, 2, 0] rfl)
set_option maxHeartbeats 4000000 in
set_option maxRecDepth 100000 in
theorem vX6_flows_h157 {p : Program} {l : Launch} {e : Env} {s : State} {m : MethodId} {args : Array Value} {below : List Frame} {meth : Method} {c : Code} {D : va_G} {B : Nat → Nat} {A : Nat → Prop} {S : sS} {K : sK} {L : sL} {Y : sY} {O : sO} {post : Int32 → sG → Prop} {Q : Int32 → (Nat → Int32) → (Nat → Nat → Int32) → Prop} (C : gX p s m args meth c cX6_flows 6 (some .int) wsX6_flows RX6 D B A) (hpost : ∀ (v : Int32) (I : Nat → Int32) (X : Nat → Nat → Int32), Q v I X → post v (S, K, L, Y, (I, X), O))  : ∀ (n157 : Nat) (I : Nat → Int32) (X : Nat → Nat → Int32) (y4 : Int32) (H : Heap) (locs : List Loc) (ls : Array Slot), fX6_flows_h157 Q n157 I X y4 → GS D B A s.heap (S, K, L, Y, (I, X), O) H locs → lv_has ls 6 [(0, .ref (B 0)), (4, .int y4)] → W p l e (headSpec wsX6_flows rX6_flows).room s m args below meth c H locs 0 0 (MQ below (va_Qi post (gB D B A) A) args s 0 0 A) (F0 m 157 ls []) := by
  obtain ⟨hx, hb, hml, hown, hts, hK, hr, hlk, hA, hN⟩ := id C
  intro n157
  induction n157 with
  | zero =>
    intro I X y4 H locs ls hf
    exact False.elim hf
  | succ n157 hG157 =>
    intro I X y4 H locs ls hf hG hl
    unfold fX6_flows_h157 at hf
    refine lv_aload_n hx hb dX6_flows_157 rfl (lv_at hl 0 rfl) ?_
    refine g_callVi0 (As := []) C hG (kX6_finds hf) (cwV 0 hts gX6_flows_X6_finds rfl rfl rfl hdvX6_finds ⟨Nat.le_of_ble_eq_true rfl, Nat.le_of_ble_eq_true rfl⟩) (va_recv hK hG.1 (ci := 6) (q0 := 0) rfl rfl) rfl hl.1 rfl (Nat.le_of_ble_eq_true rfl) dX6_flows_158 ⟨Nat.zero_le _, Nat.zero_le _⟩ (fun r_23 g1 H locs hq hG => ?_)
    obtain ⟨I_21, X_22, rfl, hf⟩ := hq
    refine lv_if_eq (tgt := 231) hx hb dX6_flows_161 (by decide) (fun c_24 => ?_) (fun c_24 => ?_)
    · replace hf := hf.1 c_24
      refine lv_iload hx hb dX6_flows_231 (lv_at hl 1 rfl) ?_
      exact g_iret C hG (hpost _ _ _ hf) dX6_flows_233
    · replace hf := hf.2 c_24
      refine lv_bipush (v := (97 : Int32)) hx hb dX6_flows_164 (by decide) ?_
      refine lv_istore (lv' := [(5, .int (97 : Int32)), (0, .ref (B 0)), (4, .int y4)]) hx hb dX6_flows_166 hl (by decide) rfl (fun ls hl => ?_)
      obtain ⟨n168, hf⟩ := hf
      exact vX6_flows_h168 C hpost hG157 n168 I_21 X_22 y4 (97 : Int32) _ _ _ hf hG (lv_sub hl [1, 2, 0] rfl)
set_option maxHeartbeats 4000000 in
set_option maxRecDepth 100000 in
theorem vX6_flows_b141 {p : Program} {l : Launch} {e : Env} {s : State} {m : MethodId} {args : Array Value} {below : List Frame} {meth : Method} {c : Code} {D : va_G} {B : Nat → Nat} {A : Nat → Prop} {S : sS} {K : sK} {L : sL} {Y : sY} {O : sO} {post : Int32 → sG → Prop} {Q : Int32 → (Nat → Int32) → (Nat → Nat → Int32) → Prop} (C : gX p s m args meth c cX6_flows 6 (some .int) wsX6_flows RX6 D B A) (hpost : ∀ (v : Int32) (I : Nat → Int32) (X : Nat → Nat → Int32), Q v I X → post v (S, K, L, Y, (I, X), O)) {G28 : (Nat → Int32) → (Nat → Nat → Int32) → Int32 → Int32 → Int32 → Int32 → Prop} (hG28 : ∀ (I : Nat → Int32) (X : Nat → Nat → Int32) (y1 : Int32) (y2 : Int32) (y3 : Int32) (y4 : Int32) (H : Heap) (locs : List Loc) (ls : Array Slot), G28 I X y1 y2 y3 y4 → GS D B A s.heap (S, K, L, Y, (I, X), O) H locs → lv_has ls 6 [(0, .ref (B 0)), (1, .int y1), (2, .int y2), (3, .int y3), (4, .int y4)] → W p l e (headSpec wsX6_flows rX6_flows).room s m args below meth c H locs 0 0 (MQ below (va_Qi post (gB D B A) A) args s 0 0 A) (F0 m 28 ls [])) {G100 : (Nat → Int32) → (Nat → Nat → Int32) → Int32 → Int32 → Int32 → Int32 → Int32 → Prop} (hG100 : ∀ (I : Nat → Int32) (X : Nat → Nat → Int32) (y1 : Int32) (y2 : Int32) (y3 : Int32) (y4 : Int32) (y5 : Int32) (H : Heap) (locs : List Loc) (ls : Array Slot), G100 I X y1 y2 y3 y4 y5 → GS D B A s.heap (S, K, L, Y, (I, X), O) H locs → lv_has ls 6 [(0, .ref (B 0)), (1, .int y1), (2, .int y2), (3, .int y3), (4, .int y4), (5, .int y5)] → W p l e (headSpec wsX6_flows rX6_flows).room s m args below meth c H locs 0 0 (MQ below (va_Qi post (gB D B A) A) args s 0 0 A) (F0 m 100 ls [])) (I : Nat → Int32) (X : Nat → Nat → Int32) (y1 : Int32) (y2 : Int32) (y3 : Int32) (y4 : Int32) (y5 : Int32) (t0 : Int32) (t1 : Int32) (H : Heap) (locs : List Loc) (ls : Array Slot) (hf : fX6_flows_b141 G28 G100 Q I X y1 y2 y3 y4 y5 t0 t1) (hG : GS D B A s.heap (S, K, L, Y, (I, X), O) H locs) (hl : lv_has ls 6 [(0, .ref (B 0)), (1, .int y1), (2, .int y2), (3, .int y3), (4, .int y4), (5, .int y5)]) : W p l e (headSpec wsX6_flows rX6_flows).room s m args below meth c H locs 0 0 (MQ below (va_Qi post (gB D B A) A) args s 0 0 A) (F0 m 141 ls [.int t0, .int t1, .ref (B 76)]) := by
  obtain ⟨hx, hb, hml, hown, hts, hK, hr, hlk, hA, hN⟩ := id C
  unfold fX6_flows_b141 at hf
  obtain ⟨h_18, hf⟩ := hf
  refine gs_M_16 C hG h_18 dX6_flows_141 (fun X_19 H locs eX_19 hG => ?_)
  replace hf := hf X_19 eX_19
  obtain ⟨x5_20, ex5_20⟩ : ∃ y : Int32, y = y5 + (1 : Int32) := ⟨_, rfl⟩
  replace hf := hf x5_20 ex5_20
  refine lv_iinc (v := x5_20) (lv' := [(5, .int x5_20), (0, .ref (B 0)), (1, .int y1), (2, .int y2), (3, .int y3), (4, .int y4)]) hx hb dX6_flows_142 hl (k := 5) rfl (by rw [ex5_20]; rfl) (by decide) rfl (fun ls hl => ?_)
  refine lv_goto (tgt := 100) hx hb dX6_flows_145 (by decide) ?_
  exact hG100 I X_19 y1 y2 y3 y4 x5_20 _ _ _ hf hG (lv_sub hl [1, 2, 3, 4, 5, 0] rfl)
set_option maxHeartbeats 4000000 in
set_option maxRecDepth 100000 in
theorem vX6_flows_h100 {p : Program} {l : Launch} {e : Env} {s : State} {m : MethodId} {args : Array Value} {below : List Frame} {meth : Method} {c : Code} {D : va_G} {B : Nat → Nat} {A : Nat → Prop} {S : sS} {K : sK} {L : sL} {Y : sY} {O : sO} {post : Int32 → sG → Prop} {Q : Int32 → (Nat → Int32) → (Nat → Nat → Int32) → Prop} (C : gX p s m args meth c cX6_flows 6 (some .int) wsX6_flows RX6 D B A) (hpost : ∀ (v : Int32) (I : Nat → Int32) (X : Nat → Nat → Int32), Q v I X → post v (S, K, L, Y, (I, X), O)) {G28 : (Nat → Int32) → (Nat → Nat → Int32) → Int32 → Int32 → Int32 → Int32 → Prop} (hG28 : ∀ (I : Nat → Int32) (X : Nat → Nat → Int32) (y1 : Int32) (y2 : Int32) (y3 : Int32) (y4 : Int32) (H : Heap) (locs : List Loc) (ls : Array Slot), G28 I X y1 y2 y3 y4 → GS D B A s.heap (S, K, L, Y, (I, X), O) H locs → lv_has ls 6 [(0, .ref (B 0)), (1, .int y1), (2, .int y2), (3, .int y3), (4, .int y4)] → W p l e (headSpec wsX6_flows rX6_flows).room s m args below meth c H locs 0 0 (MQ below (va_Qi post (gB D B A) A) args s 0 0 A) (F0 m 28 ls [])) : ∀ (n100 : Nat) (I : Nat → Int32) (X : Nat → Nat → Int32) (y1 : Int32) (y2 : Int32) (y3 : Int32) (y4 : Int32) (y5 : Int32) (H : Heap) (locs : List Loc) (ls : Array Slot), fX6_flows_h100 G28 Q n100 I X y1 y2 y3 y4 y5 → GS D B A s.heap (S, K, L, Y, (I, X), O) H locs → lv_has ls 6 [(0, .ref (B 0)), (1, .int y1), (2, .int y2), (3, .int y3), (4, .int y4), (5, .int y5)] → W p l e (headSpec wsX6_flows rX6_flows).room s m args below meth c H locs 0 0 (MQ below (va_Qi post (gB D B A) A) args s 0 0 A) (F0 m 100 ls []) := by
  obtain ⟨hx, hb, hml, hown, hts, hK, hr, hlk, hA, hN⟩ := id C
  intro n100
  induction n100 with
  | zero =>
    intro I X y1 y2 y3 y4 y5 H locs ls hf
    exact False.elim hf
  | succ n100 hG100 =>
    intro I X y1 y2 y3 y4 y5 H locs ls hf hG hl
    unfold fX6_flows_h100 at hf
    refine lv_iload hx hb dX6_flows_100 (lv_at hl 5 rfl) ?_
    refine lv_aload_n hx hb dX6_flows_102 rfl (lv_at hl 0 rfl) ?_
    refine gg_M_9 C hG inX6_flows_wsX60 (hts _ (List.mem_of_getElem? (i := 2) rfl)) dX6_flows_103 ?_
    refine lv_icmp_ge (tgt := 148) hx hb dX6_flows_106 (by decide) (fun c_14 => ?_) (fun c_14 => ?_)
    · replace hf := hf.1 c_14
      obtain ⟨x4_15, ex4_15⟩ : ∃ y : Int32, y = y4 + (1 : Int32) := ⟨_, rfl⟩
      replace hf := hf x4_15 ex4_15
      refine lv_iinc (v := x4_15) (lv' := [(4, .int x4_15), (0, .ref (B 0)), (1, .int y1), (2, .int y2), (3, .int y3), (5, .int y5)]) hx hb dX6_flows_148 hl (k := 4) rfl (by rw [ex4_15]; rfl) (by decide) rfl (fun ls hl => ?_)
      refine lv_goto (tgt := 28) hx hb dX6_flows_151 (by decide) ?_
      exact hG28 I X y1 y2 y3 x4_15 _ _ _ hf hG (lv_sub hl [1, 2, 3, 4, 0] rfl)
    · replace hf := hf.2 c_14
      refine lv_aload_n hx hb dX6_flows_109 rfl (lv_at hl 0 rfl) ?_
      refine gg_M_16 C hG inX6_flows_wsX60 (hts _ (List.mem_of_getElem? (i := 1) rfl)) dX6_flows_110 ?_
      refine lv_bipush (v := (98 : Int32)) hx hb dX6_flows_113 (by decide) ?_
      refine lv_iload hx hb dX6_flows_115 (lv_at hl 4 rfl) ?_
      refine lv_bipush (v := (48 : Int32)) hx hb dX6_flows_117 (by decide) ?_
      refine lv_iadd hx hb dX6_flows_119 ?_
      refine lv_imul hx hb dX6_flows_120 ?_
      refine lv_iload hx hb dX6_flows_121 (lv_at hl 5 rfl) ?_
      refine lv_iadd hx hb dX6_flows_123 ?_
      refine lv_aload_n hx hb dX6_flows_124 rfl (lv_at hl 0 rfl) ?_
      refine lv_iload hx hb dX6_flows_125 (lv_at hl 4 rfl) ?_
      refine lv_iload hx hb dX6_flows_127 (lv_at hl 5 rfl) ?_
      refine lv_iload_n hx hb dX6_flows_129 rfl (lv_at hl 3 rfl) ?_
      refine g_callVi0 (As := [.int y4, .int y5, .int y3]) C hG (kX6_linkOf hf) (cwV 3 hts gX6_flows_X6_linkOf rfl rfl rfl hdvX6_linkOf ⟨Nat.le_of_ble_eq_true rfl, Nat.le_of_ble_eq_true rfl⟩) (va_recv hK hG.1 (ci := 6) (q0 := 0) rfl rfl) rfl hl.1 rfl (Nat.le_of_ble_eq_true rfl) dX6_flows_130 ⟨Nat.zero_le _, Nat.zero_le _⟩ (fun r_16 g1 H locs hq hG => ?_)
      obtain ⟨rfl, hf⟩ := hq
      refine lv_if_le (tgt := 140) hx hb dX6_flows_133 (by decide) (fun c_17 => ?_) (fun c_17 => ?_)
      · replace hf := hf.1 c_17
        refine lv_iconst (v := (0 : Int32)) hx hb dX6_flows_140 (by decide) ?_
        exact vX6_flows_b141 C hpost hG28 hG100 I X y1 y2 y3 y4 y5 (0 : Int32) (((98 : Int32) * (y4 + (48 : Int32))) + y5) _ _ _ hf hG (lv_sub hl [0, 1, 2, 3, 4, 5] rfl)
      · replace hf := hf.2 c_17
        refine lv_iconst (v := (1 : Int32)) hx hb dX6_flows_136 (by decide) ?_
        refine lv_goto (tgt := 141) hx hb dX6_flows_137 (by decide) ?_
        exact vX6_flows_b141 C hpost hG28 hG100 I X y1 y2 y3 y4 y5 (1 : Int32) (((98 : Int32) * (y4 + (48 : Int32))) + y5) _ _ _ hf hG (lv_sub hl [0, 1, 2, 3, 4, 5] rfl)
set_option maxHeartbeats 4000000 in
set_option maxRecDepth 100000 in
theorem vX6_flows_h28 {p : Program} {l : Launch} {e : Env} {s : State} {m : MethodId} {args : Array Value} {below : List Frame} {meth : Method} {c : Code} {D : va_G} {B : Nat → Nat} {A : Nat → Prop} {S : sS} {K : sK} {L : sL} {Y : sY} {O : sO} {post : Int32 → sG → Prop} {Q : Int32 → (Nat → Int32) → (Nat → Nat → Int32) → Prop} (C : gX p s m args meth c cX6_flows 6 (some .int) wsX6_flows RX6 D B A) (hpost : ∀ (v : Int32) (I : Nat → Int32) (X : Nat → Nat → Int32), Q v I X → post v (S, K, L, Y, (I, X), O))  : ∀ (n28 : Nat) (I : Nat → Int32) (X : Nat → Nat → Int32) (y1 : Int32) (y2 : Int32) (y3 : Int32) (y4 : Int32) (H : Heap) (locs : List Loc) (ls : Array Slot), fX6_flows_h28 Q n28 I X y1 y2 y3 y4 → GS D B A s.heap (S, K, L, Y, (I, X), O) H locs → lv_has ls 6 [(0, .ref (B 0)), (1, .int y1), (2, .int y2), (3, .int y3), (4, .int y4)] → W p l e (headSpec wsX6_flows rX6_flows).room s m args below meth c H locs 0 0 (MQ below (va_Qi post (gB D B A) A) args s 0 0 A) (F0 m 28 ls []) := by
  obtain ⟨hx, hb, hml, hown, hts, hK, hr, hlk, hA, hN⟩ := id C
  intro n28
  induction n28 with
  | zero =>
    intro I X y1 y2 y3 y4 H locs ls hf
    exact False.elim hf
  | succ n28 hG28 =>
    intro I X y1 y2 y3 y4 H locs ls hf hG hl
    unfold fX6_flows_h28 at hf
    refine lv_iload hx hb dX6_flows_28 (lv_at hl 4 rfl) ?_
    refine lv_aload_n hx hb dX6_flows_30 rfl (lv_at hl 0 rfl) ?_
    refine gg_M_9 C hG inX6_flows_wsX60 (hts _ (List.mem_of_getElem? (i := 2) rfl)) dX6_flows_31 ?_
    refine lv_icmp_ge (tgt := 154) hx hb dX6_flows_34 (by decide) (fun c_5 => ?_) (fun c_5 => ?_)
    · replace hf := hf.1 c_5
      refine lv_iconst (v := (0 : Int32)) hx hb dX6_flows_154 (by decide) ?_
      refine lv_istore (lv' := [(4, .int (0 : Int32)), (0, .ref (B 0)), (1, .int y1), (2, .int y2), (3, .int y3)]) hx hb dX6_flows_155 hl (by decide) rfl (fun ls hl => ?_)
      obtain ⟨n157, hf⟩ := hf
      exact vX6_flows_h157 C hpost  n157 I X (0 : Int32) _ _ _ hf hG (lv_sub hl [1, 0] rfl)
    · replace hf := hf.2 c_5
      refine lv_aload_n hx hb dX6_flows_37 rfl (lv_at hl 0 rfl) ?_
      refine gg_M_16 C hG inX6_flows_wsX60 (hts _ (List.mem_of_getElem? (i := 1) rfl)) dX6_flows_38 ?_
      refine lv_bipush (v := (98 : Int32)) hx hb dX6_flows_41 (by decide) ?_
      refine lv_iload hx hb dX6_flows_43 (lv_at hl 4 rfl) ?_
      refine lv_imul hx hb dX6_flows_45 ?_
      refine lv_iload hx hb dX6_flows_46 (lv_at hl 4 rfl) ?_
      refine lv_iadd hx hb dX6_flows_48 ?_
      refine lv_bipush (v := (48 : Int32)) hx hb dX6_flows_49 (by decide) ?_
      refine lv_iadd hx hb dX6_flows_51 ?_
      refine lv_iconst (v := (1 : Int32)) hx hb dX6_flows_52 (by decide) ?_
      obtain ⟨h_6, hf⟩ := hf
      refine gs_M_16 C hG h_6 dX6_flows_53 (fun X_7 H locs eX_7 hG => ?_)
      replace hf := hf X_7 eX_7
      refine lv_aload_n hx hb dX6_flows_54 rfl (lv_at hl 0 rfl) ?_
      refine gg_M_16 C hG inX6_flows_wsX60 (hts _ (List.mem_of_getElem? (i := 1) rfl)) dX6_flows_55 ?_
      refine lv_sipush (v := (9408 : Int32)) hx hb dX6_flows_58 (by decide) ?_
      refine lv_iload hx hb dX6_flows_61 (lv_at hl 4 rfl) ?_
      refine lv_iadd hx hb dX6_flows_63 ?_
      refine lv_aload_n hx hb dX6_flows_64 rfl (lv_at hl 0 rfl) ?_
      refine lv_iload_n hx hb dX6_flows_65 rfl (lv_at hl 1 rfl) ?_
      refine lv_iload hx hb dX6_flows_66 (lv_at hl 4 rfl) ?_
      refine lv_iload_n hx hb dX6_flows_68 rfl (lv_at hl 3 rfl) ?_
      refine g_callVi0 (As := [.int y1, .int y4, .int y3]) C hG (kX6_seesOf hf) (cwV 3 hts gX6_flows_X6_seesOf rfl rfl rfl hdvX6_seesOf ⟨Nat.le_of_ble_eq_true rfl, Nat.le_of_ble_eq_true rfl⟩) (va_recv hK hG.1 (ci := 6) (q0 := 0) rfl rfl) rfl hl.1 rfl (Nat.le_of_ble_eq_true rfl) dX6_flows_69 ⟨Nat.zero_le _, Nat.zero_le _⟩ (fun r_8 g1 H locs hq hG => ?_)
      obtain ⟨rfl, hf⟩ := hq
      obtain ⟨h_9, hf⟩ := hf
      refine gs_M_16 C hG h_9 dX6_flows_72 (fun X_10 H locs eX_10 hG => ?_)
      replace hf := hf X_10 eX_10
      refine lv_aload_n hx hb dX6_flows_73 rfl (lv_at hl 0 rfl) ?_
      refine gg_M_16 C hG inX6_flows_wsX60 (hts _ (List.mem_of_getElem? (i := 1) rfl)) dX6_flows_74 ?_
      refine lv_bipush (v := (98 : Int32)) hx hb dX6_flows_77 (by decide) ?_
      refine lv_iload hx hb dX6_flows_79 (lv_at hl 4 rfl) ?_
      refine lv_bipush (v := (48 : Int32)) hx hb dX6_flows_81 (by decide) ?_
      refine lv_iadd hx hb dX6_flows_83 ?_
      refine lv_imul hx hb dX6_flows_84 ?_
      refine lv_bipush (v := (97 : Int32)) hx hb dX6_flows_85 (by decide) ?_
      refine lv_iadd hx hb dX6_flows_87 ?_
      refine lv_aload_n hx hb dX6_flows_88 rfl (lv_at hl 0 rfl) ?_
      refine lv_iload_n hx hb dX6_flows_89 rfl (lv_at hl 2 rfl) ?_
      refine lv_iload hx hb dX6_flows_90 (lv_at hl 4 rfl) ?_
      refine lv_iload_n hx hb dX6_flows_92 rfl (lv_at hl 3 rfl) ?_
      refine g_callVi0 (As := [.int y2, .int y4, .int y3]) C hG (kX6_seesOf hf) (cwV 3 hts gX6_flows_X6_seesOf rfl rfl rfl hdvX6_seesOf ⟨Nat.le_of_ble_eq_true rfl, Nat.le_of_ble_eq_true rfl⟩) (va_recv hK hG.1 (ci := 6) (q0 := 0) rfl rfl) rfl hl.1 rfl (Nat.le_of_ble_eq_true rfl) dX6_flows_93 ⟨Nat.zero_le _, Nat.zero_le _⟩ (fun r_11 g1 H locs hq hG => ?_)
      obtain ⟨rfl, hf⟩ := hq
      obtain ⟨h_12, hf⟩ := hf
      refine gs_M_16 C hG h_12 dX6_flows_96 (fun X_13 H locs eX_13 hG => ?_)
      replace hf := hf X_13 eX_13
      refine lv_iconst (v := (0 : Int32)) hx hb dX6_flows_97 (by decide) ?_
      refine lv_istore (lv' := [(5, .int (0 : Int32)), (0, .ref (B 0)), (1, .int y1), (2, .int y2), (3, .int y3), (4, .int y4)]) hx hb dX6_flows_98 hl (by decide) rfl (fun ls hl => ?_)
      obtain ⟨n100, hf⟩ := hf
      exact vX6_flows_h100 C hpost hG28 n100 I X_13 y1 y2 y3 y4 (0 : Int32) _ _ _ hf hG (lv_sub hl [1, 2, 3, 4, 5, 0] rfl)
set_option maxHeartbeats 4000000 in
set_option maxRecDepth 100000 in
theorem vX6_flows_h3 {p : Program} {l : Launch} {e : Env} {s : State} {m : MethodId} {args : Array Value} {below : List Frame} {meth : Method} {c : Code} {D : va_G} {B : Nat → Nat} {A : Nat → Prop} {S : sS} {K : sK} {L : sL} {Y : sY} {O : sO} {post : Int32 → sG → Prop} {Q : Int32 → (Nat → Int32) → (Nat → Nat → Int32) → Prop} (C : gX p s m args meth c cX6_flows 6 (some .int) wsX6_flows RX6 D B A) (hpost : ∀ (v : Int32) (I : Nat → Int32) (X : Nat → Nat → Int32), Q v I X → post v (S, K, L, Y, (I, X), O))  : ∀ (n3 : Nat) (I : Nat → Int32) (X : Nat → Nat → Int32) (y1 : Int32) (y2 : Int32) (y3 : Int32) (y4 : Int32) (H : Heap) (locs : List Loc) (ls : Array Slot), fX6_flows_h3 Q n3 I X y1 y2 y3 y4 → GS D B A s.heap (S, K, L, Y, (I, X), O) H locs → lv_has ls 6 [(0, .ref (B 0)), (1, .int y1), (2, .int y2), (3, .int y3), (4, .int y4)] → W p l e (headSpec wsX6_flows rX6_flows).room s m args below meth c H locs 0 0 (MQ below (va_Qi post (gB D B A) A) args s 0 0 A) (F0 m 3 ls []) := by
  obtain ⟨hx, hb, hml, hown, hts, hK, hr, hlk, hA, hN⟩ := id C
  intro n3
  induction n3 with
  | zero =>
    intro I X y1 y2 y3 y4 H locs ls hf
    exact False.elim hf
  | succ n3 hG3 =>
    intro I X y1 y2 y3 y4 H locs ls hf hG hl
    unfold fX6_flows_h3 at hf
    refine lv_iload hx hb dX6_flows_3 (lv_at hl 4 rfl) ?_
    refine lv_sipush (v := (9604 : Int32)) hx hb dX6_flows_5 (by decide) ?_
    refine lv_icmp_ge (tgt := 25) hx hb dX6_flows_8 (by decide) (fun c_1 => ?_) (fun c_1 => ?_)
    · replace hf := hf.1 c_1
      refine lv_iconst (v := (0 : Int32)) hx hb dX6_flows_25 (by decide) ?_
      refine lv_istore (lv' := [(4, .int (0 : Int32)), (0, .ref (B 0)), (1, .int y1), (2, .int y2), (3, .int y3)]) hx hb dX6_flows_26 hl (by decide) rfl (fun ls hl => ?_)
      obtain ⟨n28, hf⟩ := hf
      exact vX6_flows_h28 C hpost  n28 I X y1 y2 y3 (0 : Int32) _ _ _ hf hG (lv_sub hl [1, 2, 3, 4, 0] rfl)
    · replace hf := hf.2 c_1
      refine lv_aload_n hx hb dX6_flows_11 rfl (lv_at hl 0 rfl) ?_
      refine gg_M_16 C hG inX6_flows_wsX60 (hts _ (List.mem_of_getElem? (i := 1) rfl)) dX6_flows_12 ?_
      refine lv_iload hx hb dX6_flows_15 (lv_at hl 4 rfl) ?_
      refine lv_iconst (v := (0 : Int32)) hx hb dX6_flows_17 (by decide) ?_
      obtain ⟨h_2, hf⟩ := hf
      refine gs_M_16 C hG h_2 dX6_flows_18 (fun X_3 H locs eX_3 hG => ?_)
      replace hf := hf X_3 eX_3
      obtain ⟨x4_4, ex4_4⟩ : ∃ y : Int32, y = y4 + (1 : Int32) := ⟨_, rfl⟩
      replace hf := hf x4_4 ex4_4
      refine lv_iinc (v := x4_4) (lv' := [(4, .int x4_4), (0, .ref (B 0)), (1, .int y1), (2, .int y2), (3, .int y3)]) hx hb dX6_flows_19 hl (k := 4) rfl (by rw [ex4_4]; rfl) (by decide) rfl (fun ls hl => ?_)
      refine lv_goto (tgt := 3) hx hb dX6_flows_22 (by decide) ?_
      exact hG3 I X_3 y1 y2 y3 x4_4 _ _ _ hf hG (lv_sub hl [1, 2, 3, 4, 0] rfl)
set_option maxHeartbeats 4000000 in
set_option maxRecDepth 100000 in
theorem vX6_flows_b0 {p : Program} {l : Launch} {e : Env} {s : State} {m : MethodId} {args : Array Value} {below : List Frame} {meth : Method} {c : Code} {D : va_G} {B : Nat → Nat} {A : Nat → Prop} {S : sS} {K : sK} {L : sL} {Y : sY} {O : sO} {post : Int32 → sG → Prop} {Q : Int32 → (Nat → Int32) → (Nat → Nat → Int32) → Prop} (C : gX p s m args meth c cX6_flows 6 (some .int) wsX6_flows RX6 D B A) (hpost : ∀ (v : Int32) (I : Nat → Int32) (X : Nat → Nat → Int32), Q v I X → post v (S, K, L, Y, (I, X), O))  (I : Nat → Int32) (X : Nat → Nat → Int32) (x1 : Int32) (x2 : Int32) (x3 : Int32) (H : Heap) (locs : List Loc) (ls : Array Slot) (hf : fX6_flows Q I X x1 x2 x3) (hG : GS D B A s.heap (S, K, L, Y, (I, X), O) H locs) (hl : lv_has ls 6 [(0, .ref (B 0)), (1, .int x1), (2, .int x2), (3, .int x3)]) : W p l e (headSpec wsX6_flows rX6_flows).room s m args below meth c H locs 0 0 (MQ below (va_Qi post (gB D B A) A) args s 0 0 A) (F0 m 0 ls []) := by
  obtain ⟨hx, hb, hml, hown, hts, hK, hr, hlk, hA, hN⟩ := id C
  unfold fX6_flows at hf
  refine lv_iconst (v := (0 : Int32)) hx hb dX6_flows_0 (by decide) ?_
  refine lv_istore (lv' := [(4, .int (0 : Int32)), (0, .ref (B 0)), (1, .int x1), (2, .int x2), (3, .int x3)]) hx hb dX6_flows_1 hl (by decide) rfl (fun ls hl => ?_)
  obtain ⟨n3, hf⟩ := hf
  exact vX6_flows_h3 C hpost  n3 I X x1 x2 x3 (0 : Int32) _ _ _ hf hG (lv_sub hl [1, 2, 3, 4, 0] rfl)
set_option maxRecDepth 100000 in
theorem kX6_flows {l : Launch} {D : va_G} {B : Nat → Nat} {S : sS} {K : sK} {L : sL} {Y : sY} {O : sO}  {Q : Int32 → (Nat → Int32) → (Nat → Nat → Int32) → Prop} {I : Nat → Int32} {X : Nat → Nat → Int32} {x1 : Int32} {x2 : Int32} {x3 : Int32} (hf : fX6_flows Q I X x1 x2 x3) : gMi D B l yX6_flows wsX6_flows rX6_flows 0 0 [.ref (B 0), .int x1, .int x2, .int x3] (S, K, L, Y, (I, X), O) (fun r g1 => ∃ (I1 : Nat → Int32) (X1 : Nat → Nat → Int32), g1 = (S, K, L, Y, (I1, X1), O) ∧ Q r I1 X1) := by
  refine gMi_of (cc := cX6_flows) (maxL := 6) (ret := some .int) (by decide +kernel) rfl (Nat.le_of_ble_eq_true rfl) ?_
  intro p e s m below meth c A hA0 C hG ls hl
  exact vX6_flows_b0 C (fun v I X hq => ⟨I, X, rfl, hq⟩) I X x1 x2 x3 _ _ _ hf hG hl
def rX6_part : Room := { frames := 4, cells := 0, slots := 0, locals := 94 }
theorem hdvX6_part : yX6_part.cls = RX6 ∧ yX6_part.cls ≠ "java/lang/invoke/MethodHandle" ∧ yX6_part.cls ≠ "java/lang/invoke/VarHandle" ∧ (parseMethodDescriptor yX6_part.desc).map (fun d => d.parameters.length) = some 3 := by decide +kernel
theorem inX6_part_wsX60 : ∀ w ∈ wsX60, w ∈ wsX6_part := (fun _ h => List.mem_cons_of_mem _ (List.mem_append_right _ h))
set_option maxHeartbeats 4000000 in
set_option maxRecDepth 100000 in
theorem vX6_part_b27 {p : Program} {l : Launch} {e : Env} {s : State} {m : MethodId} {args : Array Value} {below : List Frame} {meth : Method} {c : Code} {D : va_G} {B : Nat → Nat} {A : Nat → Prop} {S : sS} {K : sK} {L : sL} {Y : sY} {O : sO} {post : Int32 → sG → Prop} {Q : Int32 → (Nat → Int32) → (Nat → Nat → Int32) → Prop} (C : gX p s m args meth c cX6_part 4 (some .int) wsX6_part RX6 D B A) (hpost : ∀ (v : Int32) (I : Nat → Int32) (X : Nat → Nat → Int32), Q v I X → post v (S, K, L, Y, (I, X), O))  (I : Nat → Int32) (X : Nat → Nat → Int32) (y1 : Int32) (y2 : Int32) (y3 : Int32) (t0 : Int32) (H : Heap) (locs : List Loc) (ls : Array Slot) (hf : fX6_part_b27 Q I X y1 y2 y3 t0) (hG : GS D B A s.heap (S, K, L, Y, (I, X), O) H locs) (hl : lv_has ls 4 [(0, .ref (B 0)), (1, .int y1), (2, .int y2), (3, .int y3)]) : W p l e (headSpec wsX6_part rX6_part).room s m args below meth c H locs 0 0 (MQ below (va_Qi post (gB D B A) A) args s 0 0 A) (F0 m 27 ls [.int t0, .ref (B 0)]) := by
  obtain ⟨hx, hb, hml, hown, hts, hK, hr, hlk, hA, hN⟩ := id C
  unfold fX6_part_b27 at hf
  refine lv_iconst (v := (1 : Int32)) hx hb dX6_part_27 (by decide) ?_
  refine g_callVi0 (As := [.int t0, .int (1 : Int32)]) C hG (kX6_throwsIf hf) (cwV 2 hts gX6_part_X6_throwsIf rfl rfl rfl hdvX6_throwsIf ⟨Nat.le_of_ble_eq_true rfl, Nat.le_of_ble_eq_true rfl⟩) (va_recv hK hG.1 (ci := 6) (q0 := 0) rfl rfl) rfl hl.1 rfl (Nat.le_of_ble_eq_true rfl) dX6_part_28 ⟨Nat.zero_le _, Nat.zero_le _⟩ (fun r_8 g1 H locs hq hG => ?_)
  obtain ⟨I_6, X_7, rfl, hf⟩ := hq
  refine lv_if_ne (tgt := 46) hx hb dX6_part_31 (by decide) (fun c_9 => ?_) (fun c_9 => ?_)
  · replace hf := hf.1 c_9
    refine lv_iconst (v := (0 : Int32)) hx hb dX6_part_46 (by decide) ?_
    exact g_iret C hG (hpost _ _ _ hf) dX6_part_47
  · replace hf := hf.2 c_9
    refine lv_aload_n hx hb dX6_part_34 rfl (lv_at hl 0 rfl) ?_
    refine lv_iload_n hx hb dX6_part_35 rfl (lv_at hl 3 rfl) ?_
    refine g_callSi0 (As := [.int y3]) C hG (kX6_noTick hf) (va_cwS 1 hts gX6_part_X6_noTick rfl rfl rfl hdsX6_noTick ⟨Nat.le_of_ble_eq_true rfl, Nat.le_of_ble_eq_true rfl⟩) rfl hl.1 rfl (Nat.le_of_ble_eq_true rfl) dX6_part_36 ⟨Nat.zero_le _, Nat.zero_le _⟩ (fun r_10 g1 H locs hq hG => ?_)
    obtain ⟨rfl, hf⟩ := hq
    refine lv_iconst (v := (2 : Int32)) hx hb dX6_part_39 (by decide) ?_
    refine g_callVi0 (As := [.int r_10, .int (2 : Int32)]) C hG (kX6_throwsIf hf) (cwV 2 hts gX6_part_X6_throwsIf rfl rfl rfl hdvX6_throwsIf ⟨Nat.le_of_ble_eq_true rfl, Nat.le_of_ble_eq_true rfl⟩) (va_recv hK hG.1 (ci := 6) (q0 := 0) rfl rfl) rfl hl.1 rfl (Nat.le_of_ble_eq_true rfl) dX6_part_40 ⟨Nat.zero_le _, Nat.zero_le _⟩ (fun r_13 g1 H locs hq hG => ?_)
    obtain ⟨I_11, X_12, rfl, hf⟩ := hq
    refine lv_if_eq (tgt := 48) hx hb dX6_part_43 (by decide) (fun c_14 => ?_) (fun c_14 => ?_)
    · replace hf := hf.1 c_14
      refine lv_iload_n hx hb dX6_part_48 rfl (lv_at hl 1 rfl) ?_
      refine lv_iload_n hx hb dX6_part_49 rfl (lv_at hl 2 rfl) ?_
      refine lv_icmp_ne (tgt := 57) hx hb dX6_part_50 (by decide) (fun c_15 => ?_) (fun c_15 => ?_)
      · replace hf := hf.1 c_15
        refine lv_aload_n hx hb dX6_part_57 rfl (lv_at hl 0 rfl) ?_
        refine lv_iload_n hx hb dX6_part_58 rfl (lv_at hl 1 rfl) ?_
        refine lv_iload_n hx hb dX6_part_59 rfl (lv_at hl 2 rfl) ?_
        refine lv_iload_n hx hb dX6_part_60 rfl (lv_at hl 3 rfl) ?_
        refine g_callVi0 (As := [.int y1, .int y2, .int y3]) C hG (kX6_flows hf) (cwV 3 hts gX6_part_X6_flows rfl rfl rfl hdvX6_flows ⟨Nat.le_of_ble_eq_true rfl, Nat.le_of_ble_eq_true rfl⟩) (va_recv hK hG.1 (ci := 6) (q0 := 0) rfl rfl) rfl hl.1 rfl (Nat.le_of_ble_eq_true rfl) dX6_part_61 ⟨Nat.zero_le _, Nat.zero_le _⟩ (fun r_18 g1 H locs hq hG => ?_)
        obtain ⟨I_16, X_17, rfl, hf⟩ := hq
        exact g_iret C hG (hpost _ _ _ hf) dX6_part_64
      · replace hf := hf.2 c_15
        refine lv_iconst (v := (-1 : Int32)) hx hb dX6_part_53 (by decide) ?_
        refine lv_goto (tgt := 64) hx hb dX6_part_54 (by decide) ?_
        exact g_iret C hG (hpost _ _ _ hf) dX6_part_64
    · replace hf := hf.2 c_14
      refine lv_iconst (v := (0 : Int32)) hx hb dX6_part_46 (by decide) ?_
      exact g_iret C hG (hpost _ _ _ hf) dX6_part_47
set_option maxHeartbeats 4000000 in
set_option maxRecDepth 100000 in
theorem vX6_part_b22 {p : Program} {l : Launch} {e : Env} {s : State} {m : MethodId} {args : Array Value} {below : List Frame} {meth : Method} {c : Code} {D : va_G} {B : Nat → Nat} {A : Nat → Prop} {S : sS} {K : sK} {L : sL} {Y : sY} {O : sO} {post : Int32 → sG → Prop} {Q : Int32 → (Nat → Int32) → (Nat → Nat → Int32) → Prop} (C : gX p s m args meth c cX6_part 4 (some .int) wsX6_part RX6 D B A) (hpost : ∀ (v : Int32) (I : Nat → Int32) (X : Nat → Nat → Int32), Q v I X → post v (S, K, L, Y, (I, X), O))  (I : Nat → Int32) (X : Nat → Nat → Int32) (y1 : Int32) (y2 : Int32) (y3 : Int32) (H : Heap) (locs : List Loc) (ls : Array Slot) (hf : fX6_part_b22 Q I X y1 y2 y3) (hG : GS D B A s.heap (S, K, L, Y, (I, X), O) H locs) (hl : lv_has ls 4 [(0, .ref (B 0)), (1, .int y1), (2, .int y2), (3, .int y3)]) : W p l e (headSpec wsX6_part rX6_part).room s m args below meth c H locs 0 0 (MQ below (va_Qi post (gB D B A) A) args s 0 0 A) (F0 m 22 ls [.ref (B 0)]) := by
  obtain ⟨hx, hb, hml, hown, hts, hK, hr, hlk, hA, hN⟩ := id C
  unfold fX6_part_b22 at hf
  refine lv_iconst (v := (1 : Int32)) hx hb dX6_part_22 (by decide) ?_
  refine lv_goto (tgt := 27) hx hb dX6_part_23 (by decide) ?_
  exact vX6_part_b27 C hpost  I X y1 y2 y3 (1 : Int32) _ _ _ hf hG (lv_sub hl [0, 1, 2, 3] rfl)
set_option maxHeartbeats 4000000 in
set_option maxRecDepth 100000 in
theorem vX6_part_b0 {p : Program} {l : Launch} {e : Env} {s : State} {m : MethodId} {args : Array Value} {below : List Frame} {meth : Method} {c : Code} {D : va_G} {B : Nat → Nat} {A : Nat → Prop} {S : sS} {K : sK} {L : sL} {Y : sY} {O : sO} {post : Int32 → sG → Prop} {Q : Int32 → (Nat → Int32) → (Nat → Nat → Int32) → Prop} (C : gX p s m args meth c cX6_part 4 (some .int) wsX6_part RX6 D B A) (hpost : ∀ (v : Int32) (I : Nat → Int32) (X : Nat → Nat → Int32), Q v I X → post v (S, K, L, Y, (I, X), O))  (I : Nat → Int32) (X : Nat → Nat → Int32) (x1 : Int32) (x2 : Int32) (x3 : Int32) (H : Heap) (locs : List Loc) (ls : Array Slot) (hf : fX6_part Q I X x1 x2 x3) (hG : GS D B A s.heap (S, K, L, Y, (I, X), O) H locs) (hl : lv_has ls 4 [(0, .ref (B 0)), (1, .int x1), (2, .int x2), (3, .int x3)]) : W p l e (headSpec wsX6_part rX6_part).room s m args below meth c H locs 0 0 (MQ below (va_Qi post (gB D B A) A) args s 0 0 A) (F0 m 0 ls []) := by
  obtain ⟨hx, hb, hml, hown, hts, hK, hr, hlk, hA, hN⟩ := id C
  unfold fX6_part at hf
  refine lv_aload_n hx hb dX6_part_0 rfl (lv_at hl 0 rfl) ?_
  refine lv_iconst (v := (0 : Int32)) hx hb dX6_part_1 (by decide) ?_
  refine gp_M_0 C hG inX6_part_wsX60 (hts _ (List.mem_of_getElem? (i := 1) rfl)) dX6_part_2 (fun I_1 H locs eI_1 hG => ?_)
  replace hf := hf I_1 eI_1
  refine lv_aload_n hx hb dX6_part_5 rfl (lv_at hl 0 rfl) ?_
  refine lv_aload_n hx hb dX6_part_6 rfl (lv_at hl 0 rfl) ?_
  refine lv_iload_n hx hb dX6_part_7 rfl (lv_at hl 1 rfl) ?_
  refine g_callVi0 (As := [.int x1]) C hG (kX6_noPost hf) (cwV 1 hts gX6_part_X6_noPost rfl rfl rfl hdvX6_noPost ⟨Nat.le_of_ble_eq_true rfl, Nat.le_of_ble_eq_true rfl⟩) (va_recv hK hG.1 (ci := 6) (q0 := 0) rfl rfl) rfl hl.1 rfl (Nat.le_of_ble_eq_true rfl) dX6_part_8 ⟨Nat.zero_le _, Nat.zero_le _⟩ (fun r_2 g1 H locs hq hG => ?_)
  obtain ⟨rfl, hf⟩ := hq
  refine lv_if_ne (tgt := 22) hx hb dX6_part_11 (by decide) (fun c_3 => ?_) (fun c_3 => ?_)
  · replace hf := hf.1 c_3
    exact vX6_part_b22 C hpost  I_1 X x1 x2 x3 _ _ _ hf hG (lv_sub hl [0, 1, 2, 3] rfl)
  · replace hf := hf.2 c_3
    refine lv_aload_n hx hb dX6_part_14 rfl (lv_at hl 0 rfl) ?_
    refine lv_iload_n hx hb dX6_part_15 rfl (lv_at hl 2 rfl) ?_
    refine g_callVi0 (As := [.int x2]) C hG (kX6_noPost hf) (cwV 1 hts gX6_part_X6_noPost rfl rfl rfl hdvX6_noPost ⟨Nat.le_of_ble_eq_true rfl, Nat.le_of_ble_eq_true rfl⟩) (va_recv hK hG.1 (ci := 6) (q0 := 0) rfl rfl) rfl hl.1 rfl (Nat.le_of_ble_eq_true rfl) dX6_part_16 ⟨Nat.zero_le _, Nat.zero_le _⟩ (fun r_4 g1 H locs hq hG => ?_)
    obtain ⟨rfl, hf⟩ := hq
    refine lv_if_eq (tgt := 26) hx hb dX6_part_19 (by decide) (fun c_5 => ?_) (fun c_5 => ?_)
    · replace hf := hf.1 c_5
      refine lv_iconst (v := (0 : Int32)) hx hb dX6_part_26 (by decide) ?_
      exact vX6_part_b27 C hpost  I_1 X x1 x2 x3 (0 : Int32) _ _ _ hf hG (lv_sub hl [0, 1, 2, 3] rfl)
    · replace hf := hf.2 c_5
      exact vX6_part_b22 C hpost  I_1 X x1 x2 x3 _ _ _ hf hG (lv_sub hl [0, 1, 2, 3] rfl)
set_option maxRecDepth 100000 in
theorem kX6_part {l : Launch} {D : va_G} {B : Nat → Nat} {S : sS} {K : sK} {L : sL} {Y : sY} {O : sO}  {Q : Int32 → (Nat → Int32) → (Nat → Nat → Int32) → Prop} {I : Nat → Int32} {X : Nat → Nat → Int32} {x1 : Int32} {x2 : Int32} {x3 : Int32} (hf : fX6_part Q I X x1 x2 x3) : gMi D B l yX6_part wsX6_part rX6_part 0 0 [.ref (B 0), .int x1, .int x2, .int x3] (S, K, L, Y, (I, X), O) (fun r g1 => ∃ (I1 : Nat → Int32) (X1 : Nat → Nat → Int32), g1 = (S, K, L, Y, (I1, X1), O) ∧ Q r I1 X1) := by
  refine gMi_of (cc := cX6_part) (maxL := 4) (ret := some .int) (by decide +kernel) rfl (Nat.le_of_ble_eq_true rfl) ?_
  intro p e s m below meth c A hA0 C hG ls hl
  exact vX6_part_b0 C (fun v I X hq => ⟨I, X, rfl, hq⟩) I X x1 x2 x3 _ _ _ hf hG hl
def rX6_choice : Room := { frames := 6, cells := 0, slots := 0, locals := 148 }
theorem hdvX6_choice : yX6_choice.cls = RX6 ∧ yX6_choice.cls ≠ "java/lang/invoke/MethodHandle" ∧ yX6_choice.cls ≠ "java/lang/invoke/VarHandle" ∧ (parseMethodDescriptor yX6_choice.desc).map (fun d => d.parameters.length) = some 1 := by decide +kernel
theorem inX6_choice_wsX60 : ∀ w ∈ wsX60, w ∈ wsX6_choice := (fun _ h => List.mem_cons_of_mem _ (List.mem_append_right _ h))
set_option maxHeartbeats 4000000 in
set_option maxRecDepth 100000 in
theorem vX6_choice_b195 {p : Program} {l : Launch} {e : Env} {s : State} {m : MethodId} {args : Array Value} {below : List Frame} {meth : Method} {c : Code} {D : va_G} {B : Nat → Nat} {A : Nat → Prop} {S : sS} {K : sK} {L : sL} {Y : sY} {O : sO} {post : Int32 → sG → Prop} {Q : Int32 → (Nat → Int32) → (Nat → Nat → Int32) → Prop} (C : gX p s m args meth c cX6_choice 6 (some .int) wsX6_choice RX6 D B A) (hpost : ∀ (v : Int32) (I : Nat → Int32) (X : Nat → Nat → Int32), Q v I X → post v (S, K, L, Y, (I, X), O)) {G103 : (Nat → Int32) → (Nat → Nat → Int32) → Int32 → Int32 → Int32 → Int32 → Prop} (hG103 : ∀ (I : Nat → Int32) (X : Nat → Nat → Int32) (y1 : Int32) (y2 : Int32) (y3 : Int32) (y4 : Int32) (H : Heap) (locs : List Loc) (ls : Array Slot), G103 I X y1 y2 y3 y4 → GS D B A s.heap (S, K, L, Y, (I, X), O) H locs → lv_has ls 6 [(0, .ref (B 0)), (1, .int y1), (2, .int y2), (3, .int y3), (4, .int y4)] → W p l e (headSpec wsX6_choice rX6_choice).room s m args below meth c H locs 0 0 (MQ below (va_Qi post (gB D B A) A) args s 0 0 A) (F0 m 103 ls [])) (I : Nat → Int32) (X : Nat → Nat → Int32) (y1 : Int32) (y2 : Int32) (y3 : Int32) (y4 : Int32) (H : Heap) (locs : List Loc) (ls : Array Slot) (hf : fX6_choice_b195 G103 Q I X y1 y2 y3 y4) (hG : GS D B A s.heap (S, K, L, Y, (I, X), O) H locs) (hl : lv_has ls 6 [(0, .ref (B 0)), (1, .int y1), (2, .int y2), (3, .int y3), (4, .int y4)]) : W p l e (headSpec wsX6_choice rX6_choice).room s m args below meth c H locs 0 0 (MQ below (va_Qi post (gB D B A) A) args s 0 0 A) (F0 m 195 ls []) := by
  obtain ⟨hx, hb, hml, hown, hts, hK, hr, hlk, hA, hN⟩ := id C
  unfold fX6_choice_b195 at hf
  obtain ⟨x4_31, ex4_31⟩ : ∃ y : Int32, y = y4 + (1 : Int32) := ⟨_, rfl⟩
  replace hf := hf x4_31 ex4_31
  refine lv_iinc (v := x4_31) (lv' := [(4, .int x4_31), (0, .ref (B 0)), (1, .int y1), (2, .int y2), (3, .int y3)]) hx hb dX6_choice_195 hl (k := 4) rfl (by rw [ex4_31]; rfl) (by decide) rfl (fun ls hl => ?_)
  refine lv_goto (tgt := 103) hx hb dX6_choice_198 (by decide) ?_
  exact hG103 I X y1 y2 y3 x4_31 _ _ _ hf hG (lv_sub hl [1, 2, 3, 4, 0] rfl)
set_option maxHeartbeats 4000000 in
set_option maxRecDepth 100000 in
theorem vX6_choice_b164 {p : Program} {l : Launch} {e : Env} {s : State} {m : MethodId} {args : Array Value} {below : List Frame} {meth : Method} {c : Code} {D : va_G} {B : Nat → Nat} {A : Nat → Prop} {S : sS} {K : sK} {L : sL} {Y : sY} {O : sO} {post : Int32 → sG → Prop} {Q : Int32 → (Nat → Int32) → (Nat → Nat → Int32) → Prop} (C : gX p s m args meth c cX6_choice 6 (some .int) wsX6_choice RX6 D B A) (hpost : ∀ (v : Int32) (I : Nat → Int32) (X : Nat → Nat → Int32), Q v I X → post v (S, K, L, Y, (I, X), O)) {G103 : (Nat → Int32) → (Nat → Nat → Int32) → Int32 → Int32 → Int32 → Int32 → Prop} (hG103 : ∀ (I : Nat → Int32) (X : Nat → Nat → Int32) (y1 : Int32) (y2 : Int32) (y3 : Int32) (y4 : Int32) (H : Heap) (locs : List Loc) (ls : Array Slot), G103 I X y1 y2 y3 y4 → GS D B A s.heap (S, K, L, Y, (I, X), O) H locs → lv_has ls 6 [(0, .ref (B 0)), (1, .int y1), (2, .int y2), (3, .int y3), (4, .int y4)] → W p l e (headSpec wsX6_choice rX6_choice).room s m args below meth c H locs 0 0 (MQ below (va_Qi post (gB D B A) A) args s 0 0 A) (F0 m 103 ls [])) (I : Nat → Int32) (X : Nat → Nat → Int32) (y1 : Int32) (y2 : Int32) (y3 : Int32) (y4 : Int32) (t0 : Int32) (H : Heap) (locs : List Loc) (ls : Array Slot) (hf : fX6_choice_b164 G103 Q I X y1 y2 y3 y4 t0) (hG : GS D B A s.heap (S, K, L, Y, (I, X), O) H locs) (hl : lv_has ls 6 [(0, .ref (B 0)), (1, .int y1), (2, .int y2), (3, .int y3), (4, .int y4)]) : W p l e (headSpec wsX6_choice rX6_choice).room s m args below meth c H locs 0 0 (MQ below (va_Qi post (gB D B A) A) args s 0 0 A) (F0 m 164 ls [.int t0]) := by
  obtain ⟨hx, hb, hml, hown, hts, hK, hr, hlk, hA, hN⟩ := id C
  unfold fX6_choice_b164 at hf
  refine lv_istore (lv' := [(5, .int t0), (0, .ref (B 0)), (1, .int y1), (2, .int y2), (3, .int y3), (4, .int y4)]) hx hb dX6_choice_164 hl (by decide) rfl (fun ls hl => ?_)
  refine lv_iload hx hb dX6_choice_166 (lv_at hl 0 rfl) ?_
  refine lv_if_le (tgt := 195) hx hb dX6_choice_168 (by decide) (fun c_28 => ?_) (fun c_28 => ?_)
  · replace hf := hf.1 c_28
    exact vX6_choice_b195 C hpost hG103 I X y1 y2 y3 y4 _ _ _ hf hG (lv_sub hl [1, 2, 3, 4, 5] rfl)
  · replace hf := hf.2 c_28
    refine lv_iload hx hb dX6_choice_171 (lv_at hl 0 rfl) ?_
    refine lv_aload_n hx hb dX6_choice_173 rfl (lv_at hl 1 rfl) ?_
    refine lv_iload_n hx hb dX6_choice_174 rfl (lv_at hl 3 rfl) ?_
    refine lv_iload hx hb dX6_choice_175 (lv_at hl 5 rfl) ?_
    refine lv_aload_n hx hb dX6_choice_177 rfl (lv_at hl 1 rfl) ?_
    refine gg_M_1 C hG inX6_choice_wsX60 (hts _ (List.mem_of_getElem? (i := 4) rfl)) dX6_choice_178 ?_
    refine lv_iload hx hb dX6_choice_181 (lv_at hl 0 rfl) ?_
    refine lv_iadd hx hb dX6_choice_183 ?_
    refine g_callVi0 (As := [.int y2, .int y4, .int (I 1 + t0)]) C hG (kX6_takesFrom hf) (cwV 3 hts gX6_choice_X6_takesFrom rfl rfl rfl hdvX6_takesFrom ⟨Nat.le_of_ble_eq_true rfl, Nat.le_of_ble_eq_true rfl⟩) (va_recv hK hG.1 (ci := 6) (q0 := 0) rfl rfl) rfl hl.1 rfl (Nat.le_of_ble_eq_true rfl) dX6_choice_184 ⟨Nat.zero_le _, Nat.zero_le _⟩ (fun r_29 g1 H locs hq hG => ?_)
    obtain ⟨rfl, hf⟩ := hq
    refine lv_iadd hx hb dX6_choice_187 ?_
    refine lv_iload_n hx hb dX6_choice_188 rfl (lv_at hl 4 rfl) ?_
    refine lv_icmp_ne (tgt := 195) hx hb dX6_choice_189 (by decide) (fun c_30 => ?_) (fun c_30 => ?_)
    · replace hf := hf.1 c_30
      exact vX6_choice_b195 C hpost hG103 I X y1 y2 y3 y4 _ _ _ hf hG (lv_sub hl [1, 2, 3, 4, 5] rfl)
    · replace hf := hf.2 c_30
      refine lv_iload hx hb dX6_choice_192 (lv_at hl 5 rfl) ?_
      exact g_iret C hG (hpost _ _ _ hf) dX6_choice_194
set_option maxHeartbeats 4000000 in
set_option maxRecDepth 100000 in
theorem vX6_choice_h103 {p : Program} {l : Launch} {e : Env} {s : State} {m : MethodId} {args : Array Value} {below : List Frame} {meth : Method} {c : Code} {D : va_G} {B : Nat → Nat} {A : Nat → Prop} {S : sS} {K : sK} {L : sL} {Y : sY} {O : sO} {post : Int32 → sG → Prop} {Q : Int32 → (Nat → Int32) → (Nat → Nat → Int32) → Prop} (C : gX p s m args meth c cX6_choice 6 (some .int) wsX6_choice RX6 D B A) (hpost : ∀ (v : Int32) (I : Nat → Int32) (X : Nat → Nat → Int32), Q v I X → post v (S, K, L, Y, (I, X), O))  : ∀ (n103 : Nat) (I : Nat → Int32) (X : Nat → Nat → Int32) (y1 : Int32) (y2 : Int32) (y3 : Int32) (y4 : Int32) (H : Heap) (locs : List Loc) (ls : Array Slot), fX6_choice_h103 Q n103 I X y1 y2 y3 y4 → GS D B A s.heap (S, K, L, Y, (I, X), O) H locs → lv_has ls 6 [(0, .ref (B 0)), (1, .int y1), (2, .int y2), (3, .int y3), (4, .int y4)] → W p l e (headSpec wsX6_choice rX6_choice).room s m args below meth c H locs 0 0 (MQ below (va_Qi post (gB D B A) A) args s 0 0 A) (F0 m 103 ls []) := by
  obtain ⟨hx, hb, hml, hown, hts, hK, hr, hlk, hA, hN⟩ := id C
  intro n103
  induction n103 with
  | zero =>
    intro I X y1 y2 y3 y4 H locs ls hf
    exact False.elim hf
  | succ n103 hG103 =>
    intro I X y1 y2 y3 y4 H locs ls hf hG hl
    unfold fX6_choice_h103 at hf
    refine lv_iload hx hb dX6_choice_103 (lv_at hl 4 rfl) ?_
    refine lv_aload_n hx hb dX6_choice_105 rfl (lv_at hl 0 rfl) ?_
    refine gg_M_9 C hG inX6_choice_wsX60 (hts _ (List.mem_of_getElem? (i := 7) rfl)) dX6_choice_106 ?_
    refine lv_icmp_ge (tgt := 201) hx hb dX6_choice_109 (by decide) (fun c_20 => ?_) (fun c_20 => ?_)
    · replace hf := hf.1 c_20
      refine lv_iconst (v := (-1 : Int32)) hx hb dX6_choice_201 (by decide) ?_
      exact g_iret C hG (hpost _ _ _ hf) dX6_choice_202
    · replace hf := hf.2 c_20
      refine lv_aload_n hx hb dX6_choice_112 rfl (lv_at hl 0 rfl) ?_
      refine gg_M_21 C hG inX6_choice_wsX60 (hts _ (List.mem_of_getElem? (i := 2) rfl)) dX6_choice_113 ?_
      refine lv_iload_n hx hb dX6_choice_116 rfl (lv_at hl 1 rfl) ?_
      obtain ⟨h_21, hf⟩ := hf
      refine ga_M_21 C hG h_21 dX6_choice_117 ?_
      refine lv_if_ne (tgt := 148) hx hb dX6_choice_118 (by decide) (fun c_22 => ?_) (fun c_22 => ?_)
      · replace hf := hf.1 c_22
        refine lv_aload_n hx hb dX6_choice_148 rfl (lv_at hl 0 rfl) ?_
        refine lv_aload_n hx hb dX6_choice_149 rfl (lv_at hl 0 rfl) ?_
        refine gg_M_22 C hG inX6_choice_wsX60 (hts _ (List.mem_of_getElem? (i := 5) rfl)) dX6_choice_150 ?_
        refine lv_iload_n hx hb dX6_choice_153 rfl (lv_at hl 1 rfl) ?_
        obtain ⟨h_23, hf⟩ := hf
        refine ga_M_22 C hG h_23 dX6_choice_154 ?_
        refine lv_iload hx hb dX6_choice_155 (lv_at hl 4 rfl) ?_
        refine lv_aload_n hx hb dX6_choice_157 rfl (lv_at hl 0 rfl) ?_
        refine gg_M_1 C hG inX6_choice_wsX60 (hts _ (List.mem_of_getElem? (i := 4) rfl)) dX6_choice_158 ?_
        refine g_callVi0 (As := [.int (X 22 y1.toNatClampNeg), .int y4, .int (I 1)]) C hG (kX6_taken hf) (cwV 3 hts gX6_choice_X6_taken rfl rfl rfl hdvX6_taken ⟨Nat.le_of_ble_eq_true rfl, Nat.le_of_ble_eq_true rfl⟩) (va_recv hK hG.1 (ci := 6) (q0 := 0) rfl rfl) rfl hl.1 rfl (Nat.le_of_ble_eq_true rfl) dX6_choice_161 ⟨Nat.zero_le _, Nat.zero_le _⟩ (fun r_24 g1 H locs hq hG => ?_)
        obtain ⟨rfl, hf⟩ := hq
        exact vX6_choice_b164 C hpost hG103 I X y1 y2 y3 y4 r_24 _ _ _ hf hG (lv_sub hl [0, 1, 2, 3, 4] rfl)
      · replace hf := hf.2 c_22
        refine lv_aload_n hx hb dX6_choice_121 rfl (lv_at hl 0 rfl) ?_
        refine lv_aload_n hx hb dX6_choice_122 rfl (lv_at hl 0 rfl) ?_
        refine gg_M_19 C hG inX6_choice_wsX60 (hts _ (List.mem_of_getElem? (i := 3) rfl)) dX6_choice_123 ?_
        refine lv_iload_n hx hb dX6_choice_126 rfl (lv_at hl 1 rfl) ?_
        obtain ⟨h_25, hf⟩ := hf
        refine ga_M_19 C hG h_25 dX6_choice_127 ?_
        refine lv_iload hx hb dX6_choice_128 (lv_at hl 4 rfl) ?_
        refine lv_aload_n hx hb dX6_choice_130 rfl (lv_at hl 0 rfl) ?_
        refine gg_M_1 C hG inX6_choice_wsX60 (hts _ (List.mem_of_getElem? (i := 4) rfl)) dX6_choice_131 ?_
        refine g_callVi0 (As := [.int (X 19 y1.toNatClampNeg), .int y4, .int (I 1)]) C hG (kX6_takesPost hf) (cwV 3 hts gX6_choice_X6_takesPost rfl rfl rfl hdvX6_takesPost ⟨Nat.le_of_ble_eq_true rfl, Nat.le_of_ble_eq_true rfl⟩) (va_recv hK hG.1 (ci := 6) (q0 := 0) rfl rfl) rfl hl.1 rfl (Nat.le_of_ble_eq_true rfl) dX6_choice_134 ⟨Nat.zero_le _, Nat.zero_le _⟩ (fun r_26 g1 H locs hq hG => ?_)
        obtain ⟨rfl, hf⟩ := hq
        refine lv_if_eq (tgt := 144) hx hb dX6_choice_137 (by decide) (fun c_27 => ?_) (fun c_27 => ?_)
        · replace hf := hf.1 c_27
          refine lv_iconst (v := (0 : Int32)) hx hb dX6_choice_144 (by decide) ?_
          refine lv_goto (tgt := 164) hx hb dX6_choice_145 (by decide) ?_
          exact vX6_choice_b164 C hpost hG103 I X y1 y2 y3 y4 (0 : Int32) _ _ _ hf hG (lv_sub hl [0, 1, 2, 3, 4] rfl)
        · replace hf := hf.2 c_27
          refine lv_iconst (v := (1 : Int32)) hx hb dX6_choice_140 (by decide) ?_
          refine lv_goto (tgt := 164) hx hb dX6_choice_141 (by decide) ?_
          exact vX6_choice_b164 C hpost hG103 I X y1 y2 y3 y4 (1 : Int32) _ _ _ hf hG (lv_sub hl [0, 1, 2, 3, 4] rfl)
set_option maxHeartbeats 4000000 in
set_option maxRecDepth 100000 in
theorem vX6_choice_b100 {p : Program} {l : Launch} {e : Env} {s : State} {m : MethodId} {args : Array Value} {below : List Frame} {meth : Method} {c : Code} {D : va_G} {B : Nat → Nat} {A : Nat → Prop} {S : sS} {K : sK} {L : sL} {Y : sY} {O : sO} {post : Int32 → sG → Prop} {Q : Int32 → (Nat → Int32) → (Nat → Nat → Int32) → Prop} (C : gX p s m args meth c cX6_choice 6 (some .int) wsX6_choice RX6 D B A) (hpost : ∀ (v : Int32) (I : Nat → Int32) (X : Nat → Nat → Int32), Q v I X → post v (S, K, L, Y, (I, X), O))  (I : Nat → Int32) (X : Nat → Nat → Int32) (y1 : Int32) (y2 : Int32) (y3 : Int32) (H : Heap) (locs : List Loc) (ls : Array Slot) (hf : fX6_choice_b100 Q I X y1 y2 y3) (hG : GS D B A s.heap (S, K, L, Y, (I, X), O) H locs) (hl : lv_has ls 6 [(0, .ref (B 0)), (1, .int y1), (2, .int y2), (3, .int y3)]) : W p l e (headSpec wsX6_choice rX6_choice).room s m args below meth c H locs 0 0 (MQ below (va_Qi post (gB D B A) A) args s 0 0 A) (F0 m 100 ls []) := by
  obtain ⟨hx, hb, hml, hown, hts, hK, hr, hlk, hA, hN⟩ := id C
  unfold fX6_choice_b100 at hf
  refine lv_iconst (v := (0 : Int32)) hx hb dX6_choice_100 (by decide) ?_
  refine lv_istore (lv' := [(4, .int (0 : Int32)), (0, .ref (B 0)), (1, .int y1), (2, .int y2), (3, .int y3)]) hx hb dX6_choice_101 hl (by decide) rfl (fun ls hl => ?_)
  obtain ⟨n103, hf⟩ := hf
  exact vX6_choice_h103 C hpost  n103 I X y1 y2 y3 (0 : Int32) _ _ _ hf hG (lv_sub hl [1, 2, 3, 4, 0] rfl)
set_option maxHeartbeats 4000000 in
set_option maxRecDepth 100000 in
theorem vX6_choice_b54 {p : Program} {l : Launch} {e : Env} {s : State} {m : MethodId} {args : Array Value} {below : List Frame} {meth : Method} {c : Code} {D : va_G} {B : Nat → Nat} {A : Nat → Prop} {S : sS} {K : sK} {L : sL} {Y : sY} {O : sO} {post : Int32 → sG → Prop} {Q : Int32 → (Nat → Int32) → (Nat → Nat → Int32) → Prop} (C : gX p s m args meth c cX6_choice 6 (some .int) wsX6_choice RX6 D B A) (hpost : ∀ (v : Int32) (I : Nat → Int32) (X : Nat → Nat → Int32), Q v I X → post v (S, K, L, Y, (I, X), O))  (I : Nat → Int32) (X : Nat → Nat → Int32) (y1 : Int32) (y2 : Int32) (t0 : Int32) (H : Heap) (locs : List Loc) (ls : Array Slot) (hf : fX6_choice_b54 Q I X y1 y2 t0) (hG : GS D B A s.heap (S, K, L, Y, (I, X), O) H locs) (hl : lv_has ls 6 [(0, .ref (B 0)), (1, .int y1), (2, .int y2)]) : W p l e (headSpec wsX6_choice rX6_choice).room s m args below meth c H locs 0 0 (MQ below (va_Qi post (gB D B A) A) args s 0 0 A) (F0 m 54 ls [.int t0]) := by
  obtain ⟨hx, hb, hml, hown, hts, hK, hr, hlk, hA, hN⟩ := id C
  unfold fX6_choice_b54 at hf
  refine lv_istore_n (lv' := [(3, .int t0), (0, .ref (B 0)), (1, .int y1), (2, .int y2)]) hx hb dX6_choice_54 rfl hl (by decide) rfl (fun ls hl => ?_)
  refine lv_iload_n hx hb dX6_choice_55 rfl (lv_at hl 0 rfl) ?_
  refine lv_ldc (v := (1000000 : Int32)) hx hb hown (hts _ (List.mem_of_getElem? (i := 6) rfl)) dX6_choice_56 ?_
  refine lv_icmp_lt (tgt := 63) hx hb dX6_choice_58 (by decide) (fun c_13 => ?_) (fun c_13 => ?_)
  · replace hf := hf.1 c_13
    refine lv_aload_n hx hb dX6_choice_63 rfl (lv_at hl 1 rfl) ?_
    refine gg_M_21 C hG inX6_choice_wsX60 (hts _ (List.mem_of_getElem? (i := 2) rfl)) dX6_choice_64 ?_
    refine lv_iload_n hx hb dX6_choice_67 rfl (lv_at hl 2 rfl) ?_
    obtain ⟨h_14, hf⟩ := hf
    refine ga_M_21 C hG h_14 dX6_choice_68 ?_
    refine lv_iconst (v := (1 : Int32)) hx hb dX6_choice_69 (by decide) ?_
    refine lv_icmp_ne (tgt := 100) hx hb dX6_choice_70 (by decide) (fun c_15 => ?_) (fun c_15 => ?_)
    · replace hf := hf.1 c_15
      exact vX6_choice_b100 C hpost  I X y1 y2 t0 _ _ _ hf hG (lv_sub hl [1, 2, 3, 0] rfl)
    · replace hf := hf.2 c_15
      refine lv_iload_n hx hb dX6_choice_73 rfl (lv_at hl 0 rfl) ?_
      refine lv_iconst (v := (1 : Int32)) hx hb dX6_choice_74 (by decide) ?_
      refine lv_icmp_ne (tgt := 100) hx hb dX6_choice_75 (by decide) (fun c_16 => ?_) (fun c_16 => ?_)
      · replace hf := hf.1 c_16
        exact vX6_choice_b100 C hpost  I X y1 y2 t0 _ _ _ hf hG (lv_sub hl [1, 2, 3, 0] rfl)
      · replace hf := hf.2 c_16
        refine lv_aload_n hx hb dX6_choice_78 rfl (lv_at hl 1 rfl) ?_
        refine lv_iload_n hx hb dX6_choice_79 rfl (lv_at hl 3 rfl) ?_
        refine lv_aload_n hx hb dX6_choice_80 rfl (lv_at hl 1 rfl) ?_
        refine gg_M_22 C hG inX6_choice_wsX60 (hts _ (List.mem_of_getElem? (i := 5) rfl)) dX6_choice_81 ?_
        refine lv_iload_n hx hb dX6_choice_84 rfl (lv_at hl 2 rfl) ?_
        obtain ⟨h_17, hf⟩ := hf
        refine ga_M_22 C hG h_17 dX6_choice_85 ?_
        refine lv_aload_n hx hb dX6_choice_86 rfl (lv_at hl 1 rfl) ?_
        refine gg_M_1 C hG inX6_choice_wsX60 (hts _ (List.mem_of_getElem? (i := 4) rfl)) dX6_choice_87 ?_
        refine g_callVi0 (As := [.int y2, .int (X 22 y1.toNatClampNeg), .int (I 1)]) C hG (kX6_takesPost hf) (cwV 3 hts gX6_choice_X6_takesPost rfl rfl rfl hdvX6_takesPost ⟨Nat.le_of_ble_eq_true rfl, Nat.le_of_ble_eq_true rfl⟩) (va_recv hK hG.1 (ci := 6) (q0 := 0) rfl rfl) rfl hl.1 rfl (Nat.le_of_ble_eq_true rfl) dX6_choice_90 ⟨Nat.zero_le _, Nat.zero_le _⟩ (fun r_18 g1 H locs hq hG => ?_)
        obtain ⟨rfl, hf⟩ := hq
        refine lv_if_eq (tgt := 100) hx hb dX6_choice_93 (by decide) (fun c_19 => ?_) (fun c_19 => ?_)
        · replace hf := hf.1 c_19
          exact vX6_choice_b100 C hpost  I X y1 y2 t0 _ _ _ hf hG (lv_sub hl [1, 2, 3, 0] rfl)
        · replace hf := hf.2 c_19
          refine lv_sipush (v := (1000 : Int32)) hx hb dX6_choice_96 (by decide) ?_
          exact g_iret C hG (hpost _ _ _ hf) dX6_choice_99
  · replace hf := hf.2 c_13
    refine lv_iconst (v := (-1 : Int32)) hx hb dX6_choice_61 (by decide) ?_
    exact g_iret C hG (hpost _ _ _ hf) dX6_choice_62
set_option maxHeartbeats 4000000 in
set_option maxRecDepth 100000 in
theorem vX6_choice_b0 {p : Program} {l : Launch} {e : Env} {s : State} {m : MethodId} {args : Array Value} {below : List Frame} {meth : Method} {c : Code} {D : va_G} {B : Nat → Nat} {A : Nat → Prop} {S : sS} {K : sK} {L : sL} {Y : sY} {O : sO} {post : Int32 → sG → Prop} {Q : Int32 → (Nat → Int32) → (Nat → Nat → Int32) → Prop} (C : gX p s m args meth c cX6_choice 6 (some .int) wsX6_choice RX6 D B A) (hpost : ∀ (v : Int32) (I : Nat → Int32) (X : Nat → Nat → Int32), Q v I X → post v (S, K, L, Y, (I, X), O))  (I : Nat → Int32) (X : Nat → Nat → Int32) (x1 : Int32) (H : Heap) (locs : List Loc) (ls : Array Slot) (hf : fX6_choice Q I X x1) (hG : GS D B A s.heap (S, K, L, Y, (I, X), O) H locs) (hl : lv_has ls 6 [(0, .ref (B 0)), (1, .int x1)]) : W p l e (headSpec wsX6_choice rX6_choice).room s m args below meth c H locs 0 0 (MQ below (va_Qi post (gB D B A) A) args s 0 0 A) (F0 m 0 ls []) := by
  obtain ⟨hx, hb, hml, hown, hts, hK, hr, hlk, hA, hN⟩ := id C
  unfold fX6_choice at hf
  refine lv_aload_n hx hb dX6_choice_0 rfl (lv_at hl 0 rfl) ?_
  refine gg_M_20 C hG inX6_choice_wsX60 (hts _ (List.mem_of_getElem? (i := 1) rfl)) dX6_choice_1 ?_
  refine lv_iload_n hx hb dX6_choice_4 rfl (lv_at hl 1 rfl) ?_
  obtain ⟨h_1, hf⟩ := hf
  refine ga_M_20 C hG h_1 dX6_choice_5 ?_
  refine lv_topi (fun x2_2 ex2_2 => ?_)
  replace hf := hf x2_2 ex2_2
  refine lv_istore_n (lv' := [(2, .int x2_2), (0, .ref (B 0)), (1, .int x1)]) hx hb dX6_choice_6 rfl hl (by decide) rfl (fun ls hl => ?_)
  refine lv_aload_n hx hb dX6_choice_7 rfl (lv_at hl 1 rfl) ?_
  refine lv_iload_n hx hb dX6_choice_8 rfl (lv_at hl 0 rfl) ?_
  refine g_callVv0 (As := [.int x2_2]) C hG (kX6_knows hf) (cwV 1 hts gX6_choice_X6_knows rfl rfl rfl hdvX6_knows ⟨Nat.le_of_ble_eq_true rfl, Nat.le_of_ble_eq_true rfl⟩) (va_recv hK hG.1 (ci := 6) (q0 := 0) rfl rfl) rfl hl.1 rfl (Nat.le_of_ble_eq_true rfl) dX6_choice_9 ⟨Nat.zero_le _, Nat.zero_le _⟩ (fun g1 H locs hq hG => ?_)
  obtain ⟨I_3, X_4, rfl, hf⟩ := hq
  refine lv_aload_n hx hb dX6_choice_12 rfl (lv_at hl 1 rfl) ?_
  refine gg_M_21 C hG inX6_choice_wsX60 (hts _ (List.mem_of_getElem? (i := 2) rfl)) dX6_choice_13 ?_
  refine lv_iload_n hx hb dX6_choice_16 rfl (lv_at hl 2 rfl) ?_
  obtain ⟨h_5, hf⟩ := hf
  refine ga_M_21 C hG h_5 dX6_choice_17 ?_
  refine lv_if_ne (tgt := 39) hx hb dX6_choice_18 (by decide) (fun c_6 => ?_) (fun c_6 => ?_)
  · replace hf := hf.1 c_6
    refine lv_aload_n hx hb dX6_choice_39 rfl (lv_at hl 1 rfl) ?_
    refine lv_iload_n hx hb dX6_choice_40 rfl (lv_at hl 0 rfl) ?_
    refine lv_aload_n hx hb dX6_choice_41 rfl (lv_at hl 1 rfl) ?_
    refine gg_M_22 C hG inX6_choice_wsX60 (hts _ (List.mem_of_getElem? (i := 5) rfl)) dX6_choice_42 ?_
    refine lv_iload_n hx hb dX6_choice_45 rfl (lv_at hl 2 rfl) ?_
    obtain ⟨h_7, hf⟩ := hf
    refine ga_M_22 C hG h_7 dX6_choice_46 ?_
    refine lv_aload_n hx hb dX6_choice_47 rfl (lv_at hl 1 rfl) ?_
    refine gg_M_1 C hG inX6_choice_wsX60 (hts _ (List.mem_of_getElem? (i := 4) rfl)) dX6_choice_48 ?_
    refine g_callVi0 (As := [.int x2_2, .int (X_4 22 x1.toNatClampNeg), .int (I_3 1)]) C hG (kX6_takesFrom hf) (cwV 3 hts gX6_choice_X6_takesFrom rfl rfl rfl hdvX6_takesFrom ⟨Nat.le_of_ble_eq_true rfl, Nat.le_of_ble_eq_true rfl⟩) (va_recv hK hG.1 (ci := 6) (q0 := 0) rfl rfl) rfl hl.1 rfl (Nat.le_of_ble_eq_true rfl) dX6_choice_51 ⟨Nat.zero_le _, Nat.zero_le _⟩ (fun r_8 g1 H locs hq hG => ?_)
    obtain ⟨rfl, hf⟩ := hq
    exact vX6_choice_b54 C hpost  I_3 X_4 x1 x2_2 r_8 _ _ _ hf hG (lv_sub hl [1, 2, 0] rfl)
  · replace hf := hf.2 c_6
    refine lv_aload_n hx hb dX6_choice_21 rfl (lv_at hl 1 rfl) ?_
    refine lv_aload_n hx hb dX6_choice_22 rfl (lv_at hl 1 rfl) ?_
    refine gg_M_19 C hG inX6_choice_wsX60 (hts _ (List.mem_of_getElem? (i := 3) rfl)) dX6_choice_23 ?_
    refine lv_iload_n hx hb dX6_choice_26 rfl (lv_at hl 2 rfl) ?_
    obtain ⟨h_9, hf⟩ := hf
    refine ga_M_19 C hG h_9 dX6_choice_27 ?_
    refine lv_iload_n hx hb dX6_choice_28 rfl (lv_at hl 0 rfl) ?_
    refine lv_aload_n hx hb dX6_choice_29 rfl (lv_at hl 1 rfl) ?_
    refine gg_M_1 C hG inX6_choice_wsX60 (hts _ (List.mem_of_getElem? (i := 4) rfl)) dX6_choice_30 ?_
    refine g_callVi0 (As := [.int (X_4 19 x1.toNatClampNeg), .int x2_2, .int (I_3 1)]) C hG (kX6_takesPosts hf) (cwV 3 hts gX6_choice_X6_takesPosts rfl rfl rfl hdvX6_takesPosts ⟨Nat.le_of_ble_eq_true rfl, Nat.le_of_ble_eq_true rfl⟩) (va_recv hK hG.1 (ci := 6) (q0 := 0) rfl rfl) rfl hl.1 rfl (Nat.le_of_ble_eq_true rfl) dX6_choice_33 ⟨Nat.zero_le _, Nat.zero_le _⟩ (fun r_12 g1 H locs hq hG => ?_)
    obtain ⟨I_10, X_11, rfl, hf⟩ := hq
    refine lv_goto (tgt := 54) hx hb dX6_choice_36 (by decide) ?_
    exact vX6_choice_b54 C hpost  I_10 X_11 x1 x2_2 r_12 _ _ _ hf hG (lv_sub hl [1, 2, 0] rfl)
set_option maxRecDepth 100000 in
theorem kX6_choice {l : Launch} {D : va_G} {B : Nat → Nat} {S : sS} {K : sK} {L : sL} {Y : sY} {O : sO}  {Q : Int32 → (Nat → Int32) → (Nat → Nat → Int32) → Prop} {I : Nat → Int32} {X : Nat → Nat → Int32} {x1 : Int32} (hf : fX6_choice Q I X x1) : gMi D B l yX6_choice wsX6_choice rX6_choice 0 0 [.ref (B 0), .int x1] (S, K, L, Y, (I, X), O) (fun r g1 => ∃ (I1 : Nat → Int32) (X1 : Nat → Nat → Int32), g1 = (S, K, L, Y, (I1, X1), O) ∧ Q r I1 X1) := by
  refine gMi_of (cc := cX6_choice) (maxL := 6) (ret := some .int) (by decide +kernel) rfl (Nat.le_of_ble_eq_true rfl) ?_
  intro p e s m below meth c A hA0 C hG ls hl
  exact vX6_choice_b0 C (fun v I X hq => ⟨I, X, rfl, hq⟩) I X x1 _ _ _ hf hG hl
def rX6_moves : Room := { frames := 7, cells := 0, slots := 0, locals := 173 }
theorem hdvX6_moves : yX6_moves.cls = RX6 ∧ yX6_moves.cls ≠ "java/lang/invoke/MethodHandle" ∧ yX6_moves.cls ≠ "java/lang/invoke/VarHandle" ∧ (parseMethodDescriptor yX6_moves.desc).map (fun d => d.parameters.length) = some 1 := by decide +kernel
theorem inX6_moves_wsX60 : ∀ w ∈ wsX60, w ∈ wsX6_moves := (fun _ h => List.mem_cons_of_mem _ (List.mem_append_right _ h))
set_option maxHeartbeats 4000000 in
set_option maxRecDepth 100000 in
theorem vX6_moves_b150 {p : Program} {l : Launch} {e : Env} {s : State} {m : MethodId} {args : Array Value} {below : List Frame} {meth : Method} {c : Code} {D : va_G} {B : Nat → Nat} {A : Nat → Prop} {S : sS} {K : sK} {L : sL} {Y : sY} {O : sO} {post : sG → Prop} {Q : (Nat → Int32) → (Nat → Nat → Int32) → Prop} (C : gX p s m args meth c cX6_moves 5 (none) wsX6_moves RX6 D B A) (hpost : ∀ (I : Nat → Int32) (X : Nat → Nat → Int32), Q I X → post (S, K, L, Y, (I, X), O))  (I : Nat → Int32) (X : Nat → Nat → Int32) (y1 : Int32) (y2 : Int32) (t0 : Int32) (t1 : Int32) (t2 : Int32) (H : Heap) (locs : List Loc) (ls : Array Slot) (hf : fX6_moves_b150 Q I X y1 y2 t0 t1 t2) (hG : GS D B A s.heap (S, K, L, Y, (I, X), O) H locs) (hl : lv_has ls 5 [(0, .ref (B 0)), (1, .int y1), (2, .int y2)]) : W p l e (headSpec wsX6_moves rX6_moves).room s m args below meth c H locs 0 0 (MQ below (va_Qv post (gB D B A) A) args s 0 0 A) (F0 m 150 ls [.int t0, .int t1, .int t2, .ref (B 84)]) := by
  obtain ⟨hx, hb, hml, hown, hts, hK, hr, hlk, hA, hN⟩ := id C
  unfold fX6_moves_b150 at hf
  refine lv_iadd hx hb dX6_moves_150 ?_
  obtain ⟨h_23, hf⟩ := hf
  refine gs_M_24 C hG h_23 dX6_moves_151 (fun X_24 H locs eX_24 hG => ?_)
  replace hf := hf X_24 eX_24
  refine lv_aload_n hx hb dX6_moves_152 rfl (lv_at hl 0 rfl) ?_
  refine gg_M_23 C hG inX6_moves_wsX60 (hts _ (List.mem_of_getElem? (i := 10) rfl)) dX6_moves_153 ?_
  refine lv_iload_n hx hb dX6_moves_156 rfl (lv_at hl 1 rfl) ?_
  refine lv_iload_n hx hb dX6_moves_157 rfl (lv_at hl 2 rfl) ?_
  obtain ⟨h_25, hf⟩ := hf
  refine gs_M_23 C hG h_25 dX6_moves_158 (fun X_26 H locs eX_26 hG => ?_)
  replace hf := hf X_26 eX_26
  refine lv_aload_n hx hb dX6_moves_159 rfl (lv_at hl 0 rfl) ?_
  refine gg_M_21 C hG inX6_moves_wsX60 (hts _ (List.mem_of_getElem? (i := 1) rfl)) dX6_moves_160 ?_
  refine lv_iload_n hx hb dX6_moves_163 rfl (lv_at hl 1 rfl) ?_
  refine lv_iconst (v := (2 : Int32)) hx hb dX6_moves_164 (by decide) ?_
  obtain ⟨h_27, hf⟩ := hf
  refine gs_M_21 C hG h_27 dX6_moves_165 (fun X_28 H locs eX_28 hG => ?_)
  replace hf := hf X_28 eX_28
  refine lv_aload_n hx hb dX6_moves_166 rfl (lv_at hl 0 rfl) ?_
  refine gg_M_25 C hG inX6_moves_wsX60 (hts _ (List.mem_of_getElem? (i := 11) rfl)) dX6_moves_167 ?_
  refine lv_iload_n hx hb dX6_moves_170 rfl (lv_at hl 1 rfl) ?_
  refine lv_dup2_11 hx hb dX6_moves_171 rfl rfl ?_
  obtain ⟨h_29, hf⟩ := hf
  refine ga_M_25 C hG h_29 dX6_moves_172 ?_
  refine lv_iconst (v := (1 : Int32)) hx hb dX6_moves_173 (by decide) ?_
  refine lv_iadd hx hb dX6_moves_174 ?_
  obtain ⟨h_30, hf⟩ := hf
  refine gs_M_25 C hG h_30 dX6_moves_175 (fun X_31 H locs eX_31 hG => ?_)
  replace hf := hf X_31 eX_31
  exact g_vret C hG (hpost _ _ hf) dX6_moves_176
set_option maxHeartbeats 4000000 in
set_option maxRecDepth 100000 in
theorem vX6_moves_b131 {p : Program} {l : Launch} {e : Env} {s : State} {m : MethodId} {args : Array Value} {below : List Frame} {meth : Method} {c : Code} {D : va_G} {B : Nat → Nat} {A : Nat → Prop} {S : sS} {K : sK} {L : sL} {Y : sY} {O : sO} {post : sG → Prop} {Q : (Nat → Int32) → (Nat → Nat → Int32) → Prop} (C : gX p s m args meth c cX6_moves 5 (none) wsX6_moves RX6 D B A) (hpost : ∀ (I : Nat → Int32) (X : Nat → Nat → Int32), Q I X → post (S, K, L, Y, (I, X), O))  (I : Nat → Int32) (X : Nat → Nat → Int32) (y1 : Int32) (y2 : Int32) (t0 : Int32) (t1 : Int32) (H : Heap) (locs : List Loc) (ls : Array Slot) (hf : fX6_moves_b131 Q I X y1 y2 t0 t1) (hG : GS D B A s.heap (S, K, L, Y, (I, X), O) H locs) (hl : lv_has ls 5 [(0, .ref (B 0)), (1, .int y1), (2, .int y2)]) : W p l e (headSpec wsX6_moves rX6_moves).room s m args below meth c H locs 0 0 (MQ below (va_Qv post (gB D B A) A) args s 0 0 A) (F0 m 131 ls [.int t0, .int t1, .ref (B 84)]) := by
  obtain ⟨hx, hb, hml, hown, hts, hK, hr, hlk, hA, hN⟩ := id C
  unfold fX6_moves_b131 at hf
  refine lv_iconst (v := (1 : Int32)) hx hb dX6_moves_131 (by decide) ?_
  refine lv_goto (tgt := 150) hx hb dX6_moves_132 (by decide) ?_
  exact vX6_moves_b150 C hpost  I X y1 y2 (1 : Int32) t0 t1 _ _ _ hf hG (lv_sub hl [0, 1, 2] rfl)
set_option maxHeartbeats 4000000 in
set_option maxRecDepth 100000 in
theorem vX6_moves_b62 {p : Program} {l : Launch} {e : Env} {s : State} {m : MethodId} {args : Array Value} {below : List Frame} {meth : Method} {c : Code} {D : va_G} {B : Nat → Nat} {A : Nat → Prop} {S : sS} {K : sK} {L : sL} {Y : sY} {O : sO} {post : sG → Prop} {Q : (Nat → Int32) → (Nat → Nat → Int32) → Prop} (C : gX p s m args meth c cX6_moves 5 (none) wsX6_moves RX6 D B A) (hpost : ∀ (I : Nat → Int32) (X : Nat → Nat → Int32), Q I X → post (S, K, L, Y, (I, X), O))  (I : Nat → Int32) (X : Nat → Nat → Int32) (y1 : Int32) (y2 : Int32) (y3 : Int32) (t0 : Int32) (H : Heap) (locs : List Loc) (ls : Array Slot) (hf : fX6_moves_b62 Q I X y1 y2 y3 t0) (hG : GS D B A s.heap (S, K, L, Y, (I, X), O) H locs) (hl : lv_has ls 5 [(0, .ref (B 0)), (1, .int y1), (2, .int y2), (3, .int y3)]) : W p l e (headSpec wsX6_moves rX6_moves).room s m args below meth c H locs 0 0 (MQ below (va_Qv post (gB D B A) A) args s 0 0 A) (F0 m 62 ls [.int t0]) := by
  obtain ⟨hx, hb, hml, hown, hts, hK, hr, hlk, hA, hN⟩ := id C
  unfold fX6_moves_b62 at hf
  refine lv_istore (lv' := [(4, .int t0), (0, .ref (B 0)), (1, .int y1), (2, .int y2), (3, .int y3)]) hx hb dX6_moves_62 hl (by decide) rfl (fun ls hl => ?_)
  refine lv_aload_n hx hb dX6_moves_64 rfl (lv_at hl 1 rfl) ?_
  refine lv_iload_n hx hb dX6_moves_65 rfl (lv_at hl 4 rfl) ?_
  refine lv_iload hx hb dX6_moves_66 (lv_at hl 0 rfl) ?_
  refine g_callVi0 (As := [.int y3, .int t0]) C hG (kX6_isTaken hf) (cwV 2 hts gX6_moves_X6_isTaken rfl rfl rfl hdvX6_isTaken ⟨Nat.le_of_ble_eq_true rfl, Nat.le_of_ble_eq_true rfl⟩) (va_recv hK hG.1 (ci := 6) (q0 := 0) rfl rfl) rfl hl.1 rfl (Nat.le_of_ble_eq_true rfl) dX6_moves_68 ⟨Nat.zero_le _, Nat.zero_le _⟩ (fun r_11 g1 H locs hq hG => ?_)
  obtain ⟨rfl, hf⟩ := hq
  refine lv_if_eq (tgt := 75) hx hb dX6_moves_71 (by decide) (fun c_12 => ?_) (fun c_12 => ?_)
  · replace hf := hf.1 c_12
    refine lv_aload_n hx hb dX6_moves_75 rfl (lv_at hl 1 rfl) ?_
    refine gg_M_29 C hG inX6_moves_wsX60 (hts _ (List.mem_of_getElem? (i := 5) rfl)) dX6_moves_76 ?_
    refine lv_aload_n hx hb dX6_moves_79 rfl (lv_at hl 1 rfl) ?_
    refine gg_M_32 C hG inX6_moves_wsX60 (hts _ (List.mem_of_getElem? (i := 6) rfl)) dX6_moves_80 ?_
    refine lv_iload_n hx hb dX6_moves_83 rfl (lv_at hl 4 rfl) ?_
    obtain ⟨h_13, hf⟩ := hf
    refine gs_M_29 C hG h_13 dX6_moves_84 (fun X_14 H locs eX_14 hG => ?_)
    replace hf := hf X_14 eX_14
    refine lv_aload_n hx hb dX6_moves_85 rfl (lv_at hl 1 rfl) ?_
    refine gg_M_30 C hG inX6_moves_wsX60 (hts _ (List.mem_of_getElem? (i := 7) rfl)) dX6_moves_86 ?_
    refine lv_aload_n hx hb dX6_moves_89 rfl (lv_at hl 1 rfl) ?_
    refine gg_M_32 C hG inX6_moves_wsX60 (hts _ (List.mem_of_getElem? (i := 6) rfl)) dX6_moves_90 ?_
    refine lv_iload hx hb dX6_moves_93 (lv_at hl 0 rfl) ?_
    obtain ⟨h_15, hf⟩ := hf
    refine gs_M_30 C hG h_15 dX6_moves_95 (fun X_16 H locs eX_16 hG => ?_)
    replace hf := hf X_16 eX_16
    refine lv_aload_n hx hb dX6_moves_96 rfl (lv_at hl 1 rfl) ?_
    refine lv_dup hx hb dX6_moves_97 rfl ?_
    refine gg_M_32 C hG inX6_moves_wsX60 (hts _ (List.mem_of_getElem? (i := 6) rfl)) dX6_moves_98 ?_
    refine lv_iconst (v := (1 : Int32)) hx hb dX6_moves_101 (by decide) ?_
    refine lv_iadd hx hb dX6_moves_102 ?_
    refine gp_M_32 C hG inX6_moves_wsX60 (hts _ (List.mem_of_getElem? (i := 6) rfl)) dX6_moves_103 (fun I_17 H locs eI_17 hG => ?_)
    replace hf := hf I_17 eI_17
    refine lv_aload_n hx hb dX6_moves_106 rfl (lv_at hl 1 rfl) ?_
    refine gg_M_24 C hG inX6_moves_wsX60 (hts _ (List.mem_of_getElem? (i := 8) rfl)) dX6_moves_107 ?_
    refine lv_iload_n hx hb dX6_moves_110 rfl (lv_at hl 2 rfl) ?_
    refine lv_aload_n hx hb dX6_moves_111 rfl (lv_at hl 1 rfl) ?_
    refine gg_M_1 C hG inX6_moves_wsX60 (hts _ (List.mem_of_getElem? (i := 9) rfl)) dX6_moves_112 ?_
    refine lv_aload_n hx hb dX6_moves_115 rfl (lv_at hl 1 rfl) ?_
    refine gg_M_21 C hG inX6_moves_wsX60 (hts _ (List.mem_of_getElem? (i := 1) rfl)) dX6_moves_116 ?_
    refine lv_iload_n hx hb dX6_moves_119 rfl (lv_at hl 2 rfl) ?_
    obtain ⟨h_18, hf⟩ := hf
    refine ga_M_21 C hG h_18 dX6_moves_120 ?_
    refine lv_if_eq (tgt := 131) hx hb dX6_moves_121 (by decide) (fun c_19 => ?_) (fun c_19 => ?_)
    · replace hf := hf.1 c_19
      exact vX6_moves_b131 C hpost  I_17 X_16 y1 y2 (I_17 1) y1 _ _ _ hf hG (lv_sub hl [1, 2, 3] rfl)
    · replace hf := hf.2 c_19
      refine lv_iload_n hx hb dX6_moves_124 rfl (lv_at hl 3 rfl) ?_
      refine lv_sipush (v := (1000 : Int32)) hx hb dX6_moves_125 (by decide) ?_
      refine lv_icmp_ne (tgt := 135) hx hb dX6_moves_128 (by decide) (fun c_20 => ?_) (fun c_20 => ?_)
      · replace hf := hf.1 c_20
        refine lv_aload_n hx hb dX6_moves_135 rfl (lv_at hl 1 rfl) ?_
        refine lv_aload_n hx hb dX6_moves_136 rfl (lv_at hl 1 rfl) ?_
        refine gg_M_22 C hG inX6_moves_wsX60 (hts _ (List.mem_of_getElem? (i := 3) rfl)) dX6_moves_137 ?_
        refine lv_iload_n hx hb dX6_moves_140 rfl (lv_at hl 2 rfl) ?_
        obtain ⟨h_21, hf⟩ := hf
        refine ga_M_22 C hG h_21 dX6_moves_141 ?_
        refine lv_iload_n hx hb dX6_moves_142 rfl (lv_at hl 3 rfl) ?_
        refine lv_aload_n hx hb dX6_moves_143 rfl (lv_at hl 1 rfl) ?_
        refine gg_M_1 C hG inX6_moves_wsX60 (hts _ (List.mem_of_getElem? (i := 9) rfl)) dX6_moves_144 ?_
        refine g_callVi0 (As := [.int (X_16 22 y1.toNatClampNeg), .int y2, .int (I_17 1)]) C hG (kX6_taken hf) (cwV 3 hts gX6_moves_X6_taken rfl rfl rfl hdvX6_taken ⟨Nat.le_of_ble_eq_true rfl, Nat.le_of_ble_eq_true rfl⟩) (va_recv hK hG.1 (ci := 6) (q0 := 0) rfl rfl) rfl hl.1 rfl (Nat.le_of_ble_eq_true rfl) dX6_moves_147 ⟨Nat.zero_le _, Nat.zero_le _⟩ (fun r_22 g1 H locs hq hG => ?_)
        obtain ⟨rfl, hf⟩ := hq
        exact vX6_moves_b150 C hpost  I_17 X_16 y1 y2 r_22 (I_17 1) y1 _ _ _ hf hG (lv_sub hl [1, 2, 3] rfl)
      · replace hf := hf.2 c_20
        exact vX6_moves_b131 C hpost  I_17 X_16 y1 y2 (I_17 1) y1 _ _ _ hf hG (lv_sub hl [1, 2, 3] rfl)
  · replace hf := hf.2 c_12
    exact g_vret C hG (hpost _ _ hf) dX6_moves_74
set_option maxHeartbeats 4000000 in
set_option maxRecDepth 100000 in
theorem vX6_moves_b40 {p : Program} {l : Launch} {e : Env} {s : State} {m : MethodId} {args : Array Value} {below : List Frame} {meth : Method} {c : Code} {D : va_G} {B : Nat → Nat} {A : Nat → Prop} {S : sS} {K : sK} {L : sL} {Y : sY} {O : sO} {post : sG → Prop} {Q : (Nat → Int32) → (Nat → Nat → Int32) → Prop} (C : gX p s m args meth c cX6_moves 5 (none) wsX6_moves RX6 D B A) (hpost : ∀ (I : Nat → Int32) (X : Nat → Nat → Int32), Q I X → post (S, K, L, Y, (I, X), O))  (I : Nat → Int32) (X : Nat → Nat → Int32) (y1 : Int32) (y2 : Int32) (t0 : Int32) (H : Heap) (locs : List Loc) (ls : Array Slot) (hf : fX6_moves_b40 Q I X y1 y2 t0) (hG : GS D B A s.heap (S, K, L, Y, (I, X), O) H locs) (hl : lv_has ls 5 [(0, .ref (B 0)), (1, .int y1), (2, .int y2)]) : W p l e (headSpec wsX6_moves rX6_moves).room s m args below meth c H locs 0 0 (MQ below (va_Qv post (gB D B A) A) args s 0 0 A) (F0 m 40 ls [.int t0]) := by
  obtain ⟨hx, hb, hml, hown, hts, hK, hr, hlk, hA, hN⟩ := id C
  unfold fX6_moves_b40 at hf
  refine lv_istore_n (lv' := [(3, .int t0), (0, .ref (B 0)), (1, .int y1), (2, .int y2)]) hx hb dX6_moves_40 rfl hl (by decide) rfl (fun ls hl => ?_)
  refine lv_iload_n hx hb dX6_moves_41 rfl (lv_at hl 3 rfl) ?_
  refine lv_sipush (v := (1000 : Int32)) hx hb dX6_moves_42 (by decide) ?_
  refine lv_icmp_ne (tgt := 61) hx hb dX6_moves_45 (by decide) (fun c_9 => ?_) (fun c_9 => ?_)
  · replace hf := hf.1 c_9
    refine lv_iload_n hx hb dX6_moves_61 rfl (lv_at hl 3 rfl) ?_
    exact vX6_moves_b62 C hpost  I X y1 y2 t0 y2 _ _ _ hf hG (lv_sub hl [1, 2, 3, 0] rfl)
  · replace hf := hf.2 c_9
    refine lv_sipush (v := (1000 : Int32)) hx hb dX6_moves_48 (by decide) ?_
    refine lv_aload_n hx hb dX6_moves_51 rfl (lv_at hl 1 rfl) ?_
    refine gg_M_20 C hG inX6_moves_wsX60 (hts _ (List.mem_of_getElem? (i := 4) rfl)) dX6_moves_52 ?_
    refine lv_iload_n hx hb dX6_moves_55 rfl (lv_at hl 2 rfl) ?_
    obtain ⟨h_10, hf⟩ := hf
    refine ga_M_20 C hG h_10 dX6_moves_56 ?_
    refine lv_iadd hx hb dX6_moves_57 ?_
    refine lv_goto (tgt := 62) hx hb dX6_moves_58 (by decide) ?_
    exact vX6_moves_b62 C hpost  I X y1 y2 t0 ((1000 : Int32) + X 20 y1.toNatClampNeg) _ _ _ hf hG (lv_sub hl [1, 2, 3, 0] rfl)
set_option maxHeartbeats 4000000 in
set_option maxRecDepth 100000 in
theorem vX6_moves_b0 {p : Program} {l : Launch} {e : Env} {s : State} {m : MethodId} {args : Array Value} {below : List Frame} {meth : Method} {c : Code} {D : va_G} {B : Nat → Nat} {A : Nat → Prop} {S : sS} {K : sK} {L : sL} {Y : sY} {O : sO} {post : sG → Prop} {Q : (Nat → Int32) → (Nat → Nat → Int32) → Prop} (C : gX p s m args meth c cX6_moves 5 (none) wsX6_moves RX6 D B A) (hpost : ∀ (I : Nat → Int32) (X : Nat → Nat → Int32), Q I X → post (S, K, L, Y, (I, X), O))  (I : Nat → Int32) (X : Nat → Nat → Int32) (x1 : Int32) (H : Heap) (locs : List Loc) (ls : Array Slot) (hf : fX6_moves Q I X x1) (hG : GS D B A s.heap (S, K, L, Y, (I, X), O) H locs) (hl : lv_has ls 5 [(0, .ref (B 0)), (1, .int x1)]) : W p l e (headSpec wsX6_moves rX6_moves).room s m args below meth c H locs 0 0 (MQ below (va_Qv post (gB D B A) A) args s 0 0 A) (F0 m 0 ls []) := by
  obtain ⟨hx, hb, hml, hown, hts, hK, hr, hlk, hA, hN⟩ := id C
  unfold fX6_moves at hf
  refine lv_aload_n hx hb dX6_moves_0 rfl (lv_at hl 0 rfl) ?_
  refine lv_iload_n hx hb dX6_moves_1 rfl (lv_at hl 1 rfl) ?_
  refine g_callVi0 (As := [.int x1]) C hG (kX6_choice hf) (cwV 1 hts gX6_moves_X6_choice rfl rfl rfl hdvX6_choice ⟨Nat.le_of_ble_eq_true rfl, Nat.le_of_ble_eq_true rfl⟩) (va_recv hK hG.1 (ci := 6) (q0 := 0) rfl rfl) rfl hl.1 rfl (Nat.le_of_ble_eq_true rfl) dX6_moves_2 ⟨Nat.zero_le _, Nat.zero_le _⟩ (fun r_3 g1 H locs hq hG => ?_)
  obtain ⟨I_1, X_2, rfl, hf⟩ := hq
  refine lv_istore_n (lv' := [(2, .int r_3), (0, .ref (B 0)), (1, .int x1)]) hx hb dX6_moves_5 rfl hl (by decide) rfl (fun ls hl => ?_)
  refine lv_iload_n hx hb dX6_moves_6 rfl (lv_at hl 0 rfl) ?_
  refine lv_iconst (v := (-1 : Int32)) hx hb dX6_moves_7 (by decide) ?_
  refine lv_icmp_ne (tgt := 12) hx hb dX6_moves_8 (by decide) (fun c_4 => ?_) (fun c_4 => ?_)
  · replace hf := hf.1 c_4
    refine lv_aload_n hx hb dX6_moves_12 rfl (lv_at hl 1 rfl) ?_
    refine gg_M_21 C hG inX6_moves_wsX60 (hts _ (List.mem_of_getElem? (i := 1) rfl)) dX6_moves_13 ?_
    refine lv_iload_n hx hb dX6_moves_16 rfl (lv_at hl 2 rfl) ?_
    obtain ⟨h_5, hf⟩ := hf
    refine ga_M_21 C hG h_5 dX6_moves_17 ?_
    refine lv_if_ne (tgt := 34) hx hb dX6_moves_18 (by decide) (fun c_6 => ?_) (fun c_6 => ?_)
    · replace hf := hf.1 c_6
      refine lv_aload_n hx hb dX6_moves_34 rfl (lv_at hl 1 rfl) ?_
      refine gg_M_22 C hG inX6_moves_wsX60 (hts _ (List.mem_of_getElem? (i := 3) rfl)) dX6_moves_35 ?_
      refine lv_iload_n hx hb dX6_moves_38 rfl (lv_at hl 2 rfl) ?_
      obtain ⟨h_7, hf⟩ := hf
      refine ga_M_22 C hG h_7 dX6_moves_39 ?_
      exact vX6_moves_b40 C hpost  I_1 X_2 x1 r_3 (X_2 22 x1.toNatClampNeg) _ _ _ hf hG (lv_sub hl [1, 2, 0] rfl)
    · replace hf := hf.2 c_6
      refine lv_sipush (v := (1000 : Int32)) hx hb dX6_moves_21 (by decide) ?_
      refine lv_aload_n hx hb dX6_moves_24 rfl (lv_at hl 1 rfl) ?_
      refine gg_M_19 C hG inX6_moves_wsX60 (hts _ (List.mem_of_getElem? (i := 2) rfl)) dX6_moves_25 ?_
      refine lv_iload_n hx hb dX6_moves_28 rfl (lv_at hl 2 rfl) ?_
      obtain ⟨h_8, hf⟩ := hf
      refine ga_M_19 C hG h_8 dX6_moves_29 ?_
      refine lv_iadd hx hb dX6_moves_30 ?_
      refine lv_goto (tgt := 40) hx hb dX6_moves_31 (by decide) ?_
      exact vX6_moves_b40 C hpost  I_1 X_2 x1 r_3 ((1000 : Int32) + X_2 19 x1.toNatClampNeg) _ _ _ hf hG (lv_sub hl [1, 2, 0] rfl)
  · replace hf := hf.2 c_4
    exact g_vret C hG (hpost _ _ hf) dX6_moves_11
set_option maxRecDepth 100000 in
theorem kX6_moves {l : Launch} {D : va_G} {B : Nat → Nat} {S : sS} {K : sK} {L : sL} {Y : sY} {O : sO}  {Q : (Nat → Int32) → (Nat → Nat → Int32) → Prop} {I : Nat → Int32} {X : Nat → Nat → Int32} {x1 : Int32} (hf : fX6_moves Q I X x1) : gMv D B l yX6_moves wsX6_moves rX6_moves 0 0 [.ref (B 0), .int x1] (S, K, L, Y, (I, X), O) (fun g1 => ∃ (I1 : Nat → Int32) (X1 : Nat → Nat → Int32), g1 = (S, K, L, Y, (I1, X1), O) ∧ Q I1 X1) := by
  refine gMv_of (cc := cX6_moves) (maxL := 5) (ret := none) (by decide +kernel) rfl (Nat.le_of_ble_eq_true rfl) ?_
  intro p e s m below meth c A hA0 C hG ls hl
  exact vX6_moves_b0 C (fun I X hq => ⟨I, X, rfl, hq⟩) I X x1 _ _ _ hf hG hl
def rX6_steps : Room := { frames := 8, cells := 0, slots := 0, locals := 197 }
theorem hdvX6_steps : yX6_steps.cls = RX6 ∧ yX6_steps.cls ≠ "java/lang/invoke/MethodHandle" ∧ yX6_steps.cls ≠ "java/lang/invoke/VarHandle" ∧ (parseMethodDescriptor yX6_steps.desc).map (fun d => d.parameters.length) = some 1 := by decide +kernel
theorem inX6_steps_wsX60 : ∀ w ∈ wsX60, w ∈ wsX6_steps := (fun _ h => List.mem_cons_of_mem _ (List.mem_append_right _ h))
set_option maxHeartbeats 4000000 in
set_option maxRecDepth 100000 in
theorem vX6_steps_b206 {p : Program} {l : Launch} {e : Env} {s : State} {m : MethodId} {args : Array Value} {below : List Frame} {meth : Method} {c : Code} {D : va_G} {B : Nat → Nat} {A : Nat → Prop} {S : sS} {K : sK} {L : sL} {Y : sY} {O : sO} {post : Int32 → sG → Prop} {Q : Int32 → (Nat → Int32) → (Nat → Nat → Int32) → Prop} (C : gX p s m args meth c cX6_steps 5 (some .int) wsX6_steps RX6 D B A) (hpost : ∀ (v : Int32) (I : Nat → Int32) (X : Nat → Nat → Int32), Q v I X → post v (S, K, L, Y, (I, X), O)) {G32 : (Nat → Int32) → (Nat → Nat → Int32) → Int32 → Int32 → Prop} (hG32 : ∀ (I : Nat → Int32) (X : Nat → Nat → Int32) (y1 : Int32) (y2 : Int32) (H : Heap) (locs : List Loc) (ls : Array Slot), G32 I X y1 y2 → GS D B A s.heap (S, K, L, Y, (I, X), O) H locs → lv_has ls 5 [(0, .ref (B 0)), (1, .int y1), (2, .int y2)] → W p l e (headSpec wsX6_steps rX6_steps).room s m args below meth c H locs 0 0 (MQ below (va_Qi post (gB D B A) A) args s 0 0 A) (F0 m 32 ls [])) {G94 : (Nat → Int32) → (Nat → Nat → Int32) → Int32 → Int32 → Int32 → Prop} (hG94 : ∀ (I : Nat → Int32) (X : Nat → Nat → Int32) (y1 : Int32) (y2 : Int32) (y3 : Int32) (H : Heap) (locs : List Loc) (ls : Array Slot), G94 I X y1 y2 y3 → GS D B A s.heap (S, K, L, Y, (I, X), O) H locs → lv_has ls 5 [(0, .ref (B 0)), (1, .int y1), (2, .int y2), (3, .int y3)] → W p l e (headSpec wsX6_steps rX6_steps).room s m args below meth c H locs 0 0 (MQ below (va_Qi post (gB D B A) A) args s 0 0 A) (F0 m 94 ls [])) (I : Nat → Int32) (X : Nat → Nat → Int32) (y1 : Int32) (y2 : Int32) (y3 : Int32) (H : Heap) (locs : List Loc) (ls : Array Slot) (hf : fX6_steps_b206 G32 G94 Q I X y1 y2 y3) (hG : GS D B A s.heap (S, K, L, Y, (I, X), O) H locs) (hl : lv_has ls 5 [(0, .ref (B 0)), (1, .int y1), (2, .int y2), (3, .int y3)]) : W p l e (headSpec wsX6_steps rX6_steps).room s m args below meth c H locs 0 0 (MQ below (va_Qi post (gB D B A) A) args s 0 0 A) (F0 m 206 ls []) := by
  obtain ⟨hx, hb, hml, hown, hts, hK, hr, hlk, hA, hN⟩ := id C
  unfold fX6_steps_b206 at hf
  obtain ⟨x3_41, ex3_41⟩ : ∃ y : Int32, y = y3 + (1 : Int32) := ⟨_, rfl⟩
  replace hf := hf x3_41 ex3_41
  refine lv_iinc (v := x3_41) (lv' := [(3, .int x3_41), (0, .ref (B 0)), (1, .int y1), (2, .int y2)]) hx hb dX6_steps_206 hl (k := 3) rfl (by rw [ex3_41]; rfl) (by decide) rfl (fun ls hl => ?_)
  refine lv_goto (tgt := 94) hx hb dX6_steps_209 (by decide) ?_
  exact hG94 I X y1 y2 x3_41 _ _ _ hf hG (lv_sub hl [1, 2, 3, 0] rfl)
set_option maxHeartbeats 4000000 in
set_option maxRecDepth 100000 in
theorem vX6_steps_b183 {p : Program} {l : Launch} {e : Env} {s : State} {m : MethodId} {args : Array Value} {below : List Frame} {meth : Method} {c : Code} {D : va_G} {B : Nat → Nat} {A : Nat → Prop} {S : sS} {K : sK} {L : sL} {Y : sY} {O : sO} {post : Int32 → sG → Prop} {Q : Int32 → (Nat → Int32) → (Nat → Nat → Int32) → Prop} (C : gX p s m args meth c cX6_steps 5 (some .int) wsX6_steps RX6 D B A) (hpost : ∀ (v : Int32) (I : Nat → Int32) (X : Nat → Nat → Int32), Q v I X → post v (S, K, L, Y, (I, X), O)) {G32 : (Nat → Int32) → (Nat → Nat → Int32) → Int32 → Int32 → Prop} (hG32 : ∀ (I : Nat → Int32) (X : Nat → Nat → Int32) (y1 : Int32) (y2 : Int32) (H : Heap) (locs : List Loc) (ls : Array Slot), G32 I X y1 y2 → GS D B A s.heap (S, K, L, Y, (I, X), O) H locs → lv_has ls 5 [(0, .ref (B 0)), (1, .int y1), (2, .int y2)] → W p l e (headSpec wsX6_steps rX6_steps).room s m args below meth c H locs 0 0 (MQ below (va_Qi post (gB D B A) A) args s 0 0 A) (F0 m 32 ls [])) {G94 : (Nat → Int32) → (Nat → Nat → Int32) → Int32 → Int32 → Int32 → Prop} (hG94 : ∀ (I : Nat → Int32) (X : Nat → Nat → Int32) (y1 : Int32) (y2 : Int32) (y3 : Int32) (H : Heap) (locs : List Loc) (ls : Array Slot), G94 I X y1 y2 y3 → GS D B A s.heap (S, K, L, Y, (I, X), O) H locs → lv_has ls 5 [(0, .ref (B 0)), (1, .int y1), (2, .int y2), (3, .int y3)] → W p l e (headSpec wsX6_steps rX6_steps).room s m args below meth c H locs 0 0 (MQ below (va_Qi post (gB D B A) A) args s 0 0 A) (F0 m 94 ls [])) (I : Nat → Int32) (X : Nat → Nat → Int32) (y1 : Int32) (y2 : Int32) (y3 : Int32) (y4 : Int32) (t0 : Int32) (t1 : Int32) (H : Heap) (locs : List Loc) (ls : Array Slot) (hf : fX6_steps_b183 G32 G94 Q I X y1 y2 y3 y4 t0 t1) (hG : GS D B A s.heap (S, K, L, Y, (I, X), O) H locs) (hl : lv_has ls 5 [(0, .ref (B 0)), (1, .int y1), (2, .int y2), (3, .int y3), (4, .int y4)]) : W p l e (headSpec wsX6_steps rX6_steps).room s m args below meth c H locs 0 0 (MQ below (va_Qi post (gB D B A) A) args s 0 0 A) (F0 m 183 ls [.int t0, .int t1, .ref (B 82)]) := by
  obtain ⟨hx, hb, hml, hown, hts, hK, hr, hlk, hA, hN⟩ := id C
  unfold fX6_steps_b183 at hf
  obtain ⟨h_34, hf⟩ := hf
  refine gs_M_22 C hG h_34 dX6_steps_183 (fun X_35 H locs eX_35 hG => ?_)
  replace hf := hf X_35 eX_35
  refine lv_aload_n hx hb dX6_steps_184 rfl (lv_at hl 0 rfl) ?_
  refine gg_M_23 C hG inX6_steps_wsX60 (hts _ (List.mem_of_getElem? (i := 7) rfl)) dX6_steps_185 ?_
  refine lv_iload_n hx hb dX6_steps_188 rfl (lv_at hl 3 rfl) ?_
  refine lv_iconst (v := (-1 : Int32)) hx hb dX6_steps_189 (by decide) ?_
  obtain ⟨h_36, hf⟩ := hf
  refine gs_M_23 C hG h_36 dX6_steps_190 (fun X_37 H locs eX_37 hG => ?_)
  replace hf := hf X_37 eX_37
  refine lv_iload hx hb dX6_steps_191 (lv_at hl 4 rfl) ?_
  refine lv_if_eq (tgt := 206) hx hb dX6_steps_193 (by decide) (fun c_38 => ?_) (fun c_38 => ?_)
  · replace hf := hf.1 c_38
    exact vX6_steps_b206 C hpost hG32 hG94 I X_37 y1 y2 y3 _ _ _ hf hG (lv_sub hl [0, 1, 2, 3] rfl)
  · replace hf := hf.2 c_38
    refine lv_aload_n hx hb dX6_steps_196 rfl (lv_at hl 0 rfl) ?_
    refine gg_M_27 C hG inX6_steps_wsX60 (hts _ (List.mem_of_getElem? (i := 9) rfl)) dX6_steps_197 ?_
    refine lv_iload_n hx hb dX6_steps_200 rfl (lv_at hl 3 rfl) ?_
    refine lv_aload_n hx hb dX6_steps_201 rfl (lv_at hl 0 rfl) ?_
    refine gg_M_1 C hG inX6_steps_wsX60 (hts _ (List.mem_of_getElem? (i := 5) rfl)) dX6_steps_202 ?_
    obtain ⟨h_39, hf⟩ := hf
    refine gs_M_27 C hG h_39 dX6_steps_205 (fun X_40 H locs eX_40 hG => ?_)
    replace hf := hf X_40 eX_40
    exact vX6_steps_b206 C hpost hG32 hG94 I X_40 y1 y2 y3 _ _ _ hf hG (lv_sub hl [0, 1, 2, 3] rfl)
set_option maxHeartbeats 4000000 in
set_option maxRecDepth 100000 in
theorem vX6_steps_b162 {p : Program} {l : Launch} {e : Env} {s : State} {m : MethodId} {args : Array Value} {below : List Frame} {meth : Method} {c : Code} {D : va_G} {B : Nat → Nat} {A : Nat → Prop} {S : sS} {K : sK} {L : sL} {Y : sY} {O : sO} {post : Int32 → sG → Prop} {Q : Int32 → (Nat → Int32) → (Nat → Nat → Int32) → Prop} (C : gX p s m args meth c cX6_steps 5 (some .int) wsX6_steps RX6 D B A) (hpost : ∀ (v : Int32) (I : Nat → Int32) (X : Nat → Nat → Int32), Q v I X → post v (S, K, L, Y, (I, X), O)) {G32 : (Nat → Int32) → (Nat → Nat → Int32) → Int32 → Int32 → Prop} (hG32 : ∀ (I : Nat → Int32) (X : Nat → Nat → Int32) (y1 : Int32) (y2 : Int32) (H : Heap) (locs : List Loc) (ls : Array Slot), G32 I X y1 y2 → GS D B A s.heap (S, K, L, Y, (I, X), O) H locs → lv_has ls 5 [(0, .ref (B 0)), (1, .int y1), (2, .int y2)] → W p l e (headSpec wsX6_steps rX6_steps).room s m args below meth c H locs 0 0 (MQ below (va_Qi post (gB D B A) A) args s 0 0 A) (F0 m 32 ls [])) {G94 : (Nat → Int32) → (Nat → Nat → Int32) → Int32 → Int32 → Int32 → Prop} (hG94 : ∀ (I : Nat → Int32) (X : Nat → Nat → Int32) (y1 : Int32) (y2 : Int32) (y3 : Int32) (H : Heap) (locs : List Loc) (ls : Array Slot), G94 I X y1 y2 y3 → GS D B A s.heap (S, K, L, Y, (I, X), O) H locs → lv_has ls 5 [(0, .ref (B 0)), (1, .int y1), (2, .int y2), (3, .int y3)] → W p l e (headSpec wsX6_steps rX6_steps).room s m args below meth c H locs 0 0 (MQ below (va_Qi post (gB D B A) A) args s 0 0 A) (F0 m 94 ls [])) (I : Nat → Int32) (X : Nat → Nat → Int32) (y1 : Int32) (y2 : Int32) (y3 : Int32) (y4 : Int32) (t0 : Int32) (t1 : Int32) (H : Heap) (locs : List Loc) (ls : Array Slot) (hf : fX6_steps_b162 G32 G94 Q I X y1 y2 y3 y4 t0 t1) (hG : GS D B A s.heap (S, K, L, Y, (I, X), O) H locs) (hl : lv_has ls 5 [(0, .ref (B 0)), (1, .int y1), (2, .int y2), (3, .int y3), (4, .int y4)]) : W p l e (headSpec wsX6_steps rX6_steps).room s m args below meth c H locs 0 0 (MQ below (va_Qi post (gB D B A) A) args s 0 0 A) (F0 m 162 ls [.int t0, .int t1, .ref (B 81)]) := by
  obtain ⟨hx, hb, hml, hown, hts, hK, hr, hlk, hA, hN⟩ := id C
  unfold fX6_steps_b162 at hf
  obtain ⟨h_30, hf⟩ := hf
  refine gs_M_21 C hG h_30 dX6_steps_162 (fun X_31 H locs eX_31 hG => ?_)
  replace hf := hf X_31 eX_31
  refine lv_aload_n hx hb dX6_steps_163 rfl (lv_at hl 0 rfl) ?_
  refine gg_M_22 C hG inX6_steps_wsX60 (hts _ (List.mem_of_getElem? (i := 8) rfl)) dX6_steps_164 ?_
  refine lv_iload_n hx hb dX6_steps_167 rfl (lv_at hl 3 rfl) ?_
  refine lv_iload hx hb dX6_steps_168 (lv_at hl 4 rfl) ?_
  refine lv_if_eq (tgt := 177) hx hb dX6_steps_170 (by decide) (fun c_32 => ?_) (fun c_32 => ?_)
  · replace hf := hf.1 c_32
    refine lv_aload_n hx hb dX6_steps_177 rfl (lv_at hl 0 rfl) ?_
    refine gg_M_23 C hG inX6_steps_wsX60 (hts _ (List.mem_of_getElem? (i := 7) rfl)) dX6_steps_178 ?_
    refine lv_iload_n hx hb dX6_steps_181 rfl (lv_at hl 3 rfl) ?_
    obtain ⟨h_33, hf⟩ := hf
    refine ga_M_23 C hG h_33 dX6_steps_182 ?_
    exact vX6_steps_b183 C hpost hG32 hG94 I X_31 y1 y2 y3 y4 (X_31 23 y3.toNatClampNeg) y3 _ _ _ hf hG (lv_sub hl [0, 1, 2, 3, 4] rfl)
  · replace hf := hf.2 c_32
    refine lv_iconst (v := (-1 : Int32)) hx hb dX6_steps_173 (by decide) ?_
    refine lv_goto (tgt := 183) hx hb dX6_steps_174 (by decide) ?_
    exact vX6_steps_b183 C hpost hG32 hG94 I X_31 y1 y2 y3 y4 (-1 : Int32) y3 _ _ _ hf hG (lv_sub hl [0, 1, 2, 3, 4] rfl)
set_option maxHeartbeats 4000000 in
set_option maxRecDepth 100000 in
theorem vX6_steps_b145 {p : Program} {l : Launch} {e : Env} {s : State} {m : MethodId} {args : Array Value} {below : List Frame} {meth : Method} {c : Code} {D : va_G} {B : Nat → Nat} {A : Nat → Prop} {S : sS} {K : sK} {L : sL} {Y : sY} {O : sO} {post : Int32 → sG → Prop} {Q : Int32 → (Nat → Int32) → (Nat → Nat → Int32) → Prop} (C : gX p s m args meth c cX6_steps 5 (some .int) wsX6_steps RX6 D B A) (hpost : ∀ (v : Int32) (I : Nat → Int32) (X : Nat → Nat → Int32), Q v I X → post v (S, K, L, Y, (I, X), O)) {G32 : (Nat → Int32) → (Nat → Nat → Int32) → Int32 → Int32 → Prop} (hG32 : ∀ (I : Nat → Int32) (X : Nat → Nat → Int32) (y1 : Int32) (y2 : Int32) (H : Heap) (locs : List Loc) (ls : Array Slot), G32 I X y1 y2 → GS D B A s.heap (S, K, L, Y, (I, X), O) H locs → lv_has ls 5 [(0, .ref (B 0)), (1, .int y1), (2, .int y2)] → W p l e (headSpec wsX6_steps rX6_steps).room s m args below meth c H locs 0 0 (MQ below (va_Qi post (gB D B A) A) args s 0 0 A) (F0 m 32 ls [])) {G94 : (Nat → Int32) → (Nat → Nat → Int32) → Int32 → Int32 → Int32 → Prop} (hG94 : ∀ (I : Nat → Int32) (X : Nat → Nat → Int32) (y1 : Int32) (y2 : Int32) (y3 : Int32) (H : Heap) (locs : List Loc) (ls : Array Slot), G94 I X y1 y2 y3 → GS D B A s.heap (S, K, L, Y, (I, X), O) H locs → lv_has ls 5 [(0, .ref (B 0)), (1, .int y1), (2, .int y2), (3, .int y3)] → W p l e (headSpec wsX6_steps rX6_steps).room s m args below meth c H locs 0 0 (MQ below (va_Qi post (gB D B A) A) args s 0 0 A) (F0 m 94 ls [])) (I : Nat → Int32) (X : Nat → Nat → Int32) (y1 : Int32) (y2 : Int32) (y3 : Int32) (t0 : Int32) (H : Heap) (locs : List Loc) (ls : Array Slot) (hf : fX6_steps_b145 G32 G94 Q I X y1 y2 y3 t0) (hG : GS D B A s.heap (S, K, L, Y, (I, X), O) H locs) (hl : lv_has ls 5 [(0, .ref (B 0)), (1, .int y1), (2, .int y2), (3, .int y3)]) : W p l e (headSpec wsX6_steps rX6_steps).room s m args below meth c H locs 0 0 (MQ below (va_Qi post (gB D B A) A) args s 0 0 A) (F0 m 145 ls [.int t0]) := by
  obtain ⟨hx, hb, hml, hown, hts, hK, hr, hlk, hA, hN⟩ := id C
  unfold fX6_steps_b145 at hf
  refine lv_istore (lv' := [(4, .int t0), (0, .ref (B 0)), (1, .int y1), (2, .int y2), (3, .int y3)]) hx hb dX6_steps_145 hl (by decide) rfl (fun ls hl => ?_)
  refine lv_aload_n hx hb dX6_steps_147 rfl (lv_at hl 1 rfl) ?_
  refine gg_M_21 C hG inX6_steps_wsX60 (hts _ (List.mem_of_getElem? (i := 4) rfl)) dX6_steps_148 ?_
  refine lv_iload_n hx hb dX6_steps_151 rfl (lv_at hl 4 rfl) ?_
  refine lv_iload hx hb dX6_steps_152 (lv_at hl 0 rfl) ?_
  refine lv_if_eq (tgt := 161) hx hb dX6_steps_154 (by decide) (fun c_29 => ?_) (fun c_29 => ?_)
  · replace hf := hf.1 c_29
    refine lv_iconst (v := (1 : Int32)) hx hb dX6_steps_161 (by decide) ?_
    exact vX6_steps_b162 C hpost hG32 hG94 I X y1 y2 y3 t0 (1 : Int32) y3 _ _ _ hf hG (lv_sub hl [1, 2, 3, 4, 0] rfl)
  · replace hf := hf.2 c_29
    refine lv_iconst (v := (3 : Int32)) hx hb dX6_steps_157 (by decide) ?_
    refine lv_goto (tgt := 162) hx hb dX6_steps_158 (by decide) ?_
    exact vX6_steps_b162 C hpost hG32 hG94 I X y1 y2 y3 t0 (3 : Int32) y3 _ _ _ hf hG (lv_sub hl [1, 2, 3, 4, 0] rfl)
set_option maxHeartbeats 4000000 in
set_option maxRecDepth 100000 in
theorem vX6_steps_h94 {p : Program} {l : Launch} {e : Env} {s : State} {m : MethodId} {args : Array Value} {below : List Frame} {meth : Method} {c : Code} {D : va_G} {B : Nat → Nat} {A : Nat → Prop} {S : sS} {K : sK} {L : sL} {Y : sY} {O : sO} {post : Int32 → sG → Prop} {Q : Int32 → (Nat → Int32) → (Nat → Nat → Int32) → Prop} (C : gX p s m args meth c cX6_steps 5 (some .int) wsX6_steps RX6 D B A) (hpost : ∀ (v : Int32) (I : Nat → Int32) (X : Nat → Nat → Int32), Q v I X → post v (S, K, L, Y, (I, X), O)) {G32 : (Nat → Int32) → (Nat → Nat → Int32) → Int32 → Int32 → Prop} (hG32 : ∀ (I : Nat → Int32) (X : Nat → Nat → Int32) (y1 : Int32) (y2 : Int32) (H : Heap) (locs : List Loc) (ls : Array Slot), G32 I X y1 y2 → GS D B A s.heap (S, K, L, Y, (I, X), O) H locs → lv_has ls 5 [(0, .ref (B 0)), (1, .int y1), (2, .int y2)] → W p l e (headSpec wsX6_steps rX6_steps).room s m args below meth c H locs 0 0 (MQ below (va_Qi post (gB D B A) A) args s 0 0 A) (F0 m 32 ls [])) : ∀ (n94 : Nat) (I : Nat → Int32) (X : Nat → Nat → Int32) (y1 : Int32) (y2 : Int32) (y3 : Int32) (H : Heap) (locs : List Loc) (ls : Array Slot), fX6_steps_h94 G32 Q n94 I X y1 y2 y3 → GS D B A s.heap (S, K, L, Y, (I, X), O) H locs → lv_has ls 5 [(0, .ref (B 0)), (1, .int y1), (2, .int y2), (3, .int y3)] → W p l e (headSpec wsX6_steps rX6_steps).room s m args below meth c H locs 0 0 (MQ below (va_Qi post (gB D B A) A) args s 0 0 A) (F0 m 94 ls []) := by
  obtain ⟨hx, hb, hml, hown, hts, hK, hr, hlk, hA, hN⟩ := id C
  intro n94
  induction n94 with
  | zero =>
    intro I X y1 y2 y3 H locs ls hf
    exact False.elim hf
  | succ n94 hG94 =>
    intro I X y1 y2 y3 H locs ls hf hG hl
    unfold fX6_steps_h94 at hf
    refine lv_iload_n hx hb dX6_steps_94 rfl (lv_at hl 3 rfl) ?_
    refine lv_aload_n hx hb dX6_steps_95 rfl (lv_at hl 0 rfl) ?_
    refine gg_M_31 C hG inX6_steps_wsX60 (hts _ (List.mem_of_getElem? (i := 3) rfl)) dX6_steps_96 ?_
    refine lv_icmp_ge (tgt := 212) hx hb dX6_steps_99 (by decide) (fun c_19 => ?_) (fun c_19 => ?_)
    · replace hf := hf.1 c_19
      refine lv_aload_n hx hb dX6_steps_212 rfl (lv_at hl 0 rfl) ?_
      refine g_callVv0 (As := []) C hG (kX6_handsOut hf) (cwV 0 hts gX6_steps_X6_handsOut rfl rfl rfl hdvX6_handsOut ⟨Nat.le_of_ble_eq_true rfl, Nat.le_of_ble_eq_true rfl⟩) (va_recv hK hG.1 (ci := 6) (q0 := 0) rfl rfl) rfl hl.1 rfl (Nat.le_of_ble_eq_true rfl) dX6_steps_213 ⟨Nat.zero_le _, Nat.zero_le _⟩ (fun g1 H locs hq hG => ?_)
      obtain ⟨I_20, X_21, rfl, hf⟩ := hq
      obtain ⟨x2_22, ex2_22⟩ : ∃ y : Int32, y = y2 + (1 : Int32) := ⟨_, rfl⟩
      replace hf := hf x2_22 ex2_22
      refine lv_iinc (v := x2_22) (lv' := [(2, .int x2_22), (0, .ref (B 0)), (1, .int y1), (3, .int y3)]) hx hb dX6_steps_216 hl (k := 2) rfl (by rw [ex2_22]; rfl) (by decide) rfl (fun ls hl => ?_)
      refine lv_goto (tgt := 32) hx hb dX6_steps_219 (by decide) ?_
      exact hG32 I_20 X_21 y1 x2_22 _ _ _ hf hG (lv_sub hl [1, 2, 0] rfl)
    · replace hf := hf.2 c_19
      refine lv_aload_n hx hb dX6_steps_102 rfl (lv_at hl 0 rfl) ?_
      refine gg_M_21 C hG inX6_steps_wsX60 (hts _ (List.mem_of_getElem? (i := 4) rfl)) dX6_steps_103 ?_
      refine lv_iload_n hx hb dX6_steps_106 rfl (lv_at hl 3 rfl) ?_
      obtain ⟨h_23, hf⟩ := hf
      refine ga_M_21 C hG h_23 dX6_steps_107 ?_
      refine lv_iconst (v := (2 : Int32)) hx hb dX6_steps_108 (by decide) ?_
      refine lv_icmp_ne (tgt := 206) hx hb dX6_steps_109 (by decide) (fun c_24 => ?_) (fun c_24 => ?_)
      · replace hf := hf.1 c_24
        exact vX6_steps_b206 C hpost hG32 hG94 I X y1 y2 y3 _ _ _ hf hG (lv_sub hl [0, 1, 2, 3] rfl)
      · replace hf := hf.2 c_24
        refine lv_aload_n hx hb dX6_steps_112 rfl (lv_at hl 0 rfl) ?_
        refine gg_M_24 C hG inX6_steps_wsX60 (hts _ (List.mem_of_getElem? (i := 6) rfl)) dX6_steps_113 ?_
        refine lv_iload_n hx hb dX6_steps_116 rfl (lv_at hl 3 rfl) ?_
        obtain ⟨h_25, hf⟩ := hf
        refine ga_M_24 C hG h_25 dX6_steps_117 ?_
        refine lv_aload_n hx hb dX6_steps_118 rfl (lv_at hl 0 rfl) ?_
        refine gg_M_1 C hG inX6_steps_wsX60 (hts _ (List.mem_of_getElem? (i := 5) rfl)) dX6_steps_119 ?_
        refine lv_icmp_eq (tgt := 128) hx hb dX6_steps_122 (by decide) (fun c_26 => ?_) (fun c_26 => ?_)
        · replace hf := hf.1 c_26
          refine lv_aload_n hx hb dX6_steps_128 rfl (lv_at hl 0 rfl) ?_
          refine gg_M_23 C hG inX6_steps_wsX60 (hts _ (List.mem_of_getElem? (i := 7) rfl)) dX6_steps_129 ?_
          refine lv_iload_n hx hb dX6_steps_132 rfl (lv_at hl 3 rfl) ?_
          obtain ⟨h_27, hf⟩ := hf
          refine ga_M_23 C hG h_27 dX6_steps_133 ?_
          refine lv_sipush (v := (1000 : Int32)) hx hb dX6_steps_134 (by decide) ?_
          refine lv_icmp_ne (tgt := 144) hx hb dX6_steps_137 (by decide) (fun c_28 => ?_) (fun c_28 => ?_)
          · replace hf := hf.1 c_28
            refine lv_iconst (v := (0 : Int32)) hx hb dX6_steps_144 (by decide) ?_
            exact vX6_steps_b145 C hpost hG32 hG94 I X y1 y2 y3 (0 : Int32) _ _ _ hf hG (lv_sub hl [0, 1, 2, 3] rfl)
          · replace hf := hf.2 c_28
            refine lv_iconst (v := (1 : Int32)) hx hb dX6_steps_140 (by decide) ?_
            refine lv_goto (tgt := 145) hx hb dX6_steps_141 (by decide) ?_
            exact vX6_steps_b145 C hpost hG32 hG94 I X y1 y2 y3 (1 : Int32) _ _ _ hf hG (lv_sub hl [0, 1, 2, 3] rfl)
        · replace hf := hf.2 c_26
          refine lv_goto (tgt := 206) hx hb dX6_steps_125 (by decide) ?_
          exact vX6_steps_b206 C hpost hG32 hG94 I X y1 y2 y3 _ _ _ hf hG (lv_sub hl [0, 1, 2, 3] rfl)
set_option maxHeartbeats 4000000 in
set_option maxRecDepth 100000 in
theorem vX6_steps_b76 {p : Program} {l : Launch} {e : Env} {s : State} {m : MethodId} {args : Array Value} {below : List Frame} {meth : Method} {c : Code} {D : va_G} {B : Nat → Nat} {A : Nat → Prop} {S : sS} {K : sK} {L : sL} {Y : sY} {O : sO} {post : Int32 → sG → Prop} {Q : Int32 → (Nat → Int32) → (Nat → Nat → Int32) → Prop} (C : gX p s m args meth c cX6_steps 5 (some .int) wsX6_steps RX6 D B A) (hpost : ∀ (v : Int32) (I : Nat → Int32) (X : Nat → Nat → Int32), Q v I X → post v (S, K, L, Y, (I, X), O)) {G32 : (Nat → Int32) → (Nat → Nat → Int32) → Int32 → Int32 → Prop} (hG32 : ∀ (I : Nat → Int32) (X : Nat → Nat → Int32) (y1 : Int32) (y2 : Int32) (H : Heap) (locs : List Loc) (ls : Array Slot), G32 I X y1 y2 → GS D B A s.heap (S, K, L, Y, (I, X), O) H locs → lv_has ls 5 [(0, .ref (B 0)), (1, .int y1), (2, .int y2)] → W p l e (headSpec wsX6_steps rX6_steps).room s m args below meth c H locs 0 0 (MQ below (va_Qi post (gB D B A) A) args s 0 0 A) (F0 m 32 ls [])) {G44 : (Nat → Int32) → (Nat → Nat → Int32) → Int32 → Int32 → Int32 → Prop} (hG44 : ∀ (I : Nat → Int32) (X : Nat → Nat → Int32) (y1 : Int32) (y2 : Int32) (y3 : Int32) (H : Heap) (locs : List Loc) (ls : Array Slot), G44 I X y1 y2 y3 → GS D B A s.heap (S, K, L, Y, (I, X), O) H locs → lv_has ls 5 [(0, .ref (B 0)), (1, .int y1), (2, .int y2), (3, .int y3)] → W p l e (headSpec wsX6_steps rX6_steps).room s m args below meth c H locs 0 0 (MQ below (va_Qi post (gB D B A) A) args s 0 0 A) (F0 m 44 ls [])) (I : Nat → Int32) (X : Nat → Nat → Int32) (y1 : Int32) (y2 : Int32) (y3 : Int32) (H : Heap) (locs : List Loc) (ls : Array Slot) (hf : fX6_steps_b76 G32 G44 Q I X y1 y2 y3) (hG : GS D B A s.heap (S, K, L, Y, (I, X), O) H locs) (hl : lv_has ls 5 [(0, .ref (B 0)), (1, .int y1), (2, .int y2), (3, .int y3)]) : W p l e (headSpec wsX6_steps rX6_steps).room s m args below meth c H locs 0 0 (MQ below (va_Qi post (gB D B A) A) args s 0 0 A) (F0 m 76 ls []) := by
  obtain ⟨hx, hb, hml, hown, hts, hK, hr, hlk, hA, hN⟩ := id C
  unfold fX6_steps_b76 at hf
  obtain ⟨x3_18, ex3_18⟩ : ∃ y : Int32, y = y3 + (1 : Int32) := ⟨_, rfl⟩
  replace hf := hf x3_18 ex3_18
  refine lv_iinc (v := x3_18) (lv' := [(3, .int x3_18), (0, .ref (B 0)), (1, .int y1), (2, .int y2)]) hx hb dX6_steps_76 hl (k := 3) rfl (by rw [ex3_18]; rfl) (by decide) rfl (fun ls hl => ?_)
  refine lv_goto (tgt := 44) hx hb dX6_steps_79 (by decide) ?_
  exact hG44 I X y1 y2 x3_18 _ _ _ hf hG (lv_sub hl [1, 2, 3, 0] rfl)
set_option maxHeartbeats 4000000 in
set_option maxRecDepth 100000 in
theorem vX6_steps_b71 {p : Program} {l : Launch} {e : Env} {s : State} {m : MethodId} {args : Array Value} {below : List Frame} {meth : Method} {c : Code} {D : va_G} {B : Nat → Nat} {A : Nat → Prop} {S : sS} {K : sK} {L : sL} {Y : sY} {O : sO} {post : Int32 → sG → Prop} {Q : Int32 → (Nat → Int32) → (Nat → Nat → Int32) → Prop} (C : gX p s m args meth c cX6_steps 5 (some .int) wsX6_steps RX6 D B A) (hpost : ∀ (v : Int32) (I : Nat → Int32) (X : Nat → Nat → Int32), Q v I X → post v (S, K, L, Y, (I, X), O)) {G32 : (Nat → Int32) → (Nat → Nat → Int32) → Int32 → Int32 → Prop} (hG32 : ∀ (I : Nat → Int32) (X : Nat → Nat → Int32) (y1 : Int32) (y2 : Int32) (H : Heap) (locs : List Loc) (ls : Array Slot), G32 I X y1 y2 → GS D B A s.heap (S, K, L, Y, (I, X), O) H locs → lv_has ls 5 [(0, .ref (B 0)), (1, .int y1), (2, .int y2)] → W p l e (headSpec wsX6_steps rX6_steps).room s m args below meth c H locs 0 0 (MQ below (va_Qi post (gB D B A) A) args s 0 0 A) (F0 m 32 ls [])) {G44 : (Nat → Int32) → (Nat → Nat → Int32) → Int32 → Int32 → Int32 → Prop} (hG44 : ∀ (I : Nat → Int32) (X : Nat → Nat → Int32) (y1 : Int32) (y2 : Int32) (y3 : Int32) (H : Heap) (locs : List Loc) (ls : Array Slot), G44 I X y1 y2 y3 → GS D B A s.heap (S, K, L, Y, (I, X), O) H locs → lv_has ls 5 [(0, .ref (B 0)), (1, .int y1), (2, .int y2), (3, .int y3)] → W p l e (headSpec wsX6_steps rX6_steps).room s m args below meth c H locs 0 0 (MQ below (va_Qi post (gB D B A) A) args s 0 0 A) (F0 m 44 ls [])) (I : Nat → Int32) (X : Nat → Nat → Int32) (y1 : Int32) (y2 : Int32) (y3 : Int32) (H : Heap) (locs : List Loc) (ls : Array Slot) (hf : fX6_steps_b71 G32 G44 Q I X y1 y2 y3) (hG : GS D B A s.heap (S, K, L, Y, (I, X), O) H locs) (hl : lv_has ls 5 [(0, .ref (B 0)), (1, .int y1), (2, .int y2), (3, .int y3)]) : W p l e (headSpec wsX6_steps rX6_steps).room s m args below meth c H locs 0 0 (MQ below (va_Qi post (gB D B A) A) args s 0 0 A) (F0 m 71 ls []) := by
  obtain ⟨hx, hb, hml, hown, hts, hK, hr, hlk, hA, hN⟩ := id C
  unfold fX6_steps_b71 at hf
  refine lv_aload_n hx hb dX6_steps_71 rfl (lv_at hl 0 rfl) ?_
  refine lv_iload_n hx hb dX6_steps_72 rfl (lv_at hl 3 rfl) ?_
  refine g_callVv0 (As := [.int y3]) C hG (kX6_moves hf) (cwV 1 hts gX6_steps_X6_moves rfl rfl rfl hdvX6_moves ⟨Nat.le_of_ble_eq_true rfl, Nat.le_of_ble_eq_true rfl⟩) (va_recv hK hG.1 (ci := 6) (q0 := 0) rfl rfl) rfl hl.1 rfl (Nat.le_of_ble_eq_true rfl) dX6_steps_73 ⟨Nat.zero_le _, Nat.zero_le _⟩ (fun g1 H locs hq hG => ?_)
  obtain ⟨I_16, X_17, rfl, hf⟩ := hq
  exact vX6_steps_b76 C hpost hG32 hG44 I_16 X_17 y1 y2 y3 _ _ _ hf hG (lv_sub hl [0, 1, 2, 3] rfl)
set_option maxHeartbeats 4000000 in
set_option maxRecDepth 100000 in
theorem vX6_steps_h44 {p : Program} {l : Launch} {e : Env} {s : State} {m : MethodId} {args : Array Value} {below : List Frame} {meth : Method} {c : Code} {D : va_G} {B : Nat → Nat} {A : Nat → Prop} {S : sS} {K : sK} {L : sL} {Y : sY} {O : sO} {post : Int32 → sG → Prop} {Q : Int32 → (Nat → Int32) → (Nat → Nat → Int32) → Prop} (C : gX p s m args meth c cX6_steps 5 (some .int) wsX6_steps RX6 D B A) (hpost : ∀ (v : Int32) (I : Nat → Int32) (X : Nat → Nat → Int32), Q v I X → post v (S, K, L, Y, (I, X), O)) {G32 : (Nat → Int32) → (Nat → Nat → Int32) → Int32 → Int32 → Prop} (hG32 : ∀ (I : Nat → Int32) (X : Nat → Nat → Int32) (y1 : Int32) (y2 : Int32) (H : Heap) (locs : List Loc) (ls : Array Slot), G32 I X y1 y2 → GS D B A s.heap (S, K, L, Y, (I, X), O) H locs → lv_has ls 5 [(0, .ref (B 0)), (1, .int y1), (2, .int y2)] → W p l e (headSpec wsX6_steps rX6_steps).room s m args below meth c H locs 0 0 (MQ below (va_Qi post (gB D B A) A) args s 0 0 A) (F0 m 32 ls [])) : ∀ (n44 : Nat) (I : Nat → Int32) (X : Nat → Nat → Int32) (y1 : Int32) (y2 : Int32) (y3 : Int32) (H : Heap) (locs : List Loc) (ls : Array Slot), fX6_steps_h44 G32 Q n44 I X y1 y2 y3 → GS D B A s.heap (S, K, L, Y, (I, X), O) H locs → lv_has ls 5 [(0, .ref (B 0)), (1, .int y1), (2, .int y2), (3, .int y3)] → W p l e (headSpec wsX6_steps rX6_steps).room s m args below meth c H locs 0 0 (MQ below (va_Qi post (gB D B A) A) args s 0 0 A) (F0 m 44 ls []) := by
  obtain ⟨hx, hb, hml, hown, hts, hK, hr, hlk, hA, hN⟩ := id C
  intro n44
  induction n44 with
  | zero =>
    intro I X y1 y2 y3 H locs ls hf
    exact False.elim hf
  | succ n44 hG44 =>
    intro I X y1 y2 y3 H locs ls hf hG hl
    unfold fX6_steps_h44 at hf
    refine lv_iload_n hx hb dX6_steps_44 rfl (lv_at hl 3 rfl) ?_
    refine lv_aload_n hx hb dX6_steps_45 rfl (lv_at hl 0 rfl) ?_
    refine gg_M_31 C hG inX6_steps_wsX60 (hts _ (List.mem_of_getElem? (i := 3) rfl)) dX6_steps_46 ?_
    refine lv_icmp_ge (tgt := 82) hx hb dX6_steps_49 (by decide) (fun c_10 => ?_) (fun c_10 => ?_)
    · replace hf := hf.1 c_10
      refine lv_aload_n hx hb dX6_steps_82 rfl (lv_at hl 0 rfl) ?_
      refine lv_dup hx hb dX6_steps_83 rfl ?_
      refine gg_M_1 C hG inX6_steps_wsX60 (hts _ (List.mem_of_getElem? (i := 5) rfl)) dX6_steps_84 ?_
      refine lv_iconst (v := (1 : Int32)) hx hb dX6_steps_87 (by decide) ?_
      refine lv_iadd hx hb dX6_steps_88 ?_
      refine gp_M_1 C hG inX6_steps_wsX60 (hts _ (List.mem_of_getElem? (i := 5) rfl)) dX6_steps_89 (fun I_11 H locs eI_11 hG => ?_)
      replace hf := hf I_11 eI_11
      refine lv_iconst (v := (0 : Int32)) hx hb dX6_steps_92 (by decide) ?_
      refine lv_istore_n (lv' := [(3, .int (0 : Int32)), (0, .ref (B 0)), (1, .int y1), (2, .int y2)]) hx hb dX6_steps_93 rfl hl (by decide) rfl (fun ls hl => ?_)
      obtain ⟨n94, hf⟩ := hf
      exact vX6_steps_h94 C hpost hG32 n94 I_11 X y1 y2 (0 : Int32) _ _ _ hf hG (lv_sub hl [1, 2, 3, 0] rfl)
    · replace hf := hf.2 c_10
      refine lv_aload_n hx hb dX6_steps_52 rfl (lv_at hl 0 rfl) ?_
      refine gg_M_21 C hG inX6_steps_wsX60 (hts _ (List.mem_of_getElem? (i := 4) rfl)) dX6_steps_53 ?_
      refine lv_iload_n hx hb dX6_steps_56 rfl (lv_at hl 3 rfl) ?_
      obtain ⟨h_12, hf⟩ := hf
      refine ga_M_21 C hG h_12 dX6_steps_57 ?_
      refine lv_if_eq (tgt := 71) hx hb dX6_steps_58 (by decide) (fun c_13 => ?_) (fun c_13 => ?_)
      · replace hf := hf.1 c_13
        exact vX6_steps_b71 C hpost hG32 hG44 I X y1 y2 y3 _ _ _ hf hG (lv_sub hl [0, 1, 2, 3] rfl)
      · replace hf := hf.2 c_13
        refine lv_aload_n hx hb dX6_steps_61 rfl (lv_at hl 0 rfl) ?_
        refine gg_M_21 C hG inX6_steps_wsX60 (hts _ (List.mem_of_getElem? (i := 4) rfl)) dX6_steps_62 ?_
        refine lv_iload_n hx hb dX6_steps_65 rfl (lv_at hl 3 rfl) ?_
        obtain ⟨h_14, hf⟩ := hf
        refine ga_M_21 C hG h_14 dX6_steps_66 ?_
        refine lv_iconst (v := (1 : Int32)) hx hb dX6_steps_67 (by decide) ?_
        refine lv_icmp_ne (tgt := 76) hx hb dX6_steps_68 (by decide) (fun c_15 => ?_) (fun c_15 => ?_)
        · replace hf := hf.1 c_15
          exact vX6_steps_b76 C hpost hG32 hG44 I X y1 y2 y3 _ _ _ hf hG (lv_sub hl [0, 1, 2, 3] rfl)
        · replace hf := hf.2 c_15
          exact vX6_steps_b71 C hpost hG32 hG44 I X y1 y2 y3 _ _ _ hf hG (lv_sub hl [0, 1, 2, 3] rfl)
set_option maxHeartbeats 4000000 in
set_option maxRecDepth 100000 in
theorem vX6_steps_h32 {p : Program} {l : Launch} {e : Env} {s : State} {m : MethodId} {args : Array Value} {below : List Frame} {meth : Method} {c : Code} {D : va_G} {B : Nat → Nat} {A : Nat → Prop} {S : sS} {K : sK} {L : sL} {Y : sY} {O : sO} {post : Int32 → sG → Prop} {Q : Int32 → (Nat → Int32) → (Nat → Nat → Int32) → Prop} (C : gX p s m args meth c cX6_steps 5 (some .int) wsX6_steps RX6 D B A) (hpost : ∀ (v : Int32) (I : Nat → Int32) (X : Nat → Nat → Int32), Q v I X → post v (S, K, L, Y, (I, X), O))  : ∀ (n32 : Nat) (I : Nat → Int32) (X : Nat → Nat → Int32) (y1 : Int32) (y2 : Int32) (H : Heap) (locs : List Loc) (ls : Array Slot), fX6_steps_h32 Q n32 I X y1 y2 → GS D B A s.heap (S, K, L, Y, (I, X), O) H locs → lv_has ls 5 [(0, .ref (B 0)), (1, .int y1), (2, .int y2)] → W p l e (headSpec wsX6_steps rX6_steps).room s m args below meth c H locs 0 0 (MQ below (va_Qi post (gB D B A) A) args s 0 0 A) (F0 m 32 ls []) := by
  obtain ⟨hx, hb, hml, hown, hts, hK, hr, hlk, hA, hN⟩ := id C
  intro n32
  induction n32 with
  | zero =>
    intro I X y1 y2 H locs ls hf
    exact False.elim hf
  | succ n32 hG32 =>
    intro I X y1 y2 H locs ls hf hG hl
    unfold fX6_steps_h32 at hf
    refine lv_iload_n hx hb dX6_steps_32 rfl (lv_at hl 2 rfl) ?_
    refine lv_iload_n hx hb dX6_steps_33 rfl (lv_at hl 1 rfl) ?_
    refine lv_icmp_ge (tgt := 222) hx hb dX6_steps_34 (by decide) (fun c_8 => ?_) (fun c_8 => ?_)
    · replace hf := hf.1 c_8
      refine lv_aload_n hx hb dX6_steps_222 rfl (lv_at hl 0 rfl) ?_
      refine gg_M_1 C hG inX6_steps_wsX60 (hts _ (List.mem_of_getElem? (i := 5) rfl)) dX6_steps_223 ?_
      exact g_iret C hG (hpost _ _ _ hf) dX6_steps_226
    · replace hf := hf.2 c_8
      refine lv_aload_n hx hb dX6_steps_37 rfl (lv_at hl 0 rfl) ?_
      refine lv_iconst (v := (0 : Int32)) hx hb dX6_steps_38 (by decide) ?_
      refine gp_M_32 C hG inX6_steps_wsX60 (hts _ (List.mem_of_getElem? (i := 2) rfl)) dX6_steps_39 (fun I_9 H locs eI_9 hG => ?_)
      replace hf := hf I_9 eI_9
      refine lv_iconst (v := (0 : Int32)) hx hb dX6_steps_42 (by decide) ?_
      refine lv_istore_n (lv' := [(3, .int (0 : Int32)), (0, .ref (B 0)), (1, .int y1), (2, .int y2)]) hx hb dX6_steps_43 rfl hl (by decide) rfl (fun ls hl => ?_)
      obtain ⟨n44, hf⟩ := hf
      exact vX6_steps_h44 C hpost hG32 n44 I_9 X y1 y2 (0 : Int32) _ _ _ hf hG (lv_sub hl [1, 2, 3, 0] rfl)
set_option maxHeartbeats 4000000 in
set_option maxRecDepth 100000 in
theorem vX6_steps_b21 {p : Program} {l : Launch} {e : Env} {s : State} {m : MethodId} {args : Array Value} {below : List Frame} {meth : Method} {c : Code} {D : va_G} {B : Nat → Nat} {A : Nat → Prop} {S : sS} {K : sK} {L : sL} {Y : sY} {O : sO} {post : Int32 → sG → Prop} {Q : Int32 → (Nat → Int32) → (Nat → Nat → Int32) → Prop} (C : gX p s m args meth c cX6_steps 5 (some .int) wsX6_steps RX6 D B A) (hpost : ∀ (v : Int32) (I : Nat → Int32) (X : Nat → Nat → Int32), Q v I X → post v (S, K, L, Y, (I, X), O))  (I : Nat → Int32) (X : Nat → Nat → Int32) (y1 : Int32) (t0 : Int32) (H : Heap) (locs : List Loc) (ls : Array Slot) (hf : fX6_steps_b21 Q I X y1 t0) (hG : GS D B A s.heap (S, K, L, Y, (I, X), O) H locs) (hl : lv_has ls 5 [(0, .ref (B 0)), (1, .int y1)]) : W p l e (headSpec wsX6_steps rX6_steps).room s m args below meth c H locs 0 0 (MQ below (va_Qi post (gB D B A) A) args s 0 0 A) (F0 m 21 ls [.int t0, .ref (B 0)]) := by
  obtain ⟨hx, hb, hml, hown, hts, hK, hr, hlk, hA, hN⟩ := id C
  unfold fX6_steps_b21 at hf
  refine lv_iconst (v := (1 : Int32)) hx hb dX6_steps_21 (by decide) ?_
  refine g_callVi0 (As := [.int t0, .int (1 : Int32)]) C hG (kX6_throwsIf hf) (cwV 2 hts gX6_steps_X6_throwsIf rfl rfl rfl hdvX6_throwsIf ⟨Nat.le_of_ble_eq_true rfl, Nat.le_of_ble_eq_true rfl⟩) (va_recv hK hG.1 (ci := 6) (q0 := 0) rfl rfl) rfl hl.1 rfl (Nat.le_of_ble_eq_true rfl) dX6_steps_22 ⟨Nat.zero_le _, Nat.zero_le _⟩ (fun r_6 g1 H locs hq hG => ?_)
  obtain ⟨I_4, X_5, rfl, hf⟩ := hq
  refine lv_if_eq (tgt := 30) hx hb dX6_steps_25 (by decide) (fun c_7 => ?_) (fun c_7 => ?_)
  · replace hf := hf.1 c_7
    refine lv_iconst (v := (0 : Int32)) hx hb dX6_steps_30 (by decide) ?_
    refine lv_istore_n (lv' := [(2, .int (0 : Int32)), (0, .ref (B 0)), (1, .int y1)]) hx hb dX6_steps_31 rfl hl (by decide) rfl (fun ls hl => ?_)
    obtain ⟨n32, hf⟩ := hf
    exact vX6_steps_h32 C hpost  n32 I_4 X_5 y1 (0 : Int32) _ _ _ hf hG (lv_sub hl [1, 2, 0] rfl)
  · replace hf := hf.2 c_7
    refine lv_iconst (v := (0 : Int32)) hx hb dX6_steps_28 (by decide) ?_
    exact g_iret C hG (hpost _ _ _ hf) dX6_steps_29
set_option maxHeartbeats 4000000 in
set_option maxRecDepth 100000 in
theorem vX6_steps_b0 {p : Program} {l : Launch} {e : Env} {s : State} {m : MethodId} {args : Array Value} {below : List Frame} {meth : Method} {c : Code} {D : va_G} {B : Nat → Nat} {A : Nat → Prop} {S : sS} {K : sK} {L : sL} {Y : sY} {O : sO} {post : Int32 → sG → Prop} {Q : Int32 → (Nat → Int32) → (Nat → Nat → Int32) → Prop} (C : gX p s m args meth c cX6_steps 5 (some .int) wsX6_steps RX6 D B A) (hpost : ∀ (v : Int32) (I : Nat → Int32) (X : Nat → Nat → Int32), Q v I X → post v (S, K, L, Y, (I, X), O))  (I : Nat → Int32) (X : Nat → Nat → Int32) (x1 : Int32) (H : Heap) (locs : List Loc) (ls : Array Slot) (hf : fX6_steps Q I X x1) (hG : GS D B A s.heap (S, K, L, Y, (I, X), O) H locs) (hl : lv_has ls 5 [(0, .ref (B 0)), (1, .int x1)]) : W p l e (headSpec wsX6_steps rX6_steps).room s m args below meth c H locs 0 0 (MQ below (va_Qi post (gB D B A) A) args s 0 0 A) (F0 m 0 ls []) := by
  obtain ⟨hx, hb, hml, hown, hts, hK, hr, hlk, hA, hN⟩ := id C
  unfold fX6_steps at hf
  refine lv_aload_n hx hb dX6_steps_0 rfl (lv_at hl 0 rfl) ?_
  refine lv_iconst (v := (0 : Int32)) hx hb dX6_steps_1 (by decide) ?_
  refine gp_M_0 C hG inX6_steps_wsX60 (hts _ (List.mem_of_getElem? (i := 1) rfl)) dX6_steps_2 (fun I_1 H locs eI_1 hG => ?_)
  replace hf := hf I_1 eI_1
  refine lv_aload_n hx hb dX6_steps_5 rfl (lv_at hl 0 rfl) ?_
  refine lv_iload_n hx hb dX6_steps_6 rfl (lv_at hl 1 rfl) ?_
  refine lv_iconst (v := (0 : Int32)) hx hb dX6_steps_7 (by decide) ?_
  refine lv_bipush (v := (100 : Int32)) hx hb dX6_steps_8 (by decide) ?_
  refine g_callSi0 (As := [.int x1, .int (0 : Int32), .int (100 : Int32)]) C hG (kX6_in hf) (va_cwS 3 hts gX6_steps_X6_in rfl rfl rfl hdsX6_in ⟨Nat.le_of_ble_eq_true rfl, Nat.le_of_ble_eq_true rfl⟩) rfl hl.1 rfl (Nat.le_of_ble_eq_true rfl) dX6_steps_10 ⟨Nat.zero_le _, Nat.zero_le _⟩ (fun r_2 g1 H locs hq hG => ?_)
  obtain ⟨rfl, hf⟩ := hq
  refine lv_if_ne (tgt := 20) hx hb dX6_steps_13 (by decide) (fun c_3 => ?_) (fun c_3 => ?_)
  · replace hf := hf.1 c_3
    refine lv_iconst (v := (0 : Int32)) hx hb dX6_steps_20 (by decide) ?_
    exact vX6_steps_b21 C hpost  I_1 X x1 (0 : Int32) _ _ _ hf hG (lv_sub hl [0, 1] rfl)
  · replace hf := hf.2 c_3
    refine lv_iconst (v := (1 : Int32)) hx hb dX6_steps_16 (by decide) ?_
    refine lv_goto (tgt := 21) hx hb dX6_steps_17 (by decide) ?_
    exact vX6_steps_b21 C hpost  I_1 X x1 (1 : Int32) _ _ _ hf hG (lv_sub hl [0, 1] rfl)
set_option maxRecDepth 100000 in
theorem kX6_steps {l : Launch} {D : va_G} {B : Nat → Nat} {S : sS} {K : sK} {L : sL} {Y : sY} {O : sO}  {Q : Int32 → (Nat → Int32) → (Nat → Nat → Int32) → Prop} {I : Nat → Int32} {X : Nat → Nat → Int32} {x1 : Int32} (hf : fX6_steps Q I X x1) : gMi D B l yX6_steps wsX6_steps rX6_steps 0 0 [.ref (B 0), .int x1] (S, K, L, Y, (I, X), O) (fun r g1 => ∃ (I1 : Nat → Int32) (X1 : Nat → Nat → Int32), g1 = (S, K, L, Y, (I1, X1), O) ∧ Q r I1 X1) := by
  refine gMi_of (cc := cX6_steps) (maxL := 5) (ret := some .int) (by decide +kernel) rfl (Nat.le_of_ble_eq_true rfl) ?_
  intro p e s m below meth c A hA0 C hG ls hl
  exact vX6_steps_b0 C (fun v I X hq => ⟨I, X, rfl, hq⟩) I X x1 _ _ _ hf hG hl

def rX1_mayGo : Room := { frames := 0, cells := 0, slots := 0, locals := 0 }
theorem hdvX1_mayGo : yX1_mayGo.cls = RX1 ∧ yX1_mayGo.cls ≠ "java/lang/invoke/MethodHandle" ∧ yX1_mayGo.cls ≠ "java/lang/invoke/VarHandle" ∧ (parseMethodDescriptor yX1_mayGo.desc).map (fun d => d.parameters.length) = some 0 := by decide +kernel
theorem inX1_mayGo_wsX10 : ∀ w ∈ wsX10, w ∈ wsX1_mayGo := (fun _ h => List.mem_cons_of_mem _ (List.mem_append_right _ h))
set_option maxHeartbeats 4000000 in
set_option maxRecDepth 100000 in
theorem vX1_mayGo_b15 {p : Program} {l : Launch} {e : Env} {s : State} {m : MethodId} {args : Array Value} {below : List Frame} {meth : Method} {c : Code} {D : va_G} {B : Nat → Nat} {A : Nat → Prop} {S : sS} {K : sK} {Y : sY} {M : sM} {O : sO} {post : Int32 → sG → Prop} {MI : Nat → Int32} {TT : Nat → Int64} {AW : Nat → Int32} {nE : Nat} {LT : Nat → Nat → Int32} {la : Nat → Nat} {j0 : Nat} {Q : Int32 → Prop} (C : gX p s m args meth c cX1_mayGo 1 (some .boolean) wsX1_mayGo RX1 D B A) (hpost : ∀ (v : Int32) , Q v  → post v (S, K, (MI, TT, AW, nE, LT, la), Y, M, O))    (H : Heap) (locs : List Loc) (ls : Array Slot) (hf : fX1_mayGo_b15 MI TT AW nE LT la j0 Q) (hG : GS D B A s.heap (S, K, (MI, TT, AW, nE, LT, la), Y, M, O) H locs) (hl : lv_has ls 1 []) : W p l e (headSpec wsX1_mayGo rX1_mayGo).room s m args below meth c H locs 0 0 (MQ below (va_Qi post (gB D B A) A) args s 0 0 A) (F0 m 15 ls []) := by
  obtain ⟨hx, hb, hml, hown, hts, hK, hr, hlk, hA, hN⟩ := id C
  unfold fX1_mayGo_b15 at hf
  refine lv_iconst (v := (1 : Int32)) hx hb dX1_mayGo_15 (by decide) ?_
  refine lv_goto (tgt := 20) hx hb dX1_mayGo_16 (by decide) ?_
  exact g_zret C hG rfl (hpost _ hf) dX1_mayGo_20
set_option maxHeartbeats 4000000 in
set_option maxRecDepth 100000 in
theorem vX1_mayGo_b0 {p : Program} {l : Launch} {e : Env} {s : State} {m : MethodId} {args : Array Value} {below : List Frame} {meth : Method} {c : Code} {D : va_G} {B : Nat → Nat} {A : Nat → Prop} {S : sS} {K : sK} {Y : sY} {M : sM} {O : sO} {post : Int32 → sG → Prop} {MI : Nat → Int32} {TT : Nat → Int64} {AW : Nat → Int32} {nE : Nat} {LT : Nat → Nat → Int32} {la : Nat → Nat} {j0 : Nat} {Q : Int32 → Prop} (C : gX p s m args meth c cX1_mayGo 1 (some .boolean) wsX1_mayGo RX1 D B A) (hpost : ∀ (v : Int32) , Q v  → post v (S, K, (MI, TT, AW, nE, LT, la), Y, M, O))    (H : Heap) (locs : List Loc) (ls : Array Slot) (hf : fX1_mayGo MI TT AW nE LT la j0 Q) (hG : GS D B A s.heap (S, K, (MI, TT, AW, nE, LT, la), Y, M, O) H locs) (hl : lv_has ls 1 [(0, .ref (la j0))]) : W p l e (headSpec wsX1_mayGo rX1_mayGo).room s m args below meth c H locs 0 0 (MQ below (va_Qi post (gB D B A) A) args s 0 0 A) (F0 m 0 ls []) := by
  obtain ⟨hx, hb, hml, hown, hts, hK, hr, hlk, hA, hN⟩ := id C
  unfold fX1_mayGo at hf
  refine lv_aload_n hx hb dX1_mayGo_0 rfl (lv_at hl 0 rfl) ?_
  obtain ⟨h_1, hf⟩ := hf
  refine gg_e_3 C hG h_1 inX1_mayGo_wsX10 (hts _ (List.mem_of_getElem? (i := 1) rfl)) dX1_mayGo_1 ?_
  refine lv_if_eq (tgt := 15) hx hb dX1_mayGo_4 (by decide) (fun c_2 => ?_) (fun c_2 => ?_)
  · replace hf := hf.1 c_2
    exact vX1_mayGo_b15 C hpost   _ _ _ hf hG (lv_sub hl [] rfl)
  · replace hf := hf.2 c_2
    refine lv_aload_n hx hb dX1_mayGo_7 rfl (lv_at hl 0 rfl) ?_
    obtain ⟨h_3, hf⟩ := hf
    refine gg_e_3 C hG h_3 inX1_mayGo_wsX10 (hts _ (List.mem_of_getElem? (i := 1) rfl)) dX1_mayGo_8 ?_
    refine lv_iconst (v := (1 : Int32)) hx hb dX1_mayGo_11 (by decide) ?_
    refine lv_icmp_ne (tgt := 19) hx hb dX1_mayGo_12 (by decide) (fun c_4 => ?_) (fun c_4 => ?_)
    · replace hf := hf.1 c_4
      refine lv_iconst (v := (0 : Int32)) hx hb dX1_mayGo_19 (by decide) ?_
      exact g_zret C hG rfl (hpost _ hf) dX1_mayGo_20
    · replace hf := hf.2 c_4
      exact vX1_mayGo_b15 C hpost   _ _ _ hf hG (lv_sub hl [] rfl)
set_option maxRecDepth 100000 in
theorem kX1_mayGo {l : Launch} {D : va_G} {B : Nat → Nat} {S : sS} {K : sK} {Y : sY} {M : sM} {O : sO} {MI : Nat → Int32} {TT : Nat → Int64} {AW : Nat → Int32} {nE : Nat} {LT : Nat → Nat → Int32} {la : Nat → Nat} {j0 : Nat} {Q : Int32 → Prop}  (hf : fX1_mayGo MI TT AW nE LT la j0 Q) : gMi D B l yX1_mayGo wsX1_mayGo rX1_mayGo 0 0 [.ref (la j0)] (S, K, (MI, TT, AW, nE, LT, la), Y, M, O) (fun r g1 => g1 = (S, K, (MI, TT, AW, nE, LT, la), Y, M, O) ∧ Q r ) := by
  refine gMi_of (cc := cX1_mayGo) (maxL := 1) (ret := some .boolean) (by decide +kernel) rfl (Nat.le_of_ble_eq_true rfl) ?_
  intro p e s m below meth c A hA0 C hG ls hl
  exact vX1_mayGo_b0 C (fun v  hq => ⟨rfl, hq⟩)  _ _ _ hf hG hl
def rX1_isSettled : Room := { frames := 0, cells := 0, slots := 0, locals := 0 }
theorem hdvX1_isSettled : yX1_isSettled.cls = RX1 ∧ yX1_isSettled.cls ≠ "java/lang/invoke/MethodHandle" ∧ yX1_isSettled.cls ≠ "java/lang/invoke/VarHandle" ∧ (parseMethodDescriptor yX1_isSettled.desc).map (fun d => d.parameters.length) = some 0 := by decide +kernel
theorem inX1_isSettled_wsX10 : ∀ w ∈ wsX10, w ∈ wsX1_isSettled := (fun _ h => List.mem_cons_of_mem _ (List.mem_append_right _ h))
set_option maxHeartbeats 4000000 in
set_option maxRecDepth 100000 in
theorem vX1_isSettled_b16 {p : Program} {l : Launch} {e : Env} {s : State} {m : MethodId} {args : Array Value} {below : List Frame} {meth : Method} {c : Code} {D : va_G} {B : Nat → Nat} {A : Nat → Prop} {S : sS} {K : sK} {Y : sY} {M : sM} {O : sO} {post : Int32 → sG → Prop} {MI : Nat → Int32} {TT : Nat → Int64} {AW : Nat → Int32} {nE : Nat} {LT : Nat → Nat → Int32} {la : Nat → Nat} {j0 : Nat} {Q : Int32 → Prop} (C : gX p s m args meth c cX1_isSettled 1 (some .boolean) wsX1_isSettled RX1 D B A) (hpost : ∀ (v : Int32) , Q v  → post v (S, K, (MI, TT, AW, nE, LT, la), Y, M, O))    (H : Heap) (locs : List Loc) (ls : Array Slot) (hf : fX1_isSettled_b16 MI TT AW nE LT la j0 Q) (hG : GS D B A s.heap (S, K, (MI, TT, AW, nE, LT, la), Y, M, O) H locs) (hl : lv_has ls 1 []) : W p l e (headSpec wsX1_isSettled rX1_isSettled).room s m args below meth c H locs 0 0 (MQ below (va_Qi post (gB D B A) A) args s 0 0 A) (F0 m 16 ls []) := by
  obtain ⟨hx, hb, hml, hown, hts, hK, hr, hlk, hA, hN⟩ := id C
  unfold fX1_isSettled_b16 at hf
  refine lv_iconst (v := (1 : Int32)) hx hb dX1_isSettled_16 (by decide) ?_
  refine lv_goto (tgt := 21) hx hb dX1_isSettled_17 (by decide) ?_
  exact g_zret C hG rfl (hpost _ hf) dX1_isSettled_21
set_option maxHeartbeats 4000000 in
set_option maxRecDepth 100000 in
theorem vX1_isSettled_b0 {p : Program} {l : Launch} {e : Env} {s : State} {m : MethodId} {args : Array Value} {below : List Frame} {meth : Method} {c : Code} {D : va_G} {B : Nat → Nat} {A : Nat → Prop} {S : sS} {K : sK} {Y : sY} {M : sM} {O : sO} {post : Int32 → sG → Prop} {MI : Nat → Int32} {TT : Nat → Int64} {AW : Nat → Int32} {nE : Nat} {LT : Nat → Nat → Int32} {la : Nat → Nat} {j0 : Nat} {Q : Int32 → Prop} (C : gX p s m args meth c cX1_isSettled 1 (some .boolean) wsX1_isSettled RX1 D B A) (hpost : ∀ (v : Int32) , Q v  → post v (S, K, (MI, TT, AW, nE, LT, la), Y, M, O))    (H : Heap) (locs : List Loc) (ls : Array Slot) (hf : fX1_isSettled MI TT AW nE LT la j0 Q) (hG : GS D B A s.heap (S, K, (MI, TT, AW, nE, LT, la), Y, M, O) H locs) (hl : lv_has ls 1 [(0, .ref (la j0))]) : W p l e (headSpec wsX1_isSettled rX1_isSettled).room s m args below meth c H locs 0 0 (MQ below (va_Qi post (gB D B A) A) args s 0 0 A) (F0 m 0 ls []) := by
  obtain ⟨hx, hb, hml, hown, hts, hK, hr, hlk, hA, hN⟩ := id C
  unfold fX1_isSettled at hf
  refine lv_aload_n hx hb dX1_isSettled_0 rfl (lv_at hl 0 rfl) ?_
  obtain ⟨h_1, hf⟩ := hf
  refine gg_e_3 C hG h_1 inX1_isSettled_wsX10 (hts _ (List.mem_of_getElem? (i := 1) rfl)) dX1_isSettled_1 ?_
  refine lv_iconst (v := (4 : Int32)) hx hb dX1_isSettled_4 (by decide) ?_
  refine lv_icmp_eq (tgt := 16) hx hb dX1_isSettled_5 (by decide) (fun c_2 => ?_) (fun c_2 => ?_)
  · replace hf := hf.1 c_2
    exact vX1_isSettled_b16 C hpost   _ _ _ hf hG (lv_sub hl [] rfl)
  · replace hf := hf.2 c_2
    refine lv_aload_n hx hb dX1_isSettled_8 rfl (lv_at hl 0 rfl) ?_
    obtain ⟨h_3, hf⟩ := hf
    refine gg_e_3 C hG h_3 inX1_isSettled_wsX10 (hts _ (List.mem_of_getElem? (i := 1) rfl)) dX1_isSettled_9 ?_
    refine lv_iconst (v := (5 : Int32)) hx hb dX1_isSettled_12 (by decide) ?_
    refine lv_icmp_ne (tgt := 20) hx hb dX1_isSettled_13 (by decide) (fun c_4 => ?_) (fun c_4 => ?_)
    · replace hf := hf.1 c_4
      refine lv_iconst (v := (0 : Int32)) hx hb dX1_isSettled_20 (by decide) ?_
      exact g_zret C hG rfl (hpost _ hf) dX1_isSettled_21
    · replace hf := hf.2 c_4
      exact vX1_isSettled_b16 C hpost   _ _ _ hf hG (lv_sub hl [] rfl)
set_option maxRecDepth 100000 in
theorem kX1_isSettled {l : Launch} {D : va_G} {B : Nat → Nat} {S : sS} {K : sK} {Y : sY} {M : sM} {O : sO} {MI : Nat → Int32} {TT : Nat → Int64} {AW : Nat → Int32} {nE : Nat} {LT : Nat → Nat → Int32} {la : Nat → Nat} {j0 : Nat} {Q : Int32 → Prop}  (hf : fX1_isSettled MI TT AW nE LT la j0 Q) : gMi D B l yX1_isSettled wsX1_isSettled rX1_isSettled 0 0 [.ref (la j0)] (S, K, (MI, TT, AW, nE, LT, la), Y, M, O) (fun r g1 => g1 = (S, K, (MI, TT, AW, nE, LT, la), Y, M, O) ∧ Q r ) := by
  refine gMi_of (cc := cX1_isSettled) (maxL := 1) (ret := some .boolean) (by decide +kernel) rfl (Nat.le_of_ble_eq_true rfl) ?_
  intro p e s m below meth c A hA0 C hG ls hl
  exact vX1_isSettled_b0 C (fun v  hq => ⟨rfl, hq⟩)  _ _ _ hf hG hl
def rX1_relay : Room := { frames := 1, cells := 0, slots := 0, locals := 20 }
theorem hdvX1_relay : yX1_relay.cls = RX1 ∧ yX1_relay.cls ≠ "java/lang/invoke/MethodHandle" ∧ yX1_relay.cls ≠ "java/lang/invoke/VarHandle" ∧ (parseMethodDescriptor yX1_relay.desc).map (fun d => d.parameters.length) = some 0 := by decide +kernel
theorem inX1_relay_wsX10 : ∀ w ∈ wsX10, w ∈ wsX1_relay := (fun _ h => List.mem_cons_of_mem _ (List.mem_append_right _ h))
set_option maxHeartbeats 4000000 in
set_option maxRecDepth 100000 in
theorem vX1_relay_b48 {p : Program} {l : Launch} {e : Env} {s : State} {m : MethodId} {args : Array Value} {below : List Frame} {meth : Method} {c : Code} {D : va_G} {B : Nat → Nat} {A : Nat → Prop} {S : sS} {K : sK} {Y : sY} {M : sM} {O : sO} {post : Int32 → sG → Prop} {MI : Nat → Int32} {TT : Nat → Int64} {AW : Nat → Int32} {nE : Nat} {LT : Nat → Nat → Int32} {la : Nat → Nat} {j0 : Nat} {Q : Int32 → Prop} (C : gX p s m args meth c cX1_relay 3 (some .int) wsX1_relay RX1 D B A) (hpost : ∀ (v : Int32) , Q v  → post v (S, K, (MI, TT, AW, nE, LT, la), Y, M, O))   (y1 : Int32) (t0 : Int32) (H : Heap) (locs : List Loc) (ls : Array Slot) (hf : fX1_relay_b48 MI TT AW nE LT la j0 Q y1 t0) (hG : GS D B A s.heap (S, K, (MI, TT, AW, nE, LT, la), Y, M, O) H locs) (hl : lv_has ls 3 [(1, .int y1)]) : W p l e (headSpec wsX1_relay rX1_relay).room s m args below meth c H locs 0 0 (MQ below (va_Qi post (gB D B A) A) args s 0 0 A) (F0 m 48 ls [.int t0]) := by
  obtain ⟨hx, hb, hml, hown, hts, hK, hr, hlk, hA, hN⟩ := id C
  unfold fX1_relay_b48 at hf
  refine lv_istore_n (lv' := [(2, .int t0), (1, .int y1)]) hx hb dX1_relay_48 rfl hl (by decide) rfl (fun ls hl => ?_)
  refine lv_iload_n hx hb dX1_relay_49 rfl (lv_at hl 0 rfl) ?_
  refine lv_if_eq (tgt := 57) hx hb dX1_relay_50 (by decide) (fun c_11 => ?_) (fun c_11 => ?_)
  · replace hf := hf.1 c_11
    refine lv_iconst (v := (-1 : Int32)) hx hb dX1_relay_57 (by decide) ?_
    exact g_iret C hG (hpost _ hf) dX1_relay_58
  · replace hf := hf.2 c_11
    refine lv_iload_n hx hb dX1_relay_53 rfl (lv_at hl 1 rfl) ?_
    refine lv_goto (tgt := 58) hx hb dX1_relay_54 (by decide) ?_
    exact g_iret C hG (hpost _ hf) dX1_relay_58
set_option maxHeartbeats 4000000 in
set_option maxRecDepth 100000 in
theorem vX1_relay_b47 {p : Program} {l : Launch} {e : Env} {s : State} {m : MethodId} {args : Array Value} {below : List Frame} {meth : Method} {c : Code} {D : va_G} {B : Nat → Nat} {A : Nat → Prop} {S : sS} {K : sK} {Y : sY} {M : sM} {O : sO} {post : Int32 → sG → Prop} {MI : Nat → Int32} {TT : Nat → Int64} {AW : Nat → Int32} {nE : Nat} {LT : Nat → Nat → Int32} {la : Nat → Nat} {j0 : Nat} {Q : Int32 → Prop} (C : gX p s m args meth c cX1_relay 3 (some .int) wsX1_relay RX1 D B A) (hpost : ∀ (v : Int32) , Q v  → post v (S, K, (MI, TT, AW, nE, LT, la), Y, M, O))   (y1 : Int32) (H : Heap) (locs : List Loc) (ls : Array Slot) (hf : fX1_relay_b47 MI TT AW nE LT la j0 Q y1) (hG : GS D B A s.heap (S, K, (MI, TT, AW, nE, LT, la), Y, M, O) H locs) (hl : lv_has ls 3 [(1, .int y1)]) : W p l e (headSpec wsX1_relay rX1_relay).room s m args below meth c H locs 0 0 (MQ below (va_Qi post (gB D B A) A) args s 0 0 A) (F0 m 47 ls []) := by
  obtain ⟨hx, hb, hml, hown, hts, hK, hr, hlk, hA, hN⟩ := id C
  unfold fX1_relay_b47 at hf
  refine lv_iconst (v := (0 : Int32)) hx hb dX1_relay_47 (by decide) ?_
  exact vX1_relay_b48 C hpost  y1 (0 : Int32) _ _ _ hf hG (lv_sub hl [0] rfl)
set_option maxHeartbeats 4000000 in
set_option maxRecDepth 100000 in
theorem vX1_relay_b36 {p : Program} {l : Launch} {e : Env} {s : State} {m : MethodId} {args : Array Value} {below : List Frame} {meth : Method} {c : Code} {D : va_G} {B : Nat → Nat} {A : Nat → Prop} {S : sS} {K : sK} {Y : sY} {M : sM} {O : sO} {post : Int32 → sG → Prop} {MI : Nat → Int32} {TT : Nat → Int64} {AW : Nat → Int32} {nE : Nat} {LT : Nat → Nat → Int32} {la : Nat → Nat} {j0 : Nat} {Q : Int32 → Prop} (C : gX p s m args meth c cX1_relay 3 (some .int) wsX1_relay RX1 D B A) (hpost : ∀ (v : Int32) , Q v  → post v (S, K, (MI, TT, AW, nE, LT, la), Y, M, O))   (y1 : Int32) (H : Heap) (locs : List Loc) (ls : Array Slot) (hf : fX1_relay_b36 MI TT AW nE LT la j0 Q y1) (hG : GS D B A s.heap (S, K, (MI, TT, AW, nE, LT, la), Y, M, O) H locs) (hl : lv_has ls 3 [(1, .int y1)]) : W p l e (headSpec wsX1_relay rX1_relay).room s m args below meth c H locs 0 0 (MQ below (va_Qi post (gB D B A) A) args s 0 0 A) (F0 m 36 ls []) := by
  obtain ⟨hx, hb, hml, hown, hts, hK, hr, hlk, hA, hN⟩ := id C
  unfold fX1_relay_b36 at hf
  refine lv_iload_n hx hb dX1_relay_36 rfl (lv_at hl 0 rfl) ?_
  refine g_callNi0 (As := [.int y1]) C hG (kX5_isRelay hf) ⟨va_cnB 1 hts gX1_relay_X5_isRelay_n43 rfl rfl rfl (hN _ (List.mem_of_getElem? (i := 2) rfl)) (hts _ (List.mem_of_getElem? (i := 5) rfl)) hdsX5_isRelay ⟨Nat.le_of_ble_eq_true rfl, Nat.le_of_ble_eq_true rfl⟩, hts _ (List.mem_of_getElem? (i := 4) rfl), trivial⟩ rfl hl.1 rfl (Nat.le_of_ble_eq_true rfl) dX1_relay_37 ⟨Nat.zero_le _, Nat.zero_le _⟩ (fun r_9 g1 H locs hq hG => ?_)
  obtain ⟨rfl, hf⟩ := hq
  refine lv_if_eq (tgt := 47) hx hb dX1_relay_40 (by decide) (fun c_10 => ?_) (fun c_10 => ?_)
  · replace hf := hf.1 c_10
    exact vX1_relay_b47 C hpost  y1 _ _ _ hf hG (lv_sub hl [0] rfl)
  · replace hf := hf.2 c_10
    refine lv_iconst (v := (1 : Int32)) hx hb dX1_relay_43 (by decide) ?_
    refine lv_goto (tgt := 48) hx hb dX1_relay_44 (by decide) ?_
    exact vX1_relay_b48 C hpost  y1 (1 : Int32) _ _ _ hf hG (lv_sub hl [0] rfl)
set_option maxHeartbeats 4000000 in
set_option maxRecDepth 100000 in
theorem vX1_relay_b19 {p : Program} {l : Launch} {e : Env} {s : State} {m : MethodId} {args : Array Value} {below : List Frame} {meth : Method} {c : Code} {D : va_G} {B : Nat → Nat} {A : Nat → Prop} {S : sS} {K : sK} {Y : sY} {M : sM} {O : sO} {post : Int32 → sG → Prop} {MI : Nat → Int32} {TT : Nat → Int64} {AW : Nat → Int32} {nE : Nat} {LT : Nat → Nat → Int32} {la : Nat → Nat} {j0 : Nat} {Q : Int32 → Prop} (C : gX p s m args meth c cX1_relay 3 (some .int) wsX1_relay RX1 D B A) (hpost : ∀ (v : Int32) , Q v  → post v (S, K, (MI, TT, AW, nE, LT, la), Y, M, O))   (t0 : Int32) (H : Heap) (locs : List Loc) (ls : Array Slot) (hf : fX1_relay_b19 MI TT AW nE LT la j0 Q t0) (hG : GS D B A s.heap (S, K, (MI, TT, AW, nE, LT, la), Y, M, O) H locs) (hl : lv_has ls 3 [(0, .ref (la j0))]) : W p l e (headSpec wsX1_relay rX1_relay).room s m args below meth c H locs 0 0 (MQ below (va_Qi post (gB D B A) A) args s 0 0 A) (F0 m 19 ls [.int t0]) := by
  obtain ⟨hx, hb, hml, hown, hts, hK, hr, hlk, hA, hN⟩ := id C
  unfold fX1_relay_b19 at hf
  refine lv_istore_n (lv' := [(1, .int t0), (0, .ref (la j0))]) hx hb dX1_relay_19 rfl hl (by decide) rfl (fun ls hl => ?_)
  refine lv_aload_n hx hb dX1_relay_20 rfl (lv_at hl 1 rfl) ?_
  obtain ⟨h_5, hf⟩ := hf
  refine gg_e_3 C hG h_5 inX1_relay_wsX10 (hts _ (List.mem_of_getElem? (i := 1) rfl)) dX1_relay_21 ?_
  refine lv_iconst (v := (1 : Int32)) hx hb dX1_relay_24 (by decide) ?_
  refine lv_icmp_eq (tgt := 36) hx hb dX1_relay_25 (by decide) (fun c_6 => ?_) (fun c_6 => ?_)
  · replace hf := hf.1 c_6
    exact vX1_relay_b36 C hpost  t0 _ _ _ hf hG (lv_sub hl [0] rfl)
  · replace hf := hf.2 c_6
    refine lv_aload_n hx hb dX1_relay_28 rfl (lv_at hl 1 rfl) ?_
    obtain ⟨h_7, hf⟩ := hf
    refine gg_e_3 C hG h_7 inX1_relay_wsX10 (hts _ (List.mem_of_getElem? (i := 1) rfl)) dX1_relay_29 ?_
    refine lv_iconst (v := (2 : Int32)) hx hb dX1_relay_32 (by decide) ?_
    refine lv_icmp_ne (tgt := 47) hx hb dX1_relay_33 (by decide) (fun c_8 => ?_) (fun c_8 => ?_)
    · replace hf := hf.1 c_8
      exact vX1_relay_b47 C hpost  t0 _ _ _ hf hG (lv_sub hl [0] rfl)
    · replace hf := hf.2 c_8
      exact vX1_relay_b36 C hpost  t0 _ _ _ hf hG (lv_sub hl [0] rfl)
set_option maxHeartbeats 4000000 in
set_option maxRecDepth 100000 in
theorem vX1_relay_b0 {p : Program} {l : Launch} {e : Env} {s : State} {m : MethodId} {args : Array Value} {below : List Frame} {meth : Method} {c : Code} {D : va_G} {B : Nat → Nat} {A : Nat → Prop} {S : sS} {K : sK} {Y : sY} {M : sM} {O : sO} {post : Int32 → sG → Prop} {MI : Nat → Int32} {TT : Nat → Int64} {AW : Nat → Int32} {nE : Nat} {LT : Nat → Nat → Int32} {la : Nat → Nat} {j0 : Nat} {Q : Int32 → Prop} (C : gX p s m args meth c cX1_relay 3 (some .int) wsX1_relay RX1 D B A) (hpost : ∀ (v : Int32) , Q v  → post v (S, K, (MI, TT, AW, nE, LT, la), Y, M, O))    (H : Heap) (locs : List Loc) (ls : Array Slot) (hf : fX1_relay MI TT AW nE LT la j0 Q) (hG : GS D B A s.heap (S, K, (MI, TT, AW, nE, LT, la), Y, M, O) H locs) (hl : lv_has ls 3 [(0, .ref (la j0))]) : W p l e (headSpec wsX1_relay rX1_relay).room s m args below meth c H locs 0 0 (MQ below (va_Qi post (gB D B A) A) args s 0 0 A) (F0 m 0 ls []) := by
  obtain ⟨hx, hb, hml, hown, hts, hK, hr, hlk, hA, hN⟩ := id C
  unfold fX1_relay at hf
  refine lv_aload_n hx hb dX1_relay_0 rfl (lv_at hl 0 rfl) ?_
  obtain ⟨h_1, hf⟩ := hf
  refine gg_e_3 C hG h_1 inX1_relay_wsX10 (hts _ (List.mem_of_getElem? (i := 1) rfl)) dX1_relay_1 ?_
  refine lv_iconst (v := (2 : Int32)) hx hb dX1_relay_4 (by decide) ?_
  refine lv_icmp_ne (tgt := 15) hx hb dX1_relay_5 (by decide) (fun c_2 => ?_) (fun c_2 => ?_)
  · replace hf := hf.1 c_2
    refine lv_aload_n hx hb dX1_relay_15 rfl (lv_at hl 0 rfl) ?_
    obtain ⟨h_3, hf⟩ := hf
    refine gg_e_4 C hG h_3 inX1_relay_wsX10 (hts _ (List.mem_of_getElem? (i := 3) rfl)) dX1_relay_16 ?_
    exact vX1_relay_b19 C hpost  (LT j0 4) _ _ _ hf hG (lv_sub hl [0] rfl)
  · replace hf := hf.2 c_2
    refine lv_aload_n hx hb dX1_relay_8 rfl (lv_at hl 0 rfl) ?_
    obtain ⟨h_4, hf⟩ := hf
    refine gg_e_5 C hG h_4 inX1_relay_wsX10 (hts _ (List.mem_of_getElem? (i := 2) rfl)) dX1_relay_9 ?_
    refine lv_goto (tgt := 19) hx hb dX1_relay_12 (by decide) ?_
    exact vX1_relay_b19 C hpost  (LT j0 5) _ _ _ hf hG (lv_sub hl [0] rfl)
set_option maxRecDepth 100000 in
theorem kX1_relay {l : Launch} {D : va_G} {B : Nat → Nat} {S : sS} {K : sK} {Y : sY} {M : sM} {O : sO} {MI : Nat → Int32} {TT : Nat → Int64} {AW : Nat → Int32} {nE : Nat} {LT : Nat → Nat → Int32} {la : Nat → Nat} {j0 : Nat} {Q : Int32 → Prop}  (hf : fX1_relay MI TT AW nE LT la j0 Q) : gMi D B l yX1_relay wsX1_relay rX1_relay 0 0 [.ref (la j0)] (S, K, (MI, TT, AW, nE, LT, la), Y, M, O) (fun r g1 => g1 = (S, K, (MI, TT, AW, nE, LT, la), Y, M, O) ∧ Q r ) := by
  refine gMi_of (cc := cX1_relay) (maxL := 3) (ret := some .int) (by decide +kernel) rfl (Nat.le_of_ble_eq_true rfl) ?_
  intro p e s m below meth c A hA0 C hG ls hl
  exact vX1_relay_b0 C (fun v  hq => ⟨rfl, hq⟩)  _ _ _ hf hG hl
def rX1_hangsOn : Room := { frames := 0, cells := 0, slots := 0, locals := 0 }
theorem hdvX1_hangsOn : yX1_hangsOn.cls = RX1 ∧ yX1_hangsOn.cls ≠ "java/lang/invoke/MethodHandle" ∧ yX1_hangsOn.cls ≠ "java/lang/invoke/VarHandle" ∧ (parseMethodDescriptor yX1_hangsOn.desc).map (fun d => d.parameters.length) = some 1 := by decide +kernel
theorem inX1_hangsOn_wsX10 : ∀ w ∈ wsX10, w ∈ wsX1_hangsOn := (fun _ h => List.mem_cons_of_mem _ (List.mem_append_right _ h))
set_option maxHeartbeats 4000000 in
set_option maxRecDepth 100000 in
theorem vX1_hangsOn_b40 {p : Program} {l : Launch} {e : Env} {s : State} {m : MethodId} {args : Array Value} {below : List Frame} {meth : Method} {c : Code} {D : va_G} {B : Nat → Nat} {A : Nat → Prop} {S : sS} {K : sK} {Y : sY} {M : sM} {O : sO} {post : Int32 → sG → Prop} {MI : Nat → Int32} {TT : Nat → Int64} {AW : Nat → Int32} {nE : Nat} {LT : Nat → Nat → Int32} {la : Nat → Nat} {j0 : Nat} {Q : Int32 → Prop} (C : gX p s m args meth c cX1_hangsOn 2 (some .boolean) wsX1_hangsOn RX1 D B A) (hpost : ∀ (v : Int32) , Q v  → post v (S, K, (MI, TT, AW, nE, LT, la), Y, M, O))    (H : Heap) (locs : List Loc) (ls : Array Slot) (hf : fX1_hangsOn_b40 MI TT AW nE LT la j0 Q) (hG : GS D B A s.heap (S, K, (MI, TT, AW, nE, LT, la), Y, M, O) H locs) (hl : lv_has ls 2 []) : W p l e (headSpec wsX1_hangsOn rX1_hangsOn).room s m args below meth c H locs 0 0 (MQ below (va_Qi post (gB D B A) A) args s 0 0 A) (F0 m 40 ls []) := by
  obtain ⟨hx, hb, hml, hown, hts, hK, hr, hlk, hA, hN⟩ := id C
  unfold fX1_hangsOn_b40 at hf
  refine lv_iconst (v := (1 : Int32)) hx hb dX1_hangsOn_40 (by decide) ?_
  refine lv_goto (tgt := 45) hx hb dX1_hangsOn_41 (by decide) ?_
  exact g_zret C hG rfl (hpost _ hf) dX1_hangsOn_45
set_option maxHeartbeats 4000000 in
set_option maxRecDepth 100000 in
theorem vX1_hangsOn_b16 {p : Program} {l : Launch} {e : Env} {s : State} {m : MethodId} {args : Array Value} {below : List Frame} {meth : Method} {c : Code} {D : va_G} {B : Nat → Nat} {A : Nat → Prop} {S : sS} {K : sK} {Y : sY} {M : sM} {O : sO} {post : Int32 → sG → Prop} {MI : Nat → Int32} {TT : Nat → Int64} {AW : Nat → Int32} {nE : Nat} {LT : Nat → Nat → Int32} {la : Nat → Nat} {j0 : Nat} {Q : Int32 → Prop} (C : gX p s m args meth c cX1_hangsOn 2 (some .boolean) wsX1_hangsOn RX1 D B A) (hpost : ∀ (v : Int32) , Q v  → post v (S, K, (MI, TT, AW, nE, LT, la), Y, M, O))   (y1 : Int32) (H : Heap) (locs : List Loc) (ls : Array Slot) (hf : fX1_hangsOn_b16 MI TT AW nE LT la j0 Q y1) (hG : GS D B A s.heap (S, K, (MI, TT, AW, nE, LT, la), Y, M, O) H locs) (hl : lv_has ls 2 [(0, .ref (la j0)), (1, .int y1)]) : W p l e (headSpec wsX1_hangsOn rX1_hangsOn).room s m args below meth c H locs 0 0 (MQ below (va_Qi post (gB D B A) A) args s 0 0 A) (F0 m 16 ls []) := by
  obtain ⟨hx, hb, hml, hown, hts, hK, hr, hlk, hA, hN⟩ := id C
  unfold fX1_hangsOn_b16 at hf
  refine lv_aload_n hx hb dX1_hangsOn_16 rfl (lv_at hl 0 rfl) ?_
  obtain ⟨h_5, hf⟩ := hf
  refine gg_e_3 C hG h_5 inX1_hangsOn_wsX10 (hts _ (List.mem_of_getElem? (i := 1) rfl)) dX1_hangsOn_17 ?_
  refine lv_iconst (v := (2 : Int32)) hx hb dX1_hangsOn_20 (by decide) ?_
  refine lv_icmp_ne (tgt := 44) hx hb dX1_hangsOn_21 (by decide) (fun c_6 => ?_) (fun c_6 => ?_)
  · replace hf := hf.1 c_6
    refine lv_iconst (v := (0 : Int32)) hx hb dX1_hangsOn_44 (by decide) ?_
    exact g_zret C hG rfl (hpost _ hf) dX1_hangsOn_45
  · replace hf := hf.2 c_6
    refine lv_aload_n hx hb dX1_hangsOn_24 rfl (lv_at hl 0 rfl) ?_
    obtain ⟨h_7, hf⟩ := hf
    refine gg_e_4 C hG h_7 inX1_hangsOn_wsX10 (hts _ (List.mem_of_getElem? (i := 2) rfl)) dX1_hangsOn_25 ?_
    refine lv_iload_n hx hb dX1_hangsOn_28 rfl (lv_at hl 1 rfl) ?_
    refine lv_icmp_eq (tgt := 40) hx hb dX1_hangsOn_29 (by decide) (fun c_8 => ?_) (fun c_8 => ?_)
    · replace hf := hf.1 c_8
      exact vX1_hangsOn_b40 C hpost   _ _ _ hf hG (lv_sub hl [] rfl)
    · replace hf := hf.2 c_8
      refine lv_aload_n hx hb dX1_hangsOn_32 rfl (lv_at hl 0 rfl) ?_
      obtain ⟨h_9, hf⟩ := hf
      refine gg_e_5 C hG h_9 inX1_hangsOn_wsX10 (hts _ (List.mem_of_getElem? (i := 3) rfl)) dX1_hangsOn_33 ?_
      refine lv_iload_n hx hb dX1_hangsOn_36 rfl (lv_at hl 1 rfl) ?_
      refine lv_icmp_ne (tgt := 44) hx hb dX1_hangsOn_37 (by decide) (fun c_10 => ?_) (fun c_10 => ?_)
      · replace hf := hf.1 c_10
        refine lv_iconst (v := (0 : Int32)) hx hb dX1_hangsOn_44 (by decide) ?_
        exact g_zret C hG rfl (hpost _ hf) dX1_hangsOn_45
      · replace hf := hf.2 c_10
        exact vX1_hangsOn_b40 C hpost   _ _ _ hf hG (lv_sub hl [] rfl)
set_option maxHeartbeats 4000000 in
set_option maxRecDepth 100000 in
theorem vX1_hangsOn_b0 {p : Program} {l : Launch} {e : Env} {s : State} {m : MethodId} {args : Array Value} {below : List Frame} {meth : Method} {c : Code} {D : va_G} {B : Nat → Nat} {A : Nat → Prop} {S : sS} {K : sK} {Y : sY} {M : sM} {O : sO} {post : Int32 → sG → Prop} {MI : Nat → Int32} {TT : Nat → Int64} {AW : Nat → Int32} {nE : Nat} {LT : Nat → Nat → Int32} {la : Nat → Nat} {j0 : Nat} {Q : Int32 → Prop} (C : gX p s m args meth c cX1_hangsOn 2 (some .boolean) wsX1_hangsOn RX1 D B A) (hpost : ∀ (v : Int32) , Q v  → post v (S, K, (MI, TT, AW, nE, LT, la), Y, M, O))   (x1 : Int32) (H : Heap) (locs : List Loc) (ls : Array Slot) (hf : fX1_hangsOn MI TT AW nE LT la j0 Q x1) (hG : GS D B A s.heap (S, K, (MI, TT, AW, nE, LT, la), Y, M, O) H locs) (hl : lv_has ls 2 [(0, .ref (la j0)), (1, .int x1)]) : W p l e (headSpec wsX1_hangsOn rX1_hangsOn).room s m args below meth c H locs 0 0 (MQ below (va_Qi post (gB D B A) A) args s 0 0 A) (F0 m 0 ls []) := by
  obtain ⟨hx, hb, hml, hown, hts, hK, hr, hlk, hA, hN⟩ := id C
  unfold fX1_hangsOn at hf
  refine lv_aload_n hx hb dX1_hangsOn_0 rfl (lv_at hl 0 rfl) ?_
  obtain ⟨h_1, hf⟩ := hf
  refine gg_e_3 C hG h_1 inX1_hangsOn_wsX10 (hts _ (List.mem_of_getElem? (i := 1) rfl)) dX1_hangsOn_1 ?_
  refine lv_iconst (v := (1 : Int32)) hx hb dX1_hangsOn_4 (by decide) ?_
  refine lv_icmp_ne (tgt := 16) hx hb dX1_hangsOn_5 (by decide) (fun c_2 => ?_) (fun c_2 => ?_)
  · replace hf := hf.1 c_2
    exact vX1_hangsOn_b16 C hpost  x1 _ _ _ hf hG (lv_sub hl [0, 1] rfl)
  · replace hf := hf.2 c_2
    refine lv_aload_n hx hb dX1_hangsOn_8 rfl (lv_at hl 0 rfl) ?_
    obtain ⟨h_3, hf⟩ := hf
    refine gg_e_4 C hG h_3 inX1_hangsOn_wsX10 (hts _ (List.mem_of_getElem? (i := 2) rfl)) dX1_hangsOn_9 ?_
    refine lv_iload_n hx hb dX1_hangsOn_12 rfl (lv_at hl 1 rfl) ?_
    refine lv_icmp_eq (tgt := 40) hx hb dX1_hangsOn_13 (by decide) (fun c_4 => ?_) (fun c_4 => ?_)
    · replace hf := hf.1 c_4
      exact vX1_hangsOn_b40 C hpost   _ _ _ hf hG (lv_sub hl [] rfl)
    · replace hf := hf.2 c_4
      exact vX1_hangsOn_b16 C hpost  x1 _ _ _ hf hG (lv_sub hl [0, 1] rfl)
set_option maxRecDepth 100000 in
theorem kX1_hangsOn {l : Launch} {D : va_G} {B : Nat → Nat} {S : sS} {K : sK} {Y : sY} {M : sM} {O : sO} {MI : Nat → Int32} {TT : Nat → Int64} {AW : Nat → Int32} {nE : Nat} {LT : Nat → Nat → Int32} {la : Nat → Nat} {j0 : Nat} {Q : Int32 → Prop} {x1 : Int32} (hf : fX1_hangsOn MI TT AW nE LT la j0 Q x1) : gMi D B l yX1_hangsOn wsX1_hangsOn rX1_hangsOn 0 0 [.ref (la j0), .int x1] (S, K, (MI, TT, AW, nE, LT, la), Y, M, O) (fun r g1 => g1 = (S, K, (MI, TT, AW, nE, LT, la), Y, M, O) ∧ Q r ) := by
  refine gMi_of (cc := cX1_hangsOn) (maxL := 2) (ret := some .boolean) (by decide +kernel) rfl (Nat.le_of_ble_eq_true rfl) ?_
  intro p e s m below meth c A hA0 C hG ls hl
  exact vX1_hangsOn_b0 C (fun v  hq => ⟨rfl, hq⟩) x1 _ _ _ hf hG hl
def rX1_take : Room := { frames := 0, cells := 0, slots := 0, locals := 0 }
theorem hdvX1_take : yX1_take.cls = RX1 ∧ yX1_take.cls ≠ "java/lang/invoke/MethodHandle" ∧ yX1_take.cls ≠ "java/lang/invoke/VarHandle" ∧ (parseMethodDescriptor yX1_take.desc).map (fun d => d.parameters.length) = some 2 := by decide +kernel
theorem inX1_take_wsX10 : ∀ w ∈ wsX10, w ∈ wsX1_take := (fun _ h => List.mem_cons_of_mem _ (List.mem_append_right _ h))
set_option maxHeartbeats 4000000 in
set_option maxRecDepth 100000 in
theorem vX1_take_b0 {p : Program} {l : Launch} {e : Env} {s : State} {m : MethodId} {args : Array Value} {below : List Frame} {meth : Method} {c : Code} {D : va_G} {B : Nat → Nat} {A : Nat → Prop} {S : sS} {K : sK} {Y : sY} {M : sM} {O : sO} {post : sG → Prop} {nE : Nat} {la : Nat → Nat} {j0 : Nat} {Q : (Nat → Int32) → (Nat → Int64) → (Nat → Int32) → (Nat → Nat → Int32) → Prop} (C : gX p s m args meth c cX1_take 3 (none) wsX1_take RX1 D B A) (hpost : ∀ (MI : Nat → Int32) (TT : Nat → Int64) (AW : Nat → Int32) (LT : Nat → Nat → Int32), Q MI TT AW LT → post (S, K, (MI, TT, AW, nE, LT, la), Y, M, O))  (MI : Nat → Int32) (TT : Nat → Int64) (AW : Nat → Int32) (LT : Nat → Nat → Int32) (x1 : Int32) (x2 : Int32) (H : Heap) (locs : List Loc) (ls : Array Slot) (hf : fX1_take nE la j0 Q MI TT AW LT x1 x2) (hG : GS D B A s.heap (S, K, (MI, TT, AW, nE, LT, la), Y, M, O) H locs) (hl : lv_has ls 3 [(0, .ref (la j0)), (1, .int x1), (2, .int x2)]) : W p l e (headSpec wsX1_take rX1_take).room s m args below meth c H locs 0 0 (MQ below (va_Qv post (gB D B A) A) args s 0 0 A) (F0 m 0 ls []) := by
  obtain ⟨hx, hb, hml, hown, hts, hK, hr, hlk, hA, hN⟩ := id C
  unfold fX1_take at hf
  refine lv_aload_n hx hb dX1_take_0 rfl (lv_at hl 0 rfl) ?_
  refine lv_iconst (v := (2 : Int32)) hx hb dX1_take_1 (by decide) ?_
  obtain ⟨h_1, hf⟩ := hf
  refine gp_e_3 C hG h_1 inX1_take_wsX10 (hts _ (List.mem_of_getElem? (i := 1) rfl)) dX1_take_2 (fun LT_2 H locs eLT_2 hG => ?_)
  replace hf := hf LT_2 eLT_2
  refine lv_aload_n hx hb dX1_take_5 rfl (lv_at hl 0 rfl) ?_
  refine lv_iload_n hx hb dX1_take_6 rfl (lv_at hl 1 rfl) ?_
  obtain ⟨h_3, hf⟩ := hf
  refine gp_e_5 C hG h_3 inX1_take_wsX10 (hts _ (List.mem_of_getElem? (i := 2) rfl)) dX1_take_7 (fun LT_4 H locs eLT_4 hG => ?_)
  replace hf := hf LT_4 eLT_4
  refine lv_aload_n hx hb dX1_take_10 rfl (lv_at hl 0 rfl) ?_
  refine lv_iload_n hx hb dX1_take_11 rfl (lv_at hl 2 rfl) ?_
  obtain ⟨h_5, hf⟩ := hf
  refine gp_e_6 C hG h_5 inX1_take_wsX10 (hts _ (List.mem_of_getElem? (i := 3) rfl)) dX1_take_12 (fun LT_6 H locs eLT_6 hG => ?_)
  replace hf := hf LT_6 eLT_6
  refine lv_aload_n hx hb dX1_take_15 rfl (lv_at hl 0 rfl) ?_
  refine lv_dup hx hb dX1_take_16 rfl ?_
  obtain ⟨h_7, hf⟩ := hf
  refine gg_e_7 C hG h_7 inX1_take_wsX10 (hts _ (List.mem_of_getElem? (i := 4) rfl)) dX1_take_17 ?_
  refine lv_iconst (v := (1 : Int32)) hx hb dX1_take_20 (by decide) ?_
  refine lv_iadd hx hb dX1_take_21 ?_
  obtain ⟨h_8, hf⟩ := hf
  refine gp_e_7 C hG h_8 inX1_take_wsX10 (hts _ (List.mem_of_getElem? (i := 4) rfl)) dX1_take_22 (fun LT_9 H locs eLT_9 hG => ?_)
  replace hf := hf LT_9 eLT_9
  exact g_vret C hG (hpost _ _ _ _ hf) dX1_take_25
set_option maxRecDepth 100000 in
theorem kX1_take {l : Launch} {D : va_G} {B : Nat → Nat} {S : sS} {K : sK} {Y : sY} {M : sM} {O : sO} {nE : Nat} {la : Nat → Nat} {j0 : Nat} {Q : (Nat → Int32) → (Nat → Int64) → (Nat → Int32) → (Nat → Nat → Int32) → Prop} {MI : Nat → Int32} {TT : Nat → Int64} {AW : Nat → Int32} {LT : Nat → Nat → Int32} {x1 : Int32} {x2 : Int32} (hf : fX1_take nE la j0 Q MI TT AW LT x1 x2) : gMv D B l yX1_take wsX1_take rX1_take 0 0 [.ref (la j0), .int x1, .int x2] (S, K, (MI, TT, AW, nE, LT, la), Y, M, O) (fun g1 => ∃ (MI1 : Nat → Int32) (TT1 : Nat → Int64) (AW1 : Nat → Int32) (LT1 : Nat → Nat → Int32), g1 = (S, K, (MI1, TT1, AW1, nE, LT1, la), Y, M, O) ∧ Q MI1 TT1 AW1 LT1) := by
  refine gMv_of (cc := cX1_take) (maxL := 3) (ret := none) (by decide +kernel) rfl (Nat.le_of_ble_eq_true rfl) ?_
  intro p e s m below meth c A hA0 C hG ls hl
  exact vX1_take_b0 C (fun MI TT AW LT hq => ⟨MI, TT, AW, LT, rfl, hq⟩) MI TT AW LT x1 x2 _ _ _ hf hG hl
def rX1_arrive : Room := { frames := 1, cells := 0, slots := 0, locals := 20 }
theorem hdvX1_arrive : yX1_arrive.cls = RX1 ∧ yX1_arrive.cls ≠ "java/lang/invoke/MethodHandle" ∧ yX1_arrive.cls ≠ "java/lang/invoke/VarHandle" ∧ (parseMethodDescriptor yX1_arrive.desc).map (fun d => d.parameters.length) = some 1 := by decide +kernel
theorem inX1_arrive_wsX10 : ∀ w ∈ wsX10, w ∈ wsX1_arrive := (fun _ h => List.mem_cons_of_mem _ (List.mem_append_right _ h))
set_option maxHeartbeats 4000000 in
set_option maxRecDepth 100000 in
theorem vX1_arrive_b0 {p : Program} {l : Launch} {e : Env} {s : State} {m : MethodId} {args : Array Value} {below : List Frame} {meth : Method} {c : Code} {D : va_G} {B : Nat → Nat} {A : Nat → Prop} {S : sS} {K : sK} {Y : sY} {M : sM} {O : sO} {post : sG → Prop} {nE : Nat} {la : Nat → Nat} {j0 : Nat} {Q : (Nat → Int32) → (Nat → Int64) → (Nat → Int32) → (Nat → Nat → Int32) → Prop} (C : gX p s m args meth c cX1_arrive 2 (none) wsX1_arrive RX1 D B A) (hpost : ∀ (MI : Nat → Int32) (TT : Nat → Int64) (AW : Nat → Int32) (LT : Nat → Nat → Int32), Q MI TT AW LT → post (S, K, (MI, TT, AW, nE, LT, la), Y, M, O))  (MI : Nat → Int32) (TT : Nat → Int64) (AW : Nat → Int32) (LT : Nat → Nat → Int32) (x1 : Int32) (H : Heap) (locs : List Loc) (ls : Array Slot) (hf : fX1_arrive nE la j0 Q MI TT AW LT x1) (hG : GS D B A s.heap (S, K, (MI, TT, AW, nE, LT, la), Y, M, O) H locs) (hl : lv_has ls 2 [(0, .ref (la j0)), (1, .int x1)]) : W p l e (headSpec wsX1_arrive rX1_arrive).room s m args below meth c H locs 0 0 (MQ below (va_Qv post (gB D B A) A) args s 0 0 A) (F0 m 0 ls []) := by
  obtain ⟨hx, hb, hml, hown, hts, hK, hr, hlk, hA, hN⟩ := id C
  unfold fX1_arrive at hf
  refine lv_aload_n hx hb dX1_arrive_0 rfl (lv_at hl 0 rfl) ?_
  refine lv_aload_n hx hb dX1_arrive_1 rfl (lv_at hl 0 rfl) ?_
  obtain ⟨h_1, hf⟩ := hf
  refine gg_e_5 C hG h_1 inX1_arrive_wsX10 (hts _ (List.mem_of_getElem? (i := 1) rfl)) dX1_arrive_2 ?_
  obtain ⟨h_2, hf⟩ := hf
  refine gp_e_4 C hG h_2 inX1_arrive_wsX10 (hts _ (List.mem_of_getElem? (i := 2) rfl)) dX1_arrive_5 (fun LT_3 H locs eLT_3 hG => ?_)
  replace hf := hf LT_3 eLT_3
  refine lv_aload_n hx hb dX1_arrive_8 rfl (lv_at hl 0 rfl) ?_
  obtain ⟨h_4, hf⟩ := hf
  refine gg_e_4 C hG h_4 inX1_arrive_wsX10 (hts _ (List.mem_of_getElem? (i := 2) rfl)) dX1_arrive_9 ?_
  refine g_callNi0 (As := [.int (LT_3 j0 4)]) C hG (kX5_isRelay hf) ⟨va_cnB 1 hts gX1_arrive_X5_isRelay_n43 rfl rfl rfl (hN _ (List.mem_of_getElem? (i := 2) rfl)) (hts _ (List.mem_of_getElem? (i := 6) rfl)) hdsX5_isRelay ⟨Nat.le_of_ble_eq_true rfl, Nat.le_of_ble_eq_true rfl⟩, hts _ (List.mem_of_getElem? (i := 5) rfl), trivial⟩ rfl hl.1 rfl (Nat.le_of_ble_eq_true rfl) dX1_arrive_12 ⟨Nat.zero_le _, Nat.zero_le _⟩ (fun r_5 g1 H locs hq hG => ?_)
  obtain ⟨rfl, hf⟩ := hq
  refine lv_if_eq (tgt := 26) hx hb dX1_arrive_15 (by decide) (fun c_6 => ?_) (fun c_6 => ?_)
  · replace hf := hf.1 c_6
    refine lv_aload_n hx hb dX1_arrive_26 rfl (lv_at hl 0 rfl) ?_
    refine lv_iconst (v := (3 : Int32)) hx hb dX1_arrive_27 (by decide) ?_
    obtain ⟨h_7, hf⟩ := hf
    refine gp_e_3 C hG h_7 inX1_arrive_wsX10 (hts _ (List.mem_of_getElem? (i := 3) rfl)) dX1_arrive_28 (fun LT_8 H locs eLT_8 hG => ?_)
    replace hf := hf LT_8 eLT_8
    refine lv_aload_n hx hb dX1_arrive_31 rfl (lv_at hl 0 rfl) ?_
    refine lv_iload_n hx hb dX1_arrive_32 rfl (lv_at hl 1 rfl) ?_
    obtain ⟨h_9, hf⟩ := hf
    refine gp_e_8 C hG h_9 inX1_arrive_wsX10 (hts _ (List.mem_of_getElem? (i := 4) rfl)) dX1_arrive_33 (fun LT_10 H locs eLT_10 hG => ?_)
    replace hf := hf LT_10 eLT_10
    exact g_vret C hG (hpost _ _ _ _ hf) dX1_arrive_36
  · replace hf := hf.2 c_6
    refine lv_aload_n hx hb dX1_arrive_18 rfl (lv_at hl 0 rfl) ?_
    refine lv_iconst (v := (1 : Int32)) hx hb dX1_arrive_19 (by decide) ?_
    obtain ⟨h_11, hf⟩ := hf
    refine gp_e_3 C hG h_11 inX1_arrive_wsX10 (hts _ (List.mem_of_getElem? (i := 3) rfl)) dX1_arrive_20 (fun LT_12 H locs eLT_12 hG => ?_)
    replace hf := hf LT_12 eLT_12
    refine lv_goto (tgt := 36) hx hb dX1_arrive_23 (by decide) ?_
    exact g_vret C hG (hpost _ _ _ _ hf) dX1_arrive_36
set_option maxRecDepth 100000 in
theorem kX1_arrive {l : Launch} {D : va_G} {B : Nat → Nat} {S : sS} {K : sK} {Y : sY} {M : sM} {O : sO} {nE : Nat} {la : Nat → Nat} {j0 : Nat} {Q : (Nat → Int32) → (Nat → Int64) → (Nat → Int32) → (Nat → Nat → Int32) → Prop} {MI : Nat → Int32} {TT : Nat → Int64} {AW : Nat → Int32} {LT : Nat → Nat → Int32} {x1 : Int32} (hf : fX1_arrive nE la j0 Q MI TT AW LT x1) : gMv D B l yX1_arrive wsX1_arrive rX1_arrive 0 0 [.ref (la j0), .int x1] (S, K, (MI, TT, AW, nE, LT, la), Y, M, O) (fun g1 => ∃ (MI1 : Nat → Int32) (TT1 : Nat → Int64) (AW1 : Nat → Int32) (LT1 : Nat → Nat → Int32), g1 = (S, K, (MI1, TT1, AW1, nE, LT1, la), Y, M, O) ∧ Q MI1 TT1 AW1 LT1) := by
  refine gMv_of (cc := cX1_arrive) (maxL := 2) (ret := none) (by decide +kernel) rfl (Nat.le_of_ble_eq_true rfl) ?_
  intro p e s m below meth c A hA0 C hG ls hl
  exact vX1_arrive_b0 C (fun MI TT AW LT hq => ⟨MI, TT, AW, LT, rfl, hq⟩) MI TT AW LT x1 _ _ _ hf hG hl
def rX2_isNow : Room := { frames := 0, cells := 0, slots := 0, locals := 0 }
theorem hdvX2_isNow : yX2_isNow.cls = RX2 ∧ yX2_isNow.cls ≠ "java/lang/invoke/MethodHandle" ∧ yX2_isNow.cls ≠ "java/lang/invoke/VarHandle" ∧ (parseMethodDescriptor yX2_isNow.desc).map (fun d => d.parameters.length) = some 1 := by decide +kernel
theorem inX2_isNow_wsX20 : ∀ w ∈ wsX20, w ∈ wsX2_isNow := (fun _ h => List.mem_cons_of_mem _ (List.mem_append_right _ h))
set_option maxHeartbeats 4000000 in
set_option maxRecDepth 100000 in
theorem vX2_isNow_b0 {p : Program} {l : Launch} {e : Env} {s : State} {m : MethodId} {args : Array Value} {below : List Frame} {meth : Method} {c : Code} {D : va_G} {B : Nat → Nat} {A : Nat → Prop} {S : sS} {K : sK} {Y : sY} {M : sM} {O : sO} {post : Int32 → sG → Prop} {MI : Nat → Int32} {TT : Nat → Int64} {AW : Nat → Int32} {nE : Nat} {LT : Nat → Nat → Int32} {la : Nat → Nat} {Q : Int32 → Prop} (C : gX p s m args meth c cX2_isNow 2 (some .boolean) wsX2_isNow RX2 D B A) (hpost : ∀ (v : Int32) , Q v  → post v (S, K, (MI, TT, AW, nE, LT, la), Y, M, O))   (x1 : Int32) (H : Heap) (locs : List Loc) (ls : Array Slot) (hf : fX2_isNow MI TT AW nE LT la Q x1) (hG : GS D B A s.heap (S, K, (MI, TT, AW, nE, LT, la), Y, M, O) H locs) (hl : lv_has ls 2 [(0, .ref (B 4)), (1, .int x1)]) : W p l e (headSpec wsX2_isNow rX2_isNow).room s m args below meth c H locs 0 0 (MQ below (va_Qi post (gB D B A) A) args s 0 0 A) (F0 m 0 ls []) := by
  obtain ⟨hx, hb, hml, hown, hts, hK, hr, hlk, hA, hN⟩ := id C
  unfold fX2_isNow at hf
  refine lv_iload_n hx hb dX2_isNow_0 rfl (lv_at hl 1 rfl) ?_
  refine lv_aload_n hx hb dX2_isNow_1 rfl (lv_at hl 0 rfl) ?_
  refine gg_L_0 C hG inX2_isNow_wsX20 (hts _ (List.mem_of_getElem? (i := 1) rfl)) dX2_isNow_2 ?_
  refine lv_bipush (v := (31 : Int32)) hx hb dX2_isNow_5 (by decide) ?_
  refine lv_iand hx hb dX2_isNow_7 ?_
  refine lv_iushr hx hb dX2_isNow_8 rfl ?_
  refine lv_iconst (v := (1 : Int32)) hx hb dX2_isNow_9 (by decide) ?_
  refine lv_iand hx hb dX2_isNow_10 ?_
  refine lv_if_eq (tgt := 18) hx hb dX2_isNow_11 (by decide) (fun c_1 => ?_) (fun c_1 => ?_)
  · replace hf := hf.1 c_1
    refine lv_iconst (v := (0 : Int32)) hx hb dX2_isNow_18 (by decide) ?_
    exact g_zret C hG rfl (hpost _ hf) dX2_isNow_19
  · replace hf := hf.2 c_1
    refine lv_iconst (v := (1 : Int32)) hx hb dX2_isNow_14 (by decide) ?_
    refine lv_goto (tgt := 19) hx hb dX2_isNow_15 (by decide) ?_
    exact g_zret C hG rfl (hpost _ hf) dX2_isNow_19
set_option maxRecDepth 100000 in
theorem kX2_isNow {l : Launch} {D : va_G} {B : Nat → Nat} {S : sS} {K : sK} {Y : sY} {M : sM} {O : sO} {MI : Nat → Int32} {TT : Nat → Int64} {AW : Nat → Int32} {nE : Nat} {LT : Nat → Nat → Int32} {la : Nat → Nat} {Q : Int32 → Prop} {x1 : Int32} (hf : fX2_isNow MI TT AW nE LT la Q x1) : gMi D B l yX2_isNow wsX2_isNow rX2_isNow 0 0 [.ref (B 4), .int x1] (S, K, (MI, TT, AW, nE, LT, la), Y, M, O) (fun r g1 => g1 = (S, K, (MI, TT, AW, nE, LT, la), Y, M, O) ∧ Q r ) := by
  refine gMi_of (cc := cX2_isNow) (maxL := 2) (ret := some .boolean) (by decide +kernel) rfl (Nat.le_of_ble_eq_true rfl) ?_
  intro p e s m below meth c A hA0 C hG ls hl
  exact vX2_isNow_b0 C (fun v  hq => ⟨rfl, hq⟩) x1 _ _ _ hf hG hl
def rX2_choose : Room := { frames := 2, cells := 0, slots := 0, locals := 43 }
theorem hdvX2_choose : yX2_choose.cls = RX2 ∧ yX2_choose.cls ≠ "java/lang/invoke/MethodHandle" ∧ yX2_choose.cls ≠ "java/lang/invoke/VarHandle" ∧ (parseMethodDescriptor yX2_choose.desc).map (fun d => d.parameters.length) = some 1 := by decide +kernel
theorem inX2_choose_wsX10 : ∀ w ∈ wsX10, w ∈ wsX2_choose := (fun _ h => List.mem_cons_of_mem _ (List.mem_append_left _ (List.mem_append_left _ (List.mem_append_right _ h))))
theorem inX2_choose_wsX20 : ∀ w ∈ wsX20, w ∈ wsX2_choose := (fun _ h => List.mem_cons_of_mem _ (List.mem_append_left _ (List.mem_append_left _ (List.mem_append_left _ (List.mem_append_right _ h)))))
set_option maxHeartbeats 4000000 in
set_option maxRecDepth 100000 in
theorem vX2_choose_b161 {p : Program} {l : Launch} {e : Env} {s : State} {m : MethodId} {args : Array Value} {below : List Frame} {meth : Method} {c : Code} {D : va_G} {B : Nat → Nat} {A : Nat → Prop} {K : sK} {M : sM} {O : sO} {post : Int32 → sG → Prop} {SI : Nat → Int32} {SX : Nat → Nat → Int32} {MI : Nat → Int32} {TT : Nat → Int64} {AW : Nat → Int32} {nE : Nat} {LT : Nat → Nat → Int32} {la : Nat → Nat} {nW : Nat} {WI : Nat → Nat → Int32} {WR : Nat → Nat → Nat} {WL : Nat → Nat → Int32} {WX : Nat → Nat → Nat → Int32} {wd : Nat → Nat → Nat} {j1 : Nat} {Q : Int32 → Prop} (C : gX p s m args meth c cX2_choose 9 (some .int) wsX2_choose RX2 D B A) (hpost : ∀ (v : Int32) , Q v  → post v ((SI, SX), K, (MI, TT, AW, nE, LT, la), (nW, WI, WR, WL, WX, wd), M, O)) {G91 : Nat → Int32 → Int32 → Int32 → Int32 → Prop} (hG91 : ∀  (z2 : Nat) (y3 : Int32) (y4 : Int32) (y5 : Int32) (y6 : Int32) (H : Heap) (locs : List Loc) (ls : Array Slot), G91 z2 y3 y4 y5 y6 → GS D B A s.heap ((SI, SX), K, (MI, TT, AW, nE, LT, la), (nW, WI, WR, WL, WX, wd), M, O) H locs → lv_has ls 9 [(0, .ref (B 4)), (2, .ref (wd 0 z2)), (3, .int y3), (4, .int y4), (5, .int y5), (6, .int y6)] → W p l e (headSpec wsX2_choose rX2_choose).room s m args below meth c H locs 0 0 (MQ below (va_Qi post (gB D B A) A) args s 0 0 A) (F0 m 91 ls []))  (z2 : Nat) (y3 : Int32) (y4 : Int32) (y5 : Int32) (y6 : Int32) (H : Heap) (locs : List Loc) (ls : Array Slot) (hf : fX2_choose_b161 SI SX MI TT AW nE LT la nW WI WR WL WX wd j1 G91 Q z2 y3 y4 y5 y6) (hG : GS D B A s.heap ((SI, SX), K, (MI, TT, AW, nE, LT, la), (nW, WI, WR, WL, WX, wd), M, O) H locs) (hl : lv_has ls 9 [(0, .ref (B 4)), (2, .ref (wd 0 z2)), (3, .int y3), (4, .int y4), (5, .int y5), (6, .int y6)]) : W p l e (headSpec wsX2_choose rX2_choose).room s m args below meth c H locs 0 0 (MQ below (va_Qi post (gB D B A) A) args s 0 0 A) (F0 m 161 ls []) := by
  obtain ⟨hx, hb, hml, hown, hts, hK, hr, hlk, hA, hN⟩ := id C
  unfold fX2_choose_b161 at hf
  obtain ⟨x6_30, ex6_30⟩ : ∃ y : Int32, y = y6 + (1 : Int32) := ⟨_, rfl⟩
  replace hf := hf x6_30 ex6_30
  refine lv_iinc (v := x6_30) (lv' := [(6, .int x6_30), (0, .ref (B 4)), (2, .ref (wd 0 z2)), (3, .int y3), (4, .int y4), (5, .int y5)]) hx hb dX2_choose_161 hl (k := 5) rfl (by rw [ex6_30]; rfl) (by decide) rfl (fun ls hl => ?_)
  refine lv_goto (tgt := 91) hx hb dX2_choose_164 (by decide) ?_
  exact hG91 z2 y3 y4 y5 x6_30 _ _ _ hf hG (lv_sub hl [1, 2, 3, 4, 5, 0] rfl)
set_option maxHeartbeats 4000000 in
set_option maxRecDepth 100000 in
theorem vX2_choose_h91 {p : Program} {l : Launch} {e : Env} {s : State} {m : MethodId} {args : Array Value} {below : List Frame} {meth : Method} {c : Code} {D : va_G} {B : Nat → Nat} {A : Nat → Prop} {K : sK} {M : sM} {O : sO} {post : Int32 → sG → Prop} {SI : Nat → Int32} {SX : Nat → Nat → Int32} {MI : Nat → Int32} {TT : Nat → Int64} {AW : Nat → Int32} {nE : Nat} {LT : Nat → Nat → Int32} {la : Nat → Nat} {nW : Nat} {WI : Nat → Nat → Int32} {WR : Nat → Nat → Nat} {WL : Nat → Nat → Int32} {WX : Nat → Nat → Nat → Int32} {wd : Nat → Nat → Nat} {j1 : Nat} {Q : Int32 → Prop} (C : gX p s m args meth c cX2_choose 9 (some .int) wsX2_choose RX2 D B A) (hpost : ∀ (v : Int32) , Q v  → post v ((SI, SX), K, (MI, TT, AW, nE, LT, la), (nW, WI, WR, WL, WX, wd), M, O))  : ∀ (n91 : Nat)  (z2 : Nat) (y3 : Int32) (y4 : Int32) (y5 : Int32) (y6 : Int32) (H : Heap) (locs : List Loc) (ls : Array Slot), fX2_choose_h91 SI SX MI TT AW nE LT la nW WI WR WL WX wd j1 Q n91 z2 y3 y4 y5 y6 → GS D B A s.heap ((SI, SX), K, (MI, TT, AW, nE, LT, la), (nW, WI, WR, WL, WX, wd), M, O) H locs → lv_has ls 9 [(0, .ref (B 4)), (2, .ref (wd 0 z2)), (3, .int y3), (4, .int y4), (5, .int y5), (6, .int y6)] → W p l e (headSpec wsX2_choose rX2_choose).room s m args below meth c H locs 0 0 (MQ below (va_Qi post (gB D B A) A) args s 0 0 A) (F0 m 91 ls []) := by
  obtain ⟨hx, hb, hml, hown, hts, hK, hr, hlk, hA, hN⟩ := id C
  intro n91
  induction n91 with
  | zero =>
    intro z2 y3 y4 y5 y6 H locs ls hf
    exact False.elim hf
  | succ n91 hG91 =>
    intro z2 y3 y4 y5 y6 H locs ls hf hG hl
    unfold fX2_choose_h91 at hf
    refine lv_iload hx hb dX2_choose_91 (lv_at hl 5 rfl) ?_
    refine lv_iload hx hb dX2_choose_93 (lv_at hl 4 rfl) ?_
    refine lv_icmp_ge (tgt := 167) hx hb dX2_choose_95 (by decide) (fun c_21 => ?_) (fun c_21 => ?_)
    · replace hf := hf.1 c_21
      refine lv_iconst (v := (-1 : Int32)) hx hb dX2_choose_167 (by decide) ?_
      exact g_iret C hG (hpost _ hf) dX2_choose_168
    · replace hf := hf.2 c_21
      refine lv_aload_n hx hb dX2_choose_98 rfl (lv_at hl 0 rfl) ?_
      refine lv_aload_n hx hb dX2_choose_99 rfl (lv_at hl 0 rfl) ?_
      refine gg_L_3 C hG inX2_choose_wsX20 (hts _ (List.mem_of_getElem? (i := 5) rfl)) dX2_choose_100 ?_
      refine lv_iload_n hx hb dX2_choose_103 rfl (lv_at hl 2 rfl) ?_
      refine lv_iload hx hb dX2_choose_104 (lv_at hl 5 rfl) ?_
      refine g_callVi0 (As := [.int y3, .int y6]) C hG (kX3_ticksToTake hf) (cwV 2 hts gX2_choose_X3_ticksToTake rfl rfl rfl hdvX3_ticksToTake ⟨Nat.le_of_ble_eq_true rfl, Nat.le_of_ble_eq_true rfl⟩) (va_recv hK hG.1 (ci := 3) (q0 := 27) rfl rfl) rfl hl.1 rfl (Nat.le_of_ble_eq_true rfl) dX2_choose_106 ⟨Nat.zero_le _, Nat.zero_le _⟩ (fun r_22 g1 H locs hq hG => ?_)
      obtain ⟨rfl, hf⟩ := hq
      refine g_callVi0 (As := [.int r_22]) C hG (kX2_isNow hf) (cwV 1 hts gX2_choose_X2_isNow rfl rfl rfl hdvX2_isNow ⟨Nat.le_of_ble_eq_true rfl, Nat.le_of_ble_eq_true rfl⟩) (va_recv hK hG.1 (ci := 2) (q0 := 43) rfl rfl) rfl hl.1 rfl (Nat.le_of_ble_eq_true rfl) dX2_choose_109 ⟨Nat.zero_le _, Nat.zero_le _⟩ (fun r_23 g1 H locs hq hG => ?_)
      obtain ⟨rfl, hf⟩ := hq
      refine lv_if_eq (tgt := 161) hx hb dX2_choose_112 (by decide) (fun c_24 => ?_) (fun c_24 => ?_)
      · replace hf := hf.1 c_24
        exact vX2_choose_b161 C hpost hG91 z2 y3 y4 y5 y6 _ _ _ hf hG (lv_sub hl [0, 1, 2, 3, 4, 5] rfl)
      · replace hf := hf.2 c_24
        refine lv_aload_n hx hb dX2_choose_115 rfl (lv_at hl 0 rfl) ?_
        refine gg_L_3 C hG inX2_choose_wsX20 (hts _ (List.mem_of_getElem? (i := 5) rfl)) dX2_choose_116 ?_
        refine lv_iload_n hx hb dX2_choose_119 rfl (lv_at hl 2 rfl) ?_
        refine lv_iload hx hb dX2_choose_120 (lv_at hl 5 rfl) ?_
        refine g_callVi0 (As := [.int y3, .int y6]) C hG (kX3_lengthOf hf) (cwV 2 hts gX2_choose_X3_lengthOf rfl rfl rfl hdvX3_lengthOf ⟨Nat.le_of_ble_eq_true rfl, Nat.le_of_ble_eq_true rfl⟩) (va_recv hK hG.1 (ci := 3) (q0 := 27) rfl rfl) rfl hl.1 rfl (Nat.le_of_ble_eq_true rfl) dX2_choose_122 ⟨Nat.zero_le _, Nat.zero_le _⟩ (fun r_25 g1 H locs hq hG => ?_)
        obtain ⟨rfl, hf⟩ := hq
        refine lv_istore (lv' := [(7, .int r_25), (0, .ref (B 4)), (2, .ref (wd 0 z2)), (3, .int y3), (4, .int y4), (5, .int y5), (6, .int y6)]) hx hb dX2_choose_125 hl (by decide) rfl (fun ls hl => ?_)
        refine lv_aload_n hx hb dX2_choose_127 rfl (lv_at hl 2 rfl) ?_
        refine lv_iload hx hb dX2_choose_128 (lv_at hl 6 rfl) ?_
        refine lv_aload_n hx hb dX2_choose_130 rfl (lv_at hl 1 rfl) ?_
        refine gg_L_0 C hG inX2_choose_wsX20 (hts _ (List.mem_of_getElem? (i := 4) rfl)) dX2_choose_131 ?_
        refine lv_iload hx hb dX2_choose_134 (lv_at hl 0 rfl) ?_
        refine lv_iadd hx hb dX2_choose_136 ?_
        obtain ⟨h_27, hf⟩ := hf
        refine g_callVi0 (As := [.int y6, .int (MI 0 + r_25)]) C hG (kX4_lateness hf) (cwV 2 hts gX2_choose_X4_lateness rfl rfl rfl hdvX4_lateness ⟨Nat.le_of_ble_eq_true rfl, Nat.le_of_ble_eq_true rfl⟩) (g_recv_w hK hG h_27) rfl hl.1 rfl (Nat.le_of_ble_eq_true rfl) dX2_choose_137 ⟨Nat.zero_le _, Nat.zero_le _⟩ (fun r_26 g1 H locs hq hG => ?_)
        obtain ⟨rfl, hf⟩ := hq
        refine lv_istore (lv' := [(8, .int r_26), (7, .int r_25), (0, .ref (B 4)), (2, .ref (wd 0 z2)), (3, .int y3), (4, .int y4), (5, .int y5), (6, .int y6)]) hx hb dX2_choose_140 hl (by decide) rfl (fun ls hl => ?_)
        refine lv_iload hx hb dX2_choose_142 (lv_at hl 0 rfl) ?_
        refine lv_iconst (v := (-1 : Int32)) hx hb dX2_choose_144 (by decide) ?_
        refine lv_icmp_eq (tgt := 161) hx hb dX2_choose_145 (by decide) (fun c_28 => ?_) (fun c_28 => ?_)
        · replace hf := hf.1 c_28
          exact vX2_choose_b161 C hpost hG91 z2 y3 y4 y5 y6 _ _ _ hf hG (lv_sub hl [2, 3, 4, 5, 6, 7] rfl)
        · replace hf := hf.2 c_28
          refine lv_iload hx hb dX2_choose_148 (lv_at hl 1 rfl) ?_
          refine lv_iload hx hb dX2_choose_150 (lv_at hl 0 rfl) ?_
          refine lv_iadd hx hb dX2_choose_152 ?_
          refine lv_iload hx hb dX2_choose_153 (lv_at hl 5 rfl) ?_
          refine lv_icmp_ne (tgt := 161) hx hb dX2_choose_155 (by decide) (fun c_29 => ?_) (fun c_29 => ?_)
          · replace hf := hf.1 c_29
            exact vX2_choose_b161 C hpost hG91 z2 y3 y4 y5 y6 _ _ _ hf hG (lv_sub hl [2, 3, 4, 5, 6, 7] rfl)
          · replace hf := hf.2 c_29
            refine lv_iload hx hb dX2_choose_158 (lv_at hl 7 rfl) ?_
            exact g_iret C hG (hpost _ hf) dX2_choose_160
set_option maxHeartbeats 4000000 in
set_option maxRecDepth 100000 in
theorem vX2_choose_b71 {p : Program} {l : Launch} {e : Env} {s : State} {m : MethodId} {args : Array Value} {below : List Frame} {meth : Method} {c : Code} {D : va_G} {B : Nat → Nat} {A : Nat → Prop} {K : sK} {M : sM} {O : sO} {post : Int32 → sG → Prop} {SI : Nat → Int32} {SX : Nat → Nat → Int32} {MI : Nat → Int32} {TT : Nat → Int64} {AW : Nat → Int32} {nE : Nat} {LT : Nat → Nat → Int32} {la : Nat → Nat} {nW : Nat} {WI : Nat → Nat → Int32} {WR : Nat → Nat → Nat} {WL : Nat → Nat → Int32} {WX : Nat → Nat → Nat → Int32} {wd : Nat → Nat → Nat} {j1 : Nat} {Q : Int32 → Prop} (C : gX p s m args meth c cX2_choose 9 (some .int) wsX2_choose RX2 D B A) (hpost : ∀ (v : Int32) , Q v  → post v ((SI, SX), K, (MI, TT, AW, nE, LT, la), (nW, WI, WR, WL, WX, wd), M, O))   (z2 : Nat) (y3 : Int32) (y4 : Int32) (H : Heap) (locs : List Loc) (ls : Array Slot) (hf : fX2_choose_b71 SI SX MI TT AW nE LT la nW WI WR WL WX wd j1 Q z2 y3 y4) (hG : GS D B A s.heap ((SI, SX), K, (MI, TT, AW, nE, LT, la), (nW, WI, WR, WL, WX, wd), M, O) H locs) (hl : lv_has ls 9 [(0, .ref (B 4)), (2, .ref (wd 0 z2)), (3, .int y3), (4, .int y4)]) : W p l e (headSpec wsX2_choose rX2_choose).room s m args below meth c H locs 0 0 (MQ below (va_Qi post (gB D B A) A) args s 0 0 A) (F0 m 71 ls []) := by
  obtain ⟨hx, hb, hml, hown, hts, hK, hr, hlk, hA, hN⟩ := id C
  unfold fX2_choose_b71 at hf
  refine lv_aload_n hx hb dX2_choose_71 rfl (lv_at hl 0 rfl) ?_
  refine gg_L_3 C hG inX2_choose_wsX20 (hts _ (List.mem_of_getElem? (i := 5) rfl)) dX2_choose_72 ?_
  refine lv_iload_n hx hb dX2_choose_75 rfl (lv_at hl 2 rfl) ?_
  refine g_callVi0 (As := [.int y3]) C hG (kX3_nearTo hf) (cwV 1 hts gX2_choose_X3_nearTo rfl rfl rfl hdvX3_nearTo ⟨Nat.le_of_ble_eq_true rfl, Nat.le_of_ble_eq_true rfl⟩) (va_recv hK hG.1 (ci := 3) (q0 := 27) rfl rfl) rfl hl.1 rfl (Nat.le_of_ble_eq_true rfl) dX2_choose_76 ⟨Nat.zero_le _, Nat.zero_le _⟩ (fun r_19 g1 H locs hq hG => ?_)
  obtain ⟨rfl, hf⟩ := hq
  refine lv_istore (lv' := [(5, .int r_19), (0, .ref (B 4)), (2, .ref (wd 0 z2)), (3, .int y3), (4, .int y4)]) hx hb dX2_choose_79 hl (by decide) rfl (fun ls hl => ?_)
  refine lv_aload_n hx hb dX2_choose_81 rfl (lv_at hl 1 rfl) ?_
  refine gg_L_3 C hG inX2_choose_wsX20 (hts _ (List.mem_of_getElem? (i := 5) rfl)) dX2_choose_82 ?_
  refine lv_iload_n hx hb dX2_choose_85 rfl (lv_at hl 3 rfl) ?_
  refine g_callVi0 (As := [.int y3]) C hG (kX3_nearFrom hf) (cwV 1 hts gX2_choose_X3_nearFrom rfl rfl rfl hdvX3_nearFrom ⟨Nat.le_of_ble_eq_true rfl, Nat.le_of_ble_eq_true rfl⟩) (va_recv hK hG.1 (ci := 3) (q0 := 27) rfl rfl) rfl hl.1 rfl (Nat.le_of_ble_eq_true rfl) dX2_choose_86 ⟨Nat.zero_le _, Nat.zero_le _⟩ (fun r_20 g1 H locs hq hG => ?_)
  obtain ⟨rfl, hf⟩ := hq
  refine lv_istore (lv' := [(6, .int r_20), (5, .int r_19), (0, .ref (B 4)), (2, .ref (wd 0 z2)), (3, .int y3), (4, .int y4)]) hx hb dX2_choose_89 hl (by decide) rfl (fun ls hl => ?_)
  obtain ⟨n91, hf⟩ := hf
  exact vX2_choose_h91 C hpost  n91 z2 y3 y4 r_19 r_20 _ _ _ hf hG (lv_sub hl [2, 3, 4, 5, 1, 0] rfl)
set_option maxHeartbeats 4000000 in
set_option maxRecDepth 100000 in
theorem vX2_choose_b0 {p : Program} {l : Launch} {e : Env} {s : State} {m : MethodId} {args : Array Value} {below : List Frame} {meth : Method} {c : Code} {D : va_G} {B : Nat → Nat} {A : Nat → Prop} {K : sK} {M : sM} {O : sO} {post : Int32 → sG → Prop} {SI : Nat → Int32} {SX : Nat → Nat → Int32} {MI : Nat → Int32} {TT : Nat → Int64} {AW : Nat → Int32} {nE : Nat} {LT : Nat → Nat → Int32} {la : Nat → Nat} {nW : Nat} {WI : Nat → Nat → Int32} {WR : Nat → Nat → Nat} {WL : Nat → Nat → Int32} {WX : Nat → Nat → Nat → Int32} {wd : Nat → Nat → Nat} {j1 : Nat} {Q : Int32 → Prop} (C : gX p s m args meth c cX2_choose 9 (some .int) wsX2_choose RX2 D B A) (hpost : ∀ (v : Int32) , Q v  → post v ((SI, SX), K, (MI, TT, AW, nE, LT, la), (nW, WI, WR, WL, WX, wd), M, O))    (H : Heap) (locs : List Loc) (ls : Array Slot) (hf : fX2_choose SI SX MI TT AW nE LT la nW WI WR WL WX wd j1 Q) (hG : GS D B A s.heap ((SI, SX), K, (MI, TT, AW, nE, LT, la), (nW, WI, WR, WL, WX, wd), M, O) H locs) (hl : lv_has ls 9 [(0, .ref (B 4)), (1, .ref (la j1))]) : W p l e (headSpec wsX2_choose rX2_choose).room s m args below meth c H locs 0 0 (MQ below (va_Qi post (gB D B A) A) args s 0 0 A) (F0 m 0 ls []) := by
  obtain ⟨hx, hb, hml, hown, hts, hK, hr, hlk, hA, hN⟩ := id C
  unfold fX2_choose at hf
  refine lv_aload_n hx hb dX2_choose_0 rfl (lv_at hl 0 rfl) ?_
  refine gg_L_4 C hG inX2_choose_wsX20 (hts _ (List.mem_of_getElem? (i := 1) rfl)) dX2_choose_1 ?_
  refine lv_aload_n hx hb dX2_choose_4 rfl (lv_at hl 1 rfl) ?_
  obtain ⟨h_1, hf⟩ := hf
  refine gg_e_1 C hG h_1 inX2_choose_wsX10 (hts _ (List.mem_of_getElem? (i := 2) rfl)) dX2_choose_5 ?_
  obtain ⟨h_2, hf⟩ := hf
  obtain ⟨z_4, hz_4, h_3, hf⟩ := hf
  refine ga_Yt C hG h_2 hz_4 h_3 dX2_choose_8 ?_
  refine lv_astore_n (lv' := [(2, .ref (wd 0 z_4)), (0, .ref (B 4)), (1, .ref (la j1))]) hx hb dX2_choose_9 rfl hl (by decide) rfl (fun ls hl => ?_)
  refine lv_aload_n hx hb dX2_choose_10 rfl (lv_at hl 2 rfl) ?_
  obtain ⟨h_5, hf⟩ := hf
  refine gg_e_4 C hG h_5 inX2_choose_wsX10 (hts _ (List.mem_of_getElem? (i := 3) rfl)) dX2_choose_11 ?_
  refine lv_topi (fun x3_6 ex3_6 => ?_)
  replace hf := hf x3_6 ex3_6
  refine lv_istore_n (lv' := [(3, .int x3_6), (2, .ref (wd 0 z_4)), (0, .ref (B 4)), (1, .ref (la j1))]) hx hb dX2_choose_14 rfl hl (by decide) rfl (fun ls hl => ?_)
  refine lv_aload_n hx hb dX2_choose_15 rfl (lv_at hl 1 rfl) ?_
  refine lv_iload_n hx hb dX2_choose_16 rfl (lv_at hl 0 rfl) ?_
  refine lv_aload_n hx hb dX2_choose_17 rfl (lv_at hl 2 rfl) ?_
  refine gg_L_0 C hG inX2_choose_wsX20 (hts _ (List.mem_of_getElem? (i := 4) rfl)) dX2_choose_18 ?_
  obtain ⟨h_8, hf⟩ := hf
  refine g_callVi0 (As := [.int x3_6, .int (MI 0)]) C hG (kX4_lateness hf) (cwV 2 hts gX2_choose_X4_lateness rfl rfl rfl hdvX4_lateness ⟨Nat.le_of_ble_eq_true rfl, Nat.le_of_ble_eq_true rfl⟩) (g_recv_w hK hG h_8) rfl hl.1 rfl (Nat.le_of_ble_eq_true rfl) dX2_choose_21 ⟨Nat.zero_le _, Nat.zero_le _⟩ (fun r_7 g1 H locs hq hG => ?_)
  obtain ⟨rfl, hf⟩ := hq
  refine lv_istore (lv' := [(4, .int r_7), (3, .int x3_6), (2, .ref (wd 0 z_4)), (0, .ref (B 4)), (1, .ref (la j1))]) hx hb dX2_choose_24 hl (by decide) rfl (fun ls hl => ?_)
  refine lv_iload hx hb dX2_choose_26 (lv_at hl 0 rfl) ?_
  refine lv_iconst (v := (-1 : Int32)) hx hb dX2_choose_28 (by decide) ?_
  refine lv_icmp_ne (tgt := 34) hx hb dX2_choose_29 (by decide) (fun c_9 => ?_) (fun c_9 => ?_)
  · replace hf := hf.1 c_9
    refine lv_iload_n hx hb dX2_choose_34 rfl (lv_at hl 1 rfl) ?_
    refine g_callNi0 (As := [.int x3_6]) C hG (kX5_isRelay hf) ⟨va_cnB 1 hts gX2_choose_X5_isRelay_n108 rfl rfl rfl (hN _ (List.mem_of_getElem? (i := 4) rfl)) (hts _ (List.mem_of_getElem? (i := 13) rfl)) hdsX5_isRelay ⟨Nat.le_of_ble_eq_true rfl, Nat.le_of_ble_eq_true rfl⟩, hts _ (List.mem_of_getElem? (i := 12) rfl), trivial⟩ rfl hl.1 rfl (Nat.le_of_ble_eq_true rfl) dX2_choose_35 ⟨Nat.zero_le _, Nat.zero_le _⟩ (fun r_10 g1 H locs hq hG => ?_)
    obtain ⟨rfl, hf⟩ := hq
    refine lv_if_eq (tgt := 71) hx hb dX2_choose_38 (by decide) (fun c_11 => ?_) (fun c_11 => ?_)
    · replace hf := hf.1 c_11
      exact vX2_choose_b71 C hpost  z_4 x3_6 r_7 _ _ _ hf hG (lv_sub hl [3, 2, 1, 0] rfl)
    · replace hf := hf.2 c_11
      refine lv_aload_n hx hb dX2_choose_41 rfl (lv_at hl 3 rfl) ?_
      refine lv_aload_n hx hb dX2_choose_42 rfl (lv_at hl 3 rfl) ?_
      refine gg_L_3 C hG inX2_choose_wsX20 (hts _ (List.mem_of_getElem? (i := 5) rfl)) dX2_choose_43 ?_
      refine lv_aload_n hx hb dX2_choose_46 rfl (lv_at hl 4 rfl) ?_
      obtain ⟨h_12, hf⟩ := hf
      refine gg_e_1 C hG h_12 inX2_choose_wsX10 (hts _ (List.mem_of_getElem? (i := 2) rfl)) dX2_choose_47 ?_
      refine g_callNi0 (As := [.int (LT j1 1)]) C hG (kX5_nodeOf hf) ⟨va_cnB 1 hts gX2_choose_X5_nodeOf_n112 rfl rfl rfl (hN _ (List.mem_of_getElem? (i := 5) rfl)) (hts _ (List.mem_of_getElem? (i := 13) rfl)) hdsX5_nodeOf ⟨Nat.le_of_ble_eq_true rfl, Nat.le_of_ble_eq_true rfl⟩, hts _ (List.mem_of_getElem? (i := 15) rfl), trivial⟩ rfl hl.1 rfl (Nat.le_of_ble_eq_true rfl) dX2_choose_50 ⟨Nat.zero_le _, Nat.zero_le _⟩ (fun r_13 g1 H locs hq hG => ?_)
      obtain ⟨rfl, hf⟩ := hq
      refine lv_iload_n hx hb dX2_choose_53 rfl (lv_at hl 1 rfl) ?_
      refine g_callVi0 (As := [.int r_13, .int x3_6]) C hG (kX3_ticksToTake hf) (cwV 2 hts gX2_choose_X3_ticksToTake rfl rfl rfl hdvX3_ticksToTake ⟨Nat.le_of_ble_eq_true rfl, Nat.le_of_ble_eq_true rfl⟩) (va_recv hK hG.1 (ci := 3) (q0 := 27) rfl rfl) rfl hl.1 rfl (Nat.le_of_ble_eq_true rfl) dX2_choose_54 ⟨Nat.zero_le _, Nat.zero_le _⟩ (fun r_14 g1 H locs hq hG => ?_)
      obtain ⟨rfl, hf⟩ := hq
      refine g_callVi0 (As := [.int r_14]) C hG (kX2_isNow hf) (cwV 1 hts gX2_choose_X2_isNow rfl rfl rfl hdvX2_isNow ⟨Nat.le_of_ble_eq_true rfl, Nat.le_of_ble_eq_true rfl⟩) (va_recv hK hG.1 (ci := 2) (q0 := 43) rfl rfl) rfl hl.1 rfl (Nat.le_of_ble_eq_true rfl) dX2_choose_57 ⟨Nat.zero_le _, Nat.zero_le _⟩ (fun r_15 g1 H locs hq hG => ?_)
      obtain ⟨rfl, hf⟩ := hq
      refine lv_if_eq (tgt := 71) hx hb dX2_choose_60 (by decide) (fun c_16 => ?_) (fun c_16 => ?_)
      · replace hf := hf.1 c_16
        exact vX2_choose_b71 C hpost  z_4 x3_6 r_7 _ _ _ hf hG (lv_sub hl [3, 2, 1, 0] rfl)
      · replace hf := hf.2 c_16
        refine lv_aload_n hx hb dX2_choose_63 rfl (lv_at hl 4 rfl) ?_
        obtain ⟨h_17, hf⟩ := hf
        refine gg_e_1 C hG h_17 inX2_choose_wsX10 (hts _ (List.mem_of_getElem? (i := 2) rfl)) dX2_choose_64 ?_
        refine g_callNi0 (As := [.int (LT j1 1)]) C hG (kX5_nodeOf hf) ⟨va_cnB 1 hts gX2_choose_X5_nodeOf_n112 rfl rfl rfl (hN _ (List.mem_of_getElem? (i := 5) rfl)) (hts _ (List.mem_of_getElem? (i := 13) rfl)) hdsX5_nodeOf ⟨Nat.le_of_ble_eq_true rfl, Nat.le_of_ble_eq_true rfl⟩, hts _ (List.mem_of_getElem? (i := 15) rfl), trivial⟩ rfl hl.1 rfl (Nat.le_of_ble_eq_true rfl) dX2_choose_67 ⟨Nat.zero_le _, Nat.zero_le _⟩ (fun r_18 g1 H locs hq hG => ?_)
        obtain ⟨rfl, hf⟩ := hq
        exact g_iret C hG (hpost _ hf) dX2_choose_70
  · replace hf := hf.2 c_9
    refine lv_iconst (v := (-1 : Int32)) hx hb dX2_choose_32 (by decide) ?_
    exact g_iret C hG (hpost _ hf) dX2_choose_33
set_option maxRecDepth 100000 in
theorem kX2_choose {l : Launch} {D : va_G} {B : Nat → Nat} {K : sK} {M : sM} {O : sO} {SI : Nat → Int32} {SX : Nat → Nat → Int32} {MI : Nat → Int32} {TT : Nat → Int64} {AW : Nat → Int32} {nE : Nat} {LT : Nat → Nat → Int32} {la : Nat → Nat} {nW : Nat} {WI : Nat → Nat → Int32} {WR : Nat → Nat → Nat} {WL : Nat → Nat → Int32} {WX : Nat → Nat → Nat → Int32} {wd : Nat → Nat → Nat} {j1 : Nat} {Q : Int32 → Prop}  (hf : fX2_choose SI SX MI TT AW nE LT la nW WI WR WL WX wd j1 Q) : gMi D B l yX2_choose wsX2_choose rX2_choose 0 0 [.ref (B 4), .ref (la j1)] ((SI, SX), K, (MI, TT, AW, nE, LT, la), (nW, WI, WR, WL, WX, wd), M, O) (fun r g1 => g1 = ((SI, SX), K, (MI, TT, AW, nE, LT, la), (nW, WI, WR, WL, WX, wd), M, O) ∧ Q r ) := by
  refine gMi_of (cc := cX2_choose) (maxL := 9) (ret := some .int) (by decide +kernel) rfl (Nat.le_of_ble_eq_true rfl) ?_
  intro p e s m below meth c A hA0 C hG ls hl
  exact vX2_choose_b0 C (fun v  hq => ⟨rfl, hq⟩)  _ _ _ hf hG hl
def rX2_setOut : Room := { frames := 3, cells := 0, slots := 0, locals := 71 }
theorem hdvX2_setOut : yX2_setOut.cls = RX2 ∧ yX2_setOut.cls ≠ "java/lang/invoke/MethodHandle" ∧ yX2_setOut.cls ≠ "java/lang/invoke/VarHandle" ∧ (parseMethodDescriptor yX2_setOut.desc).map (fun d => d.parameters.length) = some 1 := by decide +kernel
theorem inX2_setOut_wsX10 : ∀ w ∈ wsX10, w ∈ wsX2_setOut := (fun _ h => List.mem_cons_of_mem _ (List.mem_append_left _ (List.mem_append_left _ (List.mem_append_right _ h))))
theorem inX2_setOut_wsX20 : ∀ w ∈ wsX20, w ∈ wsX2_setOut := (fun _ h => List.mem_cons_of_mem _ (List.mem_append_left _ (List.mem_append_left _ (List.mem_append_left _ (List.mem_append_right _ h)))))
set_option maxHeartbeats 4000000 in
set_option maxRecDepth 100000 in
theorem vX2_setOut_b0 {p : Program} {l : Launch} {e : Env} {s : State} {m : MethodId} {args : Array Value} {below : List Frame} {meth : Method} {c : Code} {D : va_G} {B : Nat → Nat} {A : Nat → Prop} {K : sK} {M : sM} {O : sO} {post : sG → Prop} {SI : Nat → Int32} {SX : Nat → Nat → Int32} {nE : Nat} {la : Nat → Nat} {nW : Nat} {WI : Nat → Nat → Int32} {WR : Nat → Nat → Nat} {WL : Nat → Nat → Int32} {WX : Nat → Nat → Nat → Int32} {wd : Nat → Nat → Nat} {j1 : Nat} {Q : (Nat → Int32) → (Nat → Int64) → (Nat → Int32) → (Nat → Nat → Int32) → Prop} (C : gX p s m args meth c cX2_setOut 3 (none) wsX2_setOut RX2 D B A) (hpost : ∀ (MI : Nat → Int32) (TT : Nat → Int64) (AW : Nat → Int32) (LT : Nat → Nat → Int32), Q MI TT AW LT → post ((SI, SX), K, (MI, TT, AW, nE, LT, la), (nW, WI, WR, WL, WX, wd), M, O))  (MI : Nat → Int32) (TT : Nat → Int64) (AW : Nat → Int32) (LT : Nat → Nat → Int32)  (H : Heap) (locs : List Loc) (ls : Array Slot) (hf : fX2_setOut SI SX nE la nW WI WR WL WX wd j1 Q MI TT AW LT) (hG : GS D B A s.heap ((SI, SX), K, (MI, TT, AW, nE, LT, la), (nW, WI, WR, WL, WX, wd), M, O) H locs) (hl : lv_has ls 3 [(0, .ref (B 4)), (1, .ref (la j1))]) : W p l e (headSpec wsX2_setOut rX2_setOut).room s m args below meth c H locs 0 0 (MQ below (va_Qv post (gB D B A) A) args s 0 0 A) (F0 m 0 ls []) := by
  obtain ⟨hx, hb, hml, hown, hts, hK, hr, hlk, hA, hN⟩ := id C
  unfold fX2_setOut at hf
  refine lv_aload_n hx hb dX2_setOut_0 rfl (lv_at hl 0 rfl) ?_
  refine lv_aload_n hx hb dX2_setOut_1 rfl (lv_at hl 1 rfl) ?_
  refine g_callVi0 (As := [.ref (la j1)]) C hG (kX2_choose hf) (cwV 1 hts gX2_setOut_X2_choose rfl rfl rfl hdvX2_choose ⟨Nat.le_of_ble_eq_true rfl, Nat.le_of_ble_eq_true rfl⟩) (va_recv hK hG.1 (ci := 2) (q0 := 43) rfl rfl) rfl hl.1 rfl (Nat.le_of_ble_eq_true rfl) dX2_setOut_2 ⟨Nat.zero_le _, Nat.zero_le _⟩ (fun r_1 g1 H locs hq hG => ?_)
  obtain ⟨rfl, hf⟩ := hq
  refine lv_istore_n (lv' := [(2, .int r_1), (0, .ref (B 4)), (1, .ref (la j1))]) hx hb dX2_setOut_5 rfl hl (by decide) rfl (fun ls hl => ?_)
  refine lv_iload_n hx hb dX2_setOut_6 rfl (lv_at hl 0 rfl) ?_
  refine lv_iconst (v := (-1 : Int32)) hx hb dX2_setOut_7 (by decide) ?_
  refine lv_icmp_eq (tgt := 30) hx hb dX2_setOut_8 (by decide) (fun c_2 => ?_) (fun c_2 => ?_)
  · replace hf := hf.1 c_2
    exact g_vret C hG (hpost _ _ _ _ hf) dX2_setOut_30
  · replace hf := hf.2 c_2
    refine lv_aload_n hx hb dX2_setOut_11 rfl (lv_at hl 1 rfl) ?_
    refine gg_L_5 C hG inX2_setOut_wsX20 (hts _ (List.mem_of_getElem? (i := 1) rfl)) dX2_setOut_12 ?_
    refine lv_aload_n hx hb dX2_setOut_15 rfl (lv_at hl 2 rfl) ?_
    obtain ⟨h_3, hf⟩ := hf
    refine gg_e_4 C hG h_3 inX2_setOut_wsX10 (hts _ (List.mem_of_getElem? (i := 2) rfl)) dX2_setOut_16 ?_
    obtain ⟨h_4, hf⟩ := hf
    refine ga_L_5 C hG h_4 dX2_setOut_19 ?_
    refine lv_iload_n hx hb dX2_setOut_20 rfl (lv_at hl 0 rfl) ?_
    refine g_callNl0 (As := [.int r_1]) C hG (kX5_bit hf) ⟨va_cnB 1 hts gX2_setOut_X5_bit_n91 rfl rfl rfl (hN _ (List.mem_of_getElem? (i := 3) rfl)) (hts _ (List.mem_of_getElem? (i := 19) rfl)) hdsX5_bit ⟨Nat.le_of_ble_eq_true rfl, Nat.le_of_ble_eq_true rfl⟩, hts _ (List.mem_of_getElem? (i := 55) rfl), trivial⟩ rfl hl.1 rfl (Nat.le_of_ble_eq_true rfl) dX2_setOut_21 ⟨Nat.zero_le _, Nat.zero_le _⟩ (fun r_5 g1 H locs hq hG => ?_)
    obtain ⟨rfl, hf⟩ := hq
    refine lv_land hx hb dX2_setOut_24 ?_
    refine lv_lconst (v := (0 : Int64)) hx hb dX2_setOut_25 (by decide) ?_
    refine W.lcmp hx hb dX2_setOut_26 ?_
    refine lv_if_eq (tgt := 31) hx hb dX2_setOut_27 (by decide) (fun c_6 => ?_) (fun c_6 => ?_)
    · replace hf := hf.1 c_6
      refine lv_aload_n hx hb dX2_setOut_31 rfl (lv_at hl 1 rfl) ?_
      refine gg_L_5 C hG inX2_setOut_wsX20 (hts _ (List.mem_of_getElem? (i := 1) rfl)) dX2_setOut_32 ?_
      refine lv_aload_n hx hb dX2_setOut_35 rfl (lv_at hl 2 rfl) ?_
      obtain ⟨h_7, hf⟩ := hf
      refine gg_e_4 C hG h_7 inX2_setOut_wsX10 (hts _ (List.mem_of_getElem? (i := 2) rfl)) dX2_setOut_36 ?_
      refine lv_dup2_11 hx hb dX2_setOut_39 rfl rfl ?_
      obtain ⟨h_8, hf⟩ := hf
      refine ga_L_5 C hG h_8 dX2_setOut_40 ?_
      refine lv_iload_n hx hb dX2_setOut_41 rfl (lv_at hl 0 rfl) ?_
      refine g_callNl0 (As := [.int r_1]) C hG (kX5_bit hf) ⟨va_cnB 1 hts gX2_setOut_X5_bit_n91 rfl rfl rfl (hN _ (List.mem_of_getElem? (i := 3) rfl)) (hts _ (List.mem_of_getElem? (i := 19) rfl)) hdsX5_bit ⟨Nat.le_of_ble_eq_true rfl, Nat.le_of_ble_eq_true rfl⟩, hts _ (List.mem_of_getElem? (i := 55) rfl), trivial⟩ rfl hl.1 rfl (Nat.le_of_ble_eq_true rfl) dX2_setOut_42 ⟨Nat.zero_le _, Nat.zero_le _⟩ (fun r_9 g1 H locs hq hG => ?_)
      obtain ⟨rfl, hf⟩ := hq
      refine lv_lor hx hb dX2_setOut_45 ?_
      obtain ⟨h_10, hf⟩ := hf
      refine gs_L_5 C hG h_10 dX2_setOut_46 (fun TT_11 H locs eTT_11 hG => ?_)
      replace hf := hf TT_11 eTT_11
      refine lv_aload_n hx hb dX2_setOut_47 rfl (lv_at hl 2 rfl) ?_
      refine lv_iload_n hx hb dX2_setOut_48 rfl (lv_at hl 0 rfl) ?_
      refine lv_aload_n hx hb dX2_setOut_49 rfl (lv_at hl 1 rfl) ?_
      refine gg_L_0 C hG inX2_setOut_wsX20 (hts _ (List.mem_of_getElem? (i := 3) rfl)) dX2_setOut_50 ?_
      refine lv_aload_n hx hb dX2_setOut_53 rfl (lv_at hl 1 rfl) ?_
      refine gg_L_3 C hG inX2_setOut_wsX20 (hts _ (List.mem_of_getElem? (i := 4) rfl)) dX2_setOut_54 ?_
      refine lv_aload_n hx hb dX2_setOut_57 rfl (lv_at hl 2 rfl) ?_
      obtain ⟨h_12, hf⟩ := hf
      refine gg_e_4 C hG h_12 inX2_setOut_wsX10 (hts _ (List.mem_of_getElem? (i := 2) rfl)) dX2_setOut_58 ?_
      refine lv_iload_n hx hb dX2_setOut_61 rfl (lv_at hl 0 rfl) ?_
      refine g_callVi0 (As := [.int (LT j1 4), .int r_1]) C hG (kX3_lengthOf hf) (cwV 2 hts gX2_setOut_X3_lengthOf rfl rfl rfl hdvX3_lengthOf ⟨Nat.le_of_ble_eq_true rfl, Nat.le_of_ble_eq_true rfl⟩) (va_recv hK hG.1 (ci := 3) (q0 := 27) rfl rfl) rfl hl.1 rfl (Nat.le_of_ble_eq_true rfl) dX2_setOut_62 ⟨Nat.zero_le _, Nat.zero_le _⟩ (fun r_13 g1 H locs hq hG => ?_)
      obtain ⟨rfl, hf⟩ := hq
      refine lv_iadd hx hb dX2_setOut_65 ?_
      obtain ⟨h_18, hf⟩ := hf
      refine g_callVv0 (As := [.int r_1, .int (MI 0 + r_13)]) C hG (kX1_take hf) (cwV 2 hts gX2_setOut_X1_take rfl rfl rfl hdvX1_take ⟨Nat.le_of_ble_eq_true rfl, Nat.le_of_ble_eq_true rfl⟩) (g_recv_e hK hG h_18) rfl hl.1 rfl (Nat.le_of_ble_eq_true rfl) dX2_setOut_66 ⟨Nat.zero_le _, Nat.zero_le _⟩ (fun g1 H locs hq hG => ?_)
      obtain ⟨MI_14, TT_15, AW_16, LT_17, rfl, hf⟩ := hq
      exact g_vret C hG (hpost _ _ _ _ hf) dX2_setOut_69
    · replace hf := hf.2 c_6
      exact g_vret C hG (hpost _ _ _ _ hf) dX2_setOut_30
set_option maxRecDepth 100000 in
theorem kX2_setOut {l : Launch} {D : va_G} {B : Nat → Nat} {K : sK} {M : sM} {O : sO} {SI : Nat → Int32} {SX : Nat → Nat → Int32} {nE : Nat} {la : Nat → Nat} {nW : Nat} {WI : Nat → Nat → Int32} {WR : Nat → Nat → Nat} {WL : Nat → Nat → Int32} {WX : Nat → Nat → Nat → Int32} {wd : Nat → Nat → Nat} {j1 : Nat} {Q : (Nat → Int32) → (Nat → Int64) → (Nat → Int32) → (Nat → Nat → Int32) → Prop} {MI : Nat → Int32} {TT : Nat → Int64} {AW : Nat → Int32} {LT : Nat → Nat → Int32} (hf : fX2_setOut SI SX nE la nW WI WR WL WX wd j1 Q MI TT AW LT) : gMv D B l yX2_setOut wsX2_setOut rX2_setOut 0 0 [.ref (B 4), .ref (la j1)] ((SI, SX), K, (MI, TT, AW, nE, LT, la), (nW, WI, WR, WL, WX, wd), M, O) (fun g1 => ∃ (MI1 : Nat → Int32) (TT1 : Nat → Int64) (AW1 : Nat → Int32) (LT1 : Nat → Nat → Int32), g1 = ((SI, SX), K, (MI1, TT1, AW1, nE, LT1, la), (nW, WI, WR, WL, WX, wd), M, O) ∧ Q MI1 TT1 AW1 LT1) := by
  refine gMv_of (cc := cX2_setOut) (maxL := 3) (ret := none) (by decide +kernel) rfl (Nat.le_of_ble_eq_true rfl) ?_
  intro p e s m below meth c A hA0 C hG ls hl
  exact vX2_setOut_b0 C (fun MI TT AW LT hq => ⟨MI, TT, AW, LT, rfl, hq⟩) MI TT AW LT _ _ _ hf hG hl
def rX2_handOut : Room := { frames := 1, cells := 0, slots := 0, locals := 23 }
theorem hdvX2_handOut : yX2_handOut.cls = RX2 ∧ yX2_handOut.cls ≠ "java/lang/invoke/MethodHandle" ∧ yX2_handOut.cls ≠ "java/lang/invoke/VarHandle" ∧ (parseMethodDescriptor yX2_handOut.desc).map (fun d => d.parameters.length) = some 0 := by decide +kernel
theorem inX2_handOut_wsX10 : ∀ w ∈ wsX10, w ∈ wsX2_handOut := (fun _ h => List.mem_cons_of_mem _ (List.mem_append_right _ h))
theorem inX2_handOut_wsX20 : ∀ w ∈ wsX20, w ∈ wsX2_handOut := (fun _ h => List.mem_cons_of_mem _ (List.mem_append_left _ (List.mem_append_right _ h)))
set_option maxHeartbeats 4000000 in
set_option maxRecDepth 100000 in
theorem vX2_handOut_b103 {p : Program} {l : Launch} {e : Env} {s : State} {m : MethodId} {args : Array Value} {below : List Frame} {meth : Method} {c : Code} {D : va_G} {B : Nat → Nat} {A : Nat → Prop} {S : sS} {K : sK} {Y : sY} {M : sM} {O : sO} {post : sG → Prop} {nE : Nat} {la : Nat → Nat} {Q : (Nat → Int32) → (Nat → Int64) → (Nat → Int32) → (Nat → Nat → Int32) → Prop} (C : gX p s m args meth c cX2_handOut 4 (none) wsX2_handOut RX2 D B A) (hpost : ∀ (MI : Nat → Int32) (TT : Nat → Int64) (AW : Nat → Int32) (LT : Nat → Nat → Int32), Q MI TT AW LT → post (S, K, (MI, TT, AW, nE, LT, la), Y, M, O)) {G10 : (Nat → Int32) → (Nat → Int64) → (Nat → Int32) → (Nat → Nat → Int32) → Int32 → Prop} (hG10 : ∀ (MI : Nat → Int32) (TT : Nat → Int64) (AW : Nat → Int32) (LT : Nat → Nat → Int32) (y1 : Int32) (H : Heap) (locs : List Loc) (ls : Array Slot), G10 MI TT AW LT y1 → GS D B A s.heap (S, K, (MI, TT, AW, nE, LT, la), Y, M, O) H locs → lv_has ls 4 [(0, .ref (B 4)), (1, .int y1)] → W p l e (headSpec wsX2_handOut rX2_handOut).room s m args below meth c H locs 0 0 (MQ below (va_Qv post (gB D B A) A) args s 0 0 A) (F0 m 10 ls [])) (MI : Nat → Int32) (TT : Nat → Int64) (AW : Nat → Int32) (LT : Nat → Nat → Int32) (y1 : Int32) (H : Heap) (locs : List Loc) (ls : Array Slot) (hf : fX2_handOut_b103 nE la G10 Q MI TT AW LT y1) (hG : GS D B A s.heap (S, K, (MI, TT, AW, nE, LT, la), Y, M, O) H locs) (hl : lv_has ls 4 [(0, .ref (B 4)), (1, .int y1)]) : W p l e (headSpec wsX2_handOut rX2_handOut).room s m args below meth c H locs 0 0 (MQ below (va_Qv post (gB D B A) A) args s 0 0 A) (F0 m 103 ls []) := by
  obtain ⟨hx, hb, hml, hown, hts, hK, hr, hlk, hA, hN⟩ := id C
  unfold fX2_handOut_b103 at hf
  obtain ⟨x1_25, ex1_25⟩ : ∃ y : Int32, y = y1 + (1 : Int32) := ⟨_, rfl⟩
  replace hf := hf x1_25 ex1_25
  refine lv_iinc (v := x1_25) (lv' := [(1, .int x1_25), (0, .ref (B 4))]) hx hb dX2_handOut_103 hl (k := 1) rfl (by rw [ex1_25]; rfl) (by decide) rfl (fun ls hl => ?_)
  refine lv_goto (tgt := 10) hx hb dX2_handOut_106 (by decide) ?_
  exact hG10 MI TT AW LT x1_25 _ _ _ hf hG (lv_sub hl [1, 0] rfl)
set_option maxHeartbeats 4000000 in
set_option maxRecDepth 100000 in
theorem vX2_handOut_b78 {p : Program} {l : Launch} {e : Env} {s : State} {m : MethodId} {args : Array Value} {below : List Frame} {meth : Method} {c : Code} {D : va_G} {B : Nat → Nat} {A : Nat → Prop} {S : sS} {K : sK} {Y : sY} {M : sM} {O : sO} {post : sG → Prop} {nE : Nat} {la : Nat → Nat} {Q : (Nat → Int32) → (Nat → Int64) → (Nat → Int32) → (Nat → Nat → Int32) → Prop} (C : gX p s m args meth c cX2_handOut 4 (none) wsX2_handOut RX2 D B A) (hpost : ∀ (MI : Nat → Int32) (TT : Nat → Int64) (AW : Nat → Int32) (LT : Nat → Nat → Int32), Q MI TT AW LT → post (S, K, (MI, TT, AW, nE, LT, la), Y, M, O)) {G10 : (Nat → Int32) → (Nat → Int64) → (Nat → Int32) → (Nat → Nat → Int32) → Int32 → Prop} (hG10 : ∀ (MI : Nat → Int32) (TT : Nat → Int64) (AW : Nat → Int32) (LT : Nat → Nat → Int32) (y1 : Int32) (H : Heap) (locs : List Loc) (ls : Array Slot), G10 MI TT AW LT y1 → GS D B A s.heap (S, K, (MI, TT, AW, nE, LT, la), Y, M, O) H locs → lv_has ls 4 [(0, .ref (B 4)), (1, .int y1)] → W p l e (headSpec wsX2_handOut rX2_handOut).room s m args below meth c H locs 0 0 (MQ below (va_Qv post (gB D B A) A) args s 0 0 A) (F0 m 10 ls [])) (MI : Nat → Int32) (TT : Nat → Int64) (AW : Nat → Int32) (LT : Nat → Nat → Int32) (y1 : Int32) (z2 : Nat) (H : Heap) (locs : List Loc) (ls : Array Slot) (hf : fX2_handOut_b78 nE la G10 Q MI TT AW LT y1 z2) (hG : GS D B A s.heap (S, K, (MI, TT, AW, nE, LT, la), Y, M, O) H locs) (hl : lv_has ls 4 [(0, .ref (B 4)), (1, .int y1), (2, .ref (la z2))]) : W p l e (headSpec wsX2_handOut rX2_handOut).room s m args below meth c H locs 0 0 (MQ below (va_Qv post (gB D B A) A) args s 0 0 A) (F0 m 78 ls []) := by
  obtain ⟨hx, hb, hml, hown, hts, hK, hr, hlk, hA, hN⟩ := id C
  unfold fX2_handOut_b78 at hf
  refine lv_aload_n hx hb dX2_handOut_78 rfl (lv_at hl 2 rfl) ?_
  obtain ⟨h_18, hf⟩ := hf
  refine g_callVi0 (As := []) C hG (kX1_isSettled hf) (cwV 0 hts gX2_handOut_X1_isSettled rfl rfl rfl hdvX1_isSettled ⟨Nat.le_of_ble_eq_true rfl, Nat.le_of_ble_eq_true rfl⟩) (g_recv_e hK hG h_18) rfl hl.1 rfl (Nat.le_of_ble_eq_true rfl) dX2_handOut_79 ⟨Nat.zero_le _, Nat.zero_le _⟩ (fun r_17 g1 H locs hq hG => ?_)
  obtain ⟨rfl, hf⟩ := hq
  refine lv_if_ne (tgt := 103) hx hb dX2_handOut_82 (by decide) (fun c_19 => ?_) (fun c_19 => ?_)
  · replace hf := hf.1 c_19
    exact vX2_handOut_b103 C hpost hG10 MI TT AW LT y1 _ _ _ hf hG (lv_sub hl [0, 1] rfl)
  · replace hf := hf.2 c_19
    refine lv_aload_n hx hb dX2_handOut_85 rfl (lv_at hl 0 rfl) ?_
    refine gg_L_6 C hG inX2_handOut_wsX20 (hts _ (List.mem_of_getElem? (i := 1) rfl)) dX2_handOut_86 ?_
    refine lv_aload_n hx hb dX2_handOut_89 rfl (lv_at hl 2 rfl) ?_
    obtain ⟨h_20, hf⟩ := hf
    refine gg_e_0 C hG h_20 inX2_handOut_wsX10 (hts _ (List.mem_of_getElem? (i := 4) rfl)) dX2_handOut_90 ?_
    refine lv_dup2_11 hx hb dX2_handOut_93 rfl rfl ?_
    obtain ⟨h_21, hf⟩ := hf
    refine ga_L_6 C hG h_21 dX2_handOut_94 ?_
    refine lv_iconst (v := (1 : Int32)) hx hb dX2_handOut_95 (by decide) ?_
    refine lv_aload_n hx hb dX2_handOut_96 rfl (lv_at hl 2 rfl) ?_
    obtain ⟨h_22, hf⟩ := hf
    refine gg_e_1 C hG h_22 inX2_handOut_wsX10 (hts _ (List.mem_of_getElem? (i := 5) rfl)) dX2_handOut_97 ?_
    refine lv_ishl hx hb dX2_handOut_100 ?_
    refine lv_ior hx hb dX2_handOut_101 ?_
    obtain ⟨h_23, hf⟩ := hf
    refine gs_L_6 C hG h_23 dX2_handOut_102 (fun AW_24 H locs eAW_24 hG => ?_)
    replace hf := hf AW_24 eAW_24
    exact vX2_handOut_b103 C hpost hG10 MI TT AW_24 LT y1 _ _ _ hf hG (lv_sub hl [0, 1] rfl)
set_option maxHeartbeats 4000000 in
set_option maxRecDepth 100000 in
theorem vX2_handOut_b49 {p : Program} {l : Launch} {e : Env} {s : State} {m : MethodId} {args : Array Value} {below : List Frame} {meth : Method} {c : Code} {D : va_G} {B : Nat → Nat} {A : Nat → Prop} {S : sS} {K : sK} {Y : sY} {M : sM} {O : sO} {post : sG → Prop} {nE : Nat} {la : Nat → Nat} {Q : (Nat → Int32) → (Nat → Int64) → (Nat → Int32) → (Nat → Nat → Int32) → Prop} (C : gX p s m args meth c cX2_handOut 4 (none) wsX2_handOut RX2 D B A) (hpost : ∀ (MI : Nat → Int32) (TT : Nat → Int64) (AW : Nat → Int32) (LT : Nat → Nat → Int32), Q MI TT AW LT → post (S, K, (MI, TT, AW, nE, LT, la), Y, M, O)) {G10 : (Nat → Int32) → (Nat → Int64) → (Nat → Int32) → (Nat → Nat → Int32) → Int32 → Prop} (hG10 : ∀ (MI : Nat → Int32) (TT : Nat → Int64) (AW : Nat → Int32) (LT : Nat → Nat → Int32) (y1 : Int32) (H : Heap) (locs : List Loc) (ls : Array Slot), G10 MI TT AW LT y1 → GS D B A s.heap (S, K, (MI, TT, AW, nE, LT, la), Y, M, O) H locs → lv_has ls 4 [(0, .ref (B 4)), (1, .int y1)] → W p l e (headSpec wsX2_handOut rX2_handOut).room s m args below meth c H locs 0 0 (MQ below (va_Qv post (gB D B A) A) args s 0 0 A) (F0 m 10 ls [])) (MI : Nat → Int32) (TT : Nat → Int64) (AW : Nat → Int32) (LT : Nat → Nat → Int32) (y1 : Int32) (z2 : Nat) (t0 : Int32) (H : Heap) (locs : List Loc) (ls : Array Slot) (hf : fX2_handOut_b49 nE la G10 Q MI TT AW LT y1 z2 t0) (hG : GS D B A s.heap (S, K, (MI, TT, AW, nE, LT, la), Y, M, O) H locs) (hl : lv_has ls 4 [(0, .ref (B 4)), (1, .int y1), (2, .ref (la z2))]) : W p l e (headSpec wsX2_handOut rX2_handOut).room s m args below meth c H locs 0 0 (MQ below (va_Qv post (gB D B A) A) args s 0 0 A) (F0 m 49 ls [.int t0]) := by
  obtain ⟨hx, hb, hml, hown, hts, hK, hr, hlk, hA, hN⟩ := id C
  unfold fX2_handOut_b49 at hf
  refine lv_istore_n (lv' := [(3, .int t0), (0, .ref (B 4)), (1, .int y1), (2, .ref (la z2))]) hx hb dX2_handOut_49 rfl hl (by decide) rfl (fun ls hl => ?_)
  refine lv_aload_n hx hb dX2_handOut_50 rfl (lv_at hl 3 rfl) ?_
  obtain ⟨h_10, hf⟩ := hf
  refine gg_e_3 C hG h_10 inX2_handOut_wsX10 (hts _ (List.mem_of_getElem? (i := 6) rfl)) dX2_handOut_51 ?_
  refine lv_iconst (v := (3 : Int32)) hx hb dX2_handOut_54 (by decide) ?_
  refine lv_icmp_ne (tgt := 78) hx hb dX2_handOut_55 (by decide) (fun c_11 => ?_) (fun c_11 => ?_)
  · replace hf := hf.1 c_11
    exact vX2_handOut_b78 C hpost hG10 MI TT AW LT y1 z2 _ _ _ hf hG (lv_sub hl [1, 2, 3] rfl)
  · replace hf := hf.2 c_11
    refine lv_iload_n hx hb dX2_handOut_58 rfl (lv_at hl 0 rfl) ?_
    refine lv_if_eq (tgt := 78) hx hb dX2_handOut_59 (by decide) (fun c_12 => ?_) (fun c_12 => ?_)
    · replace hf := hf.1 c_12
      exact vX2_handOut_b78 C hpost hG10 MI TT AW LT y1 z2 _ _ _ hf hG (lv_sub hl [1, 2, 3] rfl)
    · replace hf := hf.2 c_12
      refine lv_aload_n hx hb dX2_handOut_62 rfl (lv_at hl 3 rfl) ?_
      refine lv_iconst (v := (4 : Int32)) hx hb dX2_handOut_63 (by decide) ?_
      obtain ⟨h_13, hf⟩ := hf
      refine gp_e_3 C hG h_13 inX2_handOut_wsX10 (hts _ (List.mem_of_getElem? (i := 6) rfl)) dX2_handOut_64 (fun LT_14 H locs eLT_14 hG => ?_)
      replace hf := hf LT_14 eLT_14
      refine lv_aload_n hx hb dX2_handOut_67 rfl (lv_at hl 3 rfl) ?_
      refine lv_aload_n hx hb dX2_handOut_68 rfl (lv_at hl 1 rfl) ?_
      refine gg_L_0 C hG inX2_handOut_wsX20 (hts _ (List.mem_of_getElem? (i := 7) rfl)) dX2_handOut_69 ?_
      obtain ⟨h_15, hf⟩ := hf
      refine gp_e_9 C hG h_15 inX2_handOut_wsX10 (hts _ (List.mem_of_getElem? (i := 8) rfl)) dX2_handOut_72 (fun LT_16 H locs eLT_16 hG => ?_)
      replace hf := hf LT_16 eLT_16
      refine lv_goto (tgt := 103) hx hb dX2_handOut_75 (by decide) ?_
      exact vX2_handOut_b103 C hpost hG10 MI TT AW LT_16 y1 _ _ _ hf hG (lv_sub hl [1, 2] rfl)
set_option maxHeartbeats 4000000 in
set_option maxRecDepth 100000 in
theorem vX2_handOut_h10 {p : Program} {l : Launch} {e : Env} {s : State} {m : MethodId} {args : Array Value} {below : List Frame} {meth : Method} {c : Code} {D : va_G} {B : Nat → Nat} {A : Nat → Prop} {S : sS} {K : sK} {Y : sY} {M : sM} {O : sO} {post : sG → Prop} {nE : Nat} {la : Nat → Nat} {Q : (Nat → Int32) → (Nat → Int64) → (Nat → Int32) → (Nat → Nat → Int32) → Prop} (C : gX p s m args meth c cX2_handOut 4 (none) wsX2_handOut RX2 D B A) (hpost : ∀ (MI : Nat → Int32) (TT : Nat → Int64) (AW : Nat → Int32) (LT : Nat → Nat → Int32), Q MI TT AW LT → post (S, K, (MI, TT, AW, nE, LT, la), Y, M, O))  : ∀ (n10 : Nat) (MI : Nat → Int32) (TT : Nat → Int64) (AW : Nat → Int32) (LT : Nat → Nat → Int32) (y1 : Int32) (H : Heap) (locs : List Loc) (ls : Array Slot), fX2_handOut_h10 nE la Q n10 MI TT AW LT y1 → GS D B A s.heap (S, K, (MI, TT, AW, nE, LT, la), Y, M, O) H locs → lv_has ls 4 [(0, .ref (B 4)), (1, .int y1)] → W p l e (headSpec wsX2_handOut rX2_handOut).room s m args below meth c H locs 0 0 (MQ below (va_Qv post (gB D B A) A) args s 0 0 A) (F0 m 10 ls []) := by
  obtain ⟨hx, hb, hml, hown, hts, hK, hr, hlk, hA, hN⟩ := id C
  intro n10
  induction n10 with
  | zero =>
    intro MI TT AW LT y1 H locs ls hf
    exact False.elim hf
  | succ n10 hG10 =>
    intro MI TT AW LT y1 H locs ls hf hG hl
    unfold fX2_handOut_h10 at hf
    refine lv_iload_n hx hb dX2_handOut_10 rfl (lv_at hl 1 rfl) ?_
    refine lv_aload_n hx hb dX2_handOut_11 rfl (lv_at hl 0 rfl) ?_
    refine gg_L_1 C hG inX2_handOut_wsX20 (hts _ (List.mem_of_getElem? (i := 2) rfl)) dX2_handOut_12 ?_
    refine lv_icmp_ge (tgt := 109) hx hb dX2_handOut_15 (by decide) (fun c_2 => ?_) (fun c_2 => ?_)
    · replace hf := hf.1 c_2
      exact g_vret C hG (hpost _ _ _ _ hf) dX2_handOut_109
    · replace hf := hf.2 c_2
      refine lv_aload_n hx hb dX2_handOut_18 rfl (lv_at hl 0 rfl) ?_
      refine gg_L_2 C hG inX2_handOut_wsX20 (hts _ (List.mem_of_getElem? (i := 3) rfl)) dX2_handOut_19 ?_
      refine lv_iload_n hx hb dX2_handOut_22 rfl (lv_at hl 1 rfl) ?_
      obtain ⟨h_3, hf⟩ := hf
      obtain ⟨z_5, hz_5, h_4, hf⟩ := hf
      refine ga_La C hG h_3 hz_5 h_4 dX2_handOut_23 ?_
      refine lv_astore_n (lv' := [(2, .ref (la z_5)), (0, .ref (B 4)), (1, .int y1)]) hx hb dX2_handOut_24 rfl hl (by decide) rfl (fun ls hl => ?_)
      refine lv_aload_n hx hb dX2_handOut_25 rfl (lv_at hl 1 rfl) ?_
      refine gg_L_6 C hG inX2_handOut_wsX20 (hts _ (List.mem_of_getElem? (i := 1) rfl)) dX2_handOut_26 ?_
      refine lv_aload_n hx hb dX2_handOut_29 rfl (lv_at hl 0 rfl) ?_
      obtain ⟨h_6, hf⟩ := hf
      refine gg_e_0 C hG h_6 inX2_handOut_wsX10 (hts _ (List.mem_of_getElem? (i := 4) rfl)) dX2_handOut_30 ?_
      obtain ⟨h_7, hf⟩ := hf
      refine ga_L_6 C hG h_7 dX2_handOut_33 ?_
      refine lv_aload_n hx hb dX2_handOut_34 rfl (lv_at hl 0 rfl) ?_
      obtain ⟨h_8, hf⟩ := hf
      refine gg_e_1 C hG h_8 inX2_handOut_wsX10 (hts _ (List.mem_of_getElem? (i := 5) rfl)) dX2_handOut_35 ?_
      refine lv_iushr hx hb dX2_handOut_38 rfl ?_
      refine lv_iconst (v := (1 : Int32)) hx hb dX2_handOut_39 (by decide) ?_
      refine lv_iand hx hb dX2_handOut_40 ?_
      refine lv_if_ne (tgt := 48) hx hb dX2_handOut_41 (by decide) (fun c_9 => ?_) (fun c_9 => ?_)
      · replace hf := hf.1 c_9
        refine lv_iconst (v := (0 : Int32)) hx hb dX2_handOut_48 (by decide) ?_
        exact vX2_handOut_b49 C hpost hG10 MI TT AW LT y1 z_5 (0 : Int32) _ _ _ hf hG (lv_sub hl [1, 2, 0] rfl)
      · replace hf := hf.2 c_9
        refine lv_iconst (v := (1 : Int32)) hx hb dX2_handOut_44 (by decide) ?_
        refine lv_goto (tgt := 49) hx hb dX2_handOut_45 (by decide) ?_
        exact vX2_handOut_b49 C hpost hG10 MI TT AW LT y1 z_5 (1 : Int32) _ _ _ hf hG (lv_sub hl [1, 2, 0] rfl)
set_option maxHeartbeats 4000000 in
set_option maxRecDepth 100000 in
theorem vX2_handOut_b0 {p : Program} {l : Launch} {e : Env} {s : State} {m : MethodId} {args : Array Value} {below : List Frame} {meth : Method} {c : Code} {D : va_G} {B : Nat → Nat} {A : Nat → Prop} {S : sS} {K : sK} {Y : sY} {M : sM} {O : sO} {post : sG → Prop} {nE : Nat} {la : Nat → Nat} {Q : (Nat → Int32) → (Nat → Int64) → (Nat → Int32) → (Nat → Nat → Int32) → Prop} (C : gX p s m args meth c cX2_handOut 4 (none) wsX2_handOut RX2 D B A) (hpost : ∀ (MI : Nat → Int32) (TT : Nat → Int64) (AW : Nat → Int32) (LT : Nat → Nat → Int32), Q MI TT AW LT → post (S, K, (MI, TT, AW, nE, LT, la), Y, M, O))  (MI : Nat → Int32) (TT : Nat → Int64) (AW : Nat → Int32) (LT : Nat → Nat → Int32)  (H : Heap) (locs : List Loc) (ls : Array Slot) (hf : fX2_handOut nE la Q MI TT AW LT) (hG : GS D B A s.heap (S, K, (MI, TT, AW, nE, LT, la), Y, M, O) H locs) (hl : lv_has ls 4 [(0, .ref (B 4))]) : W p l e (headSpec wsX2_handOut rX2_handOut).room s m args below meth c H locs 0 0 (MQ below (va_Qv post (gB D B A) A) args s 0 0 A) (F0 m 0 ls []) := by
  obtain ⟨hx, hb, hml, hown, hts, hK, hr, hlk, hA, hN⟩ := id C
  unfold fX2_handOut at hf
  refine lv_aload_n hx hb dX2_handOut_0 rfl (lv_at hl 0 rfl) ?_
  refine gg_L_6 C hG inX2_handOut_wsX20 (hts _ (List.mem_of_getElem? (i := 1) rfl)) dX2_handOut_1 ?_
  refine lv_iconst (v := (0 : Int32)) hx hb dX2_handOut_4 (by decide) ?_
  refine g_callSv0 (As := [.ref (B 8), .int (0 : Int32)]) C hG (kfill_Lw (0 : Int32)) (va_cwS 2 hts gX2_handOut_J7_fill_53178 rfl rfl rfl hdsJ7_fill_53178 ⟨Nat.le_of_ble_eq_true rfl, Nat.le_of_ble_eq_true rfl⟩) rfl hl.1 rfl (Nat.le_of_ble_eq_true rfl) dX2_handOut_5 ⟨Nat.zero_le _, Nat.zero_le _⟩ (fun g1 H locs hq hG => ?_)
  subst hq
  obtain ⟨AW_1, eAW_1⟩ : ∃ y : Nat → Int32, y = gfill 8 (0 : Int32) AW := ⟨_, rfl⟩
  rw [← eAW_1] at hG
  replace hf := hf AW_1 eAW_1
  refine lv_iconst (v := (0 : Int32)) hx hb dX2_handOut_8 (by decide) ?_
  refine lv_istore_n (lv' := [(1, .int (0 : Int32)), (0, .ref (B 4))]) hx hb dX2_handOut_9 rfl hl (by decide) rfl (fun ls hl => ?_)
  obtain ⟨n10, hf⟩ := hf
  exact vX2_handOut_h10 C hpost  n10 MI TT AW_1 LT (0 : Int32) _ _ _ hf hG (lv_sub hl [1, 0] rfl)
set_option maxRecDepth 100000 in
theorem kX2_handOut {l : Launch} {D : va_G} {B : Nat → Nat} {S : sS} {K : sK} {Y : sY} {M : sM} {O : sO} {nE : Nat} {la : Nat → Nat} {Q : (Nat → Int32) → (Nat → Int64) → (Nat → Int32) → (Nat → Nat → Int32) → Prop} {MI : Nat → Int32} {TT : Nat → Int64} {AW : Nat → Int32} {LT : Nat → Nat → Int32} (hf : fX2_handOut nE la Q MI TT AW LT) : gMv D B l yX2_handOut wsX2_handOut rX2_handOut 0 0 [.ref (B 4)] (S, K, (MI, TT, AW, nE, LT, la), Y, M, O) (fun g1 => ∃ (MI1 : Nat → Int32) (TT1 : Nat → Int64) (AW1 : Nat → Int32) (LT1 : Nat → Nat → Int32), g1 = (S, K, (MI1, TT1, AW1, nE, LT1, la), Y, M, O) ∧ Q MI1 TT1 AW1 LT1) := by
  refine gMv_of (cc := cX2_handOut) (maxL := 4) (ret := none) (by decide +kernel) rfl (Nat.le_of_ble_eq_true rfl) ?_
  intro p e s m below meth c A hA0 C hG ls hl
  exact vX2_handOut_b0 C (fun MI TT AW LT hq => ⟨MI, TT, AW, LT, rfl, hq⟩) MI TT AW LT _ _ _ hf hG hl
def rX2_lose : Room := { frames := 2, cells := 0, slots := 0, locals := 46 }
theorem hdvX2_lose : yX2_lose.cls = RX2 ∧ yX2_lose.cls ≠ "java/lang/invoke/MethodHandle" ∧ yX2_lose.cls ≠ "java/lang/invoke/VarHandle" ∧ (parseMethodDescriptor yX2_lose.desc).map (fun d => d.parameters.length) = some 1 := by decide +kernel
theorem inX2_lose_wsX10 : ∀ w ∈ wsX10, w ∈ wsX2_lose := (fun _ h => List.mem_cons_of_mem _ (List.mem_append_right _ h))
theorem inX2_lose_wsX20 : ∀ w ∈ wsX20, w ∈ wsX2_lose := (fun _ h => List.mem_cons_of_mem _ (List.mem_append_left _ (List.mem_append_right _ h)))
set_option maxHeartbeats 4000000 in
set_option maxRecDepth 100000 in
theorem vX2_lose_b33 {p : Program} {l : Launch} {e : Env} {s : State} {m : MethodId} {args : Array Value} {below : List Frame} {meth : Method} {c : Code} {D : va_G} {B : Nat → Nat} {A : Nat → Prop} {S : sS} {K : sK} {Y : sY} {M : sM} {O : sO} {post : sG → Prop} {nE : Nat} {la : Nat → Nat} {Q : (Nat → Int32) → (Nat → Int64) → (Nat → Int32) → (Nat → Nat → Int32) → Prop} (C : gX p s m args meth c cX2_lose 3 (none) wsX2_lose RX2 D B A) (hpost : ∀ (MI : Nat → Int32) (TT : Nat → Int64) (AW : Nat → Int32) (LT : Nat → Nat → Int32), Q MI TT AW LT → post (S, K, (MI, TT, AW, nE, LT, la), Y, M, O)) {G2 : (Nat → Int32) → (Nat → Int64) → (Nat → Int32) → (Nat → Nat → Int32) → Int32 → Int32 → Prop} (hG2 : ∀ (MI : Nat → Int32) (TT : Nat → Int64) (AW : Nat → Int32) (LT : Nat → Nat → Int32) (y1 : Int32) (y2 : Int32) (H : Heap) (locs : List Loc) (ls : Array Slot), G2 MI TT AW LT y1 y2 → GS D B A s.heap (S, K, (MI, TT, AW, nE, LT, la), Y, M, O) H locs → lv_has ls 3 [(0, .ref (B 4)), (1, .int y1), (2, .int y2)] → W p l e (headSpec wsX2_lose rX2_lose).room s m args below meth c H locs 0 0 (MQ below (va_Qv post (gB D B A) A) args s 0 0 A) (F0 m 2 ls [])) (MI : Nat → Int32) (TT : Nat → Int64) (AW : Nat → Int32) (LT : Nat → Nat → Int32) (y1 : Int32) (y2 : Int32) (H : Heap) (locs : List Loc) (ls : Array Slot) (hf : fX2_lose_b33 nE la G2 Q MI TT AW LT y1 y2) (hG : GS D B A s.heap (S, K, (MI, TT, AW, nE, LT, la), Y, M, O) H locs) (hl : lv_has ls 3 [(0, .ref (B 4)), (1, .int y1), (2, .int y2)]) : W p l e (headSpec wsX2_lose rX2_lose).room s m args below meth c H locs 0 0 (MQ below (va_Qv post (gB D B A) A) args s 0 0 A) (F0 m 33 ls []) := by
  obtain ⟨hx, hb, hml, hown, hts, hK, hr, hlk, hA, hN⟩ := id C
  unfold fX2_lose_b33 at hf
  obtain ⟨x2_17, ex2_17⟩ : ∃ y : Int32, y = y2 + (1 : Int32) := ⟨_, rfl⟩
  replace hf := hf x2_17 ex2_17
  refine lv_iinc (v := x2_17) (lv' := [(2, .int x2_17), (0, .ref (B 4)), (1, .int y1)]) hx hb dX2_lose_33 hl (k := 2) rfl (by rw [ex2_17]; rfl) (by decide) rfl (fun ls hl => ?_)
  refine lv_goto (tgt := 2) hx hb dX2_lose_36 (by decide) ?_
  exact hG2 MI TT AW LT y1 x2_17 _ _ _ hf hG (lv_sub hl [1, 2, 0] rfl)
set_option maxHeartbeats 4000000 in
set_option maxRecDepth 100000 in
theorem vX2_lose_h2 {p : Program} {l : Launch} {e : Env} {s : State} {m : MethodId} {args : Array Value} {below : List Frame} {meth : Method} {c : Code} {D : va_G} {B : Nat → Nat} {A : Nat → Prop} {S : sS} {K : sK} {Y : sY} {M : sM} {O : sO} {post : sG → Prop} {nE : Nat} {la : Nat → Nat} {Q : (Nat → Int32) → (Nat → Int64) → (Nat → Int32) → (Nat → Nat → Int32) → Prop} (C : gX p s m args meth c cX2_lose 3 (none) wsX2_lose RX2 D B A) (hpost : ∀ (MI : Nat → Int32) (TT : Nat → Int64) (AW : Nat → Int32) (LT : Nat → Nat → Int32), Q MI TT AW LT → post (S, K, (MI, TT, AW, nE, LT, la), Y, M, O))  : ∀ (n2 : Nat) (MI : Nat → Int32) (TT : Nat → Int64) (AW : Nat → Int32) (LT : Nat → Nat → Int32) (y1 : Int32) (y2 : Int32) (H : Heap) (locs : List Loc) (ls : Array Slot), fX2_lose_h2 nE la Q n2 MI TT AW LT y1 y2 → GS D B A s.heap (S, K, (MI, TT, AW, nE, LT, la), Y, M, O) H locs → lv_has ls 3 [(0, .ref (B 4)), (1, .int y1), (2, .int y2)] → W p l e (headSpec wsX2_lose rX2_lose).room s m args below meth c H locs 0 0 (MQ below (va_Qv post (gB D B A) A) args s 0 0 A) (F0 m 2 ls []) := by
  obtain ⟨hx, hb, hml, hown, hts, hK, hr, hlk, hA, hN⟩ := id C
  intro n2
  induction n2 with
  | zero =>
    intro MI TT AW LT y1 y2 H locs ls hf
    exact False.elim hf
  | succ n2 hG2 =>
    intro MI TT AW LT y1 y2 H locs ls hf hG hl
    unfold fX2_lose_h2 at hf
    refine lv_iload_n hx hb dX2_lose_2 rfl (lv_at hl 2 rfl) ?_
    refine lv_aload_n hx hb dX2_lose_3 rfl (lv_at hl 0 rfl) ?_
    refine gg_L_1 C hG inX2_lose_wsX20 (hts _ (List.mem_of_getElem? (i := 1) rfl)) dX2_lose_4 ?_
    refine lv_icmp_ge (tgt := 39) hx hb dX2_lose_7 (by decide) (fun c_1 => ?_) (fun c_1 => ?_)
    · replace hf := hf.1 c_1
      refine lv_aload_n hx hb dX2_lose_39 rfl (lv_at hl 0 rfl) ?_
      refine g_callVv0 (As := []) C hG (kX2_handOut hf) (cwV 0 hts gX2_lose_X2_handOut rfl rfl rfl hdvX2_handOut ⟨Nat.le_of_ble_eq_true rfl, Nat.le_of_ble_eq_true rfl⟩) (va_recv hK hG.1 (ci := 2) (q0 := 43) rfl rfl) rfl hl.1 rfl (Nat.le_of_ble_eq_true rfl) dX2_lose_40 ⟨Nat.zero_le _, Nat.zero_le _⟩ (fun g1 H locs hq hG => ?_)
      obtain ⟨MI_2, TT_3, AW_4, LT_5, rfl, hf⟩ := hq
      exact g_vret C hG (hpost _ _ _ _ hf) dX2_lose_43
    · replace hf := hf.2 c_1
      refine lv_aload_n hx hb dX2_lose_10 rfl (lv_at hl 0 rfl) ?_
      refine gg_L_2 C hG inX2_lose_wsX20 (hts _ (List.mem_of_getElem? (i := 2) rfl)) dX2_lose_11 ?_
      refine lv_iload_n hx hb dX2_lose_14 rfl (lv_at hl 2 rfl) ?_
      obtain ⟨h_6, hf⟩ := hf
      obtain ⟨z_8, hz_8, h_7, hf⟩ := hf
      refine ga_La C hG h_6 hz_8 h_7 dX2_lose_15 ?_
      refine lv_iload_n hx hb dX2_lose_16 rfl (lv_at hl 1 rfl) ?_
      obtain ⟨h_10, hf⟩ := hf
      refine g_callVi0 (As := [.int y1]) C hG (kX1_hangsOn hf) (cwV 1 hts gX2_lose_X1_hangsOn rfl rfl rfl hdvX1_hangsOn ⟨Nat.le_of_ble_eq_true rfl, Nat.le_of_ble_eq_true rfl⟩) (g_recv_e hK hG h_10) rfl hl.1 rfl (Nat.le_of_ble_eq_true rfl) dX2_lose_17 ⟨Nat.zero_le _, Nat.zero_le _⟩ (fun r_9 g1 H locs hq hG => ?_)
      obtain ⟨rfl, hf⟩ := hq
      refine lv_if_eq (tgt := 33) hx hb dX2_lose_20 (by decide) (fun c_11 => ?_) (fun c_11 => ?_)
      · replace hf := hf.1 c_11
        exact vX2_lose_b33 C hpost hG2 MI TT AW LT y1 y2 _ _ _ hf hG (lv_sub hl [0, 1, 2] rfl)
      · replace hf := hf.2 c_11
        refine lv_aload_n hx hb dX2_lose_23 rfl (lv_at hl 0 rfl) ?_
        refine gg_L_2 C hG inX2_lose_wsX20 (hts _ (List.mem_of_getElem? (i := 2) rfl)) dX2_lose_24 ?_
        refine lv_iload_n hx hb dX2_lose_27 rfl (lv_at hl 2 rfl) ?_
        obtain ⟨h_12, hf⟩ := hf
        obtain ⟨z_14, hz_14, h_13, hf⟩ := hf
        refine ga_La C hG h_12 hz_14 h_13 dX2_lose_28 ?_
        refine lv_iconst (v := (5 : Int32)) hx hb dX2_lose_29 (by decide) ?_
        obtain ⟨h_15, hf⟩ := hf
        refine gp_e_3 C hG h_15 inX2_lose_wsX10 (hts _ (List.mem_of_getElem? (i := 3) rfl)) dX2_lose_30 (fun LT_16 H locs eLT_16 hG => ?_)
        replace hf := hf LT_16 eLT_16
        exact vX2_lose_b33 C hpost hG2 MI TT AW LT_16 y1 y2 _ _ _ hf hG (lv_sub hl [0, 1, 2] rfl)
set_option maxHeartbeats 4000000 in
set_option maxRecDepth 100000 in
theorem vX2_lose_b0 {p : Program} {l : Launch} {e : Env} {s : State} {m : MethodId} {args : Array Value} {below : List Frame} {meth : Method} {c : Code} {D : va_G} {B : Nat → Nat} {A : Nat → Prop} {S : sS} {K : sK} {Y : sY} {M : sM} {O : sO} {post : sG → Prop} {nE : Nat} {la : Nat → Nat} {Q : (Nat → Int32) → (Nat → Int64) → (Nat → Int32) → (Nat → Nat → Int32) → Prop} (C : gX p s m args meth c cX2_lose 3 (none) wsX2_lose RX2 D B A) (hpost : ∀ (MI : Nat → Int32) (TT : Nat → Int64) (AW : Nat → Int32) (LT : Nat → Nat → Int32), Q MI TT AW LT → post (S, K, (MI, TT, AW, nE, LT, la), Y, M, O))  (MI : Nat → Int32) (TT : Nat → Int64) (AW : Nat → Int32) (LT : Nat → Nat → Int32) (x1 : Int32) (H : Heap) (locs : List Loc) (ls : Array Slot) (hf : fX2_lose nE la Q MI TT AW LT x1) (hG : GS D B A s.heap (S, K, (MI, TT, AW, nE, LT, la), Y, M, O) H locs) (hl : lv_has ls 3 [(0, .ref (B 4)), (1, .int x1)]) : W p l e (headSpec wsX2_lose rX2_lose).room s m args below meth c H locs 0 0 (MQ below (va_Qv post (gB D B A) A) args s 0 0 A) (F0 m 0 ls []) := by
  obtain ⟨hx, hb, hml, hown, hts, hK, hr, hlk, hA, hN⟩ := id C
  unfold fX2_lose at hf
  refine lv_iconst (v := (0 : Int32)) hx hb dX2_lose_0 (by decide) ?_
  refine lv_istore_n (lv' := [(2, .int (0 : Int32)), (0, .ref (B 4)), (1, .int x1)]) hx hb dX2_lose_1 rfl hl (by decide) rfl (fun ls hl => ?_)
  obtain ⟨n2, hf⟩ := hf
  exact vX2_lose_h2 C hpost  n2 MI TT AW LT x1 (0 : Int32) _ _ _ hf hG (lv_sub hl [1, 2, 0] rfl)
set_option maxRecDepth 100000 in
theorem kX2_lose {l : Launch} {D : va_G} {B : Nat → Nat} {S : sS} {K : sK} {Y : sY} {M : sM} {O : sO} {nE : Nat} {la : Nat → Nat} {Q : (Nat → Int32) → (Nat → Int64) → (Nat → Int32) → (Nat → Nat → Int32) → Prop} {MI : Nat → Int32} {TT : Nat → Int64} {AW : Nat → Int32} {LT : Nat → Nat → Int32} {x1 : Int32} (hf : fX2_lose nE la Q MI TT AW LT x1) : gMv D B l yX2_lose wsX2_lose rX2_lose 0 0 [.ref (B 4), .int x1] (S, K, (MI, TT, AW, nE, LT, la), Y, M, O) (fun g1 => ∃ (MI1 : Nat → Int32) (TT1 : Nat → Int64) (AW1 : Nat → Int32) (LT1 : Nat → Nat → Int32), g1 = (S, K, (MI1, TT1, AW1, nE, LT1, la), Y, M, O) ∧ Q MI1 TT1 AW1 LT1) := by
  refine gMv_of (cc := cX2_lose) (maxL := 3) (ret := none) (by decide +kernel) rfl (Nat.le_of_ble_eq_true rfl) ?_
  intro p e s m below meth c A hA0 C hG ls hl
  exact vX2_lose_b0 C (fun MI TT AW LT hq => ⟨MI, TT, AW, LT, rfl, hq⟩) MI TT AW LT x1 _ _ _ hf hG hl
def rX2_lettersThatAre : Room := { frames := 0, cells := 0, slots := 0, locals := 0 }
theorem hdvX2_lettersThatAre : yX2_lettersThatAre.cls = RX2 ∧ yX2_lettersThatAre.cls ≠ "java/lang/invoke/MethodHandle" ∧ yX2_lettersThatAre.cls ≠ "java/lang/invoke/VarHandle" ∧ (parseMethodDescriptor yX2_lettersThatAre.desc).map (fun d => d.parameters.length) = some 1 := by decide +kernel
theorem inX2_lettersThatAre_wsX10 : ∀ w ∈ wsX10, w ∈ wsX2_lettersThatAre := (fun _ h => List.mem_cons_of_mem _ (List.mem_append_right _ h))
theorem inX2_lettersThatAre_wsX20 : ∀ w ∈ wsX20, w ∈ wsX2_lettersThatAre := (fun _ h => List.mem_cons_of_mem _ (List.mem_append_left _ (List.mem_append_right _ h)))
set_option maxHeartbeats 4000000 in
set_option maxRecDepth 100000 in
theorem vX2_lettersThatAre_b28 {p : Program} {l : Launch} {e : Env} {s : State} {m : MethodId} {args : Array Value} {below : List Frame} {meth : Method} {c : Code} {D : va_G} {B : Nat → Nat} {A : Nat → Prop} {S : sS} {K : sK} {Y : sY} {M : sM} {O : sO} {post : Int32 → sG → Prop} {MI : Nat → Int32} {TT : Nat → Int64} {AW : Nat → Int32} {nE : Nat} {LT : Nat → Nat → Int32} {la : Nat → Nat} {Q : Int32 → Prop} (C : gX p s m args meth c cX2_lettersThatAre 4 (some .int) wsX2_lettersThatAre RX2 D B A) (hpost : ∀ (v : Int32) , Q v  → post v (S, K, (MI, TT, AW, nE, LT, la), Y, M, O)) {G4 : Int32 → Int32 → Int32 → Prop} (hG4 : ∀  (y1 : Int32) (y2 : Int32) (y3 : Int32) (H : Heap) (locs : List Loc) (ls : Array Slot), G4 y1 y2 y3 → GS D B A s.heap (S, K, (MI, TT, AW, nE, LT, la), Y, M, O) H locs → lv_has ls 4 [(0, .ref (B 4)), (1, .int y1), (2, .int y2), (3, .int y3)] → W p l e (headSpec wsX2_lettersThatAre rX2_lettersThatAre).room s m args below meth c H locs 0 0 (MQ below (va_Qi post (gB D B A) A) args s 0 0 A) (F0 m 4 ls []))  (y1 : Int32) (y2 : Int32) (y3 : Int32) (H : Heap) (locs : List Loc) (ls : Array Slot) (hf : fX2_lettersThatAre_b28 MI TT AW nE LT la G4 Q y1 y2 y3) (hG : GS D B A s.heap (S, K, (MI, TT, AW, nE, LT, la), Y, M, O) H locs) (hl : lv_has ls 4 [(0, .ref (B 4)), (1, .int y1), (2, .int y2), (3, .int y3)]) : W p l e (headSpec wsX2_lettersThatAre rX2_lettersThatAre).room s m args below meth c H locs 0 0 (MQ below (va_Qi post (gB D B A) A) args s 0 0 A) (F0 m 28 ls []) := by
  obtain ⟨hx, hb, hml, hown, hts, hK, hr, hlk, hA, hN⟩ := id C
  unfold fX2_lettersThatAre_b28 at hf
  obtain ⟨x3_8, ex3_8⟩ : ∃ y : Int32, y = y3 + (1 : Int32) := ⟨_, rfl⟩
  replace hf := hf x3_8 ex3_8
  refine lv_iinc (v := x3_8) (lv' := [(3, .int x3_8), (0, .ref (B 4)), (1, .int y1), (2, .int y2)]) hx hb dX2_lettersThatAre_28 hl (k := 3) rfl (by rw [ex3_8]; rfl) (by decide) rfl (fun ls hl => ?_)
  refine lv_goto (tgt := 4) hx hb dX2_lettersThatAre_31 (by decide) ?_
  exact hG4 y1 y2 x3_8 _ _ _ hf hG (lv_sub hl [1, 2, 3, 0] rfl)
set_option maxHeartbeats 4000000 in
set_option maxRecDepth 100000 in
theorem vX2_lettersThatAre_h4 {p : Program} {l : Launch} {e : Env} {s : State} {m : MethodId} {args : Array Value} {below : List Frame} {meth : Method} {c : Code} {D : va_G} {B : Nat → Nat} {A : Nat → Prop} {S : sS} {K : sK} {Y : sY} {M : sM} {O : sO} {post : Int32 → sG → Prop} {MI : Nat → Int32} {TT : Nat → Int64} {AW : Nat → Int32} {nE : Nat} {LT : Nat → Nat → Int32} {la : Nat → Nat} {Q : Int32 → Prop} (C : gX p s m args meth c cX2_lettersThatAre 4 (some .int) wsX2_lettersThatAre RX2 D B A) (hpost : ∀ (v : Int32) , Q v  → post v (S, K, (MI, TT, AW, nE, LT, la), Y, M, O))  : ∀ (n4 : Nat)  (y1 : Int32) (y2 : Int32) (y3 : Int32) (H : Heap) (locs : List Loc) (ls : Array Slot), fX2_lettersThatAre_h4 MI TT AW nE LT la Q n4 y1 y2 y3 → GS D B A s.heap (S, K, (MI, TT, AW, nE, LT, la), Y, M, O) H locs → lv_has ls 4 [(0, .ref (B 4)), (1, .int y1), (2, .int y2), (3, .int y3)] → W p l e (headSpec wsX2_lettersThatAre rX2_lettersThatAre).room s m args below meth c H locs 0 0 (MQ below (va_Qi post (gB D B A) A) args s 0 0 A) (F0 m 4 ls []) := by
  obtain ⟨hx, hb, hml, hown, hts, hK, hr, hlk, hA, hN⟩ := id C
  intro n4
  induction n4 with
  | zero =>
    intro y1 y2 y3 H locs ls hf
    exact False.elim hf
  | succ n4 hG4 =>
    intro y1 y2 y3 H locs ls hf hG hl
    unfold fX2_lettersThatAre_h4 at hf
    refine lv_iload_n hx hb dX2_lettersThatAre_4 rfl (lv_at hl 3 rfl) ?_
    refine lv_aload_n hx hb dX2_lettersThatAre_5 rfl (lv_at hl 0 rfl) ?_
    refine gg_L_1 C hG inX2_lettersThatAre_wsX20 (hts _ (List.mem_of_getElem? (i := 1) rfl)) dX2_lettersThatAre_6 ?_
    refine lv_icmp_ge (tgt := 34) hx hb dX2_lettersThatAre_9 (by decide) (fun c_1 => ?_) (fun c_1 => ?_)
    · replace hf := hf.1 c_1
      refine lv_iload_n hx hb dX2_lettersThatAre_34 rfl (lv_at hl 2 rfl) ?_
      exact g_iret C hG (hpost _ hf) dX2_lettersThatAre_35
    · replace hf := hf.2 c_1
      refine lv_aload_n hx hb dX2_lettersThatAre_12 rfl (lv_at hl 0 rfl) ?_
      refine gg_L_2 C hG inX2_lettersThatAre_wsX20 (hts _ (List.mem_of_getElem? (i := 2) rfl)) dX2_lettersThatAre_13 ?_
      refine lv_iload_n hx hb dX2_lettersThatAre_16 rfl (lv_at hl 3 rfl) ?_
      obtain ⟨h_2, hf⟩ := hf
      obtain ⟨z_4, hz_4, h_3, hf⟩ := hf
      refine ga_La C hG h_2 hz_4 h_3 dX2_lettersThatAre_17 ?_
      obtain ⟨h_5, hf⟩ := hf
      refine gg_e_3 C hG h_5 inX2_lettersThatAre_wsX10 (hts _ (List.mem_of_getElem? (i := 3) rfl)) dX2_lettersThatAre_18 ?_
      refine lv_iload_n hx hb dX2_lettersThatAre_21 rfl (lv_at hl 1 rfl) ?_
      refine lv_icmp_ne (tgt := 28) hx hb dX2_lettersThatAre_22 (by decide) (fun c_6 => ?_) (fun c_6 => ?_)
      · replace hf := hf.1 c_6
        exact vX2_lettersThatAre_b28 C hpost hG4 y1 y2 y3 _ _ _ hf hG (lv_sub hl [0, 1, 2, 3] rfl)
      · replace hf := hf.2 c_6
        obtain ⟨x2_7, ex2_7⟩ : ∃ y : Int32, y = y2 + (1 : Int32) := ⟨_, rfl⟩
        replace hf := hf x2_7 ex2_7
        refine lv_iinc (v := x2_7) (lv' := [(2, .int x2_7), (0, .ref (B 4)), (1, .int y1), (3, .int y3)]) hx hb dX2_lettersThatAre_25 hl (k := 2) rfl (by rw [ex2_7]; rfl) (by decide) rfl (fun ls hl => ?_)
        exact vX2_lettersThatAre_b28 C hpost hG4 y1 x2_7 y3 _ _ _ hf hG (lv_sub hl [1, 2, 0, 3] rfl)
set_option maxHeartbeats 4000000 in
set_option maxRecDepth 100000 in
theorem vX2_lettersThatAre_b0 {p : Program} {l : Launch} {e : Env} {s : State} {m : MethodId} {args : Array Value} {below : List Frame} {meth : Method} {c : Code} {D : va_G} {B : Nat → Nat} {A : Nat → Prop} {S : sS} {K : sK} {Y : sY} {M : sM} {O : sO} {post : Int32 → sG → Prop} {MI : Nat → Int32} {TT : Nat → Int64} {AW : Nat → Int32} {nE : Nat} {LT : Nat → Nat → Int32} {la : Nat → Nat} {Q : Int32 → Prop} (C : gX p s m args meth c cX2_lettersThatAre 4 (some .int) wsX2_lettersThatAre RX2 D B A) (hpost : ∀ (v : Int32) , Q v  → post v (S, K, (MI, TT, AW, nE, LT, la), Y, M, O))   (x1 : Int32) (H : Heap) (locs : List Loc) (ls : Array Slot) (hf : fX2_lettersThatAre MI TT AW nE LT la Q x1) (hG : GS D B A s.heap (S, K, (MI, TT, AW, nE, LT, la), Y, M, O) H locs) (hl : lv_has ls 4 [(0, .ref (B 4)), (1, .int x1)]) : W p l e (headSpec wsX2_lettersThatAre rX2_lettersThatAre).room s m args below meth c H locs 0 0 (MQ below (va_Qi post (gB D B A) A) args s 0 0 A) (F0 m 0 ls []) := by
  obtain ⟨hx, hb, hml, hown, hts, hK, hr, hlk, hA, hN⟩ := id C
  unfold fX2_lettersThatAre at hf
  refine lv_iconst (v := (0 : Int32)) hx hb dX2_lettersThatAre_0 (by decide) ?_
  refine lv_istore_n (lv' := [(2, .int (0 : Int32)), (0, .ref (B 4)), (1, .int x1)]) hx hb dX2_lettersThatAre_1 rfl hl (by decide) rfl (fun ls hl => ?_)
  refine lv_iconst (v := (0 : Int32)) hx hb dX2_lettersThatAre_2 (by decide) ?_
  refine lv_istore_n (lv' := [(3, .int (0 : Int32)), (2, .int (0 : Int32)), (0, .ref (B 4)), (1, .int x1)]) hx hb dX2_lettersThatAre_3 rfl hl (by decide) rfl (fun ls hl => ?_)
  obtain ⟨n4, hf⟩ := hf
  exact vX2_lettersThatAre_h4 C hpost  n4 x1 (0 : Int32) (0 : Int32) _ _ _ hf hG (lv_sub hl [2, 3, 1, 0] rfl)
set_option maxRecDepth 100000 in
theorem kX2_lettersThatAre {l : Launch} {D : va_G} {B : Nat → Nat} {S : sS} {K : sK} {Y : sY} {M : sM} {O : sO} {MI : Nat → Int32} {TT : Nat → Int64} {AW : Nat → Int32} {nE : Nat} {LT : Nat → Nat → Int32} {la : Nat → Nat} {Q : Int32 → Prop} {x1 : Int32} (hf : fX2_lettersThatAre MI TT AW nE LT la Q x1) : gMi D B l yX2_lettersThatAre wsX2_lettersThatAre rX2_lettersThatAre 0 0 [.ref (B 4), .int x1] (S, K, (MI, TT, AW, nE, LT, la), Y, M, O) (fun r g1 => g1 = (S, K, (MI, TT, AW, nE, LT, la), Y, M, O) ∧ Q r ) := by
  refine gMi_of (cc := cX2_lettersThatAre) (maxL := 4) (ret := some .int) (by decide +kernel) rfl (Nat.le_of_ble_eq_true rfl) ?_
  intro p e s m below meth c A hA0 C hG ls hl
  exact vX2_lettersThatAre_b0 C (fun v  hq => ⟨rfl, hq⟩) x1 _ _ _ hf hG hl
def rX2_step : Room := { frames := 4, cells := 0, slots := 0, locals := 93 }
theorem hdvX2_step : yX2_step.cls = RX2 ∧ yX2_step.cls ≠ "java/lang/invoke/MethodHandle" ∧ yX2_step.cls ≠ "java/lang/invoke/VarHandle" ∧ (parseMethodDescriptor yX2_step.desc).map (fun d => d.parameters.length) = some 0 := by decide +kernel
theorem inX2_step_wsX10 : ∀ w ∈ wsX10, w ∈ wsX2_step := (fun _ h => List.mem_cons_of_mem _ (List.mem_append_left _ (List.mem_append_left _ (List.mem_append_right _ h))))
theorem inX2_step_wsX20 : ∀ w ∈ wsX20, w ∈ wsX2_step := (fun _ h => List.mem_cons_of_mem _ (List.mem_append_left _ (List.mem_append_left _ (List.mem_append_left _ (List.mem_append_right _ h)))))
set_option maxHeartbeats 4000000 in
set_option maxRecDepth 100000 in
theorem vX2_step_b112 {p : Program} {l : Launch} {e : Env} {s : State} {m : MethodId} {args : Array Value} {below : List Frame} {meth : Method} {c : Code} {D : va_G} {B : Nat → Nat} {A : Nat → Prop} {K : sK} {M : sM} {O : sO} {post : sG → Prop} {SI : Nat → Int32} {SX : Nat → Nat → Int32} {nE : Nat} {la : Nat → Nat} {nW : Nat} {WI : Nat → Nat → Int32} {WR : Nat → Nat → Nat} {WL : Nat → Nat → Int32} {WX : Nat → Nat → Nat → Int32} {wd : Nat → Nat → Nat} {Q : (Nat → Int32) → (Nat → Int64) → (Nat → Int32) → (Nat → Nat → Int32) → Prop} (C : gX p s m args meth c cX2_step 3 (none) wsX2_step RX2 D B A) (hpost : ∀ (MI : Nat → Int32) (TT : Nat → Int64) (AW : Nat → Int32) (LT : Nat → Nat → Int32), Q MI TT AW LT → post ((SI, SX), K, (MI, TT, AW, nE, LT, la), (nW, WI, WR, WL, WX, wd), M, O)) {G60 : (Nat → Int32) → (Nat → Int64) → (Nat → Int32) → (Nat → Nat → Int32) → Int32 → Int32 → Prop} (hG60 : ∀ (MI : Nat → Int32) (TT : Nat → Int64) (AW : Nat → Int32) (LT : Nat → Nat → Int32) (y1 : Int32) (y2 : Int32) (H : Heap) (locs : List Loc) (ls : Array Slot), G60 MI TT AW LT y1 y2 → GS D B A s.heap ((SI, SX), K, (MI, TT, AW, nE, LT, la), (nW, WI, WR, WL, WX, wd), M, O) H locs → lv_has ls 3 [(0, .ref (B 4)), (1, .int y1), (2, .int y2)] → W p l e (headSpec wsX2_step rX2_step).room s m args below meth c H locs 0 0 (MQ below (va_Qv post (gB D B A) A) args s 0 0 A) (F0 m 60 ls [])) (MI : Nat → Int32) (TT : Nat → Int64) (AW : Nat → Int32) (LT : Nat → Nat → Int32) (y1 : Int32) (y2 : Int32) (H : Heap) (locs : List Loc) (ls : Array Slot) (hf : fX2_step_b112 SI SX nE la nW WI WR WL WX wd G60 Q MI TT AW LT y1 y2) (hG : GS D B A s.heap ((SI, SX), K, (MI, TT, AW, nE, LT, la), (nW, WI, WR, WL, WX, wd), M, O) H locs) (hl : lv_has ls 3 [(0, .ref (B 4)), (1, .int y1), (2, .int y2)]) : W p l e (headSpec wsX2_step rX2_step).room s m args below meth c H locs 0 0 (MQ below (va_Qv post (gB D B A) A) args s 0 0 A) (F0 m 112 ls []) := by
  obtain ⟨hx, hb, hml, hown, hts, hK, hr, hlk, hA, hN⟩ := id C
  unfold fX2_step_b112 at hf
  obtain ⟨x2_42, ex2_42⟩ : ∃ y : Int32, y = y2 + (1 : Int32) := ⟨_, rfl⟩
  replace hf := hf x2_42 ex2_42
  refine lv_iinc (v := x2_42) (lv' := [(2, .int x2_42), (0, .ref (B 4)), (1, .int y1)]) hx hb dX2_step_112 hl (k := 2) rfl (by rw [ex2_42]; rfl) (by decide) rfl (fun ls hl => ?_)
  refine lv_goto (tgt := 60) hx hb dX2_step_115 (by decide) ?_
  exact hG60 MI TT AW LT y1 x2_42 _ _ _ hf hG (lv_sub hl [1, 2, 0] rfl)
set_option maxHeartbeats 4000000 in
set_option maxRecDepth 100000 in
theorem vX2_step_h60 {p : Program} {l : Launch} {e : Env} {s : State} {m : MethodId} {args : Array Value} {below : List Frame} {meth : Method} {c : Code} {D : va_G} {B : Nat → Nat} {A : Nat → Prop} {K : sK} {M : sM} {O : sO} {post : sG → Prop} {SI : Nat → Int32} {SX : Nat → Nat → Int32} {nE : Nat} {la : Nat → Nat} {nW : Nat} {WI : Nat → Nat → Int32} {WR : Nat → Nat → Nat} {WL : Nat → Nat → Int32} {WX : Nat → Nat → Nat → Int32} {wd : Nat → Nat → Nat} {Q : (Nat → Int32) → (Nat → Int64) → (Nat → Int32) → (Nat → Nat → Int32) → Prop} (C : gX p s m args meth c cX2_step 3 (none) wsX2_step RX2 D B A) (hpost : ∀ (MI : Nat → Int32) (TT : Nat → Int64) (AW : Nat → Int32) (LT : Nat → Nat → Int32), Q MI TT AW LT → post ((SI, SX), K, (MI, TT, AW, nE, LT, la), (nW, WI, WR, WL, WX, wd), M, O))  : ∀ (n60 : Nat) (MI : Nat → Int32) (TT : Nat → Int64) (AW : Nat → Int32) (LT : Nat → Nat → Int32) (y1 : Int32) (y2 : Int32) (H : Heap) (locs : List Loc) (ls : Array Slot), fX2_step_h60 SI SX nE la nW WI WR WL WX wd Q n60 MI TT AW LT y1 y2 → GS D B A s.heap ((SI, SX), K, (MI, TT, AW, nE, LT, la), (nW, WI, WR, WL, WX, wd), M, O) H locs → lv_has ls 3 [(0, .ref (B 4)), (1, .int y1), (2, .int y2)] → W p l e (headSpec wsX2_step rX2_step).room s m args below meth c H locs 0 0 (MQ below (va_Qv post (gB D B A) A) args s 0 0 A) (F0 m 60 ls []) := by
  obtain ⟨hx, hb, hml, hown, hts, hK, hr, hlk, hA, hN⟩ := id C
  intro n60
  induction n60 with
  | zero =>
    intro MI TT AW LT y1 y2 H locs ls hf
    exact False.elim hf
  | succ n60 hG60 =>
    intro MI TT AW LT y1 y2 H locs ls hf hG hl
    unfold fX2_step_h60 at hf
    refine lv_iload_n hx hb dX2_step_60 rfl (lv_at hl 2 rfl) ?_
    refine lv_aload_n hx hb dX2_step_61 rfl (lv_at hl 0 rfl) ?_
    refine gg_L_1 C hG inX2_step_wsX20 (hts _ (List.mem_of_getElem? (i := 2) rfl)) dX2_step_62 ?_
    refine lv_icmp_ge (tgt := 118) hx hb dX2_step_65 (by decide) (fun c_18 => ?_) (fun c_18 => ?_)
    · replace hf := hf.1 c_18
      refine lv_iload_n hx hb dX2_step_118 rfl (lv_at hl 1 rfl) ?_
      refine lv_if_eq (tgt := 126) hx hb dX2_step_119 (by decide) (fun c_19 => ?_) (fun c_19 => ?_)
      · replace hf := hf.1 c_19
        exact g_vret C hG (hpost _ _ _ _ hf) dX2_step_126
      · replace hf := hf.2 c_19
        refine lv_aload_n hx hb dX2_step_122 rfl (lv_at hl 0 rfl) ?_
        refine g_callVv0 (As := []) C hG (kX2_handOut hf) (cwV 0 hts gX2_step_X2_handOut rfl rfl rfl hdvX2_handOut ⟨Nat.le_of_ble_eq_true rfl, Nat.le_of_ble_eq_true rfl⟩) (va_recv hK hG.1 (ci := 2) (q0 := 43) rfl rfl) rfl hl.1 rfl (Nat.le_of_ble_eq_true rfl) dX2_step_123 ⟨Nat.zero_le _, Nat.zero_le _⟩ (fun g1 H locs hq hG => ?_)
        obtain ⟨MI_20, TT_21, AW_22, LT_23, rfl, hf⟩ := hq
        exact g_vret C hG (hpost _ _ _ _ hf) dX2_step_126
    · replace hf := hf.2 c_18
      refine lv_aload_n hx hb dX2_step_68 rfl (lv_at hl 0 rfl) ?_
      refine gg_L_2 C hG inX2_step_wsX20 (hts _ (List.mem_of_getElem? (i := 3) rfl)) dX2_step_69 ?_
      refine lv_iload_n hx hb dX2_step_72 rfl (lv_at hl 2 rfl) ?_
      obtain ⟨h_24, hf⟩ := hf
      obtain ⟨z_26, hz_26, h_25, hf⟩ := hf
      refine ga_La C hG h_24 hz_26 h_25 dX2_step_73 ?_
      obtain ⟨h_27, hf⟩ := hf
      refine gg_e_3 C hG h_27 inX2_step_wsX10 (hts _ (List.mem_of_getElem? (i := 5) rfl)) dX2_step_74 ?_
      refine lv_iconst (v := (2 : Int32)) hx hb dX2_step_77 (by decide) ?_
      refine lv_icmp_ne (tgt := 112) hx hb dX2_step_78 (by decide) (fun c_28 => ?_) (fun c_28 => ?_)
      · replace hf := hf.1 c_28
        exact vX2_step_b112 C hpost hG60 MI TT AW LT y1 y2 _ _ _ hf hG (lv_sub hl [0, 1, 2] rfl)
      · replace hf := hf.2 c_28
        refine lv_aload_n hx hb dX2_step_81 rfl (lv_at hl 0 rfl) ?_
        refine gg_L_2 C hG inX2_step_wsX20 (hts _ (List.mem_of_getElem? (i := 3) rfl)) dX2_step_82 ?_
        refine lv_iload_n hx hb dX2_step_85 rfl (lv_at hl 2 rfl) ?_
        obtain ⟨h_29, hf⟩ := hf
        obtain ⟨z_31, hz_31, h_30, hf⟩ := hf
        refine ga_La C hG h_29 hz_31 h_30 dX2_step_86 ?_
        obtain ⟨h_32, hf⟩ := hf
        refine gg_e_6 C hG h_32 inX2_step_wsX10 (hts _ (List.mem_of_getElem? (i := 6) rfl)) dX2_step_87 ?_
        refine lv_aload_n hx hb dX2_step_90 rfl (lv_at hl 0 rfl) ?_
        refine gg_L_0 C hG inX2_step_wsX20 (hts _ (List.mem_of_getElem? (i := 4) rfl)) dX2_step_91 ?_
        refine lv_icmp_gt (tgt := 112) hx hb dX2_step_94 (by decide) (fun c_33 => ?_) (fun c_33 => ?_)
        · replace hf := hf.1 c_33
          exact vX2_step_b112 C hpost hG60 MI TT AW LT y1 y2 _ _ _ hf hG (lv_sub hl [0, 1, 2] rfl)
        · replace hf := hf.2 c_33
          refine lv_aload_n hx hb dX2_step_97 rfl (lv_at hl 0 rfl) ?_
          refine gg_L_2 C hG inX2_step_wsX20 (hts _ (List.mem_of_getElem? (i := 3) rfl)) dX2_step_98 ?_
          refine lv_iload_n hx hb dX2_step_101 rfl (lv_at hl 2 rfl) ?_
          obtain ⟨h_34, hf⟩ := hf
          obtain ⟨z_36, hz_36, h_35, hf⟩ := hf
          refine ga_La C hG h_34 hz_36 h_35 dX2_step_102 ?_
          refine lv_aload_n hx hb dX2_step_103 rfl (lv_at hl 0 rfl) ?_
          refine gg_L_0 C hG inX2_step_wsX20 (hts _ (List.mem_of_getElem? (i := 4) rfl)) dX2_step_104 ?_
          obtain ⟨h_41, hf⟩ := hf
          refine g_callVv0 (As := [.int (MI 0)]) C hG (kX1_arrive hf) (cwV 1 hts gX2_step_X1_arrive rfl rfl rfl hdvX1_arrive ⟨Nat.le_of_ble_eq_true rfl, Nat.le_of_ble_eq_true rfl⟩) (g_recv_e hK hG h_41) rfl hl.1 rfl (Nat.le_of_ble_eq_true rfl) dX2_step_107 ⟨Nat.zero_le _, Nat.zero_le _⟩ (fun g1 H locs hq hG => ?_)
          obtain ⟨MI_37, TT_38, AW_39, LT_40, rfl, hf⟩ := hq
          refine lv_iconst (v := (1 : Int32)) hx hb dX2_step_110 (by decide) ?_
          refine lv_istore_n (lv' := [(1, .int (1 : Int32)), (0, .ref (B 4)), (2, .int y2)]) hx hb dX2_step_111 rfl hl (by decide) rfl (fun ls hl => ?_)
          exact vX2_step_b112 C hpost hG60 MI_37 TT_38 AW_39 LT_40 (1 : Int32) y2 _ _ _ hf hG (lv_sub hl [1, 0, 2] rfl)
set_option maxHeartbeats 4000000 in
set_option maxRecDepth 100000 in
theorem vX2_step_b40 {p : Program} {l : Launch} {e : Env} {s : State} {m : MethodId} {args : Array Value} {below : List Frame} {meth : Method} {c : Code} {D : va_G} {B : Nat → Nat} {A : Nat → Prop} {K : sK} {M : sM} {O : sO} {post : sG → Prop} {SI : Nat → Int32} {SX : Nat → Nat → Int32} {nE : Nat} {la : Nat → Nat} {nW : Nat} {WI : Nat → Nat → Int32} {WR : Nat → Nat → Nat} {WL : Nat → Nat → Int32} {WX : Nat → Nat → Nat → Int32} {wd : Nat → Nat → Nat} {Q : (Nat → Int32) → (Nat → Int64) → (Nat → Int32) → (Nat → Nat → Int32) → Prop} (C : gX p s m args meth c cX2_step 3 (none) wsX2_step RX2 D B A) (hpost : ∀ (MI : Nat → Int32) (TT : Nat → Int64) (AW : Nat → Int32) (LT : Nat → Nat → Int32), Q MI TT AW LT → post ((SI, SX), K, (MI, TT, AW, nE, LT, la), (nW, WI, WR, WL, WX, wd), M, O)) {G10 : (Nat → Int32) → (Nat → Int64) → (Nat → Int32) → (Nat → Nat → Int32) → Int32 → Prop} (hG10 : ∀ (MI : Nat → Int32) (TT : Nat → Int64) (AW : Nat → Int32) (LT : Nat → Nat → Int32) (y1 : Int32) (H : Heap) (locs : List Loc) (ls : Array Slot), G10 MI TT AW LT y1 → GS D B A s.heap ((SI, SX), K, (MI, TT, AW, nE, LT, la), (nW, WI, WR, WL, WX, wd), M, O) H locs → lv_has ls 3 [(0, .ref (B 4)), (1, .int y1)] → W p l e (headSpec wsX2_step rX2_step).room s m args below meth c H locs 0 0 (MQ below (va_Qv post (gB D B A) A) args s 0 0 A) (F0 m 10 ls [])) (MI : Nat → Int32) (TT : Nat → Int64) (AW : Nat → Int32) (LT : Nat → Nat → Int32) (y1 : Int32) (H : Heap) (locs : List Loc) (ls : Array Slot) (hf : fX2_step_b40 SI SX nE la nW WI WR WL WX wd G10 Q MI TT AW LT y1) (hG : GS D B A s.heap ((SI, SX), K, (MI, TT, AW, nE, LT, la), (nW, WI, WR, WL, WX, wd), M, O) H locs) (hl : lv_has ls 3 [(0, .ref (B 4)), (1, .int y1)]) : W p l e (headSpec wsX2_step rX2_step).room s m args below meth c H locs 0 0 (MQ below (va_Qv post (gB D B A) A) args s 0 0 A) (F0 m 40 ls []) := by
  obtain ⟨hx, hb, hml, hown, hts, hK, hr, hlk, hA, hN⟩ := id C
  unfold fX2_step_b40 at hf
  obtain ⟨x1_17, ex1_17⟩ : ∃ y : Int32, y = y1 + (1 : Int32) := ⟨_, rfl⟩
  replace hf := hf x1_17 ex1_17
  refine lv_iinc (v := x1_17) (lv' := [(1, .int x1_17), (0, .ref (B 4))]) hx hb dX2_step_40 hl (k := 1) rfl (by rw [ex1_17]; rfl) (by decide) rfl (fun ls hl => ?_)
  refine lv_goto (tgt := 10) hx hb dX2_step_43 (by decide) ?_
  exact hG10 MI TT AW LT x1_17 _ _ _ hf hG (lv_sub hl [1, 0] rfl)
set_option maxHeartbeats 4000000 in
set_option maxRecDepth 100000 in
theorem vX2_step_h10 {p : Program} {l : Launch} {e : Env} {s : State} {m : MethodId} {args : Array Value} {below : List Frame} {meth : Method} {c : Code} {D : va_G} {B : Nat → Nat} {A : Nat → Prop} {K : sK} {M : sM} {O : sO} {post : sG → Prop} {SI : Nat → Int32} {SX : Nat → Nat → Int32} {nE : Nat} {la : Nat → Nat} {nW : Nat} {WI : Nat → Nat → Int32} {WR : Nat → Nat → Nat} {WL : Nat → Nat → Int32} {WX : Nat → Nat → Nat → Int32} {wd : Nat → Nat → Nat} {Q : (Nat → Int32) → (Nat → Int64) → (Nat → Int32) → (Nat → Nat → Int32) → Prop} (C : gX p s m args meth c cX2_step 3 (none) wsX2_step RX2 D B A) (hpost : ∀ (MI : Nat → Int32) (TT : Nat → Int64) (AW : Nat → Int32) (LT : Nat → Nat → Int32), Q MI TT AW LT → post ((SI, SX), K, (MI, TT, AW, nE, LT, la), (nW, WI, WR, WL, WX, wd), M, O))  : ∀ (n10 : Nat) (MI : Nat → Int32) (TT : Nat → Int64) (AW : Nat → Int32) (LT : Nat → Nat → Int32) (y1 : Int32) (H : Heap) (locs : List Loc) (ls : Array Slot), fX2_step_h10 SI SX nE la nW WI WR WL WX wd Q n10 MI TT AW LT y1 → GS D B A s.heap ((SI, SX), K, (MI, TT, AW, nE, LT, la), (nW, WI, WR, WL, WX, wd), M, O) H locs → lv_has ls 3 [(0, .ref (B 4)), (1, .int y1)] → W p l e (headSpec wsX2_step rX2_step).room s m args below meth c H locs 0 0 (MQ below (va_Qv post (gB D B A) A) args s 0 0 A) (F0 m 10 ls []) := by
  obtain ⟨hx, hb, hml, hown, hts, hK, hr, hlk, hA, hN⟩ := id C
  intro n10
  induction n10 with
  | zero =>
    intro MI TT AW LT y1 H locs ls hf
    exact False.elim hf
  | succ n10 hG10 =>
    intro MI TT AW LT y1 H locs ls hf hG hl
    unfold fX2_step_h10 at hf
    refine lv_iload_n hx hb dX2_step_10 rfl (lv_at hl 1 rfl) ?_
    refine lv_aload_n hx hb dX2_step_11 rfl (lv_at hl 0 rfl) ?_
    refine gg_L_1 C hG inX2_step_wsX20 (hts _ (List.mem_of_getElem? (i := 2) rfl)) dX2_step_12 ?_
    refine lv_icmp_ge (tgt := 46) hx hb dX2_step_15 (by decide) (fun c_2 => ?_) (fun c_2 => ?_)
    · replace hf := hf.1 c_2
      refine lv_aload_n hx hb dX2_step_46 rfl (lv_at hl 0 rfl) ?_
      refine lv_dup hx hb dX2_step_47 rfl ?_
      refine gg_L_0 C hG inX2_step_wsX20 (hts _ (List.mem_of_getElem? (i := 4) rfl)) dX2_step_48 ?_
      refine lv_iconst (v := (1 : Int32)) hx hb dX2_step_51 (by decide) ?_
      refine lv_iadd hx hb dX2_step_52 ?_
      refine gp_L_0 C hG inX2_step_wsX20 (hts _ (List.mem_of_getElem? (i := 4) rfl)) dX2_step_53 (fun MI_3 H locs eMI_3 hG => ?_)
      replace hf := hf MI_3 eMI_3
      refine lv_iconst (v := (0 : Int32)) hx hb dX2_step_56 (by decide) ?_
      refine lv_istore_n (lv' := [(1, .int (0 : Int32)), (0, .ref (B 4))]) hx hb dX2_step_57 rfl hl (by decide) rfl (fun ls hl => ?_)
      refine lv_iconst (v := (0 : Int32)) hx hb dX2_step_58 (by decide) ?_
      refine lv_istore_n (lv' := [(2, .int (0 : Int32)), (1, .int (0 : Int32)), (0, .ref (B 4))]) hx hb dX2_step_59 rfl hl (by decide) rfl (fun ls hl => ?_)
      obtain ⟨n60, hf⟩ := hf
      exact vX2_step_h60 C hpost  n60 MI_3 TT AW LT (0 : Int32) (0 : Int32) _ _ _ hf hG (lv_sub hl [2, 1, 0] rfl)
    · replace hf := hf.2 c_2
      refine lv_aload_n hx hb dX2_step_18 rfl (lv_at hl 0 rfl) ?_
      refine gg_L_2 C hG inX2_step_wsX20 (hts _ (List.mem_of_getElem? (i := 3) rfl)) dX2_step_19 ?_
      refine lv_iload_n hx hb dX2_step_22 rfl (lv_at hl 1 rfl) ?_
      obtain ⟨h_4, hf⟩ := hf
      obtain ⟨z_6, hz_6, h_5, hf⟩ := hf
      refine ga_La C hG h_4 hz_6 h_5 dX2_step_23 ?_
      obtain ⟨h_8, hf⟩ := hf
      refine g_callVi0 (As := []) C hG (kX1_mayGo hf) (cwV 0 hts gX2_step_X1_mayGo rfl rfl rfl hdvX1_mayGo ⟨Nat.le_of_ble_eq_true rfl, Nat.le_of_ble_eq_true rfl⟩) (g_recv_e hK hG h_8) rfl hl.1 rfl (Nat.le_of_ble_eq_true rfl) dX2_step_24 ⟨Nat.zero_le _, Nat.zero_le _⟩ (fun r_7 g1 H locs hq hG => ?_)
      obtain ⟨rfl, hf⟩ := hq
      refine lv_if_eq (tgt := 40) hx hb dX2_step_27 (by decide) (fun c_9 => ?_) (fun c_9 => ?_)
      · replace hf := hf.1 c_9
        exact vX2_step_b40 C hpost hG10 MI TT AW LT y1 _ _ _ hf hG (lv_sub hl [0, 1] rfl)
      · replace hf := hf.2 c_9
        refine lv_aload_n hx hb dX2_step_30 rfl (lv_at hl 0 rfl) ?_
        refine lv_aload_n hx hb dX2_step_31 rfl (lv_at hl 0 rfl) ?_
        refine gg_L_2 C hG inX2_step_wsX20 (hts _ (List.mem_of_getElem? (i := 3) rfl)) dX2_step_32 ?_
        refine lv_iload_n hx hb dX2_step_35 rfl (lv_at hl 1 rfl) ?_
        obtain ⟨h_10, hf⟩ := hf
        obtain ⟨z_12, hz_12, h_11, hf⟩ := hf
        refine ga_La C hG h_10 hz_12 h_11 dX2_step_36 ?_
        refine g_callVv0 (As := [.ref (la z_12)]) C hG (kX2_setOut hf) (cwV 1 hts gX2_step_X2_setOut rfl rfl rfl hdvX2_setOut ⟨Nat.le_of_ble_eq_true rfl, Nat.le_of_ble_eq_true rfl⟩) (va_recv hK hG.1 (ci := 2) (q0 := 43) rfl rfl) rfl hl.1 rfl (Nat.le_of_ble_eq_true rfl) dX2_step_37 ⟨Nat.zero_le _, Nat.zero_le _⟩ (fun g1 H locs hq hG => ?_)
        obtain ⟨MI_13, TT_14, AW_15, LT_16, rfl, hf⟩ := hq
        exact vX2_step_b40 C hpost hG10 MI_13 TT_14 AW_15 LT_16 y1 _ _ _ hf hG (lv_sub hl [0, 1] rfl)
set_option maxHeartbeats 4000000 in
set_option maxRecDepth 100000 in
theorem vX2_step_b0 {p : Program} {l : Launch} {e : Env} {s : State} {m : MethodId} {args : Array Value} {below : List Frame} {meth : Method} {c : Code} {D : va_G} {B : Nat → Nat} {A : Nat → Prop} {K : sK} {M : sM} {O : sO} {post : sG → Prop} {SI : Nat → Int32} {SX : Nat → Nat → Int32} {nE : Nat} {la : Nat → Nat} {nW : Nat} {WI : Nat → Nat → Int32} {WR : Nat → Nat → Nat} {WL : Nat → Nat → Int32} {WX : Nat → Nat → Nat → Int32} {wd : Nat → Nat → Nat} {Q : (Nat → Int32) → (Nat → Int64) → (Nat → Int32) → (Nat → Nat → Int32) → Prop} (C : gX p s m args meth c cX2_step 3 (none) wsX2_step RX2 D B A) (hpost : ∀ (MI : Nat → Int32) (TT : Nat → Int64) (AW : Nat → Int32) (LT : Nat → Nat → Int32), Q MI TT AW LT → post ((SI, SX), K, (MI, TT, AW, nE, LT, la), (nW, WI, WR, WL, WX, wd), M, O))  (MI : Nat → Int32) (TT : Nat → Int64) (AW : Nat → Int32) (LT : Nat → Nat → Int32)  (H : Heap) (locs : List Loc) (ls : Array Slot) (hf : fX2_step SI SX nE la nW WI WR WL WX wd Q MI TT AW LT) (hG : GS D B A s.heap ((SI, SX), K, (MI, TT, AW, nE, LT, la), (nW, WI, WR, WL, WX, wd), M, O) H locs) (hl : lv_has ls 3 [(0, .ref (B 4))]) : W p l e (headSpec wsX2_step rX2_step).room s m args below meth c H locs 0 0 (MQ below (va_Qv post (gB D B A) A) args s 0 0 A) (F0 m 0 ls []) := by
  obtain ⟨hx, hb, hml, hown, hts, hK, hr, hlk, hA, hN⟩ := id C
  unfold fX2_step at hf
  refine lv_aload_n hx hb dX2_step_0 rfl (lv_at hl 0 rfl) ?_
  refine gg_L_5 C hG inX2_step_wsX20 (hts _ (List.mem_of_getElem? (i := 1) rfl)) dX2_step_1 ?_
  refine lv_lconst (v := (0 : Int64)) hx hb dX2_step_4 (by decide) ?_
  refine g_callSv0 (As := [.ref (B 7), .long (0 : Int64)]) C hG (kfill_Lt (0 : Int64)) (va_cwS 2 hts gX2_step_J7_fill_d0a16 rfl rfl rfl hdsJ7_fill_d0a16 ⟨Nat.le_of_ble_eq_true rfl, Nat.le_of_ble_eq_true rfl⟩) rfl hl.1 rfl (Nat.le_of_ble_eq_true rfl) dX2_step_5 ⟨Nat.zero_le _, Nat.zero_le _⟩ (fun g1 H locs hq hG => ?_)
  subst hq
  obtain ⟨TT_1, eTT_1⟩ : ∃ y : Nat → Int64, y = gfill 56 (0 : Int64) TT := ⟨_, rfl⟩
  rw [← eTT_1] at hG
  replace hf := hf TT_1 eTT_1
  refine lv_iconst (v := (0 : Int32)) hx hb dX2_step_8 (by decide) ?_
  refine lv_istore_n (lv' := [(1, .int (0 : Int32)), (0, .ref (B 4))]) hx hb dX2_step_9 rfl hl (by decide) rfl (fun ls hl => ?_)
  obtain ⟨n10, hf⟩ := hf
  exact vX2_step_h10 C hpost  n10 MI TT_1 AW LT (0 : Int32) _ _ _ hf hG (lv_sub hl [1, 0] rfl)
set_option maxRecDepth 100000 in
theorem kX2_step {l : Launch} {D : va_G} {B : Nat → Nat} {K : sK} {M : sM} {O : sO} {SI : Nat → Int32} {SX : Nat → Nat → Int32} {nE : Nat} {la : Nat → Nat} {nW : Nat} {WI : Nat → Nat → Int32} {WR : Nat → Nat → Nat} {WL : Nat → Nat → Int32} {WX : Nat → Nat → Nat → Int32} {wd : Nat → Nat → Nat} {Q : (Nat → Int32) → (Nat → Int64) → (Nat → Int32) → (Nat → Nat → Int32) → Prop} {MI : Nat → Int32} {TT : Nat → Int64} {AW : Nat → Int32} {LT : Nat → Nat → Int32} (hf : fX2_step SI SX nE la nW WI WR WL WX wd Q MI TT AW LT) : gMv D B l yX2_step wsX2_step rX2_step 0 0 [.ref (B 4)] ((SI, SX), K, (MI, TT, AW, nE, LT, la), (nW, WI, WR, WL, WX, wd), M, O) (fun g1 => ∃ (MI1 : Nat → Int32) (TT1 : Nat → Int64) (AW1 : Nat → Int32) (LT1 : Nat → Nat → Int32), g1 = ((SI, SX), K, (MI1, TT1, AW1, nE, LT1, la), (nW, WI, WR, WL, WX, wd), M, O) ∧ Q MI1 TT1 AW1 LT1) := by
  refine gMv_of (cc := cX2_step) (maxL := 3) (ret := none) (by decide +kernel) rfl (Nat.le_of_ble_eq_true rfl) ?_
  intro p e s m below meth c A hA0 C hG ls hl
  exact vX2_step_b0 C (fun MI TT AW LT hq => ⟨MI, TT, AW, LT, rfl, hq⟩) MI TT AW LT _ _ _ hf hG hl
def rX2_run : Room := { frames := 5, cells := 0, slots := 0, locals := 115 }
theorem hdvX2_run : yX2_run.cls = RX2 ∧ yX2_run.cls ≠ "java/lang/invoke/MethodHandle" ∧ yX2_run.cls ≠ "java/lang/invoke/VarHandle" ∧ (parseMethodDescriptor yX2_run.desc).map (fun d => d.parameters.length) = some 1 := by decide +kernel
theorem inX2_run_wsX10 : ∀ w ∈ wsX10, w ∈ wsX2_run := (fun _ h => List.mem_cons_of_mem _ (List.mem_append_left _ (List.mem_append_left _ (List.mem_append_right _ h))))
theorem inX2_run_wsX20 : ∀ w ∈ wsX20, w ∈ wsX2_run := (fun _ h => List.mem_cons_of_mem _ (List.mem_append_left _ (List.mem_append_left _ (List.mem_append_left _ (List.mem_append_right _ h)))))
set_option maxHeartbeats 4000000 in
set_option maxRecDepth 100000 in
theorem vX2_run_h47 {p : Program} {l : Launch} {e : Env} {s : State} {m : MethodId} {args : Array Value} {below : List Frame} {meth : Method} {c : Code} {D : va_G} {B : Nat → Nat} {A : Nat → Prop} {K : sK} {M : sM} {O : sO} {post : sG → Prop} {SI : Nat → Int32} {SX : Nat → Nat → Int32} {nE : Nat} {la : Nat → Nat} {nW : Nat} {wd : Nat → Nat → Nat} {Q : (Nat → Int32) → (Nat → Int64) → (Nat → Int32) → (Nat → Nat → Int32) → (Nat → Nat → Int32) → (Nat → Nat → Nat) → (Nat → Nat → Int32) → (Nat → Nat → Nat → Int32) → Prop} (C : gX p s m args meth c cX2_run 3 (none) wsX2_run RX2 D B A) (hpost : ∀ (MI : Nat → Int32) (TT : Nat → Int64) (AW : Nat → Int32) (LT : Nat → Nat → Int32) (WI : Nat → Nat → Int32) (WR : Nat → Nat → Nat) (WL : Nat → Nat → Int32) (WX : Nat → Nat → Nat → Int32), Q MI TT AW LT WI WR WL WX → post ((SI, SX), K, (MI, TT, AW, nE, LT, la), (nW, WI, WR, WL, WX, wd), M, O))  : ∀ (n47 : Nat) (MI : Nat → Int32) (TT : Nat → Int64) (AW : Nat → Int32) (LT : Nat → Nat → Int32) (WI : Nat → Nat → Int32) (WR : Nat → Nat → Nat) (WL : Nat → Nat → Int32) (WX : Nat → Nat → Nat → Int32) (y1 : Int32) (y2 : Int32) (H : Heap) (locs : List Loc) (ls : Array Slot), fX2_run_h47 SI SX nE la nW wd Q n47 MI TT AW LT WI WR WL WX y1 y2 → GS D B A s.heap ((SI, SX), K, (MI, TT, AW, nE, LT, la), (nW, WI, WR, WL, WX, wd), M, O) H locs → lv_has ls 3 [(0, .ref (B 4)), (1, .int y1), (2, .int y2)] → W p l e (headSpec wsX2_run rX2_run).room s m args below meth c H locs 0 0 (MQ below (va_Qv post (gB D B A) A) args s 0 0 A) (F0 m 47 ls []) := by
  obtain ⟨hx, hb, hml, hown, hts, hK, hr, hlk, hA, hN⟩ := id C
  intro n47
  induction n47 with
  | zero =>
    intro MI TT AW LT WI WR WL WX y1 y2 H locs ls hf
    exact False.elim hf
  | succ n47 hG47 =>
    intro MI TT AW LT WI WR WL WX y1 y2 H locs ls hf hG hl
    unfold fX2_run_h47 at hf
    refine lv_iload_n hx hb dX2_run_47 rfl (lv_at hl 2 rfl) ?_
    refine lv_iload_n hx hb dX2_run_48 rfl (lv_at hl 1 rfl) ?_
    refine lv_icmp_ge (tgt := 62) hx hb dX2_run_49 (by decide) (fun c_21 => ?_) (fun c_21 => ?_)
    · replace hf := hf.1 c_21
      exact g_vret C hG (hpost _ _ _ _ _ _ _ _ hf) dX2_run_62
    · replace hf := hf.2 c_21
      refine lv_aload_n hx hb dX2_run_52 rfl (lv_at hl 0 rfl) ?_
      refine g_callVv0 (As := []) C hG (kX2_step hf) (cwV 0 hts gX2_run_X2_step rfl rfl rfl hdvX2_step ⟨Nat.le_of_ble_eq_true rfl, Nat.le_of_ble_eq_true rfl⟩) (va_recv hK hG.1 (ci := 2) (q0 := 43) rfl rfl) rfl hl.1 rfl (Nat.le_of_ble_eq_true rfl) dX2_run_53 ⟨Nat.zero_le _, Nat.zero_le _⟩ (fun g1 H locs hq hG => ?_)
      obtain ⟨MI_22, TT_23, AW_24, LT_25, rfl, hf⟩ := hq
      obtain ⟨x2_26, ex2_26⟩ : ∃ y : Int32, y = y2 + (1 : Int32) := ⟨_, rfl⟩
      replace hf := hf x2_26 ex2_26
      refine lv_iinc (v := x2_26) (lv' := [(2, .int x2_26), (0, .ref (B 4)), (1, .int y1)]) hx hb dX2_run_56 hl (k := 2) rfl (by rw [ex2_26]; rfl) (by decide) rfl (fun ls hl => ?_)
      refine lv_goto (tgt := 47) hx hb dX2_run_59 (by decide) ?_
      exact hG47 MI_22 TT_23 AW_24 LT_25 WI WR WL WX y1 x2_26 _ _ _ hf hG (lv_sub hl [1, 2, 0] rfl)
set_option maxHeartbeats 4000000 in
set_option maxRecDepth 100000 in
theorem vX2_run_b39 {p : Program} {l : Launch} {e : Env} {s : State} {m : MethodId} {args : Array Value} {below : List Frame} {meth : Method} {c : Code} {D : va_G} {B : Nat → Nat} {A : Nat → Prop} {K : sK} {M : sM} {O : sO} {post : sG → Prop} {SI : Nat → Int32} {SX : Nat → Nat → Int32} {nE : Nat} {la : Nat → Nat} {nW : Nat} {wd : Nat → Nat → Nat} {Q : (Nat → Int32) → (Nat → Int64) → (Nat → Int32) → (Nat → Nat → Int32) → (Nat → Nat → Int32) → (Nat → Nat → Nat) → (Nat → Nat → Int32) → (Nat → Nat → Nat → Int32) → Prop} (C : gX p s m args meth c cX2_run 3 (none) wsX2_run RX2 D B A) (hpost : ∀ (MI : Nat → Int32) (TT : Nat → Int64) (AW : Nat → Int32) (LT : Nat → Nat → Int32) (WI : Nat → Nat → Int32) (WR : Nat → Nat → Nat) (WL : Nat → Nat → Int32) (WX : Nat → Nat → Nat → Int32), Q MI TT AW LT WI WR WL WX → post ((SI, SX), K, (MI, TT, AW, nE, LT, la), (nW, WI, WR, WL, WX, wd), M, O)) {G2 : (Nat → Int32) → (Nat → Int64) → (Nat → Int32) → (Nat → Nat → Int32) → (Nat → Nat → Int32) → (Nat → Nat → Nat) → (Nat → Nat → Int32) → (Nat → Nat → Nat → Int32) → Int32 → Int32 → Prop} (hG2 : ∀ (MI : Nat → Int32) (TT : Nat → Int64) (AW : Nat → Int32) (LT : Nat → Nat → Int32) (WI : Nat → Nat → Int32) (WR : Nat → Nat → Nat) (WL : Nat → Nat → Int32) (WX : Nat → Nat → Nat → Int32) (y1 : Int32) (y2 : Int32) (H : Heap) (locs : List Loc) (ls : Array Slot), G2 MI TT AW LT WI WR WL WX y1 y2 → GS D B A s.heap ((SI, SX), K, (MI, TT, AW, nE, LT, la), (nW, WI, WR, WL, WX, wd), M, O) H locs → lv_has ls 3 [(0, .ref (B 4)), (1, .int y1), (2, .int y2)] → W p l e (headSpec wsX2_run rX2_run).room s m args below meth c H locs 0 0 (MQ below (va_Qv post (gB D B A) A) args s 0 0 A) (F0 m 2 ls [])) (MI : Nat → Int32) (TT : Nat → Int64) (AW : Nat → Int32) (LT : Nat → Nat → Int32) (WI : Nat → Nat → Int32) (WR : Nat → Nat → Nat) (WL : Nat → Nat → Int32) (WX : Nat → Nat → Nat → Int32) (y1 : Int32) (y2 : Int32) (H : Heap) (locs : List Loc) (ls : Array Slot) (hf : fX2_run_b39 SI SX nE la nW wd G2 Q MI TT AW LT WI WR WL WX y1 y2) (hG : GS D B A s.heap ((SI, SX), K, (MI, TT, AW, nE, LT, la), (nW, WI, WR, WL, WX, wd), M, O) H locs) (hl : lv_has ls 3 [(0, .ref (B 4)), (1, .int y1), (2, .int y2)]) : W p l e (headSpec wsX2_run rX2_run).room s m args below meth c H locs 0 0 (MQ below (va_Qv post (gB D B A) A) args s 0 0 A) (F0 m 39 ls []) := by
  obtain ⟨hx, hb, hml, hown, hts, hK, hr, hlk, hA, hN⟩ := id C
  unfold fX2_run_b39 at hf
  obtain ⟨x2_20, ex2_20⟩ : ∃ y : Int32, y = y2 + (1 : Int32) := ⟨_, rfl⟩
  replace hf := hf x2_20 ex2_20
  refine lv_iinc (v := x2_20) (lv' := [(2, .int x2_20), (0, .ref (B 4)), (1, .int y1)]) hx hb dX2_run_39 hl (k := 2) rfl (by rw [ex2_20]; rfl) (by decide) rfl (fun ls hl => ?_)
  refine lv_goto (tgt := 2) hx hb dX2_run_42 (by decide) ?_
  exact hG2 MI TT AW LT WI WR WL WX y1 x2_20 _ _ _ hf hG (lv_sub hl [1, 2, 0] rfl)
set_option maxHeartbeats 4000000 in
set_option maxRecDepth 100000 in
theorem vX2_run_h2 {p : Program} {l : Launch} {e : Env} {s : State} {m : MethodId} {args : Array Value} {below : List Frame} {meth : Method} {c : Code} {D : va_G} {B : Nat → Nat} {A : Nat → Prop} {K : sK} {M : sM} {O : sO} {post : sG → Prop} {SI : Nat → Int32} {SX : Nat → Nat → Int32} {nE : Nat} {la : Nat → Nat} {nW : Nat} {wd : Nat → Nat → Nat} {Q : (Nat → Int32) → (Nat → Int64) → (Nat → Int32) → (Nat → Nat → Int32) → (Nat → Nat → Int32) → (Nat → Nat → Nat) → (Nat → Nat → Int32) → (Nat → Nat → Nat → Int32) → Prop} (C : gX p s m args meth c cX2_run 3 (none) wsX2_run RX2 D B A) (hpost : ∀ (MI : Nat → Int32) (TT : Nat → Int64) (AW : Nat → Int32) (LT : Nat → Nat → Int32) (WI : Nat → Nat → Int32) (WR : Nat → Nat → Nat) (WL : Nat → Nat → Int32) (WX : Nat → Nat → Nat → Int32), Q MI TT AW LT WI WR WL WX → post ((SI, SX), K, (MI, TT, AW, nE, LT, la), (nW, WI, WR, WL, WX, wd), M, O))  : ∀ (n2 : Nat) (MI : Nat → Int32) (TT : Nat → Int64) (AW : Nat → Int32) (LT : Nat → Nat → Int32) (WI : Nat → Nat → Int32) (WR : Nat → Nat → Nat) (WL : Nat → Nat → Int32) (WX : Nat → Nat → Nat → Int32) (y1 : Int32) (y2 : Int32) (H : Heap) (locs : List Loc) (ls : Array Slot), fX2_run_h2 SI SX nE la nW wd Q n2 MI TT AW LT WI WR WL WX y1 y2 → GS D B A s.heap ((SI, SX), K, (MI, TT, AW, nE, LT, la), (nW, WI, WR, WL, WX, wd), M, O) H locs → lv_has ls 3 [(0, .ref (B 4)), (1, .int y1), (2, .int y2)] → W p l e (headSpec wsX2_run rX2_run).room s m args below meth c H locs 0 0 (MQ below (va_Qv post (gB D B A) A) args s 0 0 A) (F0 m 2 ls []) := by
  obtain ⟨hx, hb, hml, hown, hts, hK, hr, hlk, hA, hN⟩ := id C
  intro n2
  induction n2 with
  | zero =>
    intro MI TT AW LT WI WR WL WX y1 y2 H locs ls hf
    exact False.elim hf
  | succ n2 hG2 =>
    intro MI TT AW LT WI WR WL WX y1 y2 H locs ls hf hG hl
    unfold fX2_run_h2 at hf
    refine lv_iload_n hx hb dX2_run_2 rfl (lv_at hl 2 rfl) ?_
    refine lv_aload_n hx hb dX2_run_3 rfl (lv_at hl 0 rfl) ?_
    refine gg_L_1 C hG inX2_run_wsX20 (hts _ (List.mem_of_getElem? (i := 1) rfl)) dX2_run_4 ?_
    refine lv_icmp_ge (tgt := 45) hx hb dX2_run_7 (by decide) (fun c_1 => ?_) (fun c_1 => ?_)
    · replace hf := hf.1 c_1
      refine lv_iconst (v := (0 : Int32)) hx hb dX2_run_45 (by decide) ?_
      refine lv_istore_n (lv' := [(2, .int (0 : Int32)), (0, .ref (B 4)), (1, .int y1)]) hx hb dX2_run_46 rfl hl (by decide) rfl (fun ls hl => ?_)
      obtain ⟨n47, hf⟩ := hf
      exact vX2_run_h47 C hpost  n47 MI TT AW LT WI WR WL WX y1 (0 : Int32) _ _ _ hf hG (lv_sub hl [1, 2, 0] rfl)
    · replace hf := hf.2 c_1
      refine lv_aload_n hx hb dX2_run_10 rfl (lv_at hl 0 rfl) ?_
      refine gg_L_2 C hG inX2_run_wsX20 (hts _ (List.mem_of_getElem? (i := 2) rfl)) dX2_run_11 ?_
      refine lv_iload_n hx hb dX2_run_14 rfl (lv_at hl 2 rfl) ?_
      obtain ⟨h_2, hf⟩ := hf
      obtain ⟨z_4, hz_4, h_3, hf⟩ := hf
      refine ga_La C hG h_2 hz_4 h_3 dX2_run_15 ?_
      obtain ⟨h_6, hf⟩ := hf
      refine g_callVi0 (As := []) C hG (kX1_isSettled hf) (cwV 0 hts gX2_run_X1_isSettled rfl rfl rfl hdvX1_isSettled ⟨Nat.le_of_ble_eq_true rfl, Nat.le_of_ble_eq_true rfl⟩) (g_recv_e hK hG h_6) rfl hl.1 rfl (Nat.le_of_ble_eq_true rfl) dX2_run_16 ⟨Nat.zero_le _, Nat.zero_le _⟩ (fun r_5 g1 H locs hq hG => ?_)
      obtain ⟨rfl, hf⟩ := hq
      refine lv_if_ne (tgt := 39) hx hb dX2_run_19 (by decide) (fun c_7 => ?_) (fun c_7 => ?_)
      · replace hf := hf.1 c_7
        exact vX2_run_b39 C hpost hG2 MI TT AW LT WI WR WL WX y1 y2 _ _ _ hf hG (lv_sub hl [0, 1, 2] rfl)
      · replace hf := hf.2 c_7
        refine lv_aload_n hx hb dX2_run_22 rfl (lv_at hl 0 rfl) ?_
        refine gg_L_4 C hG inX2_run_wsX20 (hts _ (List.mem_of_getElem? (i := 3) rfl)) dX2_run_23 ?_
        refine lv_aload_n hx hb dX2_run_26 rfl (lv_at hl 0 rfl) ?_
        refine gg_L_2 C hG inX2_run_wsX20 (hts _ (List.mem_of_getElem? (i := 2) rfl)) dX2_run_27 ?_
        refine lv_iload_n hx hb dX2_run_30 rfl (lv_at hl 2 rfl) ?_
        obtain ⟨h_8, hf⟩ := hf
        obtain ⟨z_10, hz_10, h_9, hf⟩ := hf
        refine ga_La C hG h_8 hz_10 h_9 dX2_run_31 ?_
        obtain ⟨h_11, hf⟩ := hf
        refine gg_e_1 C hG h_11 inX2_run_wsX10 (hts _ (List.mem_of_getElem? (i := 4) rfl)) dX2_run_32 ?_
        obtain ⟨h_12, hf⟩ := hf
        obtain ⟨z_14, hz_14, h_13, hf⟩ := hf
        refine ga_Yt C hG h_12 hz_14 h_13 dX2_run_35 ?_
        obtain ⟨h_19, hf⟩ := hf
        refine g_callVv0 (As := []) C hG (kX4_refresh hf) (cwV 0 hts gX2_run_X4_refresh rfl rfl rfl hdvX4_refresh ⟨Nat.le_of_ble_eq_true rfl, Nat.le_of_ble_eq_true rfl⟩) (g_recv_w hK hG h_19) rfl hl.1 rfl (Nat.le_of_ble_eq_true rfl) dX2_run_36 ⟨Nat.zero_le _, Nat.zero_le _⟩ (fun g1 H locs hq hG => ?_)
        obtain ⟨WI_15, WR_16, WL_17, WX_18, rfl, hf⟩ := hq
        exact vX2_run_b39 C hpost hG2 MI TT AW LT WI_15 WR_16 WL_17 WX_18 y1 y2 _ _ _ hf hG (lv_sub hl [0, 1, 2] rfl)
set_option maxHeartbeats 4000000 in
set_option maxRecDepth 100000 in
theorem vX2_run_b0 {p : Program} {l : Launch} {e : Env} {s : State} {m : MethodId} {args : Array Value} {below : List Frame} {meth : Method} {c : Code} {D : va_G} {B : Nat → Nat} {A : Nat → Prop} {K : sK} {M : sM} {O : sO} {post : sG → Prop} {SI : Nat → Int32} {SX : Nat → Nat → Int32} {nE : Nat} {la : Nat → Nat} {nW : Nat} {wd : Nat → Nat → Nat} {Q : (Nat → Int32) → (Nat → Int64) → (Nat → Int32) → (Nat → Nat → Int32) → (Nat → Nat → Int32) → (Nat → Nat → Nat) → (Nat → Nat → Int32) → (Nat → Nat → Nat → Int32) → Prop} (C : gX p s m args meth c cX2_run 3 (none) wsX2_run RX2 D B A) (hpost : ∀ (MI : Nat → Int32) (TT : Nat → Int64) (AW : Nat → Int32) (LT : Nat → Nat → Int32) (WI : Nat → Nat → Int32) (WR : Nat → Nat → Nat) (WL : Nat → Nat → Int32) (WX : Nat → Nat → Nat → Int32), Q MI TT AW LT WI WR WL WX → post ((SI, SX), K, (MI, TT, AW, nE, LT, la), (nW, WI, WR, WL, WX, wd), M, O))  (MI : Nat → Int32) (TT : Nat → Int64) (AW : Nat → Int32) (LT : Nat → Nat → Int32) (WI : Nat → Nat → Int32) (WR : Nat → Nat → Nat) (WL : Nat → Nat → Int32) (WX : Nat → Nat → Nat → Int32) (x1 : Int32) (H : Heap) (locs : List Loc) (ls : Array Slot) (hf : fX2_run SI SX nE la nW wd Q MI TT AW LT WI WR WL WX x1) (hG : GS D B A s.heap ((SI, SX), K, (MI, TT, AW, nE, LT, la), (nW, WI, WR, WL, WX, wd), M, O) H locs) (hl : lv_has ls 3 [(0, .ref (B 4)), (1, .int x1)]) : W p l e (headSpec wsX2_run rX2_run).room s m args below meth c H locs 0 0 (MQ below (va_Qv post (gB D B A) A) args s 0 0 A) (F0 m 0 ls []) := by
  obtain ⟨hx, hb, hml, hown, hts, hK, hr, hlk, hA, hN⟩ := id C
  unfold fX2_run at hf
  refine lv_iconst (v := (0 : Int32)) hx hb dX2_run_0 (by decide) ?_
  refine lv_istore_n (lv' := [(2, .int (0 : Int32)), (0, .ref (B 4)), (1, .int x1)]) hx hb dX2_run_1 rfl hl (by decide) rfl (fun ls hl => ?_)
  obtain ⟨n2, hf⟩ := hf
  exact vX2_run_h2 C hpost  n2 MI TT AW LT WI WR WL WX x1 (0 : Int32) _ _ _ hf hG (lv_sub hl [1, 2, 0] rfl)
set_option maxRecDepth 100000 in
theorem kX2_run {l : Launch} {D : va_G} {B : Nat → Nat} {K : sK} {M : sM} {O : sO} {SI : Nat → Int32} {SX : Nat → Nat → Int32} {nE : Nat} {la : Nat → Nat} {nW : Nat} {wd : Nat → Nat → Nat} {Q : (Nat → Int32) → (Nat → Int64) → (Nat → Int32) → (Nat → Nat → Int32) → (Nat → Nat → Int32) → (Nat → Nat → Nat) → (Nat → Nat → Int32) → (Nat → Nat → Nat → Int32) → Prop} {MI : Nat → Int32} {TT : Nat → Int64} {AW : Nat → Int32} {LT : Nat → Nat → Int32} {WI : Nat → Nat → Int32} {WR : Nat → Nat → Nat} {WL : Nat → Nat → Int32} {WX : Nat → Nat → Nat → Int32} {x1 : Int32} (hf : fX2_run SI SX nE la nW wd Q MI TT AW LT WI WR WL WX x1) : gMv D B l yX2_run wsX2_run rX2_run 0 0 [.ref (B 4), .int x1] ((SI, SX), K, (MI, TT, AW, nE, LT, la), (nW, WI, WR, WL, WX, wd), M, O) (fun g1 => ∃ (MI1 : Nat → Int32) (TT1 : Nat → Int64) (AW1 : Nat → Int32) (LT1 : Nat → Nat → Int32) (WI1 : Nat → Nat → Int32) (WR1 : Nat → Nat → Nat) (WL1 : Nat → Nat → Int32) (WX1 : Nat → Nat → Nat → Int32), g1 = ((SI, SX), K, (MI1, TT1, AW1, nE, LT1, la), (nW, WI1, WR1, WL1, WX1, wd), M, O) ∧ Q MI1 TT1 AW1 LT1 WI1 WR1 WL1 WX1) := by
  refine gMv_of (cc := cX2_run) (maxL := 3) (ret := none) (by decide +kernel) rfl (Nat.le_of_ble_eq_true rfl) ?_
  intro p e s m below meth c A hA0 C hG ls hl
  exact vX2_run_b0 C (fun MI TT AW LT WI WR WL WX hq => ⟨MI, TT, AW, LT, WI, WR, WL, WX, rfl, hq⟩) MI TT AW LT WI WR WL WX x1 _ _ _ hf hG hl

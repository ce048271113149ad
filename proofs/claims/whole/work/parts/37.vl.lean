set_option maxHeartbeats 4000000 in
set_option maxRecDepth 100000 in
theorem vL_law_1123 {p : Program} {l : Launch} {e : Env} {s : State} {m : MethodId} {below : List Frame} {meth : Method} {c : Code} {D : va_G} {B : Nat → Nat} {b L : Nat} {xs : Nat → Int32} {cl sl : Nat} (C : gX p s m #[Value.ref b] meth c cL_law 7 ret wsL_law RL D B (fun q => s.heap.size ≤ q)) (hE : gE l (fun q => s.heap.size ≤ q) s s.heap) (hX : va_X b L xs s s.heap) (hbl : b < s.heap.size) (h9 : cl + 9 ≤ 601024) (hs9 : sl + 1991 ≤ 7293034) {y4 : Int32} {G23 : (Nat → Int32) → (Nat → Nat → Int32) → (Int64) → (Int32) → (Nat → Nat → Int64) → (Nat → Nat → Int32) → (Nat → Int32) → (Nat → Int64) → (Nat → Int32) → (Nat) → (Nat → Nat → Int32) → (Nat → Nat) → (Nat) → (Nat → Nat → Int32) → (Nat → Nat → Nat) → (Nat → Nat → Int32) → (Nat → Nat → Nat → Int32) → (Nat → Nat → Nat) → (Nat → Int32) → (Nat → Nat → Int32) → (Nat → Int64) → Int32 → Prop} (hG23 : ∀ (SI : Nat → Int32) (SX : Nat → Nat → Int32) (CU : Int64) (CQ : Int32) (CJ : Nat → Nat → Int64) (CX : Nat → Nat → Int32) (MI : Nat → Int32) (TT : Nat → Int64) (AW : Nat → Int32) (nE : Nat) (LT : Nat → Nat → Int32) (la : Nat → Nat) (nW : Nat) (WI : Nat → Nat → Int32) (WR : Nat → Nat → Nat) (WL : Nat → Nat → Int32) (WX : Nat → Nat → Nat → Int32) (wd : Nat → Nat → Nat) (I : Nat → Int32) (X : Nat → Nat → Int32) (O : Nat → Int64) (H : Heap) (locs : List Loc) (ls : Array Slot), G23 SI SX CU CQ CJ CX MI TT AW nE LT la nW WI WR WL WX wd I X O (y4 + (4 : Int32)) → GS D B (fun q => s.heap.size ≤ q) s.heap ((SI, SX), (CU, CQ, CJ, CX), (MI, TT, AW, nE, LT, la), (nW, WI, WR, WL, WX, wd), (I, X), O) H locs → lv_has ls 7 [(0, .ref (b)), (1, .ref (B 1)), (2, .ref (B 0)), (3, .ref (B 9)), (4, .int (y4 + (4 : Int32)))] → W p l e room_1 s m #[Value.ref b] below meth c H locs (cl + 9) (sl + 1991) (lw_Z below #[Value.ref b] s) (F0 m 23 ls [])) (SI : Nat → Int32) (SX : Nat → Nat → Int32) (CU : Int64) (CQ : Int32) (CJ : Nat → Nat → Int64) (CX : Nat → Nat → Int32) (MI : Nat → Int32) (TT : Nat → Int64) (AW : Nat → Int32) (nE : Nat) (LT : Nat → Nat → Int32) (la : Nat → Nat) (nW : Nat) (WI : Nat → Nat → Int32) (WR : Nat → Nat → Nat) (WL : Nat → Nat → Int32) (WX : Nat → Nat → Nat → Int32) (wd : Nat → Nat → Nat) (I : Nat → Int32) (X : Nat → Nat → Int32) (O : Nat → Int64)  (H : Heap) (locs : List Loc) (ls : Array Slot) (hf : fL_law_1123 L xs G23 SI SX CU CQ CJ CX MI TT AW nE LT la nW WI WR WL WX wd I X O y4) (hG : GS D B (fun q => s.heap.size ≤ q) s.heap ((SI, SX), (CU, CQ, CJ, CX), (MI, TT, AW, nE, LT, la), (nW, WI, WR, WL, WX, wd), (I, X), O) H locs) (hl : lv_has ls 7 [(0, .ref (b)), (1, .ref (B 1)), (2, .ref (B 0)), (3, .ref (B 9)), (4, .int y4)]) : W p l e room_1 s m #[Value.ref b] below meth c H locs (cl + 9) (sl + 1991) (lw_Z below #[Value.ref b] s) (F0 m 1123 ls []) := by
  obtain ⟨hx, hb, hml, hown, hts, hK, hr, hlk, hA, hN⟩ := id C
  unfold fL_law_1123 at hf
  obtain ⟨x4_264, ex4_264⟩ : ∃ y : Int32, y = y4 + (4 : Int32) := ⟨_, rfl⟩
  replace hf := hf x4_264 ex4_264
  refine lv_iinc (v := x4_264) (lv' := [(4, .int x4_264), (0, .ref (b)), (1, .ref (B 1)), (2, .ref (B 0)), (3, .ref (B 9))]) hx hb dL_law_1123 hl (k := 4) rfl (by rw [ex4_264]; rfl) (by decide) rfl (fun ls hl => ?_)
  refine lv_goto (tgt := 23) hx hb dL_law_1126 (by decide) ?_
  subst ex4_264
  exact hG23 SI SX CU CQ CJ CX MI TT AW nE LT la nW WI WR WL WX wd I X O _ _ _ hf hG (lv_sub hl [1, 2, 3, 4, 0] rfl)
set_option maxHeartbeats 4000000 in
set_option maxRecDepth 100000 in
theorem vL_law_1098 {p : Program} {l : Launch} {e : Env} {s : State} {m : MethodId} {below : List Frame} {meth : Method} {c : Code} {D : va_G} {B : Nat → Nat} {b L : Nat} {xs : Nat → Int32} {cl sl : Nat} (C : gX p s m #[Value.ref b] meth c cL_law 7 ret wsL_law RL D B (fun q => s.heap.size ≤ q)) (hE : gE l (fun q => s.heap.size ≤ q) s s.heap) (hX : va_X b L xs s s.heap) (hbl : b < s.heap.size) (h9 : cl + 9 ≤ 601024) (hs9 : sl + 1991 ≤ 7293034) {y4 : Int32} {G23 : (Nat → Int32) → (Nat → Nat → Int32) → (Int64) → (Int32) → (Nat → Nat → Int64) → (Nat → Nat → Int32) → (Nat → Int32) → (Nat → Int64) → (Nat → Int32) → (Nat) → (Nat → Nat → Int32) → (Nat → Nat) → (Nat) → (Nat → Nat → Int32) → (Nat → Nat → Nat) → (Nat → Nat → Int32) → (Nat → Nat → Nat → Int32) → (Nat → Nat → Nat) → (Nat → Int32) → (Nat → Nat → Int32) → (Nat → Int64) → Int32 → Prop} (hG23 : ∀ (SI : Nat → Int32) (SX : Nat → Nat → Int32) (CU : Int64) (CQ : Int32) (CJ : Nat → Nat → Int64) (CX : Nat → Nat → Int32) (MI : Nat → Int32) (TT : Nat → Int64) (AW : Nat → Int32) (nE : Nat) (LT : Nat → Nat → Int32) (la : Nat → Nat) (nW : Nat) (WI : Nat → Nat → Int32) (WR : Nat → Nat → Nat) (WL : Nat → Nat → Int32) (WX : Nat → Nat → Nat → Int32) (wd : Nat → Nat → Nat) (I : Nat → Int32) (X : Nat → Nat → Int32) (O : Nat → Int64) (H : Heap) (locs : List Loc) (ls : Array Slot), G23 SI SX CU CQ CJ CX MI TT AW nE LT la nW WI WR WL WX wd I X O (y4 + (4 : Int32)) → GS D B (fun q => s.heap.size ≤ q) s.heap ((SI, SX), (CU, CQ, CJ, CX), (MI, TT, AW, nE, LT, la), (nW, WI, WR, WL, WX, wd), (I, X), O) H locs → lv_has ls 7 [(0, .ref (b)), (1, .ref (B 1)), (2, .ref (B 0)), (3, .ref (B 9)), (4, .int (y4 + (4 : Int32)))] → W p l e room_1 s m #[Value.ref b] below meth c H locs (cl + 9) (sl + 1991) (lw_Z below #[Value.ref b] s) (F0 m 23 ls [])) (SI : Nat → Int32) (SX : Nat → Nat → Int32) (CU : Int64) (CQ : Int32) (CJ : Nat → Nat → Int64) (CX : Nat → Nat → Int32) (MI : Nat → Int32) (TT : Nat → Int64) (AW : Nat → Int32) (nE : Nat) (LT : Nat → Nat → Int32) (la : Nat → Nat) (nW : Nat) (WI : Nat → Nat → Int32) (WR : Nat → Nat → Nat) (WL : Nat → Nat → Int32) (WX : Nat → Nat → Nat → Int32) (wd : Nat → Nat → Nat) (I : Nat → Int32) (X : Nat → Nat → Int32) (O : Nat → Int64)  (H : Heap) (locs : List Loc) (ls : Array Slot) (hf : fL_law_1098 L xs G23 SI SX CU CQ CJ CX MI TT AW nE LT la nW WI WR WL WX wd I X O y4) (hG : GS D B (fun q => s.heap.size ≤ q) s.heap ((SI, SX), (CU, CQ, CJ, CX), (MI, TT, AW, nE, LT, la), (nW, WI, WR, WL, WX, wd), (I, X), O) H locs) (hl : lv_has ls 7 [(0, .ref (b)), (1, .ref (B 1)), (2, .ref (B 0)), (3, .ref (B 9)), (4, .int y4)]) : W p l e room_1 s m #[Value.ref b] below meth c H locs cl sl (lw_Z below #[Value.ref b] s) (F0 m 1098 ls []) := by
  obtain ⟨hx, hb, hml, hown, hts, hK, hr, hlk, hA, hN⟩ := id C
  unfold fL_law_1098 at hf
  refine lv_aload_n hx hb dL_law_1098 rfl (lv_at hl 1 rfl) ?_
  refine lv_aload_n hx hb dL_law_1099 rfl (lv_at hl 0 rfl) ?_
  refine lv_iload hx hb dL_law_1100 (lv_at hl 4 rfl) ?_
  refine lv_iconst (v := (1 : Int32)) hx hb dL_law_1102 (by decide) ?_
  refine lv_iadd hx hb dL_law_1103 ?_
  obtain ⟨h_257, hf⟩ := hf
  refine va_sld hx hb hX hbl (Nat.not_le.mpr hbl) hG.2.2 h_257 dL_law_1104 ?_
  refine g_callVi0 (As := [.int (xs (y4 + (1 : Int32)).toNatClampNeg)]) C hG (kX5_count hf) (cwV 1 hts gL_law_X5_count rfl rfl rfl hdvX5_count ⟨Nat.le_of_ble_eq_true rfl, Nat.le_of_ble_eq_true rfl⟩) (va_recv hK hG.1 (ci := 5) (q0 := 41) rfl rfl) rfl hl.1 rfl (Nat.le_of_ble_eq_true rfl) dL_law_1105 ⟨by show _ ≤ 601024; omega, by show _ ≤ 7293034; omega⟩ (fun r_258 g1 H locs hq hG => ?_)
  obtain ⟨rfl, hf⟩ := hq
  refine lv_aload_n hx hb dL_law_1108 rfl (lv_at hl 2 rfl) ?_
  refine lv_aload_n hx hb dL_law_1109 rfl (lv_at hl 0 rfl) ?_
  refine lv_iload hx hb dL_law_1110 (lv_at hl 4 rfl) ?_
  refine lv_iconst (v := (1 : Int32)) hx hb dL_law_1112 (by decide) ?_
  refine lv_iadd hx hb dL_law_1113 ?_
  obtain ⟨h_259, hf⟩ := hf
  refine va_sld hx hb hX hbl (Nat.not_le.mpr hbl) hG.2.2 h_259 dL_law_1114 ?_
  refine g_callVi0 (As := [.int (xs (y4 + (1 : Int32)).toNatClampNeg)]) C hG (kX6_count hf) (cwV 1 hts gL_law_X6_count rfl rfl rfl hdvX6_count ⟨Nat.le_of_ble_eq_true rfl, Nat.le_of_ble_eq_true rfl⟩) (va_recv hK hG.1 (ci := 6) (q0 := 0) rfl rfl) rfl hl.1 rfl (Nat.le_of_ble_eq_true rfl) dL_law_1115 ⟨by show _ ≤ 601024; omega, by show _ ≤ 7293034; omega⟩ (fun r_262 g1 H locs hq hG => ?_)
  obtain ⟨I_260, X_261, rfl, hf⟩ := hq
  refine lv_icmp_eq (tgt := 1123) hx hb dL_law_1118 (by decide) (fun c_263 => ?_) (fun c_263 => ?_)
  · replace hf := hf.1 c_263
    refine W.widen (k := cl + 9) (n := sl + 1991) (by omega) (by omega) ?_
    exact vL_law_1123 C hE hX hbl h9 hs9 hG23 SI SX CU CQ CJ CX MI TT AW nE LT la nW WI WR WL WX wd I_260 X_261 O _ _ _ hf hG (lv_sub hl [0, 1, 2, 3, 4] rfl)
  · replace hf := hf.2 c_263
    refine lv_iconst (v := (0 : Int32)) hx hb dL_law_1121 (by decide) ?_
    exact hf.elim
set_option maxHeartbeats 4000000 in
set_option maxRecDepth 100000 in
theorem vL_law_1095 {p : Program} {l : Launch} {e : Env} {s : State} {m : MethodId} {below : List Frame} {meth : Method} {c : Code} {D : va_G} {B : Nat → Nat} {b L : Nat} {xs : Nat → Int32} {cl sl : Nat} (C : gX p s m #[Value.ref b] meth c cL_law 7 ret wsL_law RL D B (fun q => s.heap.size ≤ q)) (hE : gE l (fun q => s.heap.size ≤ q) s s.heap) (hX : va_X b L xs s s.heap) (hbl : b < s.heap.size) (h9 : cl + 9 ≤ 601024) (hs9 : sl + 1991 ≤ 7293034) {y4 : Int32} {G23 : (Nat → Int32) → (Nat → Nat → Int32) → (Int64) → (Int32) → (Nat → Nat → Int64) → (Nat → Nat → Int32) → (Nat → Int32) → (Nat → Int64) → (Nat → Int32) → (Nat) → (Nat → Nat → Int32) → (Nat → Nat) → (Nat) → (Nat → Nat → Int32) → (Nat → Nat → Nat) → (Nat → Nat → Int32) → (Nat → Nat → Nat → Int32) → (Nat → Nat → Nat) → (Nat → Int32) → (Nat → Nat → Int32) → (Nat → Int64) → Int32 → Prop} (hG23 : ∀ (SI : Nat → Int32) (SX : Nat → Nat → Int32) (CU : Int64) (CQ : Int32) (CJ : Nat → Nat → Int64) (CX : Nat → Nat → Int32) (MI : Nat → Int32) (TT : Nat → Int64) (AW : Nat → Int32) (nE : Nat) (LT : Nat → Nat → Int32) (la : Nat → Nat) (nW : Nat) (WI : Nat → Nat → Int32) (WR : Nat → Nat → Nat) (WL : Nat → Nat → Int32) (WX : Nat → Nat → Nat → Int32) (wd : Nat → Nat → Nat) (I : Nat → Int32) (X : Nat → Nat → Int32) (O : Nat → Int64) (H : Heap) (locs : List Loc) (ls : Array Slot), G23 SI SX CU CQ CJ CX MI TT AW nE LT la nW WI WR WL WX wd I X O (y4 + (4 : Int32)) → GS D B (fun q => s.heap.size ≤ q) s.heap ((SI, SX), (CU, CQ, CJ, CX), (MI, TT, AW, nE, LT, la), (nW, WI, WR, WL, WX, wd), (I, X), O) H locs → lv_has ls 7 [(0, .ref (b)), (1, .ref (B 1)), (2, .ref (B 0)), (3, .ref (B 9)), (4, .int (y4 + (4 : Int32)))] → W p l e room_1 s m #[Value.ref b] below meth c H locs (cl + 9) (sl + 1991) (lw_Z below #[Value.ref b] s) (F0 m 23 ls [])) (SI : Nat → Int32) (SX : Nat → Nat → Int32) (CU : Int64) (CQ : Int32) (CJ : Nat → Nat → Int64) (CX : Nat → Nat → Int32) (MI : Nat → Int32) (TT : Nat → Int64) (AW : Nat → Int32) (nE : Nat) (LT : Nat → Nat → Int32) (la : Nat → Nat) (nW : Nat) (WI : Nat → Nat → Int32) (WR : Nat → Nat → Nat) (WL : Nat → Nat → Int32) (WX : Nat → Nat → Nat → Int32) (wd : Nat → Nat → Nat) (I : Nat → Int32) (X : Nat → Nat → Int32) (O : Nat → Int64)  (H : Heap) (locs : List Loc) (ls : Array Slot) (hf : fL_law_1095 L xs G23 SI SX CU CQ CJ CX MI TT AW nE LT la nW WI WR WL WX wd I X O y4) (hG : GS D B (fun q => s.heap.size ≤ q) s.heap ((SI, SX), (CU, CQ, CJ, CX), (MI, TT, AW, nE, LT, la), (nW, WI, WR, WL, WX, wd), (I, X), O) H locs) (hl : lv_has ls 7 [(0, .ref (b)), (1, .ref (B 1)), (2, .ref (B 0)), (3, .ref (B 9)), (4, .int y4)]) : W p l e room_1 s m #[Value.ref b] below meth c H locs (cl + 1) (sl + 6) (lw_Z below #[Value.ref b] s) (F0 m 1095 ls []) := by
  obtain ⟨hx, hb, hml, hown, hts, hK, hr, hlk, hA, hN⟩ := id C
  unfold fL_law_1095 at hf
  refine lv_goto (tgt := 1123) hx hb dL_law_1095 (by decide) ?_
  refine W.widen (k := cl + 9) (n := sl + 1991) (by omega) (by omega) ?_
  exact vL_law_1123 C hE hX hbl h9 hs9 hG23 SI SX CU CQ CJ CX MI TT AW nE LT la nW WI WR WL WX wd I X O _ _ _ hf hG (lv_sub hl [0, 1, 2, 3, 4] rfl)
set_option maxHeartbeats 4000000 in
set_option maxRecDepth 100000 in
theorem vL_law_1030 {p : Program} {l : Launch} {e : Env} {s : State} {m : MethodId} {below : List Frame} {meth : Method} {c : Code} {D : va_G} {B : Nat → Nat} {b L : Nat} {xs : Nat → Int32} {cl sl : Nat} (C : gX p s m #[Value.ref b] meth c cL_law 7 ret wsL_law RL D B (fun q => s.heap.size ≤ q)) (hE : gE l (fun q => s.heap.size ≤ q) s s.heap) (hX : va_X b L xs s s.heap) (hbl : b < s.heap.size) (h9 : cl + 9 ≤ 601024) (hs9 : sl + 1991 ≤ 7293034) {y4 : Int32} {G23 : (Nat → Int32) → (Nat → Nat → Int32) → (Int64) → (Int32) → (Nat → Nat → Int64) → (Nat → Nat → Int32) → (Nat → Int32) → (Nat → Int64) → (Nat → Int32) → (Nat) → (Nat → Nat → Int32) → (Nat → Nat) → (Nat) → (Nat → Nat → Int32) → (Nat → Nat → Nat) → (Nat → Nat → Int32) → (Nat → Nat → Nat → Int32) → (Nat → Nat → Nat) → (Nat → Int32) → (Nat → Nat → Int32) → (Nat → Int64) → Int32 → Prop} (hG23 : ∀ (SI : Nat → Int32) (SX : Nat → Nat → Int32) (CU : Int64) (CQ : Int32) (CJ : Nat → Nat → Int64) (CX : Nat → Nat → Int32) (MI : Nat → Int32) (TT : Nat → Int64) (AW : Nat → Int32) (nE : Nat) (LT : Nat → Nat → Int32) (la : Nat → Nat) (nW : Nat) (WI : Nat → Nat → Int32) (WR : Nat → Nat → Nat) (WL : Nat → Nat → Int32) (WX : Nat → Nat → Nat → Int32) (wd : Nat → Nat → Nat) (I : Nat → Int32) (X : Nat → Nat → Int32) (O : Nat → Int64) (H : Heap) (locs : List Loc) (ls : Array Slot), G23 SI SX CU CQ CJ CX MI TT AW nE LT la nW WI WR WL WX wd I X O (y4 + (4 : Int32)) → GS D B (fun q => s.heap.size ≤ q) s.heap ((SI, SX), (CU, CQ, CJ, CX), (MI, TT, AW, nE, LT, la), (nW, WI, WR, WL, WX, wd), (I, X), O) H locs → lv_has ls 7 [(0, .ref (b)), (1, .ref (B 1)), (2, .ref (B 0)), (3, .ref (B 9)), (4, .int (y4 + (4 : Int32)))] → W p l e room_1 s m #[Value.ref b] below meth c H locs (cl + 9) (sl + 1991) (lw_Z below #[Value.ref b] s) (F0 m 23 ls [])) (SI : Nat → Int32) (SX : Nat → Nat → Int32) (CU : Int64) (CQ : Int32) (CJ : Nat → Nat → Int64) (CX : Nat → Nat → Int32) (MI : Nat → Int32) (TT : Nat → Int64) (AW : Nat → Int32) (nE : Nat) (LT : Nat → Nat → Int32) (la : Nat → Nat) (nW : Nat) (WI : Nat → Nat → Int32) (WR : Nat → Nat → Nat) (WL : Nat → Nat → Int32) (WX : Nat → Nat → Nat → Int32) (wd : Nat → Nat → Nat) (I : Nat → Int32) (X : Nat → Nat → Int32) (O : Nat → Int64)  (H : Heap) (locs : List Loc) (ls : Array Slot) (hf : fL_law_1030 L xs G23 SI SX CU CQ CJ CX MI TT AW nE LT la nW WI WR WL WX wd I X O y4) (hG : GS D B (fun q => s.heap.size ≤ q) s.heap ((SI, SX), (CU, CQ, CJ, CX), (MI, TT, AW, nE, LT, la), (nW, WI, WR, WL, WX, wd), (I, X), O) H locs) (hl : lv_has ls 7 [(0, .ref (b)), (1, .ref (B 1)), (2, .ref (B 0)), (3, .ref (B 9)), (4, .int y4)]) : W p l e room_1 s m #[Value.ref b] below meth c H locs cl sl (lw_Z below #[Value.ref b] s) (F0 m 1030 ls []) := by
  obtain ⟨hx, hb, hml, hown, hts, hK, hr, hlk, hA, hN⟩ := id C
  unfold fL_law_1030 at hf
  refine lv_aload_n hx hb dL_law_1030 rfl (lv_at hl 1 rfl) ?_
  refine lv_aload_n hx hb dL_law_1031 rfl (lv_at hl 0 rfl) ?_
  refine lv_iload hx hb dL_law_1032 (lv_at hl 4 rfl) ?_
  refine lv_iconst (v := (1 : Int32)) hx hb dL_law_1034 (by decide) ?_
  refine lv_iadd hx hb dL_law_1035 ?_
  obtain ⟨h_243, hf⟩ := hf
  refine va_sld hx hb hX hbl (Nat.not_le.mpr hbl) hG.2.2 h_243 dL_law_1036 ?_
  refine lv_aload_n hx hb dL_law_1037 rfl (lv_at hl 0 rfl) ?_
  refine lv_iload hx hb dL_law_1038 (lv_at hl 4 rfl) ?_
  refine lv_iconst (v := (2 : Int32)) hx hb dL_law_1040 (by decide) ?_
  refine lv_iadd hx hb dL_law_1041 ?_
  obtain ⟨h_244, hf⟩ := hf
  refine va_sld hx hb hX hbl (Nat.not_le.mpr hbl) hG.2.2 h_244 dL_law_1042 ?_
  refine lv_aload_n hx hb dL_law_1043 rfl (lv_at hl 3 rfl) ?_
  refine g_callLi (As := [.ref (B 1), .int (xs (y4 + (1 : Int32)).toNatClampNeg), .int (xs (y4 + (2 : Int32)).toNatClampNeg), .ref (B 9)]) C hE hG (kL_look hf) (vx_cwSW 4 hts gL_law_L_look rfl rfl rfl hdsL_look ⟨Nat.le_of_ble_eq_true rfl, Nat.le_of_ble_eq_true rfl⟩) rfl hl.1 rfl (Nat.le_of_ble_eq_true rfl) dL_law_1044 ⟨by show _ ≤ 601024; omega, by show _ ≤ 7293034; omega⟩ (fun r_246 g1 H locs hq hG => ?_)
  obtain ⟨O_245, rfl, hf⟩ := hq
  refine lv_istore (lv' := [(5, .int r_246), (0, .ref (b)), (1, .ref (B 1)), (2, .ref (B 0)), (3, .ref (B 9)), (4, .int y4)]) hx hb dL_law_1047 hl (by decide) rfl (fun ls hl => ?_)
  refine lv_aload_n hx hb dL_law_1049 rfl (lv_at hl 3 rfl) ?_
  refine lv_aload_n hx hb dL_law_1050 rfl (lv_at hl 1 rfl) ?_
  refine lv_iload hx hb dL_law_1051 (lv_at hl 5 rfl) ?_
  refine lv_iconst (v := (1 : Int32)) hx hb dL_law_1053 (by decide) ?_
  refine lv_iadd hx hb dL_law_1054 ?_
  obtain ⟨h_247, hf⟩ := hf
  refine va_sld hx hb hX hbl (Nat.not_le.mpr hbl) hG.2.2 h_247 dL_law_1055 ?_
  refine lv_aload_n hx hb dL_law_1056 rfl (lv_at hl 1 rfl) ?_
  refine lv_iload hx hb dL_law_1057 (lv_at hl 5 rfl) ?_
  refine lv_iconst (v := (2 : Int32)) hx hb dL_law_1059 (by decide) ?_
  refine lv_iadd hx hb dL_law_1060 ?_
  obtain ⟨h_248, hf⟩ := hf
  refine va_sld hx hb hX hbl (Nat.not_le.mpr hbl) hG.2.2 h_248 dL_law_1061 ?_
  refine g_callVi0 (As := [.int (xs (y4 + (1 : Int32)).toNatClampNeg), .int (xs (y4 + (2 : Int32)).toNatClampNeg)]) C hG (kX6_look hf) (cwV 2 hts gL_law_X6_look rfl rfl rfl hdvX6_look ⟨Nat.le_of_ble_eq_true rfl, Nat.le_of_ble_eq_true rfl⟩) (va_recv hK hG.1 (ci := 6) (q0 := 0) rfl rfl) rfl hl.1 rfl (Nat.le_of_ble_eq_true rfl) dL_law_1062 ⟨by show _ ≤ 601024; omega, by show _ ≤ 7293034; omega⟩ (fun r_251 g1 H locs hq hG => ?_)
  obtain ⟨I_249, X_250, rfl, hf⟩ := hq
  refine lv_istore (lv' := [(6, .int r_251), (5, .int r_246), (0, .ref (b)), (1, .ref (B 1)), (2, .ref (B 0)), (3, .ref (B 9)), (4, .int y4)]) hx hb dL_law_1065 hl (by decide) rfl (fun ls hl => ?_)
  refine lv_aload_n hx hb dL_law_1067 rfl (lv_at hl 4 rfl) ?_
  refine g_callVi0 (As := []) C hG (kX6_thrown hf) (cwV 0 hts gL_law_X6_thrown rfl rfl rfl hdvX6_thrown ⟨Nat.le_of_ble_eq_true rfl, Nat.le_of_ble_eq_true rfl⟩) (va_recv hK hG.1 (ci := 6) (q0 := 0) rfl rfl) rfl hl.1 rfl (Nat.le_of_ble_eq_true rfl) dL_law_1068 ⟨by show _ ≤ 601024; omega, by show _ ≤ 7293034; omega⟩ (fun r_252 g1 H locs hq hG => ?_)
  obtain ⟨rfl, hf⟩ := hq
  refine lv_iload hx hb dL_law_1071 (lv_at hl 1 rfl) ?_
  refine lv_icmp_eq (tgt := 1078) hx hb dL_law_1073 (by decide) (fun c_253 => ?_) (fun c_253 => ?_)
  · replace hf := hf.1 c_253
    refine lv_iload hx hb dL_law_1078 (lv_at hl 1 rfl) ?_
    refine lv_if_ne (tgt := 1095) hx hb dL_law_1080 (by decide) (fun c_254 => ?_) (fun c_254 => ?_)
    · replace hf := hf.1 c_254
      exact vL_law_1095 C hE hX hbl h9 hs9 hG23 SI SX CU CQ CJ CX MI TT AW nE LT la nW WI WR WL WX wd I_249 X_250 O_245 _ _ _ hf hG (lv_sub hl [2, 3, 4, 5, 6] rfl)
    · replace hf := hf.2 c_254
      refine lv_aload_n hx hb dL_law_1083 rfl (lv_at hl 5 rfl) ?_
      refine lv_iconst (v := (0 : Int32)) hx hb dL_law_1084 (by decide) ?_
      obtain ⟨h_255, hf⟩ := hf
      refine ga_O C hG h_255 dL_law_1085 ?_
      refine lv_iload hx hb dL_law_1086 (lv_at hl 0 rfl) ?_
      refine lv_i2l hx hb dL_law_1088 rfl ?_
      refine W.lcmp hx hb dL_law_1089 ?_
      refine lv_if_eq (tgt := 1095) hx hb dL_law_1090 (by decide) (fun c_256 => ?_) (fun c_256 => ?_)
      · replace hf := hf.1 c_256
        exact vL_law_1095 C hE hX hbl h9 hs9 hG23 SI SX CU CQ CJ CX MI TT AW nE LT la nW WI WR WL WX wd I_249 X_250 O_245 _ _ _ hf hG (lv_sub hl [2, 3, 4, 5, 6] rfl)
      · replace hf := hf.2 c_256
        refine lv_iconst (v := (0 : Int32)) hx hb dL_law_1093 (by decide) ?_
        exact hf.elim
  · replace hf := hf.2 c_253
    refine lv_iconst (v := (0 : Int32)) hx hb dL_law_1076 (by decide) ?_
    exact hf.elim
set_option maxHeartbeats 4000000 in
set_option maxRecDepth 100000 in
theorem vL_law_1027 {p : Program} {l : Launch} {e : Env} {s : State} {m : MethodId} {below : List Frame} {meth : Method} {c : Code} {D : va_G} {B : Nat → Nat} {b L : Nat} {xs : Nat → Int32} {cl sl : Nat} (C : gX p s m #[Value.ref b] meth c cL_law 7 ret wsL_law RL D B (fun q => s.heap.size ≤ q)) (hE : gE l (fun q => s.heap.size ≤ q) s s.heap) (hX : va_X b L xs s s.heap) (hbl : b < s.heap.size) (h9 : cl + 9 ≤ 601024) (hs9 : sl + 1991 ≤ 7293034) {y4 : Int32} {G23 : (Nat → Int32) → (Nat → Nat → Int32) → (Int64) → (Int32) → (Nat → Nat → Int64) → (Nat → Nat → Int32) → (Nat → Int32) → (Nat → Int64) → (Nat → Int32) → (Nat) → (Nat → Nat → Int32) → (Nat → Nat) → (Nat) → (Nat → Nat → Int32) → (Nat → Nat → Nat) → (Nat → Nat → Int32) → (Nat → Nat → Nat → Int32) → (Nat → Nat → Nat) → (Nat → Int32) → (Nat → Nat → Int32) → (Nat → Int64) → Int32 → Prop} (hG23 : ∀ (SI : Nat → Int32) (SX : Nat → Nat → Int32) (CU : Int64) (CQ : Int32) (CJ : Nat → Nat → Int64) (CX : Nat → Nat → Int32) (MI : Nat → Int32) (TT : Nat → Int64) (AW : Nat → Int32) (nE : Nat) (LT : Nat → Nat → Int32) (la : Nat → Nat) (nW : Nat) (WI : Nat → Nat → Int32) (WR : Nat → Nat → Nat) (WL : Nat → Nat → Int32) (WX : Nat → Nat → Nat → Int32) (wd : Nat → Nat → Nat) (I : Nat → Int32) (X : Nat → Nat → Int32) (O : Nat → Int64) (H : Heap) (locs : List Loc) (ls : Array Slot), G23 SI SX CU CQ CJ CX MI TT AW nE LT la nW WI WR WL WX wd I X O (y4 + (4 : Int32)) → GS D B (fun q => s.heap.size ≤ q) s.heap ((SI, SX), (CU, CQ, CJ, CX), (MI, TT, AW, nE, LT, la), (nW, WI, WR, WL, WX, wd), (I, X), O) H locs → lv_has ls 7 [(0, .ref (b)), (1, .ref (B 1)), (2, .ref (B 0)), (3, .ref (B 9)), (4, .int (y4 + (4 : Int32)))] → W p l e room_1 s m #[Value.ref b] below meth c H locs (cl + 9) (sl + 1991) (lw_Z below #[Value.ref b] s) (F0 m 23 ls [])) (SI : Nat → Int32) (SX : Nat → Nat → Int32) (CU : Int64) (CQ : Int32) (CJ : Nat → Nat → Int64) (CX : Nat → Nat → Int32) (MI : Nat → Int32) (TT : Nat → Int64) (AW : Nat → Int32) (nE : Nat) (LT : Nat → Nat → Int32) (la : Nat → Nat) (nW : Nat) (WI : Nat → Nat → Int32) (WR : Nat → Nat → Nat) (WL : Nat → Nat → Int32) (WX : Nat → Nat → Nat → Int32) (wd : Nat → Nat → Nat) (I : Nat → Int32) (X : Nat → Nat → Int32) (O : Nat → Int64)  (H : Heap) (locs : List Loc) (ls : Array Slot) (hf : fL_law_1027 L xs G23 SI SX CU CQ CJ CX MI TT AW nE LT la nW WI WR WL WX wd I X O y4) (hG : GS D B (fun q => s.heap.size ≤ q) s.heap ((SI, SX), (CU, CQ, CJ, CX), (MI, TT, AW, nE, LT, la), (nW, WI, WR, WL, WX, wd), (I, X), O) H locs) (hl : lv_has ls 7 [(0, .ref (b)), (1, .ref (B 1)), (2, .ref (B 0)), (3, .ref (B 9)), (4, .int y4)]) : W p l e room_1 s m #[Value.ref b] below meth c H locs (cl + 1) (sl + 6) (lw_Z below #[Value.ref b] s) (F0 m 1027 ls []) := by
  obtain ⟨hx, hb, hml, hown, hts, hK, hr, hlk, hA, hN⟩ := id C
  unfold fL_law_1027 at hf
  refine lv_goto (tgt := 1123) hx hb dL_law_1027 (by decide) ?_
  refine W.widen (k := cl + 9) (n := sl + 1991) (by omega) (by omega) ?_
  exact vL_law_1123 C hE hX hbl h9 hs9 hG23 SI SX CU CQ CJ CX MI TT AW nE LT la nW WI WR WL WX wd I X O _ _ _ hf hG (lv_sub hl [0, 1, 2, 3, 4] rfl)
set_option maxHeartbeats 4000000 in
set_option maxRecDepth 100000 in
theorem vL_law_974 {p : Program} {l : Launch} {e : Env} {s : State} {m : MethodId} {below : List Frame} {meth : Method} {c : Code} {D : va_G} {B : Nat → Nat} {b L : Nat} {xs : Nat → Int32} {cl sl : Nat} (C : gX p s m #[Value.ref b] meth c cL_law 7 ret wsL_law RL D B (fun q => s.heap.size ≤ q)) (hE : gE l (fun q => s.heap.size ≤ q) s s.heap) (hX : va_X b L xs s s.heap) (hbl : b < s.heap.size) (h9 : cl + 9 ≤ 601024) (hs9 : sl + 1991 ≤ 7293034) {y4 : Int32} {G23 : (Nat → Int32) → (Nat → Nat → Int32) → (Int64) → (Int32) → (Nat → Nat → Int64) → (Nat → Nat → Int32) → (Nat → Int32) → (Nat → Int64) → (Nat → Int32) → (Nat) → (Nat → Nat → Int32) → (Nat → Nat) → (Nat) → (Nat → Nat → Int32) → (Nat → Nat → Nat) → (Nat → Nat → Int32) → (Nat → Nat → Nat → Int32) → (Nat → Nat → Nat) → (Nat → Int32) → (Nat → Nat → Int32) → (Nat → Int64) → Int32 → Prop} (hG23 : ∀ (SI : Nat → Int32) (SX : Nat → Nat → Int32) (CU : Int64) (CQ : Int32) (CJ : Nat → Nat → Int64) (CX : Nat → Nat → Int32) (MI : Nat → Int32) (TT : Nat → Int64) (AW : Nat → Int32) (nE : Nat) (LT : Nat → Nat → Int32) (la : Nat → Nat) (nW : Nat) (WI : Nat → Nat → Int32) (WR : Nat → Nat → Nat) (WL : Nat → Nat → Int32) (WX : Nat → Nat → Nat → Int32) (wd : Nat → Nat → Nat) (I : Nat → Int32) (X : Nat → Nat → Int32) (O : Nat → Int64) (H : Heap) (locs : List Loc) (ls : Array Slot), G23 SI SX CU CQ CJ CX MI TT AW nE LT la nW WI WR WL WX wd I X O (y4 + (4 : Int32)) → GS D B (fun q => s.heap.size ≤ q) s.heap ((SI, SX), (CU, CQ, CJ, CX), (MI, TT, AW, nE, LT, la), (nW, WI, WR, WL, WX, wd), (I, X), O) H locs → lv_has ls 7 [(0, .ref (b)), (1, .ref (B 1)), (2, .ref (B 0)), (3, .ref (B 9)), (4, .int (y4 + (4 : Int32)))] → W p l e room_1 s m #[Value.ref b] below meth c H locs (cl + 9) (sl + 1991) (lw_Z below #[Value.ref b] s) (F0 m 23 ls [])) (SI : Nat → Int32) (SX : Nat → Nat → Int32) (CU : Int64) (CQ : Int32) (CJ : Nat → Nat → Int64) (CX : Nat → Nat → Int32) (MI : Nat → Int32) (TT : Nat → Int64) (AW : Nat → Int32) (nE : Nat) (LT : Nat → Nat → Int32) (la : Nat → Nat) (nW : Nat) (WI : Nat → Nat → Int32) (WR : Nat → Nat → Nat) (WL : Nat → Nat → Int32) (WX : Nat → Nat → Nat → Int32) (wd : Nat → Nat → Nat) (I : Nat → Int32) (X : Nat → Nat → Int32) (O : Nat → Int64)  (H : Heap) (locs : List Loc) (ls : Array Slot) (hf : fL_law_974 L xs G23 SI SX CU CQ CJ CX MI TT AW nE LT la nW WI WR WL WX wd I X O y4) (hG : GS D B (fun q => s.heap.size ≤ q) s.heap ((SI, SX), (CU, CQ, CJ, CX), (MI, TT, AW, nE, LT, la), (nW, WI, WR, WL, WX, wd), (I, X), O) H locs) (hl : lv_has ls 7 [(0, .ref (b)), (1, .ref (B 1)), (2, .ref (B 0)), (3, .ref (B 9)), (4, .int y4)]) : W p l e room_1 s m #[Value.ref b] below meth c H locs cl sl (lw_Z below #[Value.ref b] s) (F0 m 974 ls []) := by
  obtain ⟨hx, hb, hml, hown, hts, hK, hr, hlk, hA, hN⟩ := id C
  unfold fL_law_974 at hf
  refine lv_aload_n hx hb dL_law_974 rfl (lv_at hl 1 rfl) ?_
  refine lv_aload_n hx hb dL_law_975 rfl (lv_at hl 0 rfl) ?_
  refine lv_iload hx hb dL_law_976 (lv_at hl 4 rfl) ?_
  refine lv_iconst (v := (1 : Int32)) hx hb dL_law_978 (by decide) ?_
  refine lv_iadd hx hb dL_law_979 ?_
  obtain ⟨h_223, hf⟩ := hf
  refine va_sld hx hb hX hbl (Nat.not_le.mpr hbl) hG.2.2 h_223 dL_law_980 ?_
  refine lv_aload_n hx hb dL_law_981 rfl (lv_at hl 3 rfl) ?_
  refine g_callLi (As := [.ref (B 1), .int (xs (y4 + (1 : Int32)).toNatClampNeg), .ref (B 9)]) C hE hG (kL_steps hf) (vx_cwSW 3 hts gL_law_L_steps rfl rfl rfl hdsL_steps ⟨Nat.le_of_ble_eq_true rfl, Nat.le_of_ble_eq_true rfl⟩) rfl hl.1 rfl (Nat.le_of_ble_eq_true rfl) dL_law_982 ⟨by show _ ≤ 601024; omega, by show _ ≤ 7293034; omega⟩ (fun r_233 g1 H locs hq hG => ?_)
  obtain ⟨MI_224, TT_225, AW_226, LT_227, WI_228, WR_229, WL_230, WX_231, O_232, rfl, hf⟩ := hq
  refine lv_istore (lv' := [(5, .int r_233), (0, .ref (b)), (1, .ref (B 1)), (2, .ref (B 0)), (3, .ref (B 9)), (4, .int y4)]) hx hb dL_law_985 hl (by decide) rfl (fun ls hl => ?_)
  refine lv_aload_n hx hb dL_law_987 rfl (lv_at hl 3 rfl) ?_
  refine lv_aload_n hx hb dL_law_988 rfl (lv_at hl 1 rfl) ?_
  refine lv_iload hx hb dL_law_989 (lv_at hl 5 rfl) ?_
  refine lv_iconst (v := (1 : Int32)) hx hb dL_law_991 (by decide) ?_
  refine lv_iadd hx hb dL_law_992 ?_
  obtain ⟨h_234, hf⟩ := hf
  refine va_sld hx hb hX hbl (Nat.not_le.mpr hbl) hG.2.2 h_234 dL_law_993 ?_
  refine g_callVi0 (As := [.int (xs (y4 + (1 : Int32)).toNatClampNeg)]) C hG (kX6_steps hf) (cwV 1 hts gL_law_X6_steps rfl rfl rfl hdvX6_steps ⟨Nat.le_of_ble_eq_true rfl, Nat.le_of_ble_eq_true rfl⟩) (va_recv hK hG.1 (ci := 6) (q0 := 0) rfl rfl) rfl hl.1 rfl (Nat.le_of_ble_eq_true rfl) dL_law_994 ⟨by show _ ≤ 601024; omega, by show _ ≤ 7293034; omega⟩ (fun r_237 g1 H locs hq hG => ?_)
  obtain ⟨I_235, X_236, rfl, hf⟩ := hq
  refine lv_istore (lv' := [(6, .int r_237), (5, .int r_233), (0, .ref (b)), (1, .ref (B 1)), (2, .ref (B 0)), (3, .ref (B 9)), (4, .int y4)]) hx hb dL_law_997 hl (by decide) rfl (fun ls hl => ?_)
  refine lv_aload_n hx hb dL_law_999 rfl (lv_at hl 4 rfl) ?_
  refine g_callVi0 (As := []) C hG (kX6_thrown hf) (cwV 0 hts gL_law_X6_thrown rfl rfl rfl hdvX6_thrown ⟨Nat.le_of_ble_eq_true rfl, Nat.le_of_ble_eq_true rfl⟩) (va_recv hK hG.1 (ci := 6) (q0 := 0) rfl rfl) rfl hl.1 rfl (Nat.le_of_ble_eq_true rfl) dL_law_1000 ⟨by show _ ≤ 601024; omega, by show _ ≤ 7293034; omega⟩ (fun r_238 g1 H locs hq hG => ?_)
  obtain ⟨rfl, hf⟩ := hq
  refine lv_iload hx hb dL_law_1003 (lv_at hl 1 rfl) ?_
  refine lv_icmp_eq (tgt := 1010) hx hb dL_law_1005 (by decide) (fun c_239 => ?_) (fun c_239 => ?_)
  · replace hf := hf.1 c_239
    refine lv_iload hx hb dL_law_1010 (lv_at hl 1 rfl) ?_
    refine lv_if_ne (tgt := 1027) hx hb dL_law_1012 (by decide) (fun c_240 => ?_) (fun c_240 => ?_)
    · replace hf := hf.1 c_240
      exact vL_law_1027 C hE hX hbl h9 hs9 hG23 SI SX CU CQ CJ CX MI_224 TT_225 AW_226 nE LT_227 la nW WI_228 WR_229 WL_230 WX_231 wd I_235 X_236 O_232 _ _ _ hf hG (lv_sub hl [2, 3, 4, 5, 6] rfl)
    · replace hf := hf.2 c_240
      refine lv_aload_n hx hb dL_law_1015 rfl (lv_at hl 5 rfl) ?_
      refine lv_iconst (v := (0 : Int32)) hx hb dL_law_1016 (by decide) ?_
      obtain ⟨h_241, hf⟩ := hf
      refine ga_O C hG h_241 dL_law_1017 ?_
      refine lv_iload hx hb dL_law_1018 (lv_at hl 0 rfl) ?_
      refine lv_i2l hx hb dL_law_1020 rfl ?_
      refine W.lcmp hx hb dL_law_1021 ?_
      refine lv_if_eq (tgt := 1027) hx hb dL_law_1022 (by decide) (fun c_242 => ?_) (fun c_242 => ?_)
      · replace hf := hf.1 c_242
        exact vL_law_1027 C hE hX hbl h9 hs9 hG23 SI SX CU CQ CJ CX MI_224 TT_225 AW_226 nE LT_227 la nW WI_228 WR_229 WL_230 WX_231 wd I_235 X_236 O_232 _ _ _ hf hG (lv_sub hl [2, 3, 4, 5, 6] rfl)
      · replace hf := hf.2 c_242
        refine lv_iconst (v := (0 : Int32)) hx hb dL_law_1025 (by decide) ?_
        exact hf.elim
  · replace hf := hf.2 c_239
    refine lv_iconst (v := (0 : Int32)) hx hb dL_law_1008 (by decide) ?_
    exact hf.elim
set_option maxHeartbeats 4000000 in
set_option maxRecDepth 100000 in
theorem vL_law_971 {p : Program} {l : Launch} {e : Env} {s : State} {m : MethodId} {below : List Frame} {meth : Method} {c : Code} {D : va_G} {B : Nat → Nat} {b L : Nat} {xs : Nat → Int32} {cl sl : Nat} (C : gX p s m #[Value.ref b] meth c cL_law 7 ret wsL_law RL D B (fun q => s.heap.size ≤ q)) (hE : gE l (fun q => s.heap.size ≤ q) s s.heap) (hX : va_X b L xs s s.heap) (hbl : b < s.heap.size) (h9 : cl + 9 ≤ 601024) (hs9 : sl + 1991 ≤ 7293034) {y4 : Int32} {G23 : (Nat → Int32) → (Nat → Nat → Int32) → (Int64) → (Int32) → (Nat → Nat → Int64) → (Nat → Nat → Int32) → (Nat → Int32) → (Nat → Int64) → (Nat → Int32) → (Nat) → (Nat → Nat → Int32) → (Nat → Nat) → (Nat) → (Nat → Nat → Int32) → (Nat → Nat → Nat) → (Nat → Nat → Int32) → (Nat → Nat → Nat → Int32) → (Nat → Nat → Nat) → (Nat → Int32) → (Nat → Nat → Int32) → (Nat → Int64) → Int32 → Prop} (hG23 : ∀ (SI : Nat → Int32) (SX : Nat → Nat → Int32) (CU : Int64) (CQ : Int32) (CJ : Nat → Nat → Int64) (CX : Nat → Nat → Int32) (MI : Nat → Int32) (TT : Nat → Int64) (AW : Nat → Int32) (nE : Nat) (LT : Nat → Nat → Int32) (la : Nat → Nat) (nW : Nat) (WI : Nat → Nat → Int32) (WR : Nat → Nat → Nat) (WL : Nat → Nat → Int32) (WX : Nat → Nat → Nat → Int32) (wd : Nat → Nat → Nat) (I : Nat → Int32) (X : Nat → Nat → Int32) (O : Nat → Int64) (H : Heap) (locs : List Loc) (ls : Array Slot), G23 SI SX CU CQ CJ CX MI TT AW nE LT la nW WI WR WL WX wd I X O (y4 + (4 : Int32)) → GS D B (fun q => s.heap.size ≤ q) s.heap ((SI, SX), (CU, CQ, CJ, CX), (MI, TT, AW, nE, LT, la), (nW, WI, WR, WL, WX, wd), (I, X), O) H locs → lv_has ls 7 [(0, .ref (b)), (1, .ref (B 1)), (2, .ref (B 0)), (3, .ref (B 9)), (4, .int (y4 + (4 : Int32)))] → W p l e room_1 s m #[Value.ref b] below meth c H locs (cl + 9) (sl + 1991) (lw_Z below #[Value.ref b] s) (F0 m 23 ls [])) (SI : Nat → Int32) (SX : Nat → Nat → Int32) (CU : Int64) (CQ : Int32) (CJ : Nat → Nat → Int64) (CX : Nat → Nat → Int32) (MI : Nat → Int32) (TT : Nat → Int64) (AW : Nat → Int32) (nE : Nat) (LT : Nat → Nat → Int32) (la : Nat → Nat) (nW : Nat) (WI : Nat → Nat → Int32) (WR : Nat → Nat → Nat) (WL : Nat → Nat → Int32) (WX : Nat → Nat → Nat → Int32) (wd : Nat → Nat → Nat) (I : Nat → Int32) (X : Nat → Nat → Int32) (O : Nat → Int64)  (H : Heap) (locs : List Loc) (ls : Array Slot) (hf : fL_law_971 L xs G23 SI SX CU CQ CJ CX MI TT AW nE LT la nW WI WR WL WX wd I X O y4) (hG : GS D B (fun q => s.heap.size ≤ q) s.heap ((SI, SX), (CU, CQ, CJ, CX), (MI, TT, AW, nE, LT, la), (nW, WI, WR, WL, WX, wd), (I, X), O) H locs) (hl : lv_has ls 7 [(0, .ref (b)), (1, .ref (B 1)), (2, .ref (B 0)), (3, .ref (B 9)), (4, .int y4)]) : W p l e room_1 s m #[Value.ref b] below meth c H locs (cl + 3) (sl + 22) (lw_Z below #[Value.ref b] s) (F0 m 971 ls []) := by
  obtain ⟨hx, hb, hml, hown, hts, hK, hr, hlk, hA, hN⟩ := id C
  unfold fL_law_971 at hf
  refine lv_goto (tgt := 1123) hx hb dL_law_971 (by decide) ?_
  refine W.widen (k := cl + 9) (n := sl + 1991) (by omega) (by omega) ?_
  exact vL_law_1123 C hE hX hbl h9 hs9 hG23 SI SX CU CQ CJ CX MI TT AW nE LT la nW WI WR WL WX wd I X O _ _ _ hf hG (lv_sub hl [0, 1, 2, 3, 4] rfl)
set_option maxHeartbeats 4000000 in
set_option maxRecDepth 100000 in
theorem vL_law_906 {p : Program} {l : Launch} {e : Env} {s : State} {m : MethodId} {below : List Frame} {meth : Method} {c : Code} {D : va_G} {B : Nat → Nat} {b L : Nat} {xs : Nat → Int32} {cl sl : Nat} (C : gX p s m #[Value.ref b] meth c cL_law 7 ret wsL_law RL D B (fun q => s.heap.size ≤ q)) (hE : gE l (fun q => s.heap.size ≤ q) s s.heap) (hX : va_X b L xs s s.heap) (hbl : b < s.heap.size) (h9 : cl + 9 ≤ 601024) (hs9 : sl + 1991 ≤ 7293034) {y4 : Int32} {G23 : (Nat → Int32) → (Nat → Nat → Int32) → (Int64) → (Int32) → (Nat → Nat → Int64) → (Nat → Nat → Int32) → (Nat → Int32) → (Nat → Int64) → (Nat → Int32) → (Nat) → (Nat → Nat → Int32) → (Nat → Nat) → (Nat) → (Nat → Nat → Int32) → (Nat → Nat → Nat) → (Nat → Nat → Int32) → (Nat → Nat → Nat → Int32) → (Nat → Nat → Nat) → (Nat → Int32) → (Nat → Nat → Int32) → (Nat → Int64) → Int32 → Prop} (hG23 : ∀ (SI : Nat → Int32) (SX : Nat → Nat → Int32) (CU : Int64) (CQ : Int32) (CJ : Nat → Nat → Int64) (CX : Nat → Nat → Int32) (MI : Nat → Int32) (TT : Nat → Int64) (AW : Nat → Int32) (nE : Nat) (LT : Nat → Nat → Int32) (la : Nat → Nat) (nW : Nat) (WI : Nat → Nat → Int32) (WR : Nat → Nat → Nat) (WL : Nat → Nat → Int32) (WX : Nat → Nat → Nat → Int32) (wd : Nat → Nat → Nat) (I : Nat → Int32) (X : Nat → Nat → Int32) (O : Nat → Int64) (H : Heap) (locs : List Loc) (ls : Array Slot), G23 SI SX CU CQ CJ CX MI TT AW nE LT la nW WI WR WL WX wd I X O (y4 + (4 : Int32)) → GS D B (fun q => s.heap.size ≤ q) s.heap ((SI, SX), (CU, CQ, CJ, CX), (MI, TT, AW, nE, LT, la), (nW, WI, WR, WL, WX, wd), (I, X), O) H locs → lv_has ls 7 [(0, .ref (b)), (1, .ref (B 1)), (2, .ref (B 0)), (3, .ref (B 9)), (4, .int (y4 + (4 : Int32)))] → W p l e room_1 s m #[Value.ref b] below meth c H locs (cl + 9) (sl + 1991) (lw_Z below #[Value.ref b] s) (F0 m 23 ls [])) (SI : Nat → Int32) (SX : Nat → Nat → Int32) (CU : Int64) (CQ : Int32) (CJ : Nat → Nat → Int64) (CX : Nat → Nat → Int32) (MI : Nat → Int32) (TT : Nat → Int64) (AW : Nat → Int32) (nE : Nat) (LT : Nat → Nat → Int32) (la : Nat → Nat) (nW : Nat) (WI : Nat → Nat → Int32) (WR : Nat → Nat → Nat) (WL : Nat → Nat → Int32) (WX : Nat → Nat → Nat → Int32) (wd : Nat → Nat → Nat) (I : Nat → Int32) (X : Nat → Nat → Int32) (O : Nat → Int64)  (H : Heap) (locs : List Loc) (ls : Array Slot) (hf : fL_law_906 L xs G23 SI SX CU CQ CJ CX MI TT AW nE LT la nW WI WR WL WX wd I X O y4) (hG : GS D B (fun q => s.heap.size ≤ q) s.heap ((SI, SX), (CU, CQ, CJ, CX), (MI, TT, AW, nE, LT, la), (nW, WI, WR, WL, WX, wd), (I, X), O) H locs) (hl : lv_has ls 7 [(0, .ref (b)), (1, .ref (B 1)), (2, .ref (B 0)), (3, .ref (B 9)), (4, .int y4)]) : W p l e room_1 s m #[Value.ref b] below meth c H locs cl sl (lw_Z below #[Value.ref b] s) (F0 m 906 ls []) := by
  obtain ⟨hx, hb, hml, hown, hts, hK, hr, hlk, hA, hN⟩ := id C
  unfold fL_law_906 at hf
  refine lv_aload_n hx hb dL_law_906 rfl (lv_at hl 1 rfl) ?_
  refine lv_aload_n hx hb dL_law_907 rfl (lv_at hl 0 rfl) ?_
  refine lv_iload hx hb dL_law_908 (lv_at hl 4 rfl) ?_
  refine lv_iconst (v := (1 : Int32)) hx hb dL_law_910 (by decide) ?_
  refine lv_iadd hx hb dL_law_911 ?_
  obtain ⟨h_203, hf⟩ := hf
  refine va_sld hx hb hX hbl (Nat.not_le.mpr hbl) hG.2.2 h_203 dL_law_912 ?_
  refine lv_aload_n hx hb dL_law_913 rfl (lv_at hl 0 rfl) ?_
  refine lv_iload hx hb dL_law_914 (lv_at hl 4 rfl) ?_
  refine lv_iconst (v := (2 : Int32)) hx hb dL_law_916 (by decide) ?_
  refine lv_iadd hx hb dL_law_917 ?_
  obtain ⟨h_204, hf⟩ := hf
  refine va_sld hx hb hX hbl (Nat.not_le.mpr hbl) hG.2.2 h_204 dL_law_918 ?_
  refine lv_aload_n hx hb dL_law_919 rfl (lv_at hl 3 rfl) ?_
  refine g_callLi (As := [.ref (B 1), .int (xs (y4 + (1 : Int32)).toNatClampNeg), .int (xs (y4 + (2 : Int32)).toNatClampNeg), .ref (B 9)]) C hE hG (kL_send hf) (vx_cwSW 4 hts gL_law_L_send rfl rfl rfl hdsL_send ⟨Nat.le_of_ble_eq_true rfl, Nat.le_of_ble_eq_true rfl⟩) rfl hl.1 rfl (Nat.le_of_ble_eq_true rfl) dL_law_920 ⟨by show _ ≤ 601024; omega, by show _ ≤ 7293034; omega⟩ (fun r_212 g1 H locs hq hG => ?_)
  obtain ⟨MI_205, TT_206, AW_207, nE_208, LT_209, la_210, O_211, rfl, hf⟩ := hq
  refine lv_istore (lv' := [(5, .int r_212), (0, .ref (b)), (1, .ref (B 1)), (2, .ref (B 0)), (3, .ref (B 9)), (4, .int y4)]) hx hb dL_law_923 hl (by decide) rfl (fun ls hl => ?_)
  refine lv_aload_n hx hb dL_law_925 rfl (lv_at hl 3 rfl) ?_
  refine lv_aload_n hx hb dL_law_926 rfl (lv_at hl 1 rfl) ?_
  refine lv_iload hx hb dL_law_927 (lv_at hl 5 rfl) ?_
  refine lv_iconst (v := (1 : Int32)) hx hb dL_law_929 (by decide) ?_
  refine lv_iadd hx hb dL_law_930 ?_
  obtain ⟨h_213, hf⟩ := hf
  refine va_sld hx hb hX hbl (Nat.not_le.mpr hbl) hG.2.2 h_213 dL_law_931 ?_
  refine lv_aload_n hx hb dL_law_932 rfl (lv_at hl 1 rfl) ?_
  refine lv_iload hx hb dL_law_933 (lv_at hl 5 rfl) ?_
  refine lv_iconst (v := (2 : Int32)) hx hb dL_law_935 (by decide) ?_
  refine lv_iadd hx hb dL_law_936 ?_
  obtain ⟨h_214, hf⟩ := hf
  refine va_sld hx hb hX hbl (Nat.not_le.mpr hbl) hG.2.2 h_214 dL_law_937 ?_
  refine g_callVi0 (As := [.int (xs (y4 + (1 : Int32)).toNatClampNeg), .int (xs (y4 + (2 : Int32)).toNatClampNeg)]) C hG (kX6_send hf) (cwV 2 hts gL_law_X6_send rfl rfl rfl hdvX6_send ⟨Nat.le_of_ble_eq_true rfl, Nat.le_of_ble_eq_true rfl⟩) (va_recv hK hG.1 (ci := 6) (q0 := 0) rfl rfl) rfl hl.1 rfl (Nat.le_of_ble_eq_true rfl) dL_law_938 ⟨by show _ ≤ 601024; omega, by show _ ≤ 7293034; omega⟩ (fun r_217 g1 H locs hq hG => ?_)
  obtain ⟨I_215, X_216, rfl, hf⟩ := hq
  refine lv_istore (lv' := [(6, .int r_217), (5, .int r_212), (0, .ref (b)), (1, .ref (B 1)), (2, .ref (B 0)), (3, .ref (B 9)), (4, .int y4)]) hx hb dL_law_941 hl (by decide) rfl (fun ls hl => ?_)
  refine lv_aload_n hx hb dL_law_943 rfl (lv_at hl 4 rfl) ?_
  refine g_callVi0 (As := []) C hG (kX6_thrown hf) (cwV 0 hts gL_law_X6_thrown rfl rfl rfl hdvX6_thrown ⟨Nat.le_of_ble_eq_true rfl, Nat.le_of_ble_eq_true rfl⟩) (va_recv hK hG.1 (ci := 6) (q0 := 0) rfl rfl) rfl hl.1 rfl (Nat.le_of_ble_eq_true rfl) dL_law_944 ⟨by show _ ≤ 601024; omega, by show _ ≤ 7293034; omega⟩ (fun r_218 g1 H locs hq hG => ?_)
  obtain ⟨rfl, hf⟩ := hq
  refine lv_iload hx hb dL_law_947 (lv_at hl 1 rfl) ?_
  refine lv_icmp_eq (tgt := 954) hx hb dL_law_949 (by decide) (fun c_219 => ?_) (fun c_219 => ?_)
  · replace hf := hf.1 c_219
    refine lv_iload hx hb dL_law_954 (lv_at hl 1 rfl) ?_
    refine lv_if_ne (tgt := 971) hx hb dL_law_956 (by decide) (fun c_220 => ?_) (fun c_220 => ?_)
    · replace hf := hf.1 c_220
      exact vL_law_971 C hE hX hbl h9 hs9 hG23 SI SX CU CQ CJ CX MI_205 TT_206 AW_207 nE_208 LT_209 la_210 nW WI WR WL WX wd I_215 X_216 O_211 _ _ _ hf hG (lv_sub hl [2, 3, 4, 5, 6] rfl)
    · replace hf := hf.2 c_220
      refine lv_aload_n hx hb dL_law_959 rfl (lv_at hl 5 rfl) ?_
      refine lv_iconst (v := (0 : Int32)) hx hb dL_law_960 (by decide) ?_
      obtain ⟨h_221, hf⟩ := hf
      refine ga_O C hG h_221 dL_law_961 ?_
      refine lv_iload hx hb dL_law_962 (lv_at hl 0 rfl) ?_
      refine lv_i2l hx hb dL_law_964 rfl ?_
      refine W.lcmp hx hb dL_law_965 ?_
      refine lv_if_eq (tgt := 971) hx hb dL_law_966 (by decide) (fun c_222 => ?_) (fun c_222 => ?_)
      · replace hf := hf.1 c_222
        exact vL_law_971 C hE hX hbl h9 hs9 hG23 SI SX CU CQ CJ CX MI_205 TT_206 AW_207 nE_208 LT_209 la_210 nW WI WR WL WX wd I_215 X_216 O_211 _ _ _ hf hG (lv_sub hl [2, 3, 4, 5, 6] rfl)
      · replace hf := hf.2 c_222
        refine lv_iconst (v := (0 : Int32)) hx hb dL_law_969 (by decide) ?_
        exact hf.elim
  · replace hf := hf.2 c_219
    refine lv_iconst (v := (0 : Int32)) hx hb dL_law_952 (by decide) ?_
    exact hf.elim
set_option maxHeartbeats 4000000 in
set_option maxRecDepth 100000 in
theorem vL_law_903 {p : Program} {l : Launch} {e : Env} {s : State} {m : MethodId} {below : List Frame} {meth : Method} {c : Code} {D : va_G} {B : Nat → Nat} {b L : Nat} {xs : Nat → Int32} {cl sl : Nat} (C : gX p s m #[Value.ref b] meth c cL_law 7 ret wsL_law RL D B (fun q => s.heap.size ≤ q)) (hE : gE l (fun q => s.heap.size ≤ q) s s.heap) (hX : va_X b L xs s s.heap) (hbl : b < s.heap.size) (h9 : cl + 9 ≤ 601024) (hs9 : sl + 1991 ≤ 7293034) {y4 : Int32} {G23 : (Nat → Int32) → (Nat → Nat → Int32) → (Int64) → (Int32) → (Nat → Nat → Int64) → (Nat → Nat → Int32) → (Nat → Int32) → (Nat → Int64) → (Nat → Int32) → (Nat) → (Nat → Nat → Int32) → (Nat → Nat) → (Nat) → (Nat → Nat → Int32) → (Nat → Nat → Nat) → (Nat → Nat → Int32) → (Nat → Nat → Nat → Int32) → (Nat → Nat → Nat) → (Nat → Int32) → (Nat → Nat → Int32) → (Nat → Int64) → Int32 → Prop} (hG23 : ∀ (SI : Nat → Int32) (SX : Nat → Nat → Int32) (CU : Int64) (CQ : Int32) (CJ : Nat → Nat → Int64) (CX : Nat → Nat → Int32) (MI : Nat → Int32) (TT : Nat → Int64) (AW : Nat → Int32) (nE : Nat) (LT : Nat → Nat → Int32) (la : Nat → Nat) (nW : Nat) (WI : Nat → Nat → Int32) (WR : Nat → Nat → Nat) (WL : Nat → Nat → Int32) (WX : Nat → Nat → Nat → Int32) (wd : Nat → Nat → Nat) (I : Nat → Int32) (X : Nat → Nat → Int32) (O : Nat → Int64) (H : Heap) (locs : List Loc) (ls : Array Slot), G23 SI SX CU CQ CJ CX MI TT AW nE LT la nW WI WR WL WX wd I X O (y4 + (4 : Int32)) → GS D B (fun q => s.heap.size ≤ q) s.heap ((SI, SX), (CU, CQ, CJ, CX), (MI, TT, AW, nE, LT, la), (nW, WI, WR, WL, WX, wd), (I, X), O) H locs → lv_has ls 7 [(0, .ref (b)), (1, .ref (B 1)), (2, .ref (B 0)), (3, .ref (B 9)), (4, .int (y4 + (4 : Int32)))] → W p l e room_1 s m #[Value.ref b] below meth c H locs (cl + 9) (sl + 1991) (lw_Z below #[Value.ref b] s) (F0 m 23 ls [])) (SI : Nat → Int32) (SX : Nat → Nat → Int32) (CU : Int64) (CQ : Int32) (CJ : Nat → Nat → Int64) (CX : Nat → Nat → Int32) (MI : Nat → Int32) (TT : Nat → Int64) (AW : Nat → Int32) (nE : Nat) (LT : Nat → Nat → Int32) (la : Nat → Nat) (nW : Nat) (WI : Nat → Nat → Int32) (WR : Nat → Nat → Nat) (WL : Nat → Nat → Int32) (WX : Nat → Nat → Nat → Int32) (wd : Nat → Nat → Nat) (I : Nat → Int32) (X : Nat → Nat → Int32) (O : Nat → Int64)  (H : Heap) (locs : List Loc) (ls : Array Slot) (hf : fL_law_903 L xs G23 SI SX CU CQ CJ CX MI TT AW nE LT la nW WI WR WL WX wd I X O y4) (hG : GS D B (fun q => s.heap.size ≤ q) s.heap ((SI, SX), (CU, CQ, CJ, CX), (MI, TT, AW, nE, LT, la), (nW, WI, WR, WL, WX, wd), (I, X), O) H locs) (hl : lv_has ls 7 [(0, .ref (b)), (1, .ref (B 1)), (2, .ref (B 0)), (3, .ref (B 9)), (4, .int y4)]) : W p l e room_1 s m #[Value.ref b] below meth c H locs (cl + 3) (sl + 18) (lw_Z below #[Value.ref b] s) (F0 m 903 ls []) := by
  obtain ⟨hx, hb, hml, hown, hts, hK, hr, hlk, hA, hN⟩ := id C
  unfold fL_law_903 at hf
  refine lv_goto (tgt := 1123) hx hb dL_law_903 (by decide) ?_
  refine W.widen (k := cl + 9) (n := sl + 1991) (by omega) (by omega) ?_
  exact vL_law_1123 C hE hX hbl h9 hs9 hG23 SI SX CU CQ CJ CX MI TT AW nE LT la nW WI WR WL WX wd I X O _ _ _ hf hG (lv_sub hl [0, 1, 2, 3, 4] rfl)
set_option maxHeartbeats 4000000 in
set_option maxRecDepth 100000 in
theorem vL_law_826 {p : Program} {l : Launch} {e : Env} {s : State} {m : MethodId} {below : List Frame} {meth : Method} {c : Code} {D : va_G} {B : Nat → Nat} {b L : Nat} {xs : Nat → Int32} {cl sl : Nat} (C : gX p s m #[Value.ref b] meth c cL_law 7 ret wsL_law RL D B (fun q => s.heap.size ≤ q)) (hE : gE l (fun q => s.heap.size ≤ q) s s.heap) (hX : va_X b L xs s s.heap) (hbl : b < s.heap.size) (h9 : cl + 9 ≤ 601024) (hs9 : sl + 1991 ≤ 7293034) {y4 : Int32} {G23 : (Nat → Int32) → (Nat → Nat → Int32) → (Int64) → (Int32) → (Nat → Nat → Int64) → (Nat → Nat → Int32) → (Nat → Int32) → (Nat → Int64) → (Nat → Int32) → (Nat) → (Nat → Nat → Int32) → (Nat → Nat) → (Nat) → (Nat → Nat → Int32) → (Nat → Nat → Nat) → (Nat → Nat → Int32) → (Nat → Nat → Nat → Int32) → (Nat → Nat → Nat) → (Nat → Int32) → (Nat → Nat → Int32) → (Nat → Int64) → Int32 → Prop} (hG23 : ∀ (SI : Nat → Int32) (SX : Nat → Nat → Int32) (CU : Int64) (CQ : Int32) (CJ : Nat → Nat → Int64) (CX : Nat → Nat → Int32) (MI : Nat → Int32) (TT : Nat → Int64) (AW : Nat → Int32) (nE : Nat) (LT : Nat → Nat → Int32) (la : Nat → Nat) (nW : Nat) (WI : Nat → Nat → Int32) (WR : Nat → Nat → Nat) (WL : Nat → Nat → Int32) (WX : Nat → Nat → Nat → Int32) (wd : Nat → Nat → Nat) (I : Nat → Int32) (X : Nat → Nat → Int32) (O : Nat → Int64) (H : Heap) (locs : List Loc) (ls : Array Slot), G23 SI SX CU CQ CJ CX MI TT AW nE LT la nW WI WR WL WX wd I X O (y4 + (4 : Int32)) → GS D B (fun q => s.heap.size ≤ q) s.heap ((SI, SX), (CU, CQ, CJ, CX), (MI, TT, AW, nE, LT, la), (nW, WI, WR, WL, WX, wd), (I, X), O) H locs → lv_has ls 7 [(0, .ref (b)), (1, .ref (B 1)), (2, .ref (B 0)), (3, .ref (B 9)), (4, .int (y4 + (4 : Int32)))] → W p l e room_1 s m #[Value.ref b] below meth c H locs (cl + 9) (sl + 1991) (lw_Z below #[Value.ref b] s) (F0 m 23 ls [])) (SI : Nat → Int32) (SX : Nat → Nat → Int32) (CU : Int64) (CQ : Int32) (CJ : Nat → Nat → Int64) (CX : Nat → Nat → Int32) (MI : Nat → Int32) (TT : Nat → Int64) (AW : Nat → Int32) (nE : Nat) (LT : Nat → Nat → Int32) (la : Nat → Nat) (nW : Nat) (WI : Nat → Nat → Int32) (WR : Nat → Nat → Nat) (WL : Nat → Nat → Int32) (WX : Nat → Nat → Nat → Int32) (wd : Nat → Nat → Nat) (I : Nat → Int32) (X : Nat → Nat → Int32) (O : Nat → Int64)  (H : Heap) (locs : List Loc) (ls : Array Slot) (hf : fL_law_826 L xs G23 SI SX CU CQ CJ CX MI TT AW nE LT la nW WI WR WL WX wd I X O y4) (hG : GS D B (fun q => s.heap.size ≤ q) s.heap ((SI, SX), (CU, CQ, CJ, CX), (MI, TT, AW, nE, LT, la), (nW, WI, WR, WL, WX, wd), (I, X), O) H locs) (hl : lv_has ls 7 [(0, .ref (b)), (1, .ref (B 1)), (2, .ref (B 0)), (3, .ref (B 9)), (4, .int y4)]) : W p l e room_1 s m #[Value.ref b] below meth c H locs cl sl (lw_Z below #[Value.ref b] s) (F0 m 826 ls []) := by
  obtain ⟨hx, hb, hml, hown, hts, hK, hr, hlk, hA, hN⟩ := id C
  unfold fL_law_826 at hf
  refine lv_aload_n hx hb dL_law_826 rfl (lv_at hl 1 rfl) ?_
  refine lv_aload_n hx hb dL_law_827 rfl (lv_at hl 0 rfl) ?_
  refine lv_iload hx hb dL_law_828 (lv_at hl 4 rfl) ?_
  refine lv_iconst (v := (1 : Int32)) hx hb dL_law_830 (by decide) ?_
  refine lv_iadd hx hb dL_law_831 ?_
  obtain ⟨h_183, hf⟩ := hf
  refine va_sld hx hb hX hbl (Nat.not_le.mpr hbl) hG.2.2 h_183 dL_law_832 ?_
  refine lv_aload_n hx hb dL_law_833 rfl (lv_at hl 0 rfl) ?_
  refine lv_iload hx hb dL_law_834 (lv_at hl 4 rfl) ?_
  refine lv_iconst (v := (2 : Int32)) hx hb dL_law_836 (by decide) ?_
  refine lv_iadd hx hb dL_law_837 ?_
  obtain ⟨h_184, hf⟩ := hf
  refine va_sld hx hb hX hbl (Nat.not_le.mpr hbl) hG.2.2 h_184 dL_law_838 ?_
  refine lv_aload_n hx hb dL_law_839 rfl (lv_at hl 0 rfl) ?_
  refine lv_iload hx hb dL_law_840 (lv_at hl 4 rfl) ?_
  refine lv_iconst (v := (3 : Int32)) hx hb dL_law_842 (by decide) ?_
  refine lv_iadd hx hb dL_law_843 ?_
  obtain ⟨h_185, hf⟩ := hf
  refine va_sld hx hb hX hbl (Nat.not_le.mpr hbl) hG.2.2 h_185 dL_law_844 ?_
  refine lv_aload_n hx hb dL_law_845 rfl (lv_at hl 3 rfl) ?_
  refine g_callLi (As := [.ref (B 1), .int (xs (y4 + (1 : Int32)).toNatClampNeg), .int (xs (y4 + (2 : Int32)).toNatClampNeg), .int (xs (y4 + (3 : Int32)).toNatClampNeg), .ref (B 9)]) C hE hG (kL_part hf) (vx_cwSW 5 hts gL_law_L_part rfl rfl rfl hdsL_part ⟨Nat.le_of_ble_eq_true rfl, Nat.le_of_ble_eq_true rfl⟩) rfl hl.1 rfl (Nat.le_of_ble_eq_true rfl) dL_law_846 ⟨by show _ ≤ 601024; omega, by show _ ≤ 7293034; omega⟩ (fun r_191 g1 H locs hq hG => ?_)
  obtain ⟨CU_186, CQ_187, CJ_188, CX_189, O_190, rfl, hf⟩ := hq
  refine lv_istore (lv' := [(5, .int r_191), (0, .ref (b)), (1, .ref (B 1)), (2, .ref (B 0)), (3, .ref (B 9)), (4, .int y4)]) hx hb dL_law_849 hl (by decide) rfl (fun ls hl => ?_)
  refine lv_aload_n hx hb dL_law_851 rfl (lv_at hl 3 rfl) ?_
  refine lv_aload_n hx hb dL_law_852 rfl (lv_at hl 1 rfl) ?_
  refine lv_iload hx hb dL_law_853 (lv_at hl 5 rfl) ?_
  refine lv_iconst (v := (1 : Int32)) hx hb dL_law_855 (by decide) ?_
  refine lv_iadd hx hb dL_law_856 ?_
  obtain ⟨h_192, hf⟩ := hf
  refine va_sld hx hb hX hbl (Nat.not_le.mpr hbl) hG.2.2 h_192 dL_law_857 ?_
  refine lv_aload_n hx hb dL_law_858 rfl (lv_at hl 1 rfl) ?_
  refine lv_iload hx hb dL_law_859 (lv_at hl 5 rfl) ?_
  refine lv_iconst (v := (2 : Int32)) hx hb dL_law_861 (by decide) ?_
  refine lv_iadd hx hb dL_law_862 ?_
  obtain ⟨h_193, hf⟩ := hf
  refine va_sld hx hb hX hbl (Nat.not_le.mpr hbl) hG.2.2 h_193 dL_law_863 ?_
  refine lv_aload_n hx hb dL_law_864 rfl (lv_at hl 1 rfl) ?_
  refine lv_iload hx hb dL_law_865 (lv_at hl 5 rfl) ?_
  refine lv_iconst (v := (3 : Int32)) hx hb dL_law_867 (by decide) ?_
  refine lv_iadd hx hb dL_law_868 ?_
  obtain ⟨h_194, hf⟩ := hf
  refine va_sld hx hb hX hbl (Nat.not_le.mpr hbl) hG.2.2 h_194 dL_law_869 ?_
  refine g_callVi0 (As := [.int (xs (y4 + (1 : Int32)).toNatClampNeg), .int (xs (y4 + (2 : Int32)).toNatClampNeg), .int (xs (y4 + (3 : Int32)).toNatClampNeg)]) C hG (kX6_part hf) (cwV 3 hts gL_law_X6_part rfl rfl rfl hdvX6_part ⟨Nat.le_of_ble_eq_true rfl, Nat.le_of_ble_eq_true rfl⟩) (va_recv hK hG.1 (ci := 6) (q0 := 0) rfl rfl) rfl hl.1 rfl (Nat.le_of_ble_eq_true rfl) dL_law_870 ⟨by show _ ≤ 601024; omega, by show _ ≤ 7293034; omega⟩ (fun r_197 g1 H locs hq hG => ?_)
  obtain ⟨I_195, X_196, rfl, hf⟩ := hq
  refine lv_istore (lv' := [(6, .int r_197), (5, .int r_191), (0, .ref (b)), (1, .ref (B 1)), (2, .ref (B 0)), (3, .ref (B 9)), (4, .int y4)]) hx hb dL_law_873 hl (by decide) rfl (fun ls hl => ?_)
  refine lv_aload_n hx hb dL_law_875 rfl (lv_at hl 4 rfl) ?_
  refine g_callVi0 (As := []) C hG (kX6_thrown hf) (cwV 0 hts gL_law_X6_thrown rfl rfl rfl hdvX6_thrown ⟨Nat.le_of_ble_eq_true rfl, Nat.le_of_ble_eq_true rfl⟩) (va_recv hK hG.1 (ci := 6) (q0 := 0) rfl rfl) rfl hl.1 rfl (Nat.le_of_ble_eq_true rfl) dL_law_876 ⟨by show _ ≤ 601024; omega, by show _ ≤ 7293034; omega⟩ (fun r_198 g1 H locs hq hG => ?_)
  obtain ⟨rfl, hf⟩ := hq
  refine lv_iload hx hb dL_law_879 (lv_at hl 1 rfl) ?_
  refine lv_icmp_eq (tgt := 886) hx hb dL_law_881 (by decide) (fun c_199 => ?_) (fun c_199 => ?_)
  · replace hf := hf.1 c_199
    refine lv_iload hx hb dL_law_886 (lv_at hl 1 rfl) ?_
    refine lv_if_ne (tgt := 903) hx hb dL_law_888 (by decide) (fun c_200 => ?_) (fun c_200 => ?_)
    · replace hf := hf.1 c_200
      exact vL_law_903 C hE hX hbl h9 hs9 hG23 SI SX CU_186 CQ_187 CJ_188 CX_189 MI TT AW nE LT la nW WI WR WL WX wd I_195 X_196 O_190 _ _ _ hf hG (lv_sub hl [2, 3, 4, 5, 6] rfl)
    · replace hf := hf.2 c_200
      refine lv_aload_n hx hb dL_law_891 rfl (lv_at hl 5 rfl) ?_
      refine lv_iconst (v := (0 : Int32)) hx hb dL_law_892 (by decide) ?_
      obtain ⟨h_201, hf⟩ := hf
      refine ga_O C hG h_201 dL_law_893 ?_
      refine lv_iload hx hb dL_law_894 (lv_at hl 0 rfl) ?_
      refine lv_i2l hx hb dL_law_896 rfl ?_
      refine W.lcmp hx hb dL_law_897 ?_
      refine lv_if_eq (tgt := 903) hx hb dL_law_898 (by decide) (fun c_202 => ?_) (fun c_202 => ?_)
      · replace hf := hf.1 c_202
        exact vL_law_903 C hE hX hbl h9 hs9 hG23 SI SX CU_186 CQ_187 CJ_188 CX_189 MI TT AW nE LT la nW WI WR WL WX wd I_195 X_196 O_190 _ _ _ hf hG (lv_sub hl [2, 3, 4, 5, 6] rfl)
      · replace hf := hf.2 c_202
        refine lv_iconst (v := (0 : Int32)) hx hb dL_law_901 (by decide) ?_
        exact hf.elim
  · replace hf := hf.2 c_199
    refine lv_iconst (v := (0 : Int32)) hx hb dL_law_884 (by decide) ?_
    exact hf.elim
set_option maxHeartbeats 4000000 in
set_option maxRecDepth 100000 in
theorem vL_law_823 {p : Program} {l : Launch} {e : Env} {s : State} {m : MethodId} {below : List Frame} {meth : Method} {c : Code} {D : va_G} {B : Nat → Nat} {b L : Nat} {xs : Nat → Int32} {cl sl : Nat} (C : gX p s m #[Value.ref b] meth c cL_law 7 ret wsL_law RL D B (fun q => s.heap.size ≤ q)) (hE : gE l (fun q => s.heap.size ≤ q) s s.heap) (hX : va_X b L xs s s.heap) (hbl : b < s.heap.size) (h9 : cl + 9 ≤ 601024) (hs9 : sl + 1991 ≤ 7293034) {y4 : Int32} {G23 : (Nat → Int32) → (Nat → Nat → Int32) → (Int64) → (Int32) → (Nat → Nat → Int64) → (Nat → Nat → Int32) → (Nat → Int32) → (Nat → Int64) → (Nat → Int32) → (Nat) → (Nat → Nat → Int32) → (Nat → Nat) → (Nat) → (Nat → Nat → Int32) → (Nat → Nat → Nat) → (Nat → Nat → Int32) → (Nat → Nat → Nat → Int32) → (Nat → Nat → Nat) → (Nat → Int32) → (Nat → Nat → Int32) → (Nat → Int64) → Int32 → Prop} (hG23 : ∀ (SI : Nat → Int32) (SX : Nat → Nat → Int32) (CU : Int64) (CQ : Int32) (CJ : Nat → Nat → Int64) (CX : Nat → Nat → Int32) (MI : Nat → Int32) (TT : Nat → Int64) (AW : Nat → Int32) (nE : Nat) (LT : Nat → Nat → Int32) (la : Nat → Nat) (nW : Nat) (WI : Nat → Nat → Int32) (WR : Nat → Nat → Nat) (WL : Nat → Nat → Int32) (WX : Nat → Nat → Nat → Int32) (wd : Nat → Nat → Nat) (I : Nat → Int32) (X : Nat → Nat → Int32) (O : Nat → Int64) (H : Heap) (locs : List Loc) (ls : Array Slot), G23 SI SX CU CQ CJ CX MI TT AW nE LT la nW WI WR WL WX wd I X O (y4 + (4 : Int32)) → GS D B (fun q => s.heap.size ≤ q) s.heap ((SI, SX), (CU, CQ, CJ, CX), (MI, TT, AW, nE, LT, la), (nW, WI, WR, WL, WX, wd), (I, X), O) H locs → lv_has ls 7 [(0, .ref (b)), (1, .ref (B 1)), (2, .ref (B 0)), (3, .ref (B 9)), (4, .int (y4 + (4 : Int32)))] → W p l e room_1 s m #[Value.ref b] below meth c H locs (cl + 9) (sl + 1991) (lw_Z below #[Value.ref b] s) (F0 m 23 ls [])) (SI : Nat → Int32) (SX : Nat → Nat → Int32) (CU : Int64) (CQ : Int32) (CJ : Nat → Nat → Int64) (CX : Nat → Nat → Int32) (MI : Nat → Int32) (TT : Nat → Int64) (AW : Nat → Int32) (nE : Nat) (LT : Nat → Nat → Int32) (la : Nat → Nat) (nW : Nat) (WI : Nat → Nat → Int32) (WR : Nat → Nat → Nat) (WL : Nat → Nat → Int32) (WX : Nat → Nat → Nat → Int32) (wd : Nat → Nat → Nat) (I : Nat → Int32) (X : Nat → Nat → Int32) (O : Nat → Int64)  (H : Heap) (locs : List Loc) (ls : Array Slot) (hf : fL_law_823 L xs G23 SI SX CU CQ CJ CX MI TT AW nE LT la nW WI WR WL WX wd I X O y4) (hG : GS D B (fun q => s.heap.size ≤ q) s.heap ((SI, SX), (CU, CQ, CJ, CX), (MI, TT, AW, nE, LT, la), (nW, WI, WR, WL, WX, wd), (I, X), O) H locs) (hl : lv_has ls 7 [(0, .ref (b)), (1, .ref (B 1)), (2, .ref (B 0)), (3, .ref (B 9)), (4, .int y4)]) : W p l e room_1 s m #[Value.ref b] below meth c H locs (cl + 1) (sl + 6) (lw_Z below #[Value.ref b] s) (F0 m 823 ls []) := by
  obtain ⟨hx, hb, hml, hown, hts, hK, hr, hlk, hA, hN⟩ := id C
  unfold fL_law_823 at hf
  refine lv_goto (tgt := 1123) hx hb dL_law_823 (by decide) ?_
  refine W.widen (k := cl + 9) (n := sl + 1991) (by omega) (by omega) ?_
  exact vL_law_1123 C hE hX hbl h9 hs9 hG23 SI SX CU CQ CJ CX MI TT AW nE LT la nW WI WR WL WX wd I X O _ _ _ hf hG (lv_sub hl [0, 1, 2, 3, 4] rfl)
set_option maxHeartbeats 4000000 in
set_option maxRecDepth 100000 in
theorem vL_law_770 {p : Program} {l : Launch} {e : Env} {s : State} {m : MethodId} {below : List Frame} {meth : Method} {c : Code} {D : va_G} {B : Nat → Nat} {b L : Nat} {xs : Nat → Int32} {cl sl : Nat} (C : gX p s m #[Value.ref b] meth c cL_law 7 ret wsL_law RL D B (fun q => s.heap.size ≤ q)) (hE : gE l (fun q => s.heap.size ≤ q) s s.heap) (hX : va_X b L xs s s.heap) (hbl : b < s.heap.size) (h9 : cl + 9 ≤ 601024) (hs9 : sl + 1991 ≤ 7293034) {y4 : Int32} {G23 : (Nat → Int32) → (Nat → Nat → Int32) → (Int64) → (Int32) → (Nat → Nat → Int64) → (Nat → Nat → Int32) → (Nat → Int32) → (Nat → Int64) → (Nat → Int32) → (Nat) → (Nat → Nat → Int32) → (Nat → Nat) → (Nat) → (Nat → Nat → Int32) → (Nat → Nat → Nat) → (Nat → Nat → Int32) → (Nat → Nat → Nat → Int32) → (Nat → Nat → Nat) → (Nat → Int32) → (Nat → Nat → Int32) → (Nat → Int64) → Int32 → Prop} (hG23 : ∀ (SI : Nat → Int32) (SX : Nat → Nat → Int32) (CU : Int64) (CQ : Int32) (CJ : Nat → Nat → Int64) (CX : Nat → Nat → Int32) (MI : Nat → Int32) (TT : Nat → Int64) (AW : Nat → Int32) (nE : Nat) (LT : Nat → Nat → Int32) (la : Nat → Nat) (nW : Nat) (WI : Nat → Nat → Int32) (WR : Nat → Nat → Nat) (WL : Nat → Nat → Int32) (WX : Nat → Nat → Nat → Int32) (wd : Nat → Nat → Nat) (I : Nat → Int32) (X : Nat → Nat → Int32) (O : Nat → Int64) (H : Heap) (locs : List Loc) (ls : Array Slot), G23 SI SX CU CQ CJ CX MI TT AW nE LT la nW WI WR WL WX wd I X O (y4 + (4 : Int32)) → GS D B (fun q => s.heap.size ≤ q) s.heap ((SI, SX), (CU, CQ, CJ, CX), (MI, TT, AW, nE, LT, la), (nW, WI, WR, WL, WX, wd), (I, X), O) H locs → lv_has ls 7 [(0, .ref (b)), (1, .ref (B 1)), (2, .ref (B 0)), (3, .ref (B 9)), (4, .int (y4 + (4 : Int32)))] → W p l e room_1 s m #[Value.ref b] below meth c H locs (cl + 9) (sl + 1991) (lw_Z below #[Value.ref b] s) (F0 m 23 ls [])) (SI : Nat → Int32) (SX : Nat → Nat → Int32) (CU : Int64) (CQ : Int32) (CJ : Nat → Nat → Int64) (CX : Nat → Nat → Int32) (MI : Nat → Int32) (TT : Nat → Int64) (AW : Nat → Int32) (nE : Nat) (LT : Nat → Nat → Int32) (la : Nat → Nat) (nW : Nat) (WI : Nat → Nat → Int32) (WR : Nat → Nat → Nat) (WL : Nat → Nat → Int32) (WX : Nat → Nat → Nat → Int32) (wd : Nat → Nat → Nat) (I : Nat → Int32) (X : Nat → Nat → Int32) (O : Nat → Int64)  (H : Heap) (locs : List Loc) (ls : Array Slot) (hf : fL_law_770 L xs G23 SI SX CU CQ CJ CX MI TT AW nE LT la nW WI WR WL WX wd I X O y4) (hG : GS D B (fun q => s.heap.size ≤ q) s.heap ((SI, SX), (CU, CQ, CJ, CX), (MI, TT, AW, nE, LT, la), (nW, WI, WR, WL, WX, wd), (I, X), O) H locs) (hl : lv_has ls 7 [(0, .ref (b)), (1, .ref (B 1)), (2, .ref (B 0)), (3, .ref (B 9)), (4, .int y4)]) : W p l e room_1 s m #[Value.ref b] below meth c H locs cl sl (lw_Z below #[Value.ref b] s) (F0 m 770 ls []) := by
  obtain ⟨hx, hb, hml, hown, hts, hK, hr, hlk, hA, hN⟩ := id C
  unfold fL_law_770 at hf
  refine lv_aload_n hx hb dL_law_770 rfl (lv_at hl 1 rfl) ?_
  refine lv_aload_n hx hb dL_law_771 rfl (lv_at hl 0 rfl) ?_
  refine lv_iload hx hb dL_law_772 (lv_at hl 4 rfl) ?_
  refine lv_iconst (v := (1 : Int32)) hx hb dL_law_774 (by decide) ?_
  refine lv_iadd hx hb dL_law_775 ?_
  obtain ⟨h_171, hf⟩ := hf
  refine va_sld hx hb hX hbl (Nat.not_le.mpr hbl) hG.2.2 h_171 dL_law_776 ?_
  refine lv_aload_n hx hb dL_law_777 rfl (lv_at hl 3 rfl) ?_
  refine g_callLi (As := [.ref (B 1), .int (xs (y4 + (1 : Int32)).toNatClampNeg), .ref (B 9)]) C hE hG (kL_meets hf) (vx_cwSW 3 hts gL_law_L_meets rfl rfl rfl hdsL_meets ⟨Nat.le_of_ble_eq_true rfl, Nat.le_of_ble_eq_true rfl⟩) rfl hl.1 rfl (Nat.le_of_ble_eq_true rfl) dL_law_778 ⟨by show _ ≤ 601024; omega, by show _ ≤ 7293034; omega⟩ (fun r_173 g1 H locs hq hG => ?_)
  obtain ⟨O_172, rfl, hf⟩ := hq
  refine lv_istore (lv' := [(5, .int r_173), (0, .ref (b)), (1, .ref (B 1)), (2, .ref (B 0)), (3, .ref (B 9)), (4, .int y4)]) hx hb dL_law_781 hl (by decide) rfl (fun ls hl => ?_)
  refine lv_aload_n hx hb dL_law_783 rfl (lv_at hl 3 rfl) ?_
  refine lv_aload_n hx hb dL_law_784 rfl (lv_at hl 1 rfl) ?_
  refine lv_iload hx hb dL_law_785 (lv_at hl 5 rfl) ?_
  refine lv_iconst (v := (1 : Int32)) hx hb dL_law_787 (by decide) ?_
  refine lv_iadd hx hb dL_law_788 ?_
  obtain ⟨h_174, hf⟩ := hf
  refine va_sld hx hb hX hbl (Nat.not_le.mpr hbl) hG.2.2 h_174 dL_law_789 ?_
  refine g_callVi0 (As := [.int (xs (y4 + (1 : Int32)).toNatClampNeg)]) C hG (kX6_meets hf) (cwV 1 hts gL_law_X6_meets rfl rfl rfl hdvX6_meets ⟨Nat.le_of_ble_eq_true rfl, Nat.le_of_ble_eq_true rfl⟩) (va_recv hK hG.1 (ci := 6) (q0 := 0) rfl rfl) rfl hl.1 rfl (Nat.le_of_ble_eq_true rfl) dL_law_790 ⟨by show _ ≤ 601024; omega, by show _ ≤ 7293034; omega⟩ (fun r_177 g1 H locs hq hG => ?_)
  obtain ⟨I_175, X_176, rfl, hf⟩ := hq
  refine lv_istore (lv' := [(6, .int r_177), (5, .int r_173), (0, .ref (b)), (1, .ref (B 1)), (2, .ref (B 0)), (3, .ref (B 9)), (4, .int y4)]) hx hb dL_law_793 hl (by decide) rfl (fun ls hl => ?_)
  refine lv_aload_n hx hb dL_law_795 rfl (lv_at hl 4 rfl) ?_
  refine g_callVi0 (As := []) C hG (kX6_thrown hf) (cwV 0 hts gL_law_X6_thrown rfl rfl rfl hdvX6_thrown ⟨Nat.le_of_ble_eq_true rfl, Nat.le_of_ble_eq_true rfl⟩) (va_recv hK hG.1 (ci := 6) (q0 := 0) rfl rfl) rfl hl.1 rfl (Nat.le_of_ble_eq_true rfl) dL_law_796 ⟨by show _ ≤ 601024; omega, by show _ ≤ 7293034; omega⟩ (fun r_178 g1 H locs hq hG => ?_)
  obtain ⟨rfl, hf⟩ := hq
  refine lv_iload hx hb dL_law_799 (lv_at hl 1 rfl) ?_
  refine lv_icmp_eq (tgt := 806) hx hb dL_law_801 (by decide) (fun c_179 => ?_) (fun c_179 => ?_)
  · replace hf := hf.1 c_179
    refine lv_iload hx hb dL_law_806 (lv_at hl 1 rfl) ?_
    refine lv_if_ne (tgt := 823) hx hb dL_law_808 (by decide) (fun c_180 => ?_) (fun c_180 => ?_)
    · replace hf := hf.1 c_180
      exact vL_law_823 C hE hX hbl h9 hs9 hG23 SI SX CU CQ CJ CX MI TT AW nE LT la nW WI WR WL WX wd I_175 X_176 O_172 _ _ _ hf hG (lv_sub hl [2, 3, 4, 5, 6] rfl)
    · replace hf := hf.2 c_180
      refine lv_aload_n hx hb dL_law_811 rfl (lv_at hl 5 rfl) ?_
      refine lv_iconst (v := (0 : Int32)) hx hb dL_law_812 (by decide) ?_
      obtain ⟨h_181, hf⟩ := hf
      refine ga_O C hG h_181 dL_law_813 ?_
      refine lv_iload hx hb dL_law_814 (lv_at hl 0 rfl) ?_
      refine lv_i2l hx hb dL_law_816 rfl ?_
      refine W.lcmp hx hb dL_law_817 ?_
      refine lv_if_eq (tgt := 823) hx hb dL_law_818 (by decide) (fun c_182 => ?_) (fun c_182 => ?_)
      · replace hf := hf.1 c_182
        exact vL_law_823 C hE hX hbl h9 hs9 hG23 SI SX CU CQ CJ CX MI TT AW nE LT la nW WI WR WL WX wd I_175 X_176 O_172 _ _ _ hf hG (lv_sub hl [2, 3, 4, 5, 6] rfl)
      · replace hf := hf.2 c_182
        refine lv_iconst (v := (0 : Int32)) hx hb dL_law_821 (by decide) ?_
        exact hf.elim
  · replace hf := hf.2 c_179
    refine lv_iconst (v := (0 : Int32)) hx hb dL_law_804 (by decide) ?_
    exact hf.elim
set_option maxHeartbeats 4000000 in
set_option maxRecDepth 100000 in
theorem vL_law_767 {p : Program} {l : Launch} {e : Env} {s : State} {m : MethodId} {below : List Frame} {meth : Method} {c : Code} {D : va_G} {B : Nat → Nat} {b L : Nat} {xs : Nat → Int32} {cl sl : Nat} (C : gX p s m #[Value.ref b] meth c cL_law 7 ret wsL_law RL D B (fun q => s.heap.size ≤ q)) (hE : gE l (fun q => s.heap.size ≤ q) s s.heap) (hX : va_X b L xs s s.heap) (hbl : b < s.heap.size) (h9 : cl + 9 ≤ 601024) (hs9 : sl + 1991 ≤ 7293034) {y4 : Int32} {G23 : (Nat → Int32) → (Nat → Nat → Int32) → (Int64) → (Int32) → (Nat → Nat → Int64) → (Nat → Nat → Int32) → (Nat → Int32) → (Nat → Int64) → (Nat → Int32) → (Nat) → (Nat → Nat → Int32) → (Nat → Nat) → (Nat) → (Nat → Nat → Int32) → (Nat → Nat → Nat) → (Nat → Nat → Int32) → (Nat → Nat → Nat → Int32) → (Nat → Nat → Nat) → (Nat → Int32) → (Nat → Nat → Int32) → (Nat → Int64) → Int32 → Prop} (hG23 : ∀ (SI : Nat → Int32) (SX : Nat → Nat → Int32) (CU : Int64) (CQ : Int32) (CJ : Nat → Nat → Int64) (CX : Nat → Nat → Int32) (MI : Nat → Int32) (TT : Nat → Int64) (AW : Nat → Int32) (nE : Nat) (LT : Nat → Nat → Int32) (la : Nat → Nat) (nW : Nat) (WI : Nat → Nat → Int32) (WR : Nat → Nat → Nat) (WL : Nat → Nat → Int32) (WX : Nat → Nat → Nat → Int32) (wd : Nat → Nat → Nat) (I : Nat → Int32) (X : Nat → Nat → Int32) (O : Nat → Int64) (H : Heap) (locs : List Loc) (ls : Array Slot), G23 SI SX CU CQ CJ CX MI TT AW nE LT la nW WI WR WL WX wd I X O (y4 + (4 : Int32)) → GS D B (fun q => s.heap.size ≤ q) s.heap ((SI, SX), (CU, CQ, CJ, CX), (MI, TT, AW, nE, LT, la), (nW, WI, WR, WL, WX, wd), (I, X), O) H locs → lv_has ls 7 [(0, .ref (b)), (1, .ref (B 1)), (2, .ref (B 0)), (3, .ref (B 9)), (4, .int (y4 + (4 : Int32)))] → W p l e room_1 s m #[Value.ref b] below meth c H locs (cl + 9) (sl + 1991) (lw_Z below #[Value.ref b] s) (F0 m 23 ls [])) (SI : Nat → Int32) (SX : Nat → Nat → Int32) (CU : Int64) (CQ : Int32) (CJ : Nat → Nat → Int64) (CX : Nat → Nat → Int32) (MI : Nat → Int32) (TT : Nat → Int64) (AW : Nat → Int32) (nE : Nat) (LT : Nat → Nat → Int32) (la : Nat → Nat) (nW : Nat) (WI : Nat → Nat → Int32) (WR : Nat → Nat → Nat) (WL : Nat → Nat → Int32) (WX : Nat → Nat → Nat → Int32) (wd : Nat → Nat → Nat) (I : Nat → Int32) (X : Nat → Nat → Int32) (O : Nat → Int64)  (H : Heap) (locs : List Loc) (ls : Array Slot) (hf : fL_law_767 L xs G23 SI SX CU CQ CJ CX MI TT AW nE LT la nW WI WR WL WX wd I X O y4) (hG : GS D B (fun q => s.heap.size ≤ q) s.heap ((SI, SX), (CU, CQ, CJ, CX), (MI, TT, AW, nE, LT, la), (nW, WI, WR, WL, WX, wd), (I, X), O) H locs) (hl : lv_has ls 7 [(0, .ref (b)), (1, .ref (B 1)), (2, .ref (B 0)), (3, .ref (B 9)), (4, .int y4)]) : W p l e room_1 s m #[Value.ref b] below meth c H locs (cl + 2) (sl + 12) (lw_Z below #[Value.ref b] s) (F0 m 767 ls []) := by
  obtain ⟨hx, hb, hml, hown, hts, hK, hr, hlk, hA, hN⟩ := id C
  unfold fL_law_767 at hf
  refine lv_goto (tgt := 1123) hx hb dL_law_767 (by decide) ?_
  refine W.widen (k := cl + 9) (n := sl + 1991) (by omega) (by omega) ?_
  exact vL_law_1123 C hE hX hbl h9 hs9 hG23 SI SX CU CQ CJ CX MI TT AW nE LT la nW WI WR WL WX wd I X O _ _ _ hf hG (lv_sub hl [0, 1, 2, 3, 4] rfl)
set_option maxHeartbeats 4000000 in
set_option maxRecDepth 100000 in
theorem vL_law_734 {p : Program} {l : Launch} {e : Env} {s : State} {m : MethodId} {below : List Frame} {meth : Method} {c : Code} {D : va_G} {B : Nat → Nat} {b L : Nat} {xs : Nat → Int32} {cl sl : Nat} (C : gX p s m #[Value.ref b] meth c cL_law 7 ret wsL_law RL D B (fun q => s.heap.size ≤ q)) (hE : gE l (fun q => s.heap.size ≤ q) s s.heap) (hX : va_X b L xs s s.heap) (hbl : b < s.heap.size) (h9 : cl + 9 ≤ 601024) (hs9 : sl + 1991 ≤ 7293034) {y4 : Int32} {G23 : (Nat → Int32) → (Nat → Nat → Int32) → (Int64) → (Int32) → (Nat → Nat → Int64) → (Nat → Nat → Int32) → (Nat → Int32) → (Nat → Int64) → (Nat → Int32) → (Nat) → (Nat → Nat → Int32) → (Nat → Nat) → (Nat) → (Nat → Nat → Int32) → (Nat → Nat → Nat) → (Nat → Nat → Int32) → (Nat → Nat → Nat → Int32) → (Nat → Nat → Nat) → (Nat → Int32) → (Nat → Nat → Int32) → (Nat → Int64) → Int32 → Prop} (hG23 : ∀ (SI : Nat → Int32) (SX : Nat → Nat → Int32) (CU : Int64) (CQ : Int32) (CJ : Nat → Nat → Int64) (CX : Nat → Nat → Int32) (MI : Nat → Int32) (TT : Nat → Int64) (AW : Nat → Int32) (nE : Nat) (LT : Nat → Nat → Int32) (la : Nat → Nat) (nW : Nat) (WI : Nat → Nat → Int32) (WR : Nat → Nat → Nat) (WL : Nat → Nat → Int32) (WX : Nat → Nat → Nat → Int32) (wd : Nat → Nat → Nat) (I : Nat → Int32) (X : Nat → Nat → Int32) (O : Nat → Int64) (H : Heap) (locs : List Loc) (ls : Array Slot), G23 SI SX CU CQ CJ CX MI TT AW nE LT la nW WI WR WL WX wd I X O (y4 + (4 : Int32)) → GS D B (fun q => s.heap.size ≤ q) s.heap ((SI, SX), (CU, CQ, CJ, CX), (MI, TT, AW, nE, LT, la), (nW, WI, WR, WL, WX, wd), (I, X), O) H locs → lv_has ls 7 [(0, .ref (b)), (1, .ref (B 1)), (2, .ref (B 0)), (3, .ref (B 9)), (4, .int (y4 + (4 : Int32)))] → W p l e room_1 s m #[Value.ref b] below meth c H locs (cl + 9) (sl + 1991) (lw_Z below #[Value.ref b] s) (F0 m 23 ls [])) (SI : Nat → Int32) (SX : Nat → Nat → Int32) (CU : Int64) (CQ : Int32) (CJ : Nat → Nat → Int64) (CX : Nat → Nat → Int32) (MI : Nat → Int32) (TT : Nat → Int64) (AW : Nat → Int32) (nE : Nat) (LT : Nat → Nat → Int32) (la : Nat → Nat) (nW : Nat) (WI : Nat → Nat → Int32) (WR : Nat → Nat → Nat) (WL : Nat → Nat → Int32) (WX : Nat → Nat → Nat → Int32) (wd : Nat → Nat → Nat) (I : Nat → Int32) (X : Nat → Nat → Int32) (O : Nat → Int64) (y5 : Int32) (t0 : Int32) (t1 : Int32) (t2 : Int32) (H : Heap) (locs : List Loc) (ls : Array Slot) (hf : fL_law_734 L xs G23 SI SX CU CQ CJ CX MI TT AW nE LT la nW WI WR WL WX wd I X O y4 y5 t0 t1 t2) (hG : GS D B (fun q => s.heap.size ≤ q) s.heap ((SI, SX), (CU, CQ, CJ, CX), (MI, TT, AW, nE, LT, la), (nW, WI, WR, WL, WX, wd), (I, X), O) H locs) (hl : lv_has ls 7 [(0, .ref (b)), (1, .ref (B 1)), (2, .ref (B 0)), (3, .ref (B 9)), (4, .int y4), (5, .int y5)]) : W p l e room_1 s m #[Value.ref b] below meth c H locs (cl + 2) (sl + 12) (lw_Z below #[Value.ref b] s) (F0 m 734 ls [.int t0, .int t1, .int t2, .ref (B 0)]) := by
  obtain ⟨hx, hb, hml, hown, hts, hK, hr, hlk, hA, hN⟩ := id C
  unfold fL_law_734 at hf
  refine g_callVi0 (As := [.int t2, .int t1, .int t0]) C hG (kX6_late hf) (cwV 3 hts gL_law_X6_late rfl rfl rfl hdvX6_late ⟨Nat.le_of_ble_eq_true rfl, Nat.le_of_ble_eq_true rfl⟩) (va_recv hK hG.1 (ci := 6) (q0 := 0) rfl rfl) rfl hl.1 rfl (Nat.le_of_ble_eq_true rfl) dL_law_734 ⟨by show _ ≤ 601024; omega, by show _ ≤ 7293034; omega⟩ (fun r_165 g1 H locs hq hG => ?_)
  obtain ⟨I_163, X_164, rfl, hf⟩ := hq
  refine lv_istore (lv' := [(6, .int r_165), (0, .ref (b)), (1, .ref (B 1)), (2, .ref (B 0)), (3, .ref (B 9)), (4, .int y4), (5, .int y5)]) hx hb dL_law_737 hl (by decide) rfl (fun ls hl => ?_)
  refine lv_aload_n hx hb dL_law_739 rfl (lv_at hl 3 rfl) ?_
  refine g_callVi0 (As := []) C hG (kX6_thrown hf) (cwV 0 hts gL_law_X6_thrown rfl rfl rfl hdvX6_thrown ⟨Nat.le_of_ble_eq_true rfl, Nat.le_of_ble_eq_true rfl⟩) (va_recv hK hG.1 (ci := 6) (q0 := 0) rfl rfl) rfl hl.1 rfl (Nat.le_of_ble_eq_true rfl) dL_law_740 ⟨by show _ ≤ 601024; omega, by show _ ≤ 7293034; omega⟩ (fun r_166 g1 H locs hq hG => ?_)
  obtain ⟨rfl, hf⟩ := hq
  refine lv_iload hx hb dL_law_743 (lv_at hl 6 rfl) ?_
  refine lv_icmp_eq (tgt := 750) hx hb dL_law_745 (by decide) (fun c_167 => ?_) (fun c_167 => ?_)
  · replace hf := hf.1 c_167
    refine lv_iload hx hb dL_law_750 (lv_at hl 6 rfl) ?_
    refine lv_if_ne (tgt := 767) hx hb dL_law_752 (by decide) (fun c_168 => ?_) (fun c_168 => ?_)
    · replace hf := hf.1 c_168
      exact vL_law_767 C hE hX hbl h9 hs9 hG23 SI SX CU CQ CJ CX MI TT AW nE LT la nW WI WR WL WX wd I_163 X_164 O _ _ _ hf hG (lv_sub hl [1, 2, 3, 4, 5] rfl)
    · replace hf := hf.2 c_168
      refine lv_aload_n hx hb dL_law_755 rfl (lv_at hl 4 rfl) ?_
      refine lv_iconst (v := (0 : Int32)) hx hb dL_law_756 (by decide) ?_
      obtain ⟨h_169, hf⟩ := hf
      refine ga_O C hG h_169 dL_law_757 ?_
      refine lv_iload hx hb dL_law_758 (lv_at hl 0 rfl) ?_
      refine lv_i2l hx hb dL_law_760 rfl ?_
      refine W.lcmp hx hb dL_law_761 ?_
      refine lv_if_eq (tgt := 767) hx hb dL_law_762 (by decide) (fun c_170 => ?_) (fun c_170 => ?_)
      · replace hf := hf.1 c_170
        exact vL_law_767 C hE hX hbl h9 hs9 hG23 SI SX CU CQ CJ CX MI TT AW nE LT la nW WI WR WL WX wd I_163 X_164 O _ _ _ hf hG (lv_sub hl [1, 2, 3, 4, 5] rfl)
      · replace hf := hf.2 c_170
        refine lv_iconst (v := (0 : Int32)) hx hb dL_law_765 (by decide) ?_
        exact hf.elim
  · replace hf := hf.2 c_167
    refine lv_iconst (v := (0 : Int32)) hx hb dL_law_748 (by decide) ?_
    exact hf.elim
set_option maxHeartbeats 4000000 in
set_option maxRecDepth 100000 in
theorem vL_law_701 {p : Program} {l : Launch} {e : Env} {s : State} {m : MethodId} {below : List Frame} {meth : Method} {c : Code} {D : va_G} {B : Nat → Nat} {b L : Nat} {xs : Nat → Int32} {cl sl : Nat} (C : gX p s m #[Value.ref b] meth c cL_law 7 ret wsL_law RL D B (fun q => s.heap.size ≤ q)) (hE : gE l (fun q => s.heap.size ≤ q) s s.heap) (hX : va_X b L xs s s.heap) (hbl : b < s.heap.size) (h9 : cl + 9 ≤ 601024) (hs9 : sl + 1991 ≤ 7293034) {y4 : Int32} {G23 : (Nat → Int32) → (Nat → Nat → Int32) → (Int64) → (Int32) → (Nat → Nat → Int64) → (Nat → Nat → Int32) → (Nat → Int32) → (Nat → Int64) → (Nat → Int32) → (Nat) → (Nat → Nat → Int32) → (Nat → Nat) → (Nat) → (Nat → Nat → Int32) → (Nat → Nat → Nat) → (Nat → Nat → Int32) → (Nat → Nat → Nat → Int32) → (Nat → Nat → Nat) → (Nat → Int32) → (Nat → Nat → Int32) → (Nat → Int64) → Int32 → Prop} (hG23 : ∀ (SI : Nat → Int32) (SX : Nat → Nat → Int32) (CU : Int64) (CQ : Int32) (CJ : Nat → Nat → Int64) (CX : Nat → Nat → Int32) (MI : Nat → Int32) (TT : Nat → Int64) (AW : Nat → Int32) (nE : Nat) (LT : Nat → Nat → Int32) (la : Nat → Nat) (nW : Nat) (WI : Nat → Nat → Int32) (WR : Nat → Nat → Nat) (WL : Nat → Nat → Int32) (WX : Nat → Nat → Nat → Int32) (wd : Nat → Nat → Nat) (I : Nat → Int32) (X : Nat → Nat → Int32) (O : Nat → Int64) (H : Heap) (locs : List Loc) (ls : Array Slot), G23 SI SX CU CQ CJ CX MI TT AW nE LT la nW WI WR WL WX wd I X O (y4 + (4 : Int32)) → GS D B (fun q => s.heap.size ≤ q) s.heap ((SI, SX), (CU, CQ, CJ, CX), (MI, TT, AW, nE, LT, la), (nW, WI, WR, WL, WX, wd), (I, X), O) H locs → lv_has ls 7 [(0, .ref (b)), (1, .ref (B 1)), (2, .ref (B 0)), (3, .ref (B 9)), (4, .int (y4 + (4 : Int32)))] → W p l e room_1 s m #[Value.ref b] below meth c H locs (cl + 9) (sl + 1991) (lw_Z below #[Value.ref b] s) (F0 m 23 ls [])) (SI : Nat → Int32) (SX : Nat → Nat → Int32) (CU : Int64) (CQ : Int32) (CJ : Nat → Nat → Int64) (CX : Nat → Nat → Int32) (MI : Nat → Int32) (TT : Nat → Int64) (AW : Nat → Int32) (nE : Nat) (LT : Nat → Nat → Int32) (la : Nat → Nat) (nW : Nat) (WI : Nat → Nat → Int32) (WR : Nat → Nat → Nat) (WL : Nat → Nat → Int32) (WX : Nat → Nat → Nat → Int32) (wd : Nat → Nat → Nat) (I : Nat → Int32) (X : Nat → Nat → Int32) (O : Nat → Int64) (t0 : Int32) (t1 : Int32) (t2 : Int32) (H : Heap) (locs : List Loc) (ls : Array Slot) (hf : fL_law_701 L xs G23 SI SX CU CQ CJ CX MI TT AW nE LT la nW WI WR WL WX wd I X O y4 t0 t1 t2) (hG : GS D B (fun q => s.heap.size ≤ q) s.heap ((SI, SX), (CU, CQ, CJ, CX), (MI, TT, AW, nE, LT, la), (nW, WI, WR, WL, WX, wd), (I, X), O) H locs) (hl : lv_has ls 7 [(0, .ref (b)), (1, .ref (B 1)), (2, .ref (B 0)), (3, .ref (B 9)), (4, .int y4)]) : W p l e room_1 s m #[Value.ref b] below meth c H locs cl sl (lw_Z below #[Value.ref b] s) (F0 m 701 ls [.int t0, .int t1, .int t2, .ref (B 1)]) := by
  obtain ⟨hx, hb, hml, hown, hts, hK, hr, hlk, hA, hN⟩ := id C
  unfold fL_law_701 at hf
  refine lv_aload_n hx hb dL_law_701 rfl (lv_at hl 3 rfl) ?_
  refine g_callLi (As := [.ref (B 1), .int t2, .int t1, .int t0, .ref (B 9)]) C hE hG (kL_late hf) (vx_cwSW 5 hts gL_law_L_late rfl rfl rfl hdsL_late ⟨Nat.le_of_ble_eq_true rfl, Nat.le_of_ble_eq_true rfl⟩) rfl hl.1 rfl (Nat.le_of_ble_eq_true rfl) dL_law_702 ⟨by show _ ≤ 601024; omega, by show _ ≤ 7293034; omega⟩ (fun r_158 g1 H locs hq hG => ?_)
  obtain ⟨WI_153, WR_154, WL_155, WX_156, O_157, rfl, hf⟩ := hq
  refine lv_istore (lv' := [(5, .int r_158), (0, .ref (b)), (1, .ref (B 1)), (2, .ref (B 0)), (3, .ref (B 9)), (4, .int y4)]) hx hb dL_law_705 hl (by decide) rfl (fun ls hl => ?_)
  refine lv_aload_n hx hb dL_law_707 rfl (lv_at hl 3 rfl) ?_
  refine lv_aload_n hx hb dL_law_708 rfl (lv_at hl 1 rfl) ?_
  refine lv_iload hx hb dL_law_709 (lv_at hl 5 rfl) ?_
  refine lv_iconst (v := (1 : Int32)) hx hb dL_law_711 (by decide) ?_
  refine lv_iadd hx hb dL_law_712 ?_
  obtain ⟨h_159, hf⟩ := hf
  refine va_sld hx hb hX hbl (Nat.not_le.mpr hbl) hG.2.2 h_159 dL_law_713 ?_
  refine lv_aload_n hx hb dL_law_714 rfl (lv_at hl 1 rfl) ?_
  refine lv_iload hx hb dL_law_715 (lv_at hl 5 rfl) ?_
  refine lv_iconst (v := (2 : Int32)) hx hb dL_law_717 (by decide) ?_
  refine lv_iadd hx hb dL_law_718 ?_
  obtain ⟨h_160, hf⟩ := hf
  refine va_sld hx hb hX hbl (Nat.not_le.mpr hbl) hG.2.2 h_160 dL_law_719 ?_
  refine lv_aload_n hx hb dL_law_720 rfl (lv_at hl 1 rfl) ?_
  refine lv_iload hx hb dL_law_721 (lv_at hl 5 rfl) ?_
  refine lv_iconst (v := (3 : Int32)) hx hb dL_law_723 (by decide) ?_
  refine lv_iadd hx hb dL_law_724 ?_
  obtain ⟨h_161, hf⟩ := hf
  refine va_sld hx hb hX hbl (Nat.not_le.mpr hbl) hG.2.2 h_161 dL_law_725 ?_
  refine lv_if_eq (tgt := 733) hx hb dL_law_726 (by decide) (fun c_162 => ?_) (fun c_162 => ?_)
  · replace hf := hf.1 c_162
    refine lv_iconst (v := (0 : Int32)) hx hb dL_law_733 (by decide) ?_
    exact vL_law_734 C hE hX hbl h9 hs9 hG23 SI SX CU CQ CJ CX MI TT AW nE LT la nW WI_153 WR_154 WL_155 WX_156 wd I X O_157 r_158 (0 : Int32) (xs (y4 + (2 : Int32)).toNatClampNeg) (xs (y4 + (1 : Int32)).toNatClampNeg) _ _ _ hf hG (lv_sub hl [1, 2, 3, 4, 5, 0] rfl)
  · replace hf := hf.2 c_162
    refine lv_iconst (v := (1 : Int32)) hx hb dL_law_729 (by decide) ?_
    refine lv_goto (tgt := 734) hx hb dL_law_730 (by decide) ?_
    exact vL_law_734 C hE hX hbl h9 hs9 hG23 SI SX CU CQ CJ CX MI TT AW nE LT la nW WI_153 WR_154 WL_155 WX_156 wd I X O_157 r_158 (1 : Int32) (xs (y4 + (2 : Int32)).toNatClampNeg) (xs (y4 + (1 : Int32)).toNatClampNeg) _ _ _ hf hG (lv_sub hl [1, 2, 3, 4, 5, 0] rfl)
set_option maxHeartbeats 4000000 in
set_option maxRecDepth 100000 in
theorem vL_law_674 {p : Program} {l : Launch} {e : Env} {s : State} {m : MethodId} {below : List Frame} {meth : Method} {c : Code} {D : va_G} {B : Nat → Nat} {b L : Nat} {xs : Nat → Int32} {cl sl : Nat} (C : gX p s m #[Value.ref b] meth c cL_law 7 ret wsL_law RL D B (fun q => s.heap.size ≤ q)) (hE : gE l (fun q => s.heap.size ≤ q) s s.heap) (hX : va_X b L xs s s.heap) (hbl : b < s.heap.size) (h9 : cl + 9 ≤ 601024) (hs9 : sl + 1991 ≤ 7293034) {y4 : Int32} {G23 : (Nat → Int32) → (Nat → Nat → Int32) → (Int64) → (Int32) → (Nat → Nat → Int64) → (Nat → Nat → Int32) → (Nat → Int32) → (Nat → Int64) → (Nat → Int32) → (Nat) → (Nat → Nat → Int32) → (Nat → Nat) → (Nat) → (Nat → Nat → Int32) → (Nat → Nat → Nat) → (Nat → Nat → Int32) → (Nat → Nat → Nat → Int32) → (Nat → Nat → Nat) → (Nat → Int32) → (Nat → Nat → Int32) → (Nat → Int64) → Int32 → Prop} (hG23 : ∀ (SI : Nat → Int32) (SX : Nat → Nat → Int32) (CU : Int64) (CQ : Int32) (CJ : Nat → Nat → Int64) (CX : Nat → Nat → Int32) (MI : Nat → Int32) (TT : Nat → Int64) (AW : Nat → Int32) (nE : Nat) (LT : Nat → Nat → Int32) (la : Nat → Nat) (nW : Nat) (WI : Nat → Nat → Int32) (WR : Nat → Nat → Nat) (WL : Nat → Nat → Int32) (WX : Nat → Nat → Nat → Int32) (wd : Nat → Nat → Nat) (I : Nat → Int32) (X : Nat → Nat → Int32) (O : Nat → Int64) (H : Heap) (locs : List Loc) (ls : Array Slot), G23 SI SX CU CQ CJ CX MI TT AW nE LT la nW WI WR WL WX wd I X O (y4 + (4 : Int32)) → GS D B (fun q => s.heap.size ≤ q) s.heap ((SI, SX), (CU, CQ, CJ, CX), (MI, TT, AW, nE, LT, la), (nW, WI, WR, WL, WX, wd), (I, X), O) H locs → lv_has ls 7 [(0, .ref (b)), (1, .ref (B 1)), (2, .ref (B 0)), (3, .ref (B 9)), (4, .int (y4 + (4 : Int32)))] → W p l e room_1 s m #[Value.ref b] below meth c H locs (cl + 9) (sl + 1991) (lw_Z below #[Value.ref b] s) (F0 m 23 ls [])) (SI : Nat → Int32) (SX : Nat → Nat → Int32) (CU : Int64) (CQ : Int32) (CJ : Nat → Nat → Int64) (CX : Nat → Nat → Int32) (MI : Nat → Int32) (TT : Nat → Int64) (AW : Nat → Int32) (nE : Nat) (LT : Nat → Nat → Int32) (la : Nat → Nat) (nW : Nat) (WI : Nat → Nat → Int32) (WR : Nat → Nat → Nat) (WL : Nat → Nat → Int32) (WX : Nat → Nat → Nat → Int32) (wd : Nat → Nat → Nat) (I : Nat → Int32) (X : Nat → Nat → Int32) (O : Nat → Int64)  (H : Heap) (locs : List Loc) (ls : Array Slot) (hf : fL_law_674 L xs G23 SI SX CU CQ CJ CX MI TT AW nE LT la nW WI WR WL WX wd I X O y4) (hG : GS D B (fun q => s.heap.size ≤ q) s.heap ((SI, SX), (CU, CQ, CJ, CX), (MI, TT, AW, nE, LT, la), (nW, WI, WR, WL, WX, wd), (I, X), O) H locs) (hl : lv_has ls 7 [(0, .ref (b)), (1, .ref (B 1)), (2, .ref (B 0)), (3, .ref (B 9)), (4, .int y4)]) : W p l e room_1 s m #[Value.ref b] below meth c H locs cl sl (lw_Z below #[Value.ref b] s) (F0 m 674 ls []) := by
  obtain ⟨hx, hb, hml, hown, hts, hK, hr, hlk, hA, hN⟩ := id C
  unfold fL_law_674 at hf
  refine lv_aload_n hx hb dL_law_674 rfl (lv_at hl 1 rfl) ?_
  refine lv_aload_n hx hb dL_law_675 rfl (lv_at hl 0 rfl) ?_
  refine lv_iload hx hb dL_law_676 (lv_at hl 4 rfl) ?_
  refine lv_iconst (v := (1 : Int32)) hx hb dL_law_678 (by decide) ?_
  refine lv_iadd hx hb dL_law_679 ?_
  obtain ⟨h_149, hf⟩ := hf
  refine va_sld hx hb hX hbl (Nat.not_le.mpr hbl) hG.2.2 h_149 dL_law_680 ?_
  refine lv_aload_n hx hb dL_law_681 rfl (lv_at hl 0 rfl) ?_
  refine lv_iload hx hb dL_law_682 (lv_at hl 4 rfl) ?_
  refine lv_iconst (v := (2 : Int32)) hx hb dL_law_684 (by decide) ?_
  refine lv_iadd hx hb dL_law_685 ?_
  obtain ⟨h_150, hf⟩ := hf
  refine va_sld hx hb hX hbl (Nat.not_le.mpr hbl) hG.2.2 h_150 dL_law_686 ?_
  refine lv_aload_n hx hb dL_law_687 rfl (lv_at hl 0 rfl) ?_
  refine lv_iload hx hb dL_law_688 (lv_at hl 4 rfl) ?_
  refine lv_iconst (v := (3 : Int32)) hx hb dL_law_690 (by decide) ?_
  refine lv_iadd hx hb dL_law_691 ?_
  obtain ⟨h_151, hf⟩ := hf
  refine va_sld hx hb hX hbl (Nat.not_le.mpr hbl) hG.2.2 h_151 dL_law_692 ?_
  refine lv_if_eq (tgt := 700) hx hb dL_law_693 (by decide) (fun c_152 => ?_) (fun c_152 => ?_)
  · replace hf := hf.1 c_152
    refine lv_iconst (v := (0 : Int32)) hx hb dL_law_700 (by decide) ?_
    exact vL_law_701 C hE hX hbl h9 hs9 hG23 SI SX CU CQ CJ CX MI TT AW nE LT la nW WI WR WL WX wd I X O (0 : Int32) (xs (y4 + (2 : Int32)).toNatClampNeg) (xs (y4 + (1 : Int32)).toNatClampNeg) _ _ _ hf hG (lv_sub hl [0, 1, 2, 3, 4] rfl)
  · replace hf := hf.2 c_152
    refine lv_iconst (v := (1 : Int32)) hx hb dL_law_696 (by decide) ?_
    refine lv_goto (tgt := 701) hx hb dL_law_697 (by decide) ?_
    exact vL_law_701 C hE hX hbl h9 hs9 hG23 SI SX CU CQ CJ CX MI TT AW nE LT la nW WI WR WL WX wd I X O (1 : Int32) (xs (y4 + (2 : Int32)).toNatClampNeg) (xs (y4 + (1 : Int32)).toNatClampNeg) _ _ _ hf hG (lv_sub hl [0, 1, 2, 3, 4] rfl)
set_option maxHeartbeats 4000000 in
set_option maxRecDepth 100000 in
theorem vL_law_671 {p : Program} {l : Launch} {e : Env} {s : State} {m : MethodId} {below : List Frame} {meth : Method} {c : Code} {D : va_G} {B : Nat → Nat} {b L : Nat} {xs : Nat → Int32} {cl sl : Nat} (C : gX p s m #[Value.ref b] meth c cL_law 7 ret wsL_law RL D B (fun q => s.heap.size ≤ q)) (hE : gE l (fun q => s.heap.size ≤ q) s s.heap) (hX : va_X b L xs s s.heap) (hbl : b < s.heap.size) (h9 : cl + 9 ≤ 601024) (hs9 : sl + 1991 ≤ 7293034) {y4 : Int32} {G23 : (Nat → Int32) → (Nat → Nat → Int32) → (Int64) → (Int32) → (Nat → Nat → Int64) → (Nat → Nat → Int32) → (Nat → Int32) → (Nat → Int64) → (Nat → Int32) → (Nat) → (Nat → Nat → Int32) → (Nat → Nat) → (Nat) → (Nat → Nat → Int32) → (Nat → Nat → Nat) → (Nat → Nat → Int32) → (Nat → Nat → Nat → Int32) → (Nat → Nat → Nat) → (Nat → Int32) → (Nat → Nat → Int32) → (Nat → Int64) → Int32 → Prop} (hG23 : ∀ (SI : Nat → Int32) (SX : Nat → Nat → Int32) (CU : Int64) (CQ : Int32) (CJ : Nat → Nat → Int64) (CX : Nat → Nat → Int32) (MI : Nat → Int32) (TT : Nat → Int64) (AW : Nat → Int32) (nE : Nat) (LT : Nat → Nat → Int32) (la : Nat → Nat) (nW : Nat) (WI : Nat → Nat → Int32) (WR : Nat → Nat → Nat) (WL : Nat → Nat → Int32) (WX : Nat → Nat → Nat → Int32) (wd : Nat → Nat → Nat) (I : Nat → Int32) (X : Nat → Nat → Int32) (O : Nat → Int64) (H : Heap) (locs : List Loc) (ls : Array Slot), G23 SI SX CU CQ CJ CX MI TT AW nE LT la nW WI WR WL WX wd I X O (y4 + (4 : Int32)) → GS D B (fun q => s.heap.size ≤ q) s.heap ((SI, SX), (CU, CQ, CJ, CX), (MI, TT, AW, nE, LT, la), (nW, WI, WR, WL, WX, wd), (I, X), O) H locs → lv_has ls 7 [(0, .ref (b)), (1, .ref (B 1)), (2, .ref (B 0)), (3, .ref (B 9)), (4, .int (y4 + (4 : Int32)))] → W p l e room_1 s m #[Value.ref b] below meth c H locs (cl + 9) (sl + 1991) (lw_Z below #[Value.ref b] s) (F0 m 23 ls [])) (SI : Nat → Int32) (SX : Nat → Nat → Int32) (CU : Int64) (CQ : Int32) (CJ : Nat → Nat → Int64) (CX : Nat → Nat → Int32) (MI : Nat → Int32) (TT : Nat → Int64) (AW : Nat → Int32) (nE : Nat) (LT : Nat → Nat → Int32) (la : Nat → Nat) (nW : Nat) (WI : Nat → Nat → Int32) (WR : Nat → Nat → Nat) (WL : Nat → Nat → Int32) (WX : Nat → Nat → Nat → Int32) (wd : Nat → Nat → Nat) (I : Nat → Int32) (X : Nat → Nat → Int32) (O : Nat → Int64)  (H : Heap) (locs : List Loc) (ls : Array Slot) (hf : fL_law_671 L xs G23 SI SX CU CQ CJ CX MI TT AW nE LT la nW WI WR WL WX wd I X O y4) (hG : GS D B (fun q => s.heap.size ≤ q) s.heap ((SI, SX), (CU, CQ, CJ, CX), (MI, TT, AW, nE, LT, la), (nW, WI, WR, WL, WX, wd), (I, X), O) H locs) (hl : lv_has ls 7 [(0, .ref (b)), (1, .ref (B 1)), (2, .ref (B 0)), (3, .ref (B 9)), (4, .int y4)]) : W p l e room_1 s m #[Value.ref b] below meth c H locs (cl + 3) (sl + 18) (lw_Z below #[Value.ref b] s) (F0 m 671 ls []) := by
  obtain ⟨hx, hb, hml, hown, hts, hK, hr, hlk, hA, hN⟩ := id C
  unfold fL_law_671 at hf
  refine lv_goto (tgt := 1123) hx hb dL_law_671 (by decide) ?_
  refine W.widen (k := cl + 9) (n := sl + 1991) (by omega) (by omega) ?_
  exact vL_law_1123 C hE hX hbl h9 hs9 hG23 SI SX CU CQ CJ CX MI TT AW nE LT la nW WI WR WL WX wd I X O _ _ _ hf hG (lv_sub hl [0, 1, 2, 3, 4] rfl)
set_option maxHeartbeats 4000000 in
set_option maxRecDepth 100000 in
theorem vL_law_594 {p : Program} {l : Launch} {e : Env} {s : State} {m : MethodId} {below : List Frame} {meth : Method} {c : Code} {D : va_G} {B : Nat → Nat} {b L : Nat} {xs : Nat → Int32} {cl sl : Nat} (C : gX p s m #[Value.ref b] meth c cL_law 7 ret wsL_law RL D B (fun q => s.heap.size ≤ q)) (hE : gE l (fun q => s.heap.size ≤ q) s s.heap) (hX : va_X b L xs s s.heap) (hbl : b < s.heap.size) (h9 : cl + 9 ≤ 601024) (hs9 : sl + 1991 ≤ 7293034) {y4 : Int32} {G23 : (Nat → Int32) → (Nat → Nat → Int32) → (Int64) → (Int32) → (Nat → Nat → Int64) → (Nat → Nat → Int32) → (Nat → Int32) → (Nat → Int64) → (Nat → Int32) → (Nat) → (Nat → Nat → Int32) → (Nat → Nat) → (Nat) → (Nat → Nat → Int32) → (Nat → Nat → Nat) → (Nat → Nat → Int32) → (Nat → Nat → Nat → Int32) → (Nat → Nat → Nat) → (Nat → Int32) → (Nat → Nat → Int32) → (Nat → Int64) → Int32 → Prop} (hG23 : ∀ (SI : Nat → Int32) (SX : Nat → Nat → Int32) (CU : Int64) (CQ : Int32) (CJ : Nat → Nat → Int64) (CX : Nat → Nat → Int32) (MI : Nat → Int32) (TT : Nat → Int64) (AW : Nat → Int32) (nE : Nat) (LT : Nat → Nat → Int32) (la : Nat → Nat) (nW : Nat) (WI : Nat → Nat → Int32) (WR : Nat → Nat → Nat) (WL : Nat → Nat → Int32) (WX : Nat → Nat → Nat → Int32) (wd : Nat → Nat → Nat) (I : Nat → Int32) (X : Nat → Nat → Int32) (O : Nat → Int64) (H : Heap) (locs : List Loc) (ls : Array Slot), G23 SI SX CU CQ CJ CX MI TT AW nE LT la nW WI WR WL WX wd I X O (y4 + (4 : Int32)) → GS D B (fun q => s.heap.size ≤ q) s.heap ((SI, SX), (CU, CQ, CJ, CX), (MI, TT, AW, nE, LT, la), (nW, WI, WR, WL, WX, wd), (I, X), O) H locs → lv_has ls 7 [(0, .ref (b)), (1, .ref (B 1)), (2, .ref (B 0)), (3, .ref (B 9)), (4, .int (y4 + (4 : Int32)))] → W p l e room_1 s m #[Value.ref b] below meth c H locs (cl + 9) (sl + 1991) (lw_Z below #[Value.ref b] s) (F0 m 23 ls [])) (SI : Nat → Int32) (SX : Nat → Nat → Int32) (CU : Int64) (CQ : Int32) (CJ : Nat → Nat → Int64) (CX : Nat → Nat → Int32) (MI : Nat → Int32) (TT : Nat → Int64) (AW : Nat → Int32) (nE : Nat) (LT : Nat → Nat → Int32) (la : Nat → Nat) (nW : Nat) (WI : Nat → Nat → Int32) (WR : Nat → Nat → Nat) (WL : Nat → Nat → Int32) (WX : Nat → Nat → Nat → Int32) (wd : Nat → Nat → Nat) (I : Nat → Int32) (X : Nat → Nat → Int32) (O : Nat → Int64)  (H : Heap) (locs : List Loc) (ls : Array Slot) (hf : fL_law_594 L xs G23 SI SX CU CQ CJ CX MI TT AW nE LT la nW WI WR WL WX wd I X O y4) (hG : GS D B (fun q => s.heap.size ≤ q) s.heap ((SI, SX), (CU, CQ, CJ, CX), (MI, TT, AW, nE, LT, la), (nW, WI, WR, WL, WX, wd), (I, X), O) H locs) (hl : lv_has ls 7 [(0, .ref (b)), (1, .ref (B 1)), (2, .ref (B 0)), (3, .ref (B 9)), (4, .int y4)]) : W p l e room_1 s m #[Value.ref b] below meth c H locs cl sl (lw_Z below #[Value.ref b] s) (F0 m 594 ls []) := by
  obtain ⟨hx, hb, hml, hown, hts, hK, hr, hlk, hA, hN⟩ := id C
  unfold fL_law_594 at hf
  refine lv_aload_n hx hb dL_law_594 rfl (lv_at hl 1 rfl) ?_
  refine lv_aload_n hx hb dL_law_595 rfl (lv_at hl 0 rfl) ?_
  refine lv_iload hx hb dL_law_596 (lv_at hl 4 rfl) ?_
  refine lv_iconst (v := (1 : Int32)) hx hb dL_law_598 (by decide) ?_
  refine lv_iadd hx hb dL_law_599 ?_
  obtain ⟨h_129, hf⟩ := hf
  refine va_sld hx hb hX hbl (Nat.not_le.mpr hbl) hG.2.2 h_129 dL_law_600 ?_
  refine lv_aload_n hx hb dL_law_601 rfl (lv_at hl 0 rfl) ?_
  refine lv_iload hx hb dL_law_602 (lv_at hl 4 rfl) ?_
  refine lv_iconst (v := (2 : Int32)) hx hb dL_law_604 (by decide) ?_
  refine lv_iadd hx hb dL_law_605 ?_
  obtain ⟨h_130, hf⟩ := hf
  refine va_sld hx hb hX hbl (Nat.not_le.mpr hbl) hG.2.2 h_130 dL_law_606 ?_
  refine lv_aload_n hx hb dL_law_607 rfl (lv_at hl 0 rfl) ?_
  refine lv_iload hx hb dL_law_608 (lv_at hl 4 rfl) ?_
  refine lv_iconst (v := (3 : Int32)) hx hb dL_law_610 (by decide) ?_
  refine lv_iadd hx hb dL_law_611 ?_
  obtain ⟨h_131, hf⟩ := hf
  refine va_sld hx hb hX hbl (Nat.not_le.mpr hbl) hG.2.2 h_131 dL_law_612 ?_
  refine lv_aload_n hx hb dL_law_613 rfl (lv_at hl 3 rfl) ?_
  refine g_callLi (As := [.ref (B 1), .int (xs (y4 + (1 : Int32)).toNatClampNeg), .int (xs (y4 + (2 : Int32)).toNatClampNeg), .int (xs (y4 + (3 : Int32)).toNatClampNeg), .ref (B 9)]) C hE hG (kL_earliest hf) (vx_cwSW 5 hts gL_law_L_earliest rfl rfl rfl hdsL_earliest ⟨Nat.le_of_ble_eq_true rfl, Nat.le_of_ble_eq_true rfl⟩) rfl hl.1 rfl (Nat.le_of_ble_eq_true rfl) dL_law_614 ⟨by show _ ≤ 601024; omega, by show _ ≤ 7293034; omega⟩ (fun r_137 g1 H locs hq hG => ?_)
  obtain ⟨WI_132, WR_133, WL_134, WX_135, O_136, rfl, hf⟩ := hq
  refine lv_istore (lv' := [(5, .int r_137), (0, .ref (b)), (1, .ref (B 1)), (2, .ref (B 0)), (3, .ref (B 9)), (4, .int y4)]) hx hb dL_law_617 hl (by decide) rfl (fun ls hl => ?_)
  refine lv_aload_n hx hb dL_law_619 rfl (lv_at hl 3 rfl) ?_
  refine lv_aload_n hx hb dL_law_620 rfl (lv_at hl 1 rfl) ?_
  refine lv_iload hx hb dL_law_621 (lv_at hl 5 rfl) ?_
  refine lv_iconst (v := (1 : Int32)) hx hb dL_law_623 (by decide) ?_
  refine lv_iadd hx hb dL_law_624 ?_
  obtain ⟨h_138, hf⟩ := hf
  refine va_sld hx hb hX hbl (Nat.not_le.mpr hbl) hG.2.2 h_138 dL_law_625 ?_
  refine lv_aload_n hx hb dL_law_626 rfl (lv_at hl 1 rfl) ?_
  refine lv_iload hx hb dL_law_627 (lv_at hl 5 rfl) ?_
  refine lv_iconst (v := (2 : Int32)) hx hb dL_law_629 (by decide) ?_
  refine lv_iadd hx hb dL_law_630 ?_
  obtain ⟨h_139, hf⟩ := hf
  refine va_sld hx hb hX hbl (Nat.not_le.mpr hbl) hG.2.2 h_139 dL_law_631 ?_
  refine lv_aload_n hx hb dL_law_632 rfl (lv_at hl 1 rfl) ?_
  refine lv_iload hx hb dL_law_633 (lv_at hl 5 rfl) ?_
  refine lv_iconst (v := (3 : Int32)) hx hb dL_law_635 (by decide) ?_
  refine lv_iadd hx hb dL_law_636 ?_
  obtain ⟨h_140, hf⟩ := hf
  refine va_sld hx hb hX hbl (Nat.not_le.mpr hbl) hG.2.2 h_140 dL_law_637 ?_
  refine g_callVi0 (As := [.int (xs (y4 + (1 : Int32)).toNatClampNeg), .int (xs (y4 + (2 : Int32)).toNatClampNeg), .int (xs (y4 + (3 : Int32)).toNatClampNeg)]) C hG (kX6_earliest hf) (cwV 3 hts gL_law_X6_earliest rfl rfl rfl hdvX6_earliest ⟨Nat.le_of_ble_eq_true rfl, Nat.le_of_ble_eq_true rfl⟩) (va_recv hK hG.1 (ci := 6) (q0 := 0) rfl rfl) rfl hl.1 rfl (Nat.le_of_ble_eq_true rfl) dL_law_638 ⟨by show _ ≤ 601024; omega, by show _ ≤ 7293034; omega⟩ (fun r_143 g1 H locs hq hG => ?_)
  obtain ⟨I_141, X_142, rfl, hf⟩ := hq
  refine lv_istore (lv' := [(6, .int r_143), (5, .int r_137), (0, .ref (b)), (1, .ref (B 1)), (2, .ref (B 0)), (3, .ref (B 9)), (4, .int y4)]) hx hb dL_law_641 hl (by decide) rfl (fun ls hl => ?_)
  refine lv_aload_n hx hb dL_law_643 rfl (lv_at hl 4 rfl) ?_
  refine g_callVi0 (As := []) C hG (kX6_thrown hf) (cwV 0 hts gL_law_X6_thrown rfl rfl rfl hdvX6_thrown ⟨Nat.le_of_ble_eq_true rfl, Nat.le_of_ble_eq_true rfl⟩) (va_recv hK hG.1 (ci := 6) (q0 := 0) rfl rfl) rfl hl.1 rfl (Nat.le_of_ble_eq_true rfl) dL_law_644 ⟨by show _ ≤ 601024; omega, by show _ ≤ 7293034; omega⟩ (fun r_144 g1 H locs hq hG => ?_)
  obtain ⟨rfl, hf⟩ := hq
  refine lv_iload hx hb dL_law_647 (lv_at hl 1 rfl) ?_
  refine lv_icmp_eq (tgt := 654) hx hb dL_law_649 (by decide) (fun c_145 => ?_) (fun c_145 => ?_)
  · replace hf := hf.1 c_145
    refine lv_iload hx hb dL_law_654 (lv_at hl 1 rfl) ?_
    refine lv_if_ne (tgt := 671) hx hb dL_law_656 (by decide) (fun c_146 => ?_) (fun c_146 => ?_)
    · replace hf := hf.1 c_146
      exact vL_law_671 C hE hX hbl h9 hs9 hG23 SI SX CU CQ CJ CX MI TT AW nE LT la nW WI_132 WR_133 WL_134 WX_135 wd I_141 X_142 O_136 _ _ _ hf hG (lv_sub hl [2, 3, 4, 5, 6] rfl)
    · replace hf := hf.2 c_146
      refine lv_aload_n hx hb dL_law_659 rfl (lv_at hl 5 rfl) ?_
      refine lv_iconst (v := (0 : Int32)) hx hb dL_law_660 (by decide) ?_
      obtain ⟨h_147, hf⟩ := hf
      refine ga_O C hG h_147 dL_law_661 ?_
      refine lv_iload hx hb dL_law_662 (lv_at hl 0 rfl) ?_
      refine lv_i2l hx hb dL_law_664 rfl ?_
      refine W.lcmp hx hb dL_law_665 ?_
      refine lv_if_eq (tgt := 671) hx hb dL_law_666 (by decide) (fun c_148 => ?_) (fun c_148 => ?_)
      · replace hf := hf.1 c_148
        exact vL_law_671 C hE hX hbl h9 hs9 hG23 SI SX CU CQ CJ CX MI TT AW nE LT la nW WI_132 WR_133 WL_134 WX_135 wd I_141 X_142 O_136 _ _ _ hf hG (lv_sub hl [2, 3, 4, 5, 6] rfl)
      · replace hf := hf.2 c_148
        refine lv_iconst (v := (0 : Int32)) hx hb dL_law_669 (by decide) ?_
        exact hf.elim
  · replace hf := hf.2 c_145
    refine lv_iconst (v := (0 : Int32)) hx hb dL_law_652 (by decide) ?_
    exact hf.elim
set_option maxHeartbeats 4000000 in
set_option maxRecDepth 100000 in
theorem vL_law_591 {p : Program} {l : Launch} {e : Env} {s : State} {m : MethodId} {below : List Frame} {meth : Method} {c : Code} {D : va_G} {B : Nat → Nat} {b L : Nat} {xs : Nat → Int32} {cl sl : Nat} (C : gX p s m #[Value.ref b] meth c cL_law 7 ret wsL_law RL D B (fun q => s.heap.size ≤ q)) (hE : gE l (fun q => s.heap.size ≤ q) s s.heap) (hX : va_X b L xs s s.heap) (hbl : b < s.heap.size) (h9 : cl + 9 ≤ 601024) (hs9 : sl + 1991 ≤ 7293034) {y4 : Int32} {G23 : (Nat → Int32) → (Nat → Nat → Int32) → (Int64) → (Int32) → (Nat → Nat → Int64) → (Nat → Nat → Int32) → (Nat → Int32) → (Nat → Int64) → (Nat → Int32) → (Nat) → (Nat → Nat → Int32) → (Nat → Nat) → (Nat) → (Nat → Nat → Int32) → (Nat → Nat → Nat) → (Nat → Nat → Int32) → (Nat → Nat → Nat → Int32) → (Nat → Nat → Nat) → (Nat → Int32) → (Nat → Nat → Int32) → (Nat → Int64) → Int32 → Prop} (hG23 : ∀ (SI : Nat → Int32) (SX : Nat → Nat → Int32) (CU : Int64) (CQ : Int32) (CJ : Nat → Nat → Int64) (CX : Nat → Nat → Int32) (MI : Nat → Int32) (TT : Nat → Int64) (AW : Nat → Int32) (nE : Nat) (LT : Nat → Nat → Int32) (la : Nat → Nat) (nW : Nat) (WI : Nat → Nat → Int32) (WR : Nat → Nat → Nat) (WL : Nat → Nat → Int32) (WX : Nat → Nat → Nat → Int32) (wd : Nat → Nat → Nat) (I : Nat → Int32) (X : Nat → Nat → Int32) (O : Nat → Int64) (H : Heap) (locs : List Loc) (ls : Array Slot), G23 SI SX CU CQ CJ CX MI TT AW nE LT la nW WI WR WL WX wd I X O (y4 + (4 : Int32)) → GS D B (fun q => s.heap.size ≤ q) s.heap ((SI, SX), (CU, CQ, CJ, CX), (MI, TT, AW, nE, LT, la), (nW, WI, WR, WL, WX, wd), (I, X), O) H locs → lv_has ls 7 [(0, .ref (b)), (1, .ref (B 1)), (2, .ref (B 0)), (3, .ref (B 9)), (4, .int (y4 + (4 : Int32)))] → W p l e room_1 s m #[Value.ref b] below meth c H locs (cl + 9) (sl + 1991) (lw_Z below #[Value.ref b] s) (F0 m 23 ls [])) (SI : Nat → Int32) (SX : Nat → Nat → Int32) (CU : Int64) (CQ : Int32) (CJ : Nat → Nat → Int64) (CX : Nat → Nat → Int32) (MI : Nat → Int32) (TT : Nat → Int64) (AW : Nat → Int32) (nE : Nat) (LT : Nat → Nat → Int32) (la : Nat → Nat) (nW : Nat) (WI : Nat → Nat → Int32) (WR : Nat → Nat → Nat) (WL : Nat → Nat → Int32) (WX : Nat → Nat → Nat → Int32) (wd : Nat → Nat → Nat) (I : Nat → Int32) (X : Nat → Nat → Int32) (O : Nat → Int64)  (H : Heap) (locs : List Loc) (ls : Array Slot) (hf : fL_law_591 L xs G23 SI SX CU CQ CJ CX MI TT AW nE LT la nW WI WR WL WX wd I X O y4) (hG : GS D B (fun q => s.heap.size ≤ q) s.heap ((SI, SX), (CU, CQ, CJ, CX), (MI, TT, AW, nE, LT, la), (nW, WI, WR, WL, WX, wd), (I, X), O) H locs) (hl : lv_has ls 7 [(0, .ref (b)), (1, .ref (B 1)), (2, .ref (B 0)), (3, .ref (B 9)), (4, .int y4)]) : W p l e room_1 s m #[Value.ref b] below meth c H locs (cl + 3) (sl + 18) (lw_Z below #[Value.ref b] s) (F0 m 591 ls []) := by
  obtain ⟨hx, hb, hml, hown, hts, hK, hr, hlk, hA, hN⟩ := id C
  unfold fL_law_591 at hf
  refine lv_goto (tgt := 1123) hx hb dL_law_591 (by decide) ?_
  refine W.widen (k := cl + 9) (n := sl + 1991) (by omega) (by omega) ?_
  exact vL_law_1123 C hE hX hbl h9 hs9 hG23 SI SX CU CQ CJ CX MI TT AW nE LT la nW WI WR WL WX wd I X O _ _ _ hf hG (lv_sub hl [0, 1, 2, 3, 4] rfl)
set_option maxHeartbeats 4000000 in
set_option maxRecDepth 100000 in
theorem vL_law_585 {p : Program} {l : Launch} {e : Env} {s : State} {m : MethodId} {below : List Frame} {meth : Method} {c : Code} {D : va_G} {B : Nat → Nat} {b L : Nat} {xs : Nat → Int32} {cl sl : Nat} (C : gX p s m #[Value.ref b] meth c cL_law 7 ret wsL_law RL D B (fun q => s.heap.size ≤ q)) (hE : gE l (fun q => s.heap.size ≤ q) s s.heap) (hX : va_X b L xs s s.heap) (hbl : b < s.heap.size) (h9 : cl + 9 ≤ 601024) (hs9 : sl + 1991 ≤ 7293034) {y4 : Int32} {G23 : (Nat → Int32) → (Nat → Nat → Int32) → (Int64) → (Int32) → (Nat → Nat → Int64) → (Nat → Nat → Int32) → (Nat → Int32) → (Nat → Int64) → (Nat → Int32) → (Nat) → (Nat → Nat → Int32) → (Nat → Nat) → (Nat) → (Nat → Nat → Int32) → (Nat → Nat → Nat) → (Nat → Nat → Int32) → (Nat → Nat → Nat → Int32) → (Nat → Nat → Nat) → (Nat → Int32) → (Nat → Nat → Int32) → (Nat → Int64) → Int32 → Prop} (hG23 : ∀ (SI : Nat → Int32) (SX : Nat → Nat → Int32) (CU : Int64) (CQ : Int32) (CJ : Nat → Nat → Int64) (CX : Nat → Nat → Int32) (MI : Nat → Int32) (TT : Nat → Int64) (AW : Nat → Int32) (nE : Nat) (LT : Nat → Nat → Int32) (la : Nat → Nat) (nW : Nat) (WI : Nat → Nat → Int32) (WR : Nat → Nat → Nat) (WL : Nat → Nat → Int32) (WX : Nat → Nat → Nat → Int32) (wd : Nat → Nat → Nat) (I : Nat → Int32) (X : Nat → Nat → Int32) (O : Nat → Int64) (H : Heap) (locs : List Loc) (ls : Array Slot), G23 SI SX CU CQ CJ CX MI TT AW nE LT la nW WI WR WL WX wd I X O (y4 + (4 : Int32)) → GS D B (fun q => s.heap.size ≤ q) s.heap ((SI, SX), (CU, CQ, CJ, CX), (MI, TT, AW, nE, LT, la), (nW, WI, WR, WL, WX, wd), (I, X), O) H locs → lv_has ls 7 [(0, .ref (b)), (1, .ref (B 1)), (2, .ref (B 0)), (3, .ref (B 9)), (4, .int (y4 + (4 : Int32)))] → W p l e room_1 s m #[Value.ref b] below meth c H locs (cl + 9) (sl + 1991) (lw_Z below #[Value.ref b] s) (F0 m 23 ls [])) (SI : Nat → Int32) (SX : Nat → Nat → Int32) (CU : Int64) (CQ : Int32) (CJ : Nat → Nat → Int64) (CX : Nat → Nat → Int32) (MI : Nat → Int32) (TT : Nat → Int64) (AW : Nat → Int32) (nE : Nat) (LT : Nat → Nat → Int32) (la : Nat → Nat) (nW : Nat) (WI : Nat → Nat → Int32) (WR : Nat → Nat → Nat) (WL : Nat → Nat → Int32) (WX : Nat → Nat → Nat → Int32) (wd : Nat → Nat → Nat) (I : Nat → Int32) (X : Nat → Nat → Int32) (O : Nat → Int64) (t0 : Int64) (t1 : Int64) (H : Heap) (locs : List Loc) (ls : Array Slot) (hf : fL_law_585 L xs G23 SI SX CU CQ CJ CX MI TT AW nE LT la nW WI WR WL WX wd I X O y4 t0 t1) (hG : GS D B (fun q => s.heap.size ≤ q) s.heap ((SI, SX), (CU, CQ, CJ, CX), (MI, TT, AW, nE, LT, la), (nW, WI, WR, WL, WX, wd), (I, X), O) H locs) (hl : lv_has ls 7 [(0, .ref (b)), (1, .ref (B 1)), (2, .ref (B 0)), (3, .ref (B 9)), (4, .int y4)]) : W p l e room_1 s m #[Value.ref b] below meth c H locs (cl + 3) (sl + 18) (lw_Z below #[Value.ref b] s) (F0 m 585 ls [.long t0, .long t1]) := by
  obtain ⟨hx, hb, hml, hown, hts, hK, hr, hlk, hA, hN⟩ := id C
  unfold fL_law_585 at hf
  refine W.lcmp hx hb dL_law_585 ?_
  refine lv_if_eq (tgt := 591) hx hb dL_law_586 (by decide) (fun c_128 => ?_) (fun c_128 => ?_)
  · replace hf := hf.1 c_128
    exact vL_law_591 C hE hX hbl h9 hs9 hG23 SI SX CU CQ CJ CX MI TT AW nE LT la nW WI WR WL WX wd I X O _ _ _ hf hG (lv_sub hl [0, 1, 2, 3, 4] rfl)
  · replace hf := hf.2 c_128
    refine lv_iconst (v := (0 : Int32)) hx hb dL_law_589 (by decide) ?_
    exact hf.elim
set_option maxHeartbeats 4000000 in
set_option maxRecDepth 100000 in
theorem vL_law_507 {p : Program} {l : Launch} {e : Env} {s : State} {m : MethodId} {below : List Frame} {meth : Method} {c : Code} {D : va_G} {B : Nat → Nat} {b L : Nat} {xs : Nat → Int32} {cl sl : Nat} (C : gX p s m #[Value.ref b] meth c cL_law 7 ret wsL_law RL D B (fun q => s.heap.size ≤ q)) (hE : gE l (fun q => s.heap.size ≤ q) s s.heap) (hX : va_X b L xs s s.heap) (hbl : b < s.heap.size) (h9 : cl + 9 ≤ 601024) (hs9 : sl + 1991 ≤ 7293034) {y4 : Int32} {G23 : (Nat → Int32) → (Nat → Nat → Int32) → (Int64) → (Int32) → (Nat → Nat → Int64) → (Nat → Nat → Int32) → (Nat → Int32) → (Nat → Int64) → (Nat → Int32) → (Nat) → (Nat → Nat → Int32) → (Nat → Nat) → (Nat) → (Nat → Nat → Int32) → (Nat → Nat → Nat) → (Nat → Nat → Int32) → (Nat → Nat → Nat → Int32) → (Nat → Nat → Nat) → (Nat → Int32) → (Nat → Nat → Int32) → (Nat → Int64) → Int32 → Prop} (hG23 : ∀ (SI : Nat → Int32) (SX : Nat → Nat → Int32) (CU : Int64) (CQ : Int32) (CJ : Nat → Nat → Int64) (CX : Nat → Nat → Int32) (MI : Nat → Int32) (TT : Nat → Int64) (AW : Nat → Int32) (nE : Nat) (LT : Nat → Nat → Int32) (la : Nat → Nat) (nW : Nat) (WI : Nat → Nat → Int32) (WR : Nat → Nat → Nat) (WL : Nat → Nat → Int32) (WX : Nat → Nat → Nat → Int32) (wd : Nat → Nat → Nat) (I : Nat → Int32) (X : Nat → Nat → Int32) (O : Nat → Int64) (H : Heap) (locs : List Loc) (ls : Array Slot), G23 SI SX CU CQ CJ CX MI TT AW nE LT la nW WI WR WL WX wd I X O (y4 + (4 : Int32)) → GS D B (fun q => s.heap.size ≤ q) s.heap ((SI, SX), (CU, CQ, CJ, CX), (MI, TT, AW, nE, LT, la), (nW, WI, WR, WL, WX, wd), (I, X), O) H locs → lv_has ls 7 [(0, .ref (b)), (1, .ref (B 1)), (2, .ref (B 0)), (3, .ref (B 9)), (4, .int (y4 + (4 : Int32)))] → W p l e room_1 s m #[Value.ref b] below meth c H locs (cl + 9) (sl + 1991) (lw_Z below #[Value.ref b] s) (F0 m 23 ls [])) (SI : Nat → Int32) (SX : Nat → Nat → Int32) (CU : Int64) (CQ : Int32) (CJ : Nat → Nat → Int64) (CX : Nat → Nat → Int32) (MI : Nat → Int32) (TT : Nat → Int64) (AW : Nat → Int32) (nE : Nat) (LT : Nat → Nat → Int32) (la : Nat → Nat) (nW : Nat) (WI : Nat → Nat → Int32) (WR : Nat → Nat → Nat) (WL : Nat → Nat → Int32) (WX : Nat → Nat → Nat → Int32) (wd : Nat → Nat → Nat) (I : Nat → Int32) (X : Nat → Nat → Int32) (O : Nat → Int64)  (H : Heap) (locs : List Loc) (ls : Array Slot) (hf : fL_law_507 L xs G23 SI SX CU CQ CJ CX MI TT AW nE LT la nW WI WR WL WX wd I X O y4) (hG : GS D B (fun q => s.heap.size ≤ q) s.heap ((SI, SX), (CU, CQ, CJ, CX), (MI, TT, AW, nE, LT, la), (nW, WI, WR, WL, WX, wd), (I, X), O) H locs) (hl : lv_has ls 7 [(0, .ref (b)), (1, .ref (B 1)), (2, .ref (B 0)), (3, .ref (B 9)), (4, .int y4)]) : W p l e room_1 s m #[Value.ref b] below meth c H locs cl sl (lw_Z below #[Value.ref b] s) (F0 m 507 ls []) := by
  obtain ⟨hx, hb, hml, hown, hts, hK, hr, hlk, hA, hN⟩ := id C
  unfold fL_law_507 at hf
  refine lv_aload_n hx hb dL_law_507 rfl (lv_at hl 1 rfl) ?_
  refine lv_aload_n hx hb dL_law_508 rfl (lv_at hl 0 rfl) ?_
  refine lv_iload hx hb dL_law_509 (lv_at hl 4 rfl) ?_
  refine lv_iconst (v := (1 : Int32)) hx hb dL_law_511 (by decide) ?_
  refine lv_iadd hx hb dL_law_512 ?_
  obtain ⟨h_112, hf⟩ := hf
  refine va_sld hx hb hX hbl (Nat.not_le.mpr hbl) hG.2.2 h_112 dL_law_513 ?_
  refine lv_aload_n hx hb dL_law_514 rfl (lv_at hl 0 rfl) ?_
  refine lv_iload hx hb dL_law_515 (lv_at hl 4 rfl) ?_
  refine lv_iconst (v := (2 : Int32)) hx hb dL_law_517 (by decide) ?_
  refine lv_iadd hx hb dL_law_518 ?_
  obtain ⟨h_113, hf⟩ := hf
  refine va_sld hx hb hX hbl (Nat.not_le.mpr hbl) hG.2.2 h_113 dL_law_519 ?_
  refine lv_aload_n hx hb dL_law_520 rfl (lv_at hl 0 rfl) ?_
  refine lv_iload hx hb dL_law_521 (lv_at hl 4 rfl) ?_
  refine lv_iconst (v := (3 : Int32)) hx hb dL_law_523 (by decide) ?_
  refine lv_iadd hx hb dL_law_524 ?_
  obtain ⟨h_114, hf⟩ := hf
  refine va_sld hx hb hX hbl (Nat.not_le.mpr hbl) hG.2.2 h_114 dL_law_525 ?_
  refine lv_aload_n hx hb dL_law_526 rfl (lv_at hl 3 rfl) ?_
  refine g_callLi (As := [.ref (B 1), .int (xs (y4 + (1 : Int32)).toNatClampNeg), .int (xs (y4 + (2 : Int32)).toNatClampNeg), .int (xs (y4 + (3 : Int32)).toNatClampNeg), .ref (B 9)]) C hE hG (kL_sees hf) (vx_cwSW 5 hts gL_law_L_sees rfl rfl rfl hdsL_sees ⟨Nat.le_of_ble_eq_true rfl, Nat.le_of_ble_eq_true rfl⟩) rfl hl.1 rfl (Nat.le_of_ble_eq_true rfl) dL_law_527 ⟨by show _ ≤ 601024; omega, by show _ ≤ 7293034; omega⟩ (fun r_116 g1 H locs hq hG => ?_)
  obtain ⟨O_115, rfl, hf⟩ := hq
  refine lv_istore (lv' := [(5, .int r_116), (0, .ref (b)), (1, .ref (B 1)), (2, .ref (B 0)), (3, .ref (B 9)), (4, .int y4)]) hx hb dL_law_530 hl (by decide) rfl (fun ls hl => ?_)
  refine lv_aload_n hx hb dL_law_532 rfl (lv_at hl 3 rfl) ?_
  refine lv_aload_n hx hb dL_law_533 rfl (lv_at hl 1 rfl) ?_
  refine lv_iload hx hb dL_law_534 (lv_at hl 5 rfl) ?_
  refine lv_iconst (v := (1 : Int32)) hx hb dL_law_536 (by decide) ?_
  refine lv_iadd hx hb dL_law_537 ?_
  obtain ⟨h_117, hf⟩ := hf
  refine va_sld hx hb hX hbl (Nat.not_le.mpr hbl) hG.2.2 h_117 dL_law_538 ?_
  refine lv_aload_n hx hb dL_law_539 rfl (lv_at hl 1 rfl) ?_
  refine lv_iload hx hb dL_law_540 (lv_at hl 5 rfl) ?_
  refine lv_iconst (v := (2 : Int32)) hx hb dL_law_542 (by decide) ?_
  refine lv_iadd hx hb dL_law_543 ?_
  obtain ⟨h_118, hf⟩ := hf
  refine va_sld hx hb hX hbl (Nat.not_le.mpr hbl) hG.2.2 h_118 dL_law_544 ?_
  refine lv_aload_n hx hb dL_law_545 rfl (lv_at hl 1 rfl) ?_
  refine lv_iload hx hb dL_law_546 (lv_at hl 5 rfl) ?_
  refine lv_iconst (v := (3 : Int32)) hx hb dL_law_548 (by decide) ?_
  refine lv_iadd hx hb dL_law_549 ?_
  obtain ⟨h_119, hf⟩ := hf
  refine va_sld hx hb hX hbl (Nat.not_le.mpr hbl) hG.2.2 h_119 dL_law_550 ?_
  refine g_callVi0 (As := [.int (xs (y4 + (1 : Int32)).toNatClampNeg), .int (xs (y4 + (2 : Int32)).toNatClampNeg), .int (xs (y4 + (3 : Int32)).toNatClampNeg)]) C hG (kX6_sees hf) (cwV 3 hts gL_law_X6_sees rfl rfl rfl hdvX6_sees ⟨Nat.le_of_ble_eq_true rfl, Nat.le_of_ble_eq_true rfl⟩) (va_recv hK hG.1 (ci := 6) (q0 := 0) rfl rfl) rfl hl.1 rfl (Nat.le_of_ble_eq_true rfl) dL_law_551 ⟨by show _ ≤ 601024; omega, by show _ ≤ 7293034; omega⟩ (fun r_122 g1 H locs hq hG => ?_)
  obtain ⟨I_120, X_121, rfl, hf⟩ := hq
  refine lv_istore (lv' := [(6, .int r_122), (5, .int r_116), (0, .ref (b)), (1, .ref (B 1)), (2, .ref (B 0)), (3, .ref (B 9)), (4, .int y4)]) hx hb dL_law_554 hl (by decide) rfl (fun ls hl => ?_)
  refine lv_aload_n hx hb dL_law_556 rfl (lv_at hl 4 rfl) ?_
  refine g_callVi0 (As := []) C hG (kX6_thrown hf) (cwV 0 hts gL_law_X6_thrown rfl rfl rfl hdvX6_thrown ⟨Nat.le_of_ble_eq_true rfl, Nat.le_of_ble_eq_true rfl⟩) (va_recv hK hG.1 (ci := 6) (q0 := 0) rfl rfl) rfl hl.1 rfl (Nat.le_of_ble_eq_true rfl) dL_law_557 ⟨by show _ ≤ 601024; omega, by show _ ≤ 7293034; omega⟩ (fun r_123 g1 H locs hq hG => ?_)
  obtain ⟨rfl, hf⟩ := hq
  refine lv_iload hx hb dL_law_560 (lv_at hl 1 rfl) ?_
  refine lv_icmp_eq (tgt := 567) hx hb dL_law_562 (by decide) (fun c_124 => ?_) (fun c_124 => ?_)
  · replace hf := hf.1 c_124
    refine lv_iload hx hb dL_law_567 (lv_at hl 1 rfl) ?_
    refine lv_if_ne (tgt := 591) hx hb dL_law_569 (by decide) (fun c_125 => ?_) (fun c_125 => ?_)
    · replace hf := hf.1 c_125
      exact vL_law_591 C hE hX hbl h9 hs9 hG23 SI SX CU CQ CJ CX MI TT AW nE LT la nW WI WR WL WX wd I_120 X_121 O_115 _ _ _ hf hG (lv_sub hl [2, 3, 4, 5, 6] rfl)
    · replace hf := hf.2 c_125
      refine lv_aload_n hx hb dL_law_572 rfl (lv_at hl 5 rfl) ?_
      refine lv_iconst (v := (0 : Int32)) hx hb dL_law_573 (by decide) ?_
      obtain ⟨h_126, hf⟩ := hf
      refine ga_O C hG h_126 dL_law_574 ?_
      refine lv_iload hx hb dL_law_575 (lv_at hl 0 rfl) ?_
      refine lv_if_eq (tgt := 584) hx hb dL_law_577 (by decide) (fun c_127 => ?_) (fun c_127 => ?_)
      · replace hf := hf.1 c_127
        refine lv_lconst (v := (0 : Int64)) hx hb dL_law_584 (by decide) ?_
        exact vL_law_585 C hE hX hbl h9 hs9 hG23 SI SX CU CQ CJ CX MI TT AW nE LT la nW WI WR WL WX wd I_120 X_121 O_115 (0 : Int64) (O_115 (0 : Int32).toNatClampNeg) _ _ _ hf hG (lv_sub hl [2, 3, 4, 5, 6] rfl)
      · replace hf := hf.2 c_127
        refine lv_lconst (v := (1 : Int64)) hx hb dL_law_580 (by decide) ?_
        refine lv_goto (tgt := 585) hx hb dL_law_581 (by decide) ?_
        exact vL_law_585 C hE hX hbl h9 hs9 hG23 SI SX CU CQ CJ CX MI TT AW nE LT la nW WI WR WL WX wd I_120 X_121 O_115 (1 : Int64) (O_115 (0 : Int32).toNatClampNeg) _ _ _ hf hG (lv_sub hl [2, 3, 4, 5, 6] rfl)
  · replace hf := hf.2 c_124
    refine lv_iconst (v := (0 : Int32)) hx hb dL_law_565 (by decide) ?_
    exact hf.elim
set_option maxHeartbeats 4000000 in
set_option maxRecDepth 100000 in
theorem vL_law_504 {p : Program} {l : Launch} {e : Env} {s : State} {m : MethodId} {below : List Frame} {meth : Method} {c : Code} {D : va_G} {B : Nat → Nat} {b L : Nat} {xs : Nat → Int32} {cl sl : Nat} (C : gX p s m #[Value.ref b] meth c cL_law 7 ret wsL_law RL D B (fun q => s.heap.size ≤ q)) (hE : gE l (fun q => s.heap.size ≤ q) s s.heap) (hX : va_X b L xs s s.heap) (hbl : b < s.heap.size) (h9 : cl + 9 ≤ 601024) (hs9 : sl + 1991 ≤ 7293034) {y4 : Int32} {G23 : (Nat → Int32) → (Nat → Nat → Int32) → (Int64) → (Int32) → (Nat → Nat → Int64) → (Nat → Nat → Int32) → (Nat → Int32) → (Nat → Int64) → (Nat → Int32) → (Nat) → (Nat → Nat → Int32) → (Nat → Nat) → (Nat) → (Nat → Nat → Int32) → (Nat → Nat → Nat) → (Nat → Nat → Int32) → (Nat → Nat → Nat → Int32) → (Nat → Nat → Nat) → (Nat → Int32) → (Nat → Nat → Int32) → (Nat → Int64) → Int32 → Prop} (hG23 : ∀ (SI : Nat → Int32) (SX : Nat → Nat → Int32) (CU : Int64) (CQ : Int32) (CJ : Nat → Nat → Int64) (CX : Nat → Nat → Int32) (MI : Nat → Int32) (TT : Nat → Int64) (AW : Nat → Int32) (nE : Nat) (LT : Nat → Nat → Int32) (la : Nat → Nat) (nW : Nat) (WI : Nat → Nat → Int32) (WR : Nat → Nat → Nat) (WL : Nat → Nat → Int32) (WX : Nat → Nat → Nat → Int32) (wd : Nat → Nat → Nat) (I : Nat → Int32) (X : Nat → Nat → Int32) (O : Nat → Int64) (H : Heap) (locs : List Loc) (ls : Array Slot), G23 SI SX CU CQ CJ CX MI TT AW nE LT la nW WI WR WL WX wd I X O (y4 + (4 : Int32)) → GS D B (fun q => s.heap.size ≤ q) s.heap ((SI, SX), (CU, CQ, CJ, CX), (MI, TT, AW, nE, LT, la), (nW, WI, WR, WL, WX, wd), (I, X), O) H locs → lv_has ls 7 [(0, .ref (b)), (1, .ref (B 1)), (2, .ref (B 0)), (3, .ref (B 9)), (4, .int (y4 + (4 : Int32)))] → W p l e room_1 s m #[Value.ref b] below meth c H locs (cl + 9) (sl + 1991) (lw_Z below #[Value.ref b] s) (F0 m 23 ls [])) (SI : Nat → Int32) (SX : Nat → Nat → Int32) (CU : Int64) (CQ : Int32) (CJ : Nat → Nat → Int64) (CX : Nat → Nat → Int32) (MI : Nat → Int32) (TT : Nat → Int64) (AW : Nat → Int32) (nE : Nat) (LT : Nat → Nat → Int32) (la : Nat → Nat) (nW : Nat) (WI : Nat → Nat → Int32) (WR : Nat → Nat → Nat) (WL : Nat → Nat → Int32) (WX : Nat → Nat → Nat → Int32) (wd : Nat → Nat → Nat) (I : Nat → Int32) (X : Nat → Nat → Int32) (O : Nat → Int64)  (H : Heap) (locs : List Loc) (ls : Array Slot) (hf : fL_law_504 L xs G23 SI SX CU CQ CJ CX MI TT AW nE LT la nW WI WR WL WX wd I X O y4) (hG : GS D B (fun q => s.heap.size ≤ q) s.heap ((SI, SX), (CU, CQ, CJ, CX), (MI, TT, AW, nE, LT, la), (nW, WI, WR, WL, WX, wd), (I, X), O) H locs) (hl : lv_has ls 7 [(0, .ref (b)), (1, .ref (B 1)), (2, .ref (B 0)), (3, .ref (B 9)), (4, .int y4)]) : W p l e room_1 s m #[Value.ref b] below meth c H locs (cl + 3) (sl + 18) (lw_Z below #[Value.ref b] s) (F0 m 504 ls []) := by
  obtain ⟨hx, hb, hml, hown, hts, hK, hr, hlk, hA, hN⟩ := id C
  unfold fL_law_504 at hf
  refine lv_goto (tgt := 1123) hx hb dL_law_504 (by decide) ?_
  refine W.widen (k := cl + 9) (n := sl + 1991) (by omega) (by omega) ?_
  exact vL_law_1123 C hE hX hbl h9 hs9 hG23 SI SX CU CQ CJ CX MI TT AW nE LT la nW WI WR WL WX wd I X O _ _ _ hf hG (lv_sub hl [0, 1, 2, 3, 4] rfl)
set_option maxHeartbeats 4000000 in
set_option maxRecDepth 100000 in
theorem vL_law_427 {p : Program} {l : Launch} {e : Env} {s : State} {m : MethodId} {below : List Frame} {meth : Method} {c : Code} {D : va_G} {B : Nat → Nat} {b L : Nat} {xs : Nat → Int32} {cl sl : Nat} (C : gX p s m #[Value.ref b] meth c cL_law 7 ret wsL_law RL D B (fun q => s.heap.size ≤ q)) (hE : gE l (fun q => s.heap.size ≤ q) s s.heap) (hX : va_X b L xs s s.heap) (hbl : b < s.heap.size) (h9 : cl + 9 ≤ 601024) (hs9 : sl + 1991 ≤ 7293034) {y4 : Int32} {G23 : (Nat → Int32) → (Nat → Nat → Int32) → (Int64) → (Int32) → (Nat → Nat → Int64) → (Nat → Nat → Int32) → (Nat → Int32) → (Nat → Int64) → (Nat → Int32) → (Nat) → (Nat → Nat → Int32) → (Nat → Nat) → (Nat) → (Nat → Nat → Int32) → (Nat → Nat → Nat) → (Nat → Nat → Int32) → (Nat → Nat → Nat → Int32) → (Nat → Nat → Nat) → (Nat → Int32) → (Nat → Nat → Int32) → (Nat → Int64) → Int32 → Prop} (hG23 : ∀ (SI : Nat → Int32) (SX : Nat → Nat → Int32) (CU : Int64) (CQ : Int32) (CJ : Nat → Nat → Int64) (CX : Nat → Nat → Int32) (MI : Nat → Int32) (TT : Nat → Int64) (AW : Nat → Int32) (nE : Nat) (LT : Nat → Nat → Int32) (la : Nat → Nat) (nW : Nat) (WI : Nat → Nat → Int32) (WR : Nat → Nat → Nat) (WL : Nat → Nat → Int32) (WX : Nat → Nat → Nat → Int32) (wd : Nat → Nat → Nat) (I : Nat → Int32) (X : Nat → Nat → Int32) (O : Nat → Int64) (H : Heap) (locs : List Loc) (ls : Array Slot), G23 SI SX CU CQ CJ CX MI TT AW nE LT la nW WI WR WL WX wd I X O (y4 + (4 : Int32)) → GS D B (fun q => s.heap.size ≤ q) s.heap ((SI, SX), (CU, CQ, CJ, CX), (MI, TT, AW, nE, LT, la), (nW, WI, WR, WL, WX, wd), (I, X), O) H locs → lv_has ls 7 [(0, .ref (b)), (1, .ref (B 1)), (2, .ref (B 0)), (3, .ref (B 9)), (4, .int (y4 + (4 : Int32)))] → W p l e room_1 s m #[Value.ref b] below meth c H locs (cl + 9) (sl + 1991) (lw_Z below #[Value.ref b] s) (F0 m 23 ls [])) (SI : Nat → Int32) (SX : Nat → Nat → Int32) (CU : Int64) (CQ : Int32) (CJ : Nat → Nat → Int64) (CX : Nat → Nat → Int32) (MI : Nat → Int32) (TT : Nat → Int64) (AW : Nat → Int32) (nE : Nat) (LT : Nat → Nat → Int32) (la : Nat → Nat) (nW : Nat) (WI : Nat → Nat → Int32) (WR : Nat → Nat → Nat) (WL : Nat → Nat → Int32) (WX : Nat → Nat → Nat → Int32) (wd : Nat → Nat → Nat) (I : Nat → Int32) (X : Nat → Nat → Int32) (O : Nat → Int64)  (H : Heap) (locs : List Loc) (ls : Array Slot) (hf : fL_law_427 L xs G23 SI SX CU CQ CJ CX MI TT AW nE LT la nW WI WR WL WX wd I X O y4) (hG : GS D B (fun q => s.heap.size ≤ q) s.heap ((SI, SX), (CU, CQ, CJ, CX), (MI, TT, AW, nE, LT, la), (nW, WI, WR, WL, WX, wd), (I, X), O) H locs) (hl : lv_has ls 7 [(0, .ref (b)), (1, .ref (B 1)), (2, .ref (B 0)), (3, .ref (B 9)), (4, .int y4)]) : W p l e room_1 s m #[Value.ref b] below meth c H locs cl sl (lw_Z below #[Value.ref b] s) (F0 m 427 ls []) := by
  obtain ⟨hx, hb, hml, hown, hts, hK, hr, hlk, hA, hN⟩ := id C
  unfold fL_law_427 at hf
  refine lv_aload_n hx hb dL_law_427 rfl (lv_at hl 1 rfl) ?_
  refine lv_aload_n hx hb dL_law_428 rfl (lv_at hl 0 rfl) ?_
  refine lv_iload hx hb dL_law_429 (lv_at hl 4 rfl) ?_
  refine lv_iconst (v := (1 : Int32)) hx hb dL_law_431 (by decide) ?_
  refine lv_iadd hx hb dL_law_432 ?_
  obtain ⟨h_96, hf⟩ := hf
  refine va_sld hx hb hX hbl (Nat.not_le.mpr hbl) hG.2.2 h_96 dL_law_433 ?_
  refine lv_aload_n hx hb dL_law_434 rfl (lv_at hl 0 rfl) ?_
  refine lv_iload hx hb dL_law_435 (lv_at hl 4 rfl) ?_
  refine lv_iconst (v := (2 : Int32)) hx hb dL_law_437 (by decide) ?_
  refine lv_iadd hx hb dL_law_438 ?_
  obtain ⟨h_97, hf⟩ := hf
  refine va_sld hx hb hX hbl (Nat.not_le.mpr hbl) hG.2.2 h_97 dL_law_439 ?_
  refine lv_aload_n hx hb dL_law_440 rfl (lv_at hl 0 rfl) ?_
  refine lv_iload hx hb dL_law_441 (lv_at hl 4 rfl) ?_
  refine lv_iconst (v := (3 : Int32)) hx hb dL_law_443 (by decide) ?_
  refine lv_iadd hx hb dL_law_444 ?_
  obtain ⟨h_98, hf⟩ := hf
  refine va_sld hx hb hX hbl (Nat.not_le.mpr hbl) hG.2.2 h_98 dL_law_445 ?_
  refine lv_aload_n hx hb dL_law_446 rfl (lv_at hl 3 rfl) ?_
  refine g_callLi (As := [.ref (B 1), .int (xs (y4 + (1 : Int32)).toNatClampNeg), .int (xs (y4 + (2 : Int32)).toNatClampNeg), .int (xs (y4 + (3 : Int32)).toNatClampNeg), .ref (B 9)]) C hE hG (kL_link hf) (vx_cwSW 5 hts gL_law_L_link rfl rfl rfl hdsL_link ⟨Nat.le_of_ble_eq_true rfl, Nat.le_of_ble_eq_true rfl⟩) rfl hl.1 rfl (Nat.le_of_ble_eq_true rfl) dL_law_447 ⟨by show _ ≤ 601024; omega, by show _ ≤ 7293034; omega⟩ (fun r_100 g1 H locs hq hG => ?_)
  obtain ⟨O_99, rfl, hf⟩ := hq
  refine lv_istore (lv' := [(5, .int r_100), (0, .ref (b)), (1, .ref (B 1)), (2, .ref (B 0)), (3, .ref (B 9)), (4, .int y4)]) hx hb dL_law_450 hl (by decide) rfl (fun ls hl => ?_)
  refine lv_aload_n hx hb dL_law_452 rfl (lv_at hl 3 rfl) ?_
  refine lv_aload_n hx hb dL_law_453 rfl (lv_at hl 1 rfl) ?_
  refine lv_iload hx hb dL_law_454 (lv_at hl 5 rfl) ?_
  refine lv_iconst (v := (1 : Int32)) hx hb dL_law_456 (by decide) ?_
  refine lv_iadd hx hb dL_law_457 ?_
  obtain ⟨h_101, hf⟩ := hf
  refine va_sld hx hb hX hbl (Nat.not_le.mpr hbl) hG.2.2 h_101 dL_law_458 ?_
  refine lv_aload_n hx hb dL_law_459 rfl (lv_at hl 1 rfl) ?_
  refine lv_iload hx hb dL_law_460 (lv_at hl 5 rfl) ?_
  refine lv_iconst (v := (2 : Int32)) hx hb dL_law_462 (by decide) ?_
  refine lv_iadd hx hb dL_law_463 ?_
  obtain ⟨h_102, hf⟩ := hf
  refine va_sld hx hb hX hbl (Nat.not_le.mpr hbl) hG.2.2 h_102 dL_law_464 ?_
  refine lv_aload_n hx hb dL_law_465 rfl (lv_at hl 1 rfl) ?_
  refine lv_iload hx hb dL_law_466 (lv_at hl 5 rfl) ?_
  refine lv_iconst (v := (3 : Int32)) hx hb dL_law_468 (by decide) ?_
  refine lv_iadd hx hb dL_law_469 ?_
  obtain ⟨h_103, hf⟩ := hf
  refine va_sld hx hb hX hbl (Nat.not_le.mpr hbl) hG.2.2 h_103 dL_law_470 ?_
  refine g_callVi0 (As := [.int (xs (y4 + (1 : Int32)).toNatClampNeg), .int (xs (y4 + (2 : Int32)).toNatClampNeg), .int (xs (y4 + (3 : Int32)).toNatClampNeg)]) C hG (kX6_link hf) (cwV 3 hts gL_law_X6_link rfl rfl rfl hdvX6_link ⟨Nat.le_of_ble_eq_true rfl, Nat.le_of_ble_eq_true rfl⟩) (va_recv hK hG.1 (ci := 6) (q0 := 0) rfl rfl) rfl hl.1 rfl (Nat.le_of_ble_eq_true rfl) dL_law_471 ⟨by show _ ≤ 601024; omega, by show _ ≤ 7293034; omega⟩ (fun r_106 g1 H locs hq hG => ?_)
  obtain ⟨I_104, X_105, rfl, hf⟩ := hq
  refine lv_istore (lv' := [(6, .int r_106), (5, .int r_100), (0, .ref (b)), (1, .ref (B 1)), (2, .ref (B 0)), (3, .ref (B 9)), (4, .int y4)]) hx hb dL_law_474 hl (by decide) rfl (fun ls hl => ?_)
  refine lv_aload_n hx hb dL_law_476 rfl (lv_at hl 4 rfl) ?_
  refine g_callVi0 (As := []) C hG (kX6_thrown hf) (cwV 0 hts gL_law_X6_thrown rfl rfl rfl hdvX6_thrown ⟨Nat.le_of_ble_eq_true rfl, Nat.le_of_ble_eq_true rfl⟩) (va_recv hK hG.1 (ci := 6) (q0 := 0) rfl rfl) rfl hl.1 rfl (Nat.le_of_ble_eq_true rfl) dL_law_477 ⟨by show _ ≤ 601024; omega, by show _ ≤ 7293034; omega⟩ (fun r_107 g1 H locs hq hG => ?_)
  obtain ⟨rfl, hf⟩ := hq
  refine lv_iload hx hb dL_law_480 (lv_at hl 1 rfl) ?_
  refine lv_icmp_eq (tgt := 487) hx hb dL_law_482 (by decide) (fun c_108 => ?_) (fun c_108 => ?_)
  · replace hf := hf.1 c_108
    refine lv_iload hx hb dL_law_487 (lv_at hl 1 rfl) ?_
    refine lv_if_ne (tgt := 504) hx hb dL_law_489 (by decide) (fun c_109 => ?_) (fun c_109 => ?_)
    · replace hf := hf.1 c_109
      exact vL_law_504 C hE hX hbl h9 hs9 hG23 SI SX CU CQ CJ CX MI TT AW nE LT la nW WI WR WL WX wd I_104 X_105 O_99 _ _ _ hf hG (lv_sub hl [2, 3, 4, 5, 6] rfl)
    · replace hf := hf.2 c_109
      refine lv_aload_n hx hb dL_law_492 rfl (lv_at hl 5 rfl) ?_
      refine lv_iconst (v := (0 : Int32)) hx hb dL_law_493 (by decide) ?_
      obtain ⟨h_110, hf⟩ := hf
      refine ga_O C hG h_110 dL_law_494 ?_
      refine lv_iload hx hb dL_law_495 (lv_at hl 0 rfl) ?_
      refine lv_i2l hx hb dL_law_497 rfl ?_
      refine W.lcmp hx hb dL_law_498 ?_
      refine lv_if_eq (tgt := 504) hx hb dL_law_499 (by decide) (fun c_111 => ?_) (fun c_111 => ?_)
      · replace hf := hf.1 c_111
        exact vL_law_504 C hE hX hbl h9 hs9 hG23 SI SX CU CQ CJ CX MI TT AW nE LT la nW WI WR WL WX wd I_104 X_105 O_99 _ _ _ hf hG (lv_sub hl [2, 3, 4, 5, 6] rfl)
      · replace hf := hf.2 c_111
        refine lv_iconst (v := (0 : Int32)) hx hb dL_law_502 (by decide) ?_
        exact hf.elim
  · replace hf := hf.2 c_108
    refine lv_iconst (v := (0 : Int32)) hx hb dL_law_485 (by decide) ?_
    exact hf.elim
set_option maxHeartbeats 4000000 in
set_option maxRecDepth 100000 in
theorem vL_law_424 {p : Program} {l : Launch} {e : Env} {s : State} {m : MethodId} {below : List Frame} {meth : Method} {c : Code} {D : va_G} {B : Nat → Nat} {b L : Nat} {xs : Nat → Int32} {cl sl : Nat} (C : gX p s m #[Value.ref b] meth c cL_law 7 ret wsL_law RL D B (fun q => s.heap.size ≤ q)) (hE : gE l (fun q => s.heap.size ≤ q) s s.heap) (hX : va_X b L xs s s.heap) (hbl : b < s.heap.size) (h9 : cl + 9 ≤ 601024) (hs9 : sl + 1991 ≤ 7293034) {y4 : Int32} {G23 : (Nat → Int32) → (Nat → Nat → Int32) → (Int64) → (Int32) → (Nat → Nat → Int64) → (Nat → Nat → Int32) → (Nat → Int32) → (Nat → Int64) → (Nat → Int32) → (Nat) → (Nat → Nat → Int32) → (Nat → Nat) → (Nat) → (Nat → Nat → Int32) → (Nat → Nat → Nat) → (Nat → Nat → Int32) → (Nat → Nat → Nat → Int32) → (Nat → Nat → Nat) → (Nat → Int32) → (Nat → Nat → Int32) → (Nat → Int64) → Int32 → Prop} (hG23 : ∀ (SI : Nat → Int32) (SX : Nat → Nat → Int32) (CU : Int64) (CQ : Int32) (CJ : Nat → Nat → Int64) (CX : Nat → Nat → Int32) (MI : Nat → Int32) (TT : Nat → Int64) (AW : Nat → Int32) (nE : Nat) (LT : Nat → Nat → Int32) (la : Nat → Nat) (nW : Nat) (WI : Nat → Nat → Int32) (WR : Nat → Nat → Nat) (WL : Nat → Nat → Int32) (WX : Nat → Nat → Nat → Int32) (wd : Nat → Nat → Nat) (I : Nat → Int32) (X : Nat → Nat → Int32) (O : Nat → Int64) (H : Heap) (locs : List Loc) (ls : Array Slot), G23 SI SX CU CQ CJ CX MI TT AW nE LT la nW WI WR WL WX wd I X O (y4 + (4 : Int32)) → GS D B (fun q => s.heap.size ≤ q) s.heap ((SI, SX), (CU, CQ, CJ, CX), (MI, TT, AW, nE, LT, la), (nW, WI, WR, WL, WX, wd), (I, X), O) H locs → lv_has ls 7 [(0, .ref (b)), (1, .ref (B 1)), (2, .ref (B 0)), (3, .ref (B 9)), (4, .int (y4 + (4 : Int32)))] → W p l e room_1 s m #[Value.ref b] below meth c H locs (cl + 9) (sl + 1991) (lw_Z below #[Value.ref b] s) (F0 m 23 ls [])) (SI : Nat → Int32) (SX : Nat → Nat → Int32) (CU : Int64) (CQ : Int32) (CJ : Nat → Nat → Int64) (CX : Nat → Nat → Int32) (MI : Nat → Int32) (TT : Nat → Int64) (AW : Nat → Int32) (nE : Nat) (LT : Nat → Nat → Int32) (la : Nat → Nat) (nW : Nat) (WI : Nat → Nat → Int32) (WR : Nat → Nat → Nat) (WL : Nat → Nat → Int32) (WX : Nat → Nat → Nat → Int32) (wd : Nat → Nat → Nat) (I : Nat → Int32) (X : Nat → Nat → Int32) (O : Nat → Int64)  (H : Heap) (locs : List Loc) (ls : Array Slot) (hf : fL_law_424 L xs G23 SI SX CU CQ CJ CX MI TT AW nE LT la nW WI WR WL WX wd I X O y4) (hG : GS D B (fun q => s.heap.size ≤ q) s.heap ((SI, SX), (CU, CQ, CJ, CX), (MI, TT, AW, nE, LT, la), (nW, WI, WR, WL, WX, wd), (I, X), O) H locs) (hl : lv_has ls 7 [(0, .ref (b)), (1, .ref (B 1)), (2, .ref (B 0)), (3, .ref (B 9)), (4, .int y4)]) : W p l e room_1 s m #[Value.ref b] below meth c H locs (cl + 1) (sl + 6) (lw_Z below #[Value.ref b] s) (F0 m 424 ls []) := by
  obtain ⟨hx, hb, hml, hown, hts, hK, hr, hlk, hA, hN⟩ := id C
  unfold fL_law_424 at hf
  refine lv_goto (tgt := 1123) hx hb dL_law_424 (by decide) ?_
  refine W.widen (k := cl + 9) (n := sl + 1991) (by omega) (by omega) ?_
  exact vL_law_1123 C hE hX hbl h9 hs9 hG23 SI SX CU CQ CJ CX MI TT AW nE LT la nW WI WR WL WX wd I X O _ _ _ hf hG (lv_sub hl [0, 1, 2, 3, 4] rfl)
set_option maxHeartbeats 4000000 in
set_option maxRecDepth 100000 in
theorem vL_law_418 {p : Program} {l : Launch} {e : Env} {s : State} {m : MethodId} {below : List Frame} {meth : Method} {c : Code} {D : va_G} {B : Nat → Nat} {b L : Nat} {xs : Nat → Int32} {cl sl : Nat} (C : gX p s m #[Value.ref b] meth c cL_law 7 ret wsL_law RL D B (fun q => s.heap.size ≤ q)) (hE : gE l (fun q => s.heap.size ≤ q) s s.heap) (hX : va_X b L xs s s.heap) (hbl : b < s.heap.size) (h9 : cl + 9 ≤ 601024) (hs9 : sl + 1991 ≤ 7293034) {y4 : Int32} {G23 : (Nat → Int32) → (Nat → Nat → Int32) → (Int64) → (Int32) → (Nat → Nat → Int64) → (Nat → Nat → Int32) → (Nat → Int32) → (Nat → Int64) → (Nat → Int32) → (Nat) → (Nat → Nat → Int32) → (Nat → Nat) → (Nat) → (Nat → Nat → Int32) → (Nat → Nat → Nat) → (Nat → Nat → Int32) → (Nat → Nat → Nat → Int32) → (Nat → Nat → Nat) → (Nat → Int32) → (Nat → Nat → Int32) → (Nat → Int64) → Int32 → Prop} (hG23 : ∀ (SI : Nat → Int32) (SX : Nat → Nat → Int32) (CU : Int64) (CQ : Int32) (CJ : Nat → Nat → Int64) (CX : Nat → Nat → Int32) (MI : Nat → Int32) (TT : Nat → Int64) (AW : Nat → Int32) (nE : Nat) (LT : Nat → Nat → Int32) (la : Nat → Nat) (nW : Nat) (WI : Nat → Nat → Int32) (WR : Nat → Nat → Nat) (WL : Nat → Nat → Int32) (WX : Nat → Nat → Nat → Int32) (wd : Nat → Nat → Nat) (I : Nat → Int32) (X : Nat → Nat → Int32) (O : Nat → Int64) (H : Heap) (locs : List Loc) (ls : Array Slot), G23 SI SX CU CQ CJ CX MI TT AW nE LT la nW WI WR WL WX wd I X O (y4 + (4 : Int32)) → GS D B (fun q => s.heap.size ≤ q) s.heap ((SI, SX), (CU, CQ, CJ, CX), (MI, TT, AW, nE, LT, la), (nW, WI, WR, WL, WX, wd), (I, X), O) H locs → lv_has ls 7 [(0, .ref (b)), (1, .ref (B 1)), (2, .ref (B 0)), (3, .ref (B 9)), (4, .int (y4 + (4 : Int32)))] → W p l e room_1 s m #[Value.ref b] below meth c H locs (cl + 9) (sl + 1991) (lw_Z below #[Value.ref b] s) (F0 m 23 ls [])) (SI : Nat → Int32) (SX : Nat → Nat → Int32) (CU : Int64) (CQ : Int32) (CJ : Nat → Nat → Int64) (CX : Nat → Nat → Int32) (MI : Nat → Int32) (TT : Nat → Int64) (AW : Nat → Int32) (nE : Nat) (LT : Nat → Nat → Int32) (la : Nat → Nat) (nW : Nat) (WI : Nat → Nat → Int32) (WR : Nat → Nat → Nat) (WL : Nat → Nat → Int32) (WX : Nat → Nat → Nat → Int32) (wd : Nat → Nat → Nat) (I : Nat → Int32) (X : Nat → Nat → Int32) (O : Nat → Int64) (t0 : Int64) (t1 : Int64) (H : Heap) (locs : List Loc) (ls : Array Slot) (hf : fL_law_418 L xs G23 SI SX CU CQ CJ CX MI TT AW nE LT la nW WI WR WL WX wd I X O y4 t0 t1) (hG : GS D B (fun q => s.heap.size ≤ q) s.heap ((SI, SX), (CU, CQ, CJ, CX), (MI, TT, AW, nE, LT, la), (nW, WI, WR, WL, WX, wd), (I, X), O) H locs) (hl : lv_has ls 7 [(0, .ref (b)), (1, .ref (B 1)), (2, .ref (B 0)), (3, .ref (B 9)), (4, .int y4)]) : W p l e room_1 s m #[Value.ref b] below meth c H locs (cl + 1) (sl + 6) (lw_Z below #[Value.ref b] s) (F0 m 418 ls [.long t0, .long t1]) := by
  obtain ⟨hx, hb, hml, hown, hts, hK, hr, hlk, hA, hN⟩ := id C
  unfold fL_law_418 at hf
  refine W.lcmp hx hb dL_law_418 ?_
  refine lv_if_eq (tgt := 424) hx hb dL_law_419 (by decide) (fun c_95 => ?_) (fun c_95 => ?_)
  · replace hf := hf.1 c_95
    exact vL_law_424 C hE hX hbl h9 hs9 hG23 SI SX CU CQ CJ CX MI TT AW nE LT la nW WI WR WL WX wd I X O _ _ _ hf hG (lv_sub hl [0, 1, 2, 3, 4] rfl)
  · replace hf := hf.2 c_95
    refine lv_iconst (v := (0 : Int32)) hx hb dL_law_422 (by decide) ?_
    exact hf.elim
set_option maxHeartbeats 4000000 in
set_option maxRecDepth 100000 in
theorem vL_law_384 {p : Program} {l : Launch} {e : Env} {s : State} {m : MethodId} {below : List Frame} {meth : Method} {c : Code} {D : va_G} {B : Nat → Nat} {b L : Nat} {xs : Nat → Int32} {cl sl : Nat} (C : gX p s m #[Value.ref b] meth c cL_law 7 ret wsL_law RL D B (fun q => s.heap.size ≤ q)) (hE : gE l (fun q => s.heap.size ≤ q) s s.heap) (hX : va_X b L xs s s.heap) (hbl : b < s.heap.size) (h9 : cl + 9 ≤ 601024) (hs9 : sl + 1991 ≤ 7293034) {y4 : Int32} {G23 : (Nat → Int32) → (Nat → Nat → Int32) → (Int64) → (Int32) → (Nat → Nat → Int64) → (Nat → Nat → Int32) → (Nat → Int32) → (Nat → Int64) → (Nat → Int32) → (Nat) → (Nat → Nat → Int32) → (Nat → Nat) → (Nat) → (Nat → Nat → Int32) → (Nat → Nat → Nat) → (Nat → Nat → Int32) → (Nat → Nat → Nat → Int32) → (Nat → Nat → Nat) → (Nat → Int32) → (Nat → Nat → Int32) → (Nat → Int64) → Int32 → Prop} (hG23 : ∀ (SI : Nat → Int32) (SX : Nat → Nat → Int32) (CU : Int64) (CQ : Int32) (CJ : Nat → Nat → Int64) (CX : Nat → Nat → Int32) (MI : Nat → Int32) (TT : Nat → Int64) (AW : Nat → Int32) (nE : Nat) (LT : Nat → Nat → Int32) (la : Nat → Nat) (nW : Nat) (WI : Nat → Nat → Int32) (WR : Nat → Nat → Nat) (WL : Nat → Nat → Int32) (WX : Nat → Nat → Nat → Int32) (wd : Nat → Nat → Nat) (I : Nat → Int32) (X : Nat → Nat → Int32) (O : Nat → Int64) (H : Heap) (locs : List Loc) (ls : Array Slot), G23 SI SX CU CQ CJ CX MI TT AW nE LT la nW WI WR WL WX wd I X O (y4 + (4 : Int32)) → GS D B (fun q => s.heap.size ≤ q) s.heap ((SI, SX), (CU, CQ, CJ, CX), (MI, TT, AW, nE, LT, la), (nW, WI, WR, WL, WX, wd), (I, X), O) H locs → lv_has ls 7 [(0, .ref (b)), (1, .ref (B 1)), (2, .ref (B 0)), (3, .ref (B 9)), (4, .int (y4 + (4 : Int32)))] → W p l e room_1 s m #[Value.ref b] below meth c H locs (cl + 9) (sl + 1991) (lw_Z below #[Value.ref b] s) (F0 m 23 ls [])) (SI : Nat → Int32) (SX : Nat → Nat → Int32) (CU : Int64) (CQ : Int32) (CJ : Nat → Nat → Int64) (CX : Nat → Nat → Int32) (MI : Nat → Int32) (TT : Nat → Int64) (AW : Nat → Int32) (nE : Nat) (LT : Nat → Nat → Int32) (la : Nat → Nat) (nW : Nat) (WI : Nat → Nat → Int32) (WR : Nat → Nat → Nat) (WL : Nat → Nat → Int32) (WX : Nat → Nat → Nat → Int32) (wd : Nat → Nat → Nat) (I : Nat → Int32) (X : Nat → Nat → Int32) (O : Nat → Int64) (y5 : Int32) (t0 : Int32) (t1 : Int32) (H : Heap) (locs : List Loc) (ls : Array Slot) (hf : fL_law_384 L xs G23 SI SX CU CQ CJ CX MI TT AW nE LT la nW WI WR WL WX wd I X O y4 y5 t0 t1) (hG : GS D B (fun q => s.heap.size ≤ q) s.heap ((SI, SX), (CU, CQ, CJ, CX), (MI, TT, AW, nE, LT, la), (nW, WI, WR, WL, WX, wd), (I, X), O) H locs) (hl : lv_has ls 7 [(0, .ref (b)), (1, .ref (B 1)), (2, .ref (B 0)), (3, .ref (B 9)), (4, .int y4), (5, .int y5)]) : W p l e room_1 s m #[Value.ref b] below meth c H locs (cl + 1) (sl + 6) (lw_Z below #[Value.ref b] s) (F0 m 384 ls [.int t0, .int t1, .ref (B 0)]) := by
  obtain ⟨hx, hb, hml, hown, hts, hK, hr, hlk, hA, hN⟩ := id C
  unfold fL_law_384 at hf
  refine g_callVi0 (As := [.int t1, .int t0]) C hG (kX6_dead hf) (cwV 2 hts gL_law_X6_dead rfl rfl rfl hdvX6_dead ⟨Nat.le_of_ble_eq_true rfl, Nat.le_of_ble_eq_true rfl⟩) (va_recv hK hG.1 (ci := 6) (q0 := 0) rfl rfl) rfl hl.1 rfl (Nat.le_of_ble_eq_true rfl) dL_law_384 ⟨by show _ ≤ 601024; omega, by show _ ≤ 7293034; omega⟩ (fun r_89 g1 H locs hq hG => ?_)
  obtain ⟨I_87, X_88, rfl, hf⟩ := hq
  refine lv_istore (lv' := [(6, .int r_89), (0, .ref (b)), (1, .ref (B 1)), (2, .ref (B 0)), (3, .ref (B 9)), (4, .int y4), (5, .int y5)]) hx hb dL_law_387 hl (by decide) rfl (fun ls hl => ?_)
  refine lv_aload_n hx hb dL_law_389 rfl (lv_at hl 3 rfl) ?_
  refine g_callVi0 (As := []) C hG (kX6_thrown hf) (cwV 0 hts gL_law_X6_thrown rfl rfl rfl hdvX6_thrown ⟨Nat.le_of_ble_eq_true rfl, Nat.le_of_ble_eq_true rfl⟩) (va_recv hK hG.1 (ci := 6) (q0 := 0) rfl rfl) rfl hl.1 rfl (Nat.le_of_ble_eq_true rfl) dL_law_390 ⟨by show _ ≤ 601024; omega, by show _ ≤ 7293034; omega⟩ (fun r_90 g1 H locs hq hG => ?_)
  obtain ⟨rfl, hf⟩ := hq
  refine lv_iload hx hb dL_law_393 (lv_at hl 6 rfl) ?_
  refine lv_icmp_eq (tgt := 400) hx hb dL_law_395 (by decide) (fun c_91 => ?_) (fun c_91 => ?_)
  · replace hf := hf.1 c_91
    refine lv_iload hx hb dL_law_400 (lv_at hl 6 rfl) ?_
    refine lv_if_ne (tgt := 424) hx hb dL_law_402 (by decide) (fun c_92 => ?_) (fun c_92 => ?_)
    · replace hf := hf.1 c_92
      exact vL_law_424 C hE hX hbl h9 hs9 hG23 SI SX CU CQ CJ CX MI TT AW nE LT la nW WI WR WL WX wd I_87 X_88 O _ _ _ hf hG (lv_sub hl [1, 2, 3, 4, 5] rfl)
    · replace hf := hf.2 c_92
      refine lv_aload_n hx hb dL_law_405 rfl (lv_at hl 4 rfl) ?_
      refine lv_iconst (v := (0 : Int32)) hx hb dL_law_406 (by decide) ?_
      obtain ⟨h_93, hf⟩ := hf
      refine ga_O C hG h_93 dL_law_407 ?_
      refine lv_iload hx hb dL_law_408 (lv_at hl 0 rfl) ?_
      refine lv_if_eq (tgt := 417) hx hb dL_law_410 (by decide) (fun c_94 => ?_) (fun c_94 => ?_)
      · replace hf := hf.1 c_94
        refine lv_lconst (v := (0 : Int64)) hx hb dL_law_417 (by decide) ?_
        exact vL_law_418 C hE hX hbl h9 hs9 hG23 SI SX CU CQ CJ CX MI TT AW nE LT la nW WI WR WL WX wd I_87 X_88 O (0 : Int64) (O (0 : Int32).toNatClampNeg) _ _ _ hf hG (lv_sub hl [1, 2, 3, 4, 5] rfl)
      · replace hf := hf.2 c_94
        refine lv_lconst (v := (1 : Int64)) hx hb dL_law_413 (by decide) ?_
        refine lv_goto (tgt := 418) hx hb dL_law_414 (by decide) ?_
        exact vL_law_418 C hE hX hbl h9 hs9 hG23 SI SX CU CQ CJ CX MI TT AW nE LT la nW WI WR WL WX wd I_87 X_88 O (1 : Int64) (O (0 : Int32).toNatClampNeg) _ _ _ hf hG (lv_sub hl [1, 2, 3, 4, 5] rfl)
  · replace hf := hf.2 c_91
    refine lv_iconst (v := (0 : Int32)) hx hb dL_law_398 (by decide) ?_
    exact hf.elim
set_option maxHeartbeats 4000000 in
set_option maxRecDepth 100000 in
theorem vL_law_357 {p : Program} {l : Launch} {e : Env} {s : State} {m : MethodId} {below : List Frame} {meth : Method} {c : Code} {D : va_G} {B : Nat → Nat} {b L : Nat} {xs : Nat → Int32} {cl sl : Nat} (C : gX p s m #[Value.ref b] meth c cL_law 7 ret wsL_law RL D B (fun q => s.heap.size ≤ q)) (hE : gE l (fun q => s.heap.size ≤ q) s s.heap) (hX : va_X b L xs s s.heap) (hbl : b < s.heap.size) (h9 : cl + 9 ≤ 601024) (hs9 : sl + 1991 ≤ 7293034) {y4 : Int32} {G23 : (Nat → Int32) → (Nat → Nat → Int32) → (Int64) → (Int32) → (Nat → Nat → Int64) → (Nat → Nat → Int32) → (Nat → Int32) → (Nat → Int64) → (Nat → Int32) → (Nat) → (Nat → Nat → Int32) → (Nat → Nat) → (Nat) → (Nat → Nat → Int32) → (Nat → Nat → Nat) → (Nat → Nat → Int32) → (Nat → Nat → Nat → Int32) → (Nat → Nat → Nat) → (Nat → Int32) → (Nat → Nat → Int32) → (Nat → Int64) → Int32 → Prop} (hG23 : ∀ (SI : Nat → Int32) (SX : Nat → Nat → Int32) (CU : Int64) (CQ : Int32) (CJ : Nat → Nat → Int64) (CX : Nat → Nat → Int32) (MI : Nat → Int32) (TT : Nat → Int64) (AW : Nat → Int32) (nE : Nat) (LT : Nat → Nat → Int32) (la : Nat → Nat) (nW : Nat) (WI : Nat → Nat → Int32) (WR : Nat → Nat → Nat) (WL : Nat → Nat → Int32) (WX : Nat → Nat → Nat → Int32) (wd : Nat → Nat → Nat) (I : Nat → Int32) (X : Nat → Nat → Int32) (O : Nat → Int64) (H : Heap) (locs : List Loc) (ls : Array Slot), G23 SI SX CU CQ CJ CX MI TT AW nE LT la nW WI WR WL WX wd I X O (y4 + (4 : Int32)) → GS D B (fun q => s.heap.size ≤ q) s.heap ((SI, SX), (CU, CQ, CJ, CX), (MI, TT, AW, nE, LT, la), (nW, WI, WR, WL, WX, wd), (I, X), O) H locs → lv_has ls 7 [(0, .ref (b)), (1, .ref (B 1)), (2, .ref (B 0)), (3, .ref (B 9)), (4, .int (y4 + (4 : Int32)))] → W p l e room_1 s m #[Value.ref b] below meth c H locs (cl + 9) (sl + 1991) (lw_Z below #[Value.ref b] s) (F0 m 23 ls [])) (SI : Nat → Int32) (SX : Nat → Nat → Int32) (CU : Int64) (CQ : Int32) (CJ : Nat → Nat → Int64) (CX : Nat → Nat → Int32) (MI : Nat → Int32) (TT : Nat → Int64) (AW : Nat → Int32) (nE : Nat) (LT : Nat → Nat → Int32) (la : Nat → Nat) (nW : Nat) (WI : Nat → Nat → Int32) (WR : Nat → Nat → Nat) (WL : Nat → Nat → Int32) (WX : Nat → Nat → Nat → Int32) (wd : Nat → Nat → Nat) (I : Nat → Int32) (X : Nat → Nat → Int32) (O : Nat → Int64) (t0 : Int32) (t1 : Int32) (H : Heap) (locs : List Loc) (ls : Array Slot) (hf : fL_law_357 L xs G23 SI SX CU CQ CJ CX MI TT AW nE LT la nW WI WR WL WX wd I X O y4 t0 t1) (hG : GS D B (fun q => s.heap.size ≤ q) s.heap ((SI, SX), (CU, CQ, CJ, CX), (MI, TT, AW, nE, LT, la), (nW, WI, WR, WL, WX, wd), (I, X), O) H locs) (hl : lv_has ls 7 [(0, .ref (b)), (1, .ref (B 1)), (2, .ref (B 0)), (3, .ref (B 9)), (4, .int y4)]) : W p l e room_1 s m #[Value.ref b] below meth c H locs cl sl (lw_Z below #[Value.ref b] s) (F0 m 357 ls [.int t0, .int t1, .ref (B 1)]) := by
  obtain ⟨hx, hb, hml, hown, hts, hK, hr, hlk, hA, hN⟩ := id C
  unfold fL_law_357 at hf
  refine lv_aload_n hx hb dL_law_357 rfl (lv_at hl 3 rfl) ?_
  refine g_callLi (As := [.ref (B 1), .int t1, .int t0, .ref (B 9)]) C hE hG (kL_dead hf) (vx_cwSW 4 hts gL_law_L_dead rfl rfl rfl hdsL_dead ⟨Nat.le_of_ble_eq_true rfl, Nat.le_of_ble_eq_true rfl⟩) rfl hl.1 rfl (Nat.le_of_ble_eq_true rfl) dL_law_358 ⟨by show _ ≤ 601024; omega, by show _ ≤ 7293034; omega⟩ (fun r_83 g1 H locs hq hG => ?_)
  obtain ⟨SI_76, SX_77, MI_78, TT_79, AW_80, LT_81, O_82, rfl, hf⟩ := hq
  refine lv_istore (lv' := [(5, .int r_83), (0, .ref (b)), (1, .ref (B 1)), (2, .ref (B 0)), (3, .ref (B 9)), (4, .int y4)]) hx hb dL_law_361 hl (by decide) rfl (fun ls hl => ?_)
  refine lv_aload_n hx hb dL_law_363 rfl (lv_at hl 3 rfl) ?_
  refine lv_aload_n hx hb dL_law_364 rfl (lv_at hl 1 rfl) ?_
  refine lv_iload hx hb dL_law_365 (lv_at hl 5 rfl) ?_
  refine lv_iconst (v := (1 : Int32)) hx hb dL_law_367 (by decide) ?_
  refine lv_iadd hx hb dL_law_368 ?_
  obtain ⟨h_84, hf⟩ := hf
  refine va_sld hx hb hX hbl (Nat.not_le.mpr hbl) hG.2.2 h_84 dL_law_369 ?_
  refine lv_aload_n hx hb dL_law_370 rfl (lv_at hl 1 rfl) ?_
  refine lv_iload hx hb dL_law_371 (lv_at hl 5 rfl) ?_
  refine lv_iconst (v := (2 : Int32)) hx hb dL_law_373 (by decide) ?_
  refine lv_iadd hx hb dL_law_374 ?_
  obtain ⟨h_85, hf⟩ := hf
  refine va_sld hx hb hX hbl (Nat.not_le.mpr hbl) hG.2.2 h_85 dL_law_375 ?_
  refine lv_if_eq (tgt := 383) hx hb dL_law_376 (by decide) (fun c_86 => ?_) (fun c_86 => ?_)
  · replace hf := hf.1 c_86
    refine lv_iconst (v := (0 : Int32)) hx hb dL_law_383 (by decide) ?_
    exact vL_law_384 C hE hX hbl h9 hs9 hG23 SI_76 SX_77 CU CQ CJ CX MI_78 TT_79 AW_80 nE LT_81 la nW WI WR WL WX wd I X O_82 r_83 (0 : Int32) (xs (y4 + (1 : Int32)).toNatClampNeg) _ _ _ hf hG (lv_sub hl [1, 2, 3, 4, 5, 0] rfl)
  · replace hf := hf.2 c_86
    refine lv_iconst (v := (1 : Int32)) hx hb dL_law_379 (by decide) ?_
    refine lv_goto (tgt := 384) hx hb dL_law_380 (by decide) ?_
    exact vL_law_384 C hE hX hbl h9 hs9 hG23 SI_76 SX_77 CU CQ CJ CX MI_78 TT_79 AW_80 nE LT_81 la nW WI WR WL WX wd I X O_82 r_83 (1 : Int32) (xs (y4 + (1 : Int32)).toNatClampNeg) _ _ _ hf hG (lv_sub hl [1, 2, 3, 4, 5, 0] rfl)
set_option maxHeartbeats 4000000 in
set_option maxRecDepth 100000 in
theorem vL_law_336 {p : Program} {l : Launch} {e : Env} {s : State} {m : MethodId} {below : List Frame} {meth : Method} {c : Code} {D : va_G} {B : Nat → Nat} {b L : Nat} {xs : Nat → Int32} {cl sl : Nat} (C : gX p s m #[Value.ref b] meth c cL_law 7 ret wsL_law RL D B (fun q => s.heap.size ≤ q)) (hE : gE l (fun q => s.heap.size ≤ q) s s.heap) (hX : va_X b L xs s s.heap) (hbl : b < s.heap.size) (h9 : cl + 9 ≤ 601024) (hs9 : sl + 1991 ≤ 7293034) {y4 : Int32} {G23 : (Nat → Int32) → (Nat → Nat → Int32) → (Int64) → (Int32) → (Nat → Nat → Int64) → (Nat → Nat → Int32) → (Nat → Int32) → (Nat → Int64) → (Nat → Int32) → (Nat) → (Nat → Nat → Int32) → (Nat → Nat) → (Nat) → (Nat → Nat → Int32) → (Nat → Nat → Nat) → (Nat → Nat → Int32) → (Nat → Nat → Nat → Int32) → (Nat → Nat → Nat) → (Nat → Int32) → (Nat → Nat → Int32) → (Nat → Int64) → Int32 → Prop} (hG23 : ∀ (SI : Nat → Int32) (SX : Nat → Nat → Int32) (CU : Int64) (CQ : Int32) (CJ : Nat → Nat → Int64) (CX : Nat → Nat → Int32) (MI : Nat → Int32) (TT : Nat → Int64) (AW : Nat → Int32) (nE : Nat) (LT : Nat → Nat → Int32) (la : Nat → Nat) (nW : Nat) (WI : Nat → Nat → Int32) (WR : Nat → Nat → Nat) (WL : Nat → Nat → Int32) (WX : Nat → Nat → Nat → Int32) (wd : Nat → Nat → Nat) (I : Nat → Int32) (X : Nat → Nat → Int32) (O : Nat → Int64) (H : Heap) (locs : List Loc) (ls : Array Slot), G23 SI SX CU CQ CJ CX MI TT AW nE LT la nW WI WR WL WX wd I X O (y4 + (4 : Int32)) → GS D B (fun q => s.heap.size ≤ q) s.heap ((SI, SX), (CU, CQ, CJ, CX), (MI, TT, AW, nE, LT, la), (nW, WI, WR, WL, WX, wd), (I, X), O) H locs → lv_has ls 7 [(0, .ref (b)), (1, .ref (B 1)), (2, .ref (B 0)), (3, .ref (B 9)), (4, .int (y4 + (4 : Int32)))] → W p l e room_1 s m #[Value.ref b] below meth c H locs (cl + 9) (sl + 1991) (lw_Z below #[Value.ref b] s) (F0 m 23 ls [])) (SI : Nat → Int32) (SX : Nat → Nat → Int32) (CU : Int64) (CQ : Int32) (CJ : Nat → Nat → Int64) (CX : Nat → Nat → Int32) (MI : Nat → Int32) (TT : Nat → Int64) (AW : Nat → Int32) (nE : Nat) (LT : Nat → Nat → Int32) (la : Nat → Nat) (nW : Nat) (WI : Nat → Nat → Int32) (WR : Nat → Nat → Nat) (WL : Nat → Nat → Int32) (WX : Nat → Nat → Nat → Int32) (wd : Nat → Nat → Nat) (I : Nat → Int32) (X : Nat → Nat → Int32) (O : Nat → Int64)  (H : Heap) (locs : List Loc) (ls : Array Slot) (hf : fL_law_336 L xs G23 SI SX CU CQ CJ CX MI TT AW nE LT la nW WI WR WL WX wd I X O y4) (hG : GS D B (fun q => s.heap.size ≤ q) s.heap ((SI, SX), (CU, CQ, CJ, CX), (MI, TT, AW, nE, LT, la), (nW, WI, WR, WL, WX, wd), (I, X), O) H locs) (hl : lv_has ls 7 [(0, .ref (b)), (1, .ref (B 1)), (2, .ref (B 0)), (3, .ref (B 9)), (4, .int y4)]) : W p l e room_1 s m #[Value.ref b] below meth c H locs cl sl (lw_Z below #[Value.ref b] s) (F0 m 336 ls []) := by
  obtain ⟨hx, hb, hml, hown, hts, hK, hr, hlk, hA, hN⟩ := id C
  unfold fL_law_336 at hf
  refine lv_aload_n hx hb dL_law_336 rfl (lv_at hl 1 rfl) ?_
  refine lv_aload_n hx hb dL_law_337 rfl (lv_at hl 0 rfl) ?_
  refine lv_iload hx hb dL_law_338 (lv_at hl 4 rfl) ?_
  refine lv_iconst (v := (1 : Int32)) hx hb dL_law_340 (by decide) ?_
  refine lv_iadd hx hb dL_law_341 ?_
  obtain ⟨h_73, hf⟩ := hf
  refine va_sld hx hb hX hbl (Nat.not_le.mpr hbl) hG.2.2 h_73 dL_law_342 ?_
  refine lv_aload_n hx hb dL_law_343 rfl (lv_at hl 0 rfl) ?_
  refine lv_iload hx hb dL_law_344 (lv_at hl 4 rfl) ?_
  refine lv_iconst (v := (2 : Int32)) hx hb dL_law_346 (by decide) ?_
  refine lv_iadd hx hb dL_law_347 ?_
  obtain ⟨h_74, hf⟩ := hf
  refine va_sld hx hb hX hbl (Nat.not_le.mpr hbl) hG.2.2 h_74 dL_law_348 ?_
  refine lv_if_eq (tgt := 356) hx hb dL_law_349 (by decide) (fun c_75 => ?_) (fun c_75 => ?_)
  · replace hf := hf.1 c_75
    refine lv_iconst (v := (0 : Int32)) hx hb dL_law_356 (by decide) ?_
    exact vL_law_357 C hE hX hbl h9 hs9 hG23 SI SX CU CQ CJ CX MI TT AW nE LT la nW WI WR WL WX wd I X O (0 : Int32) (xs (y4 + (1 : Int32)).toNatClampNeg) _ _ _ hf hG (lv_sub hl [0, 1, 2, 3, 4] rfl)
  · replace hf := hf.2 c_75
    refine lv_iconst (v := (1 : Int32)) hx hb dL_law_352 (by decide) ?_
    refine lv_goto (tgt := 357) hx hb dL_law_353 (by decide) ?_
    exact vL_law_357 C hE hX hbl h9 hs9 hG23 SI SX CU CQ CJ CX MI TT AW nE LT la nW WI WR WL WX wd I X O (1 : Int32) (xs (y4 + (1 : Int32)).toNatClampNeg) _ _ _ hf hG (lv_sub hl [0, 1, 2, 3, 4] rfl)
set_option maxHeartbeats 4000000 in
set_option maxRecDepth 100000 in
theorem vL_law_333 {p : Program} {l : Launch} {e : Env} {s : State} {m : MethodId} {below : List Frame} {meth : Method} {c : Code} {D : va_G} {B : Nat → Nat} {b L : Nat} {xs : Nat → Int32} {cl sl : Nat} (C : gX p s m #[Value.ref b] meth c cL_law 7 ret wsL_law RL D B (fun q => s.heap.size ≤ q)) (hE : gE l (fun q => s.heap.size ≤ q) s s.heap) (hX : va_X b L xs s s.heap) (hbl : b < s.heap.size) (h9 : cl + 9 ≤ 601024) (hs9 : sl + 1991 ≤ 7293034) {y4 : Int32} {G23 : (Nat → Int32) → (Nat → Nat → Int32) → (Int64) → (Int32) → (Nat → Nat → Int64) → (Nat → Nat → Int32) → (Nat → Int32) → (Nat → Int64) → (Nat → Int32) → (Nat) → (Nat → Nat → Int32) → (Nat → Nat) → (Nat) → (Nat → Nat → Int32) → (Nat → Nat → Nat) → (Nat → Nat → Int32) → (Nat → Nat → Nat → Int32) → (Nat → Nat → Nat) → (Nat → Int32) → (Nat → Nat → Int32) → (Nat → Int64) → Int32 → Prop} (hG23 : ∀ (SI : Nat → Int32) (SX : Nat → Nat → Int32) (CU : Int64) (CQ : Int32) (CJ : Nat → Nat → Int64) (CX : Nat → Nat → Int32) (MI : Nat → Int32) (TT : Nat → Int64) (AW : Nat → Int32) (nE : Nat) (LT : Nat → Nat → Int32) (la : Nat → Nat) (nW : Nat) (WI : Nat → Nat → Int32) (WR : Nat → Nat → Nat) (WL : Nat → Nat → Int32) (WX : Nat → Nat → Nat → Int32) (wd : Nat → Nat → Nat) (I : Nat → Int32) (X : Nat → Nat → Int32) (O : Nat → Int64) (H : Heap) (locs : List Loc) (ls : Array Slot), G23 SI SX CU CQ CJ CX MI TT AW nE LT la nW WI WR WL WX wd I X O (y4 + (4 : Int32)) → GS D B (fun q => s.heap.size ≤ q) s.heap ((SI, SX), (CU, CQ, CJ, CX), (MI, TT, AW, nE, LT, la), (nW, WI, WR, WL, WX, wd), (I, X), O) H locs → lv_has ls 7 [(0, .ref (b)), (1, .ref (B 1)), (2, .ref (B 0)), (3, .ref (B 9)), (4, .int (y4 + (4 : Int32)))] → W p l e room_1 s m #[Value.ref b] below meth c H locs (cl + 9) (sl + 1991) (lw_Z below #[Value.ref b] s) (F0 m 23 ls [])) (SI : Nat → Int32) (SX : Nat → Nat → Int32) (CU : Int64) (CQ : Int32) (CJ : Nat → Nat → Int64) (CX : Nat → Nat → Int32) (MI : Nat → Int32) (TT : Nat → Int64) (AW : Nat → Int32) (nE : Nat) (LT : Nat → Nat → Int32) (la : Nat → Nat) (nW : Nat) (WI : Nat → Nat → Int32) (WR : Nat → Nat → Nat) (WL : Nat → Nat → Int32) (WX : Nat → Nat → Nat → Int32) (wd : Nat → Nat → Nat) (I : Nat → Int32) (X : Nat → Nat → Int32) (O : Nat → Int64)  (H : Heap) (locs : List Loc) (ls : Array Slot) (hf : fL_law_333 L xs G23 SI SX CU CQ CJ CX MI TT AW nE LT la nW WI WR WL WX wd I X O y4) (hG : GS D B (fun q => s.heap.size ≤ q) s.heap ((SI, SX), (CU, CQ, CJ, CX), (MI, TT, AW, nE, LT, la), (nW, WI, WR, WL, WX, wd), (I, X), O) H locs) (hl : lv_has ls 7 [(0, .ref (b)), (1, .ref (B 1)), (2, .ref (B 0)), (3, .ref (B 9)), (4, .int y4)]) : W p l e room_1 s m #[Value.ref b] below meth c H locs (cl + 2) (sl + 12) (lw_Z below #[Value.ref b] s) (F0 m 333 ls []) := by
  obtain ⟨hx, hb, hml, hown, hts, hK, hr, hlk, hA, hN⟩ := id C
  unfold fL_law_333 at hf
  refine lv_goto (tgt := 1123) hx hb dL_law_333 (by decide) ?_
  refine W.widen (k := cl + 9) (n := sl + 1991) (by omega) (by omega) ?_
  exact vL_law_1123 C hE hX hbl h9 hs9 hG23 SI SX CU CQ CJ CX MI TT AW nE LT la nW WI WR WL WX wd I X O _ _ _ hf hG (lv_sub hl [0, 1, 2, 3, 4] rfl)
set_option maxHeartbeats 4000000 in
set_option maxRecDepth 100000 in
theorem vL_law_268 {p : Program} {l : Launch} {e : Env} {s : State} {m : MethodId} {below : List Frame} {meth : Method} {c : Code} {D : va_G} {B : Nat → Nat} {b L : Nat} {xs : Nat → Int32} {cl sl : Nat} (C : gX p s m #[Value.ref b] meth c cL_law 7 ret wsL_law RL D B (fun q => s.heap.size ≤ q)) (hE : gE l (fun q => s.heap.size ≤ q) s s.heap) (hX : va_X b L xs s s.heap) (hbl : b < s.heap.size) (h9 : cl + 9 ≤ 601024) (hs9 : sl + 1991 ≤ 7293034) {y4 : Int32} {G23 : (Nat → Int32) → (Nat → Nat → Int32) → (Int64) → (Int32) → (Nat → Nat → Int64) → (Nat → Nat → Int32) → (Nat → Int32) → (Nat → Int64) → (Nat → Int32) → (Nat) → (Nat → Nat → Int32) → (Nat → Nat) → (Nat) → (Nat → Nat → Int32) → (Nat → Nat → Nat) → (Nat → Nat → Int32) → (Nat → Nat → Nat → Int32) → (Nat → Nat → Nat) → (Nat → Int32) → (Nat → Nat → Int32) → (Nat → Int64) → Int32 → Prop} (hG23 : ∀ (SI : Nat → Int32) (SX : Nat → Nat → Int32) (CU : Int64) (CQ : Int32) (CJ : Nat → Nat → Int64) (CX : Nat → Nat → Int32) (MI : Nat → Int32) (TT : Nat → Int64) (AW : Nat → Int32) (nE : Nat) (LT : Nat → Nat → Int32) (la : Nat → Nat) (nW : Nat) (WI : Nat → Nat → Int32) (WR : Nat → Nat → Nat) (WL : Nat → Nat → Int32) (WX : Nat → Nat → Nat → Int32) (wd : Nat → Nat → Nat) (I : Nat → Int32) (X : Nat → Nat → Int32) (O : Nat → Int64) (H : Heap) (locs : List Loc) (ls : Array Slot), G23 SI SX CU CQ CJ CX MI TT AW nE LT la nW WI WR WL WX wd I X O (y4 + (4 : Int32)) → GS D B (fun q => s.heap.size ≤ q) s.heap ((SI, SX), (CU, CQ, CJ, CX), (MI, TT, AW, nE, LT, la), (nW, WI, WR, WL, WX, wd), (I, X), O) H locs → lv_has ls 7 [(0, .ref (b)), (1, .ref (B 1)), (2, .ref (B 0)), (3, .ref (B 9)), (4, .int (y4 + (4 : Int32)))] → W p l e room_1 s m #[Value.ref b] below meth c H locs (cl + 9) (sl + 1991) (lw_Z below #[Value.ref b] s) (F0 m 23 ls [])) (SI : Nat → Int32) (SX : Nat → Nat → Int32) (CU : Int64) (CQ : Int32) (CJ : Nat → Nat → Int64) (CX : Nat → Nat → Int32) (MI : Nat → Int32) (TT : Nat → Int64) (AW : Nat → Int32) (nE : Nat) (LT : Nat → Nat → Int32) (la : Nat → Nat) (nW : Nat) (WI : Nat → Nat → Int32) (WR : Nat → Nat → Nat) (WL : Nat → Nat → Int32) (WX : Nat → Nat → Nat → Int32) (wd : Nat → Nat → Nat) (I : Nat → Int32) (X : Nat → Nat → Int32) (O : Nat → Int64)  (H : Heap) (locs : List Loc) (ls : Array Slot) (hf : fL_law_268 L xs G23 SI SX CU CQ CJ CX MI TT AW nE LT la nW WI WR WL WX wd I X O y4) (hG : GS D B (fun q => s.heap.size ≤ q) s.heap ((SI, SX), (CU, CQ, CJ, CX), (MI, TT, AW, nE, LT, la), (nW, WI, WR, WL, WX, wd), (I, X), O) H locs) (hl : lv_has ls 7 [(0, .ref (b)), (1, .ref (B 1)), (2, .ref (B 0)), (3, .ref (B 9)), (4, .int y4)]) : W p l e room_1 s m #[Value.ref b] below meth c H locs cl sl (lw_Z below #[Value.ref b] s) (F0 m 268 ls []) := by
  obtain ⟨hx, hb, hml, hown, hts, hK, hr, hlk, hA, hN⟩ := id C
  unfold fL_law_268 at hf
  refine lv_aload_n hx hb dL_law_268 rfl (lv_at hl 1 rfl) ?_
  refine lv_aload_n hx hb dL_law_269 rfl (lv_at hl 0 rfl) ?_
  refine lv_iload hx hb dL_law_270 (lv_at hl 4 rfl) ?_
  refine lv_iconst (v := (1 : Int32)) hx hb dL_law_272 (by decide) ?_
  refine lv_iadd hx hb dL_law_273 ?_
  obtain ⟨h_59, hf⟩ := hf
  refine va_sld hx hb hX hbl (Nat.not_le.mpr hbl) hG.2.2 h_59 dL_law_274 ?_
  refine lv_aload_n hx hb dL_law_275 rfl (lv_at hl 0 rfl) ?_
  refine lv_iload hx hb dL_law_276 (lv_at hl 4 rfl) ?_
  refine lv_iconst (v := (2 : Int32)) hx hb dL_law_278 (by decide) ?_
  refine lv_iadd hx hb dL_law_279 ?_
  obtain ⟨h_60, hf⟩ := hf
  refine va_sld hx hb hX hbl (Nat.not_le.mpr hbl) hG.2.2 h_60 dL_law_280 ?_
  refine lv_aload_n hx hb dL_law_281 rfl (lv_at hl 3 rfl) ?_
  refine g_callLi (As := [.ref (B 1), .int (xs (y4 + (1 : Int32)).toNatClampNeg), .int (xs (y4 + (2 : Int32)).toNatClampNeg), .ref (B 9)]) C hE hG (kL_over hf) (vx_cwSW 4 hts gL_law_L_over rfl rfl rfl hdsL_over ⟨Nat.le_of_ble_eq_true rfl, Nat.le_of_ble_eq_true rfl⟩) rfl hl.1 rfl (Nat.le_of_ble_eq_true rfl) dL_law_282 ⟨by show _ ≤ 601024; omega, by show _ ≤ 7293034; omega⟩ (fun r_62 g1 H locs hq hG => ?_)
  obtain ⟨O_61, rfl, hf⟩ := hq
  refine lv_istore (lv' := [(5, .int r_62), (0, .ref (b)), (1, .ref (B 1)), (2, .ref (B 0)), (3, .ref (B 9)), (4, .int y4)]) hx hb dL_law_285 hl (by decide) rfl (fun ls hl => ?_)
  refine lv_aload_n hx hb dL_law_287 rfl (lv_at hl 3 rfl) ?_
  refine lv_aload_n hx hb dL_law_288 rfl (lv_at hl 1 rfl) ?_
  refine lv_iload hx hb dL_law_289 (lv_at hl 5 rfl) ?_
  refine lv_iconst (v := (1 : Int32)) hx hb dL_law_291 (by decide) ?_
  refine lv_iadd hx hb dL_law_292 ?_
  obtain ⟨h_63, hf⟩ := hf
  refine va_sld hx hb hX hbl (Nat.not_le.mpr hbl) hG.2.2 h_63 dL_law_293 ?_
  refine lv_aload_n hx hb dL_law_294 rfl (lv_at hl 1 rfl) ?_
  refine lv_iload hx hb dL_law_295 (lv_at hl 5 rfl) ?_
  refine lv_iconst (v := (2 : Int32)) hx hb dL_law_297 (by decide) ?_
  refine lv_iadd hx hb dL_law_298 ?_
  obtain ⟨h_64, hf⟩ := hf
  refine va_sld hx hb hX hbl (Nat.not_le.mpr hbl) hG.2.2 h_64 dL_law_299 ?_
  refine g_callVi0 (As := [.int (xs (y4 + (1 : Int32)).toNatClampNeg), .int (xs (y4 + (2 : Int32)).toNatClampNeg)]) C hG (kX6_over hf) (cwV 2 hts gL_law_X6_over rfl rfl rfl hdvX6_over ⟨Nat.le_of_ble_eq_true rfl, Nat.le_of_ble_eq_true rfl⟩) (va_recv hK hG.1 (ci := 6) (q0 := 0) rfl rfl) rfl hl.1 rfl (Nat.le_of_ble_eq_true rfl) dL_law_300 ⟨by show _ ≤ 601024; omega, by show _ ≤ 7293034; omega⟩ (fun r_67 g1 H locs hq hG => ?_)
  obtain ⟨I_65, X_66, rfl, hf⟩ := hq
  refine lv_istore (lv' := [(6, .int r_67), (5, .int r_62), (0, .ref (b)), (1, .ref (B 1)), (2, .ref (B 0)), (3, .ref (B 9)), (4, .int y4)]) hx hb dL_law_303 hl (by decide) rfl (fun ls hl => ?_)
  refine lv_aload_n hx hb dL_law_305 rfl (lv_at hl 4 rfl) ?_
  refine g_callVi0 (As := []) C hG (kX6_thrown hf) (cwV 0 hts gL_law_X6_thrown rfl rfl rfl hdvX6_thrown ⟨Nat.le_of_ble_eq_true rfl, Nat.le_of_ble_eq_true rfl⟩) (va_recv hK hG.1 (ci := 6) (q0 := 0) rfl rfl) rfl hl.1 rfl (Nat.le_of_ble_eq_true rfl) dL_law_306 ⟨by show _ ≤ 601024; omega, by show _ ≤ 7293034; omega⟩ (fun r_68 g1 H locs hq hG => ?_)
  obtain ⟨rfl, hf⟩ := hq
  refine lv_iload hx hb dL_law_309 (lv_at hl 1 rfl) ?_
  refine lv_icmp_eq (tgt := 316) hx hb dL_law_311 (by decide) (fun c_69 => ?_) (fun c_69 => ?_)
  · replace hf := hf.1 c_69
    refine lv_iload hx hb dL_law_316 (lv_at hl 1 rfl) ?_
    refine lv_if_ne (tgt := 333) hx hb dL_law_318 (by decide) (fun c_70 => ?_) (fun c_70 => ?_)
    · replace hf := hf.1 c_70
      exact vL_law_333 C hE hX hbl h9 hs9 hG23 SI SX CU CQ CJ CX MI TT AW nE LT la nW WI WR WL WX wd I_65 X_66 O_61 _ _ _ hf hG (lv_sub hl [2, 3, 4, 5, 6] rfl)
    · replace hf := hf.2 c_70
      refine lv_aload_n hx hb dL_law_321 rfl (lv_at hl 5 rfl) ?_
      refine lv_iconst (v := (0 : Int32)) hx hb dL_law_322 (by decide) ?_
      obtain ⟨h_71, hf⟩ := hf
      refine ga_O C hG h_71 dL_law_323 ?_
      refine lv_iload hx hb dL_law_324 (lv_at hl 0 rfl) ?_
      refine lv_i2l hx hb dL_law_326 rfl ?_
      refine W.lcmp hx hb dL_law_327 ?_
      refine lv_if_eq (tgt := 333) hx hb dL_law_328 (by decide) (fun c_72 => ?_) (fun c_72 => ?_)
      · replace hf := hf.1 c_72
        exact vL_law_333 C hE hX hbl h9 hs9 hG23 SI SX CU CQ CJ CX MI TT AW nE LT la nW WI WR WL WX wd I_65 X_66 O_61 _ _ _ hf hG (lv_sub hl [2, 3, 4, 5, 6] rfl)
      · replace hf := hf.2 c_72
        refine lv_iconst (v := (0 : Int32)) hx hb dL_law_331 (by decide) ?_
        exact hf.elim
  · replace hf := hf.2 c_69
    refine lv_iconst (v := (0 : Int32)) hx hb dL_law_314 (by decide) ?_
    exact hf.elim
set_option maxHeartbeats 4000000 in
set_option maxRecDepth 100000 in
theorem vL_law_265 {p : Program} {l : Launch} {e : Env} {s : State} {m : MethodId} {below : List Frame} {meth : Method} {c : Code} {D : va_G} {B : Nat → Nat} {b L : Nat} {xs : Nat → Int32} {cl sl : Nat} (C : gX p s m #[Value.ref b] meth c cL_law 7 ret wsL_law RL D B (fun q => s.heap.size ≤ q)) (hE : gE l (fun q => s.heap.size ≤ q) s s.heap) (hX : va_X b L xs s s.heap) (hbl : b < s.heap.size) (h9 : cl + 9 ≤ 601024) (hs9 : sl + 1991 ≤ 7293034) {y4 : Int32} {G23 : (Nat → Int32) → (Nat → Nat → Int32) → (Int64) → (Int32) → (Nat → Nat → Int64) → (Nat → Nat → Int32) → (Nat → Int32) → (Nat → Int64) → (Nat → Int32) → (Nat) → (Nat → Nat → Int32) → (Nat → Nat) → (Nat) → (Nat → Nat → Int32) → (Nat → Nat → Nat) → (Nat → Nat → Int32) → (Nat → Nat → Nat → Int32) → (Nat → Nat → Nat) → (Nat → Int32) → (Nat → Nat → Int32) → (Nat → Int64) → Int32 → Prop} (hG23 : ∀ (SI : Nat → Int32) (SX : Nat → Nat → Int32) (CU : Int64) (CQ : Int32) (CJ : Nat → Nat → Int64) (CX : Nat → Nat → Int32) (MI : Nat → Int32) (TT : Nat → Int64) (AW : Nat → Int32) (nE : Nat) (LT : Nat → Nat → Int32) (la : Nat → Nat) (nW : Nat) (WI : Nat → Nat → Int32) (WR : Nat → Nat → Nat) (WL : Nat → Nat → Int32) (WX : Nat → Nat → Nat → Int32) (wd : Nat → Nat → Nat) (I : Nat → Int32) (X : Nat → Nat → Int32) (O : Nat → Int64) (H : Heap) (locs : List Loc) (ls : Array Slot), G23 SI SX CU CQ CJ CX MI TT AW nE LT la nW WI WR WL WX wd I X O (y4 + (4 : Int32)) → GS D B (fun q => s.heap.size ≤ q) s.heap ((SI, SX), (CU, CQ, CJ, CX), (MI, TT, AW, nE, LT, la), (nW, WI, WR, WL, WX, wd), (I, X), O) H locs → lv_has ls 7 [(0, .ref (b)), (1, .ref (B 1)), (2, .ref (B 0)), (3, .ref (B 9)), (4, .int (y4 + (4 : Int32)))] → W p l e room_1 s m #[Value.ref b] below meth c H locs (cl + 9) (sl + 1991) (lw_Z below #[Value.ref b] s) (F0 m 23 ls [])) (SI : Nat → Int32) (SX : Nat → Nat → Int32) (CU : Int64) (CQ : Int32) (CJ : Nat → Nat → Int64) (CX : Nat → Nat → Int32) (MI : Nat → Int32) (TT : Nat → Int64) (AW : Nat → Int32) (nE : Nat) (LT : Nat → Nat → Int32) (la : Nat → Nat) (nW : Nat) (WI : Nat → Nat → Int32) (WR : Nat → Nat → Nat) (WL : Nat → Nat → Int32) (WX : Nat → Nat → Nat → Int32) (wd : Nat → Nat → Nat) (I : Nat → Int32) (X : Nat → Nat → Int32) (O : Nat → Int64)  (H : Heap) (locs : List Loc) (ls : Array Slot) (hf : fL_law_265 L xs G23 SI SX CU CQ CJ CX MI TT AW nE LT la nW WI WR WL WX wd I X O y4) (hG : GS D B (fun q => s.heap.size ≤ q) s.heap ((SI, SX), (CU, CQ, CJ, CX), (MI, TT, AW, nE, LT, la), (nW, WI, WR, WL, WX, wd), (I, X), O) H locs) (hl : lv_has ls 7 [(0, .ref (b)), (1, .ref (B 1)), (2, .ref (B 0)), (3, .ref (B 9)), (4, .int y4)]) : W p l e room_1 s m #[Value.ref b] below meth c H locs (cl + 9) (sl + 1991) (lw_Z below #[Value.ref b] s) (F0 m 265 ls []) := by
  obtain ⟨hx, hb, hml, hown, hts, hK, hr, hlk, hA, hN⟩ := id C
  unfold fL_law_265 at hf
  refine lv_goto (tgt := 1123) hx hb dL_law_265 (by decide) ?_
  exact vL_law_1123 C hE hX hbl h9 hs9 hG23 SI SX CU CQ CJ CX MI TT AW nE LT la nW WI WR WL WX wd I X O _ _ _ hf hG (lv_sub hl [0, 1, 2, 3, 4] rfl)
set_option maxHeartbeats 4000000 in
set_option maxRecDepth 100000 in
theorem vL_law_188 {p : Program} {l : Launch} {e : Env} {s : State} {m : MethodId} {below : List Frame} {meth : Method} {c : Code} {D : va_G} {B : Nat → Nat} {b L : Nat} {xs : Nat → Int32} {cl sl : Nat} (C : gX p s m #[Value.ref b] meth c cL_law 7 ret wsL_law RL D B (fun q => s.heap.size ≤ q)) (hE : gE l (fun q => s.heap.size ≤ q) s s.heap) (hX : va_X b L xs s s.heap) (hbl : b < s.heap.size) (h9 : cl + 9 ≤ 601024) (hs9 : sl + 1991 ≤ 7293034) {y4 : Int32} {G23 : (Nat → Int32) → (Nat → Nat → Int32) → (Int64) → (Int32) → (Nat → Nat → Int64) → (Nat → Nat → Int32) → (Nat → Int32) → (Nat → Int64) → (Nat → Int32) → (Nat) → (Nat → Nat → Int32) → (Nat → Nat) → (Nat) → (Nat → Nat → Int32) → (Nat → Nat → Nat) → (Nat → Nat → Int32) → (Nat → Nat → Nat → Int32) → (Nat → Nat → Nat) → (Nat → Int32) → (Nat → Nat → Int32) → (Nat → Int64) → Int32 → Prop} (hG23 : ∀ (SI : Nat → Int32) (SX : Nat → Nat → Int32) (CU : Int64) (CQ : Int32) (CJ : Nat → Nat → Int64) (CX : Nat → Nat → Int32) (MI : Nat → Int32) (TT : Nat → Int64) (AW : Nat → Int32) (nE : Nat) (LT : Nat → Nat → Int32) (la : Nat → Nat) (nW : Nat) (WI : Nat → Nat → Int32) (WR : Nat → Nat → Nat) (WL : Nat → Nat → Int32) (WX : Nat → Nat → Nat → Int32) (wd : Nat → Nat → Nat) (I : Nat → Int32) (X : Nat → Nat → Int32) (O : Nat → Int64) (H : Heap) (locs : List Loc) (ls : Array Slot), G23 SI SX CU CQ CJ CX MI TT AW nE LT la nW WI WR WL WX wd I X O (y4 + (4 : Int32)) → GS D B (fun q => s.heap.size ≤ q) s.heap ((SI, SX), (CU, CQ, CJ, CX), (MI, TT, AW, nE, LT, la), (nW, WI, WR, WL, WX, wd), (I, X), O) H locs → lv_has ls 7 [(0, .ref (b)), (1, .ref (B 1)), (2, .ref (B 0)), (3, .ref (B 9)), (4, .int (y4 + (4 : Int32)))] → W p l e room_1 s m #[Value.ref b] below meth c H locs (cl + 9) (sl + 1991) (lw_Z below #[Value.ref b] s) (F0 m 23 ls [])) (SI : Nat → Int32) (SX : Nat → Nat → Int32) (CU : Int64) (CQ : Int32) (CJ : Nat → Nat → Int64) (CX : Nat → Nat → Int32) (MI : Nat → Int32) (TT : Nat → Int64) (AW : Nat → Int32) (nE : Nat) (LT : Nat → Nat → Int32) (la : Nat → Nat) (nW : Nat) (WI : Nat → Nat → Int32) (WR : Nat → Nat → Nat) (WL : Nat → Nat → Int32) (WX : Nat → Nat → Nat → Int32) (wd : Nat → Nat → Nat) (I : Nat → Int32) (X : Nat → Nat → Int32) (O : Nat → Int64)  (H : Heap) (locs : List Loc) (ls : Array Slot) (hf : fL_law_188 L xs G23 SI SX CU CQ CJ CX MI TT AW nE LT la nW WI WR WL WX wd I X O y4) (hG : GS D B (fun q => s.heap.size ≤ q) s.heap ((SI, SX), (CU, CQ, CJ, CX), (MI, TT, AW, nE, LT, la), (nW, WI, WR, WL, WX, wd), (I, X), O) H locs) (hl : lv_has ls 7 [(0, .ref (b)), (1, .ref (B 1)), (2, .ref (B 0)), (3, .ref (B 9)), (4, .int y4)]) : W p l e room_1 s m #[Value.ref b] below meth c H locs cl sl (lw_Z below #[Value.ref b] s) (F0 m 188 ls []) := by
  obtain ⟨hx, hb, hml, hown, hts, hK, hr, hlk, hA, hN⟩ := id C
  unfold fL_law_188 at hf
  refine lv_aload_n hx hb dL_law_188 rfl (lv_at hl 1 rfl) ?_
  refine lv_aload_n hx hb dL_law_189 rfl (lv_at hl 0 rfl) ?_
  refine lv_iload hx hb dL_law_190 (lv_at hl 4 rfl) ?_
  refine lv_iconst (v := (1 : Int32)) hx hb dL_law_192 (by decide) ?_
  refine lv_iadd hx hb dL_law_193 ?_
  obtain ⟨h_35, hf⟩ := hf
  refine va_sld hx hb hX hbl (Nat.not_le.mpr hbl) hG.2.2 h_35 dL_law_194 ?_
  refine lv_aload_n hx hb dL_law_195 rfl (lv_at hl 0 rfl) ?_
  refine lv_iload hx hb dL_law_196 (lv_at hl 4 rfl) ?_
  refine lv_iconst (v := (2 : Int32)) hx hb dL_law_198 (by decide) ?_
  refine lv_iadd hx hb dL_law_199 ?_
  obtain ⟨h_36, hf⟩ := hf
  refine va_sld hx hb hX hbl (Nat.not_le.mpr hbl) hG.2.2 h_36 dL_law_200 ?_
  refine lv_aload_n hx hb dL_law_201 rfl (lv_at hl 0 rfl) ?_
  refine lv_iload hx hb dL_law_202 (lv_at hl 4 rfl) ?_
  refine lv_iconst (v := (3 : Int32)) hx hb dL_law_204 (by decide) ?_
  refine lv_iadd hx hb dL_law_205 ?_
  obtain ⟨h_37, hf⟩ := hf
  refine va_sld hx hb hX hbl (Nat.not_le.mpr hbl) hG.2.2 h_37 dL_law_206 ?_
  refine lv_aload_n hx hb dL_law_207 rfl (lv_at hl 3 rfl) ?_
  refine g_callLi (As := [.ref (B 1), .int (xs (y4 + (1 : Int32)).toNatClampNeg), .int (xs (y4 + (2 : Int32)).toNatClampNeg), .int (xs (y4 + (3 : Int32)).toNatClampNeg), .ref (B 9)]) C hE hG (kL_post hf) (vx_cwSW 5 hts gL_law_L_post rfl rfl rfl hdsL_post ⟨Nat.le_of_ble_eq_true rfl, Nat.le_of_ble_eq_true rfl⟩) rfl hl.1 rfl (Nat.le_of_ble_eq_true rfl) dL_law_208 ⟨by show _ ≤ 601024; omega, by show _ ≤ 7293034; omega⟩ (fun r_47 g1 H locs hq hG => ?_)
  obtain ⟨SI_38, SX_39, nW_40, WI_41, WR_42, WL_43, WX_44, wd_45, O_46, rfl, hf⟩ := hq
  refine lv_istore (lv' := [(5, .int r_47), (0, .ref (b)), (1, .ref (B 1)), (2, .ref (B 0)), (3, .ref (B 9)), (4, .int y4)]) hx hb dL_law_211 hl (by decide) rfl (fun ls hl => ?_)
  refine lv_aload_n hx hb dL_law_213 rfl (lv_at hl 3 rfl) ?_
  refine lv_aload_n hx hb dL_law_214 rfl (lv_at hl 1 rfl) ?_
  refine lv_iload hx hb dL_law_215 (lv_at hl 5 rfl) ?_
  refine lv_iconst (v := (1 : Int32)) hx hb dL_law_217 (by decide) ?_
  refine lv_iadd hx hb dL_law_218 ?_
  obtain ⟨h_48, hf⟩ := hf
  refine va_sld hx hb hX hbl (Nat.not_le.mpr hbl) hG.2.2 h_48 dL_law_219 ?_
  refine lv_aload_n hx hb dL_law_220 rfl (lv_at hl 1 rfl) ?_
  refine lv_iload hx hb dL_law_221 (lv_at hl 5 rfl) ?_
  refine lv_iconst (v := (2 : Int32)) hx hb dL_law_223 (by decide) ?_
  refine lv_iadd hx hb dL_law_224 ?_
  obtain ⟨h_49, hf⟩ := hf
  refine va_sld hx hb hX hbl (Nat.not_le.mpr hbl) hG.2.2 h_49 dL_law_225 ?_
  refine lv_aload_n hx hb dL_law_226 rfl (lv_at hl 1 rfl) ?_
  refine lv_iload hx hb dL_law_227 (lv_at hl 5 rfl) ?_
  refine lv_iconst (v := (3 : Int32)) hx hb dL_law_229 (by decide) ?_
  refine lv_iadd hx hb dL_law_230 ?_
  obtain ⟨h_50, hf⟩ := hf
  refine va_sld hx hb hX hbl (Nat.not_le.mpr hbl) hG.2.2 h_50 dL_law_231 ?_
  refine g_callVi0 (As := [.int (xs (y4 + (1 : Int32)).toNatClampNeg), .int (xs (y4 + (2 : Int32)).toNatClampNeg), .int (xs (y4 + (3 : Int32)).toNatClampNeg)]) C hG (kX6_post hf) (cwV 3 hts gL_law_X6_post rfl rfl rfl hdvX6_post ⟨Nat.le_of_ble_eq_true rfl, Nat.le_of_ble_eq_true rfl⟩) (va_recv hK hG.1 (ci := 6) (q0 := 0) rfl rfl) rfl hl.1 rfl (Nat.le_of_ble_eq_true rfl) dL_law_232 ⟨by show _ ≤ 601024; omega, by show _ ≤ 7293034; omega⟩ (fun r_53 g1 H locs hq hG => ?_)
  obtain ⟨I_51, X_52, rfl, hf⟩ := hq
  refine lv_istore (lv' := [(6, .int r_53), (5, .int r_47), (0, .ref (b)), (1, .ref (B 1)), (2, .ref (B 0)), (3, .ref (B 9)), (4, .int y4)]) hx hb dL_law_235 hl (by decide) rfl (fun ls hl => ?_)
  refine lv_aload_n hx hb dL_law_237 rfl (lv_at hl 4 rfl) ?_
  refine g_callVi0 (As := []) C hG (kX6_thrown hf) (cwV 0 hts gL_law_X6_thrown rfl rfl rfl hdvX6_thrown ⟨Nat.le_of_ble_eq_true rfl, Nat.le_of_ble_eq_true rfl⟩) (va_recv hK hG.1 (ci := 6) (q0 := 0) rfl rfl) rfl hl.1 rfl (Nat.le_of_ble_eq_true rfl) dL_law_238 ⟨by show _ ≤ 601024; omega, by show _ ≤ 7293034; omega⟩ (fun r_54 g1 H locs hq hG => ?_)
  obtain ⟨rfl, hf⟩ := hq
  refine lv_iload hx hb dL_law_241 (lv_at hl 1 rfl) ?_
  refine lv_icmp_eq (tgt := 248) hx hb dL_law_243 (by decide) (fun c_55 => ?_) (fun c_55 => ?_)
  · replace hf := hf.1 c_55
    refine lv_iload hx hb dL_law_248 (lv_at hl 1 rfl) ?_
    refine lv_if_ne (tgt := 265) hx hb dL_law_250 (by decide) (fun c_56 => ?_) (fun c_56 => ?_)
    · replace hf := hf.1 c_56
      exact vL_law_265 C hE hX hbl h9 hs9 hG23 SI_38 SX_39 CU CQ CJ CX MI TT AW nE LT la nW_40 WI_41 WR_42 WL_43 WX_44 wd_45 I_51 X_52 O_46 _ _ _ hf hG (lv_sub hl [2, 3, 4, 5, 6] rfl)
    · replace hf := hf.2 c_56
      refine lv_aload_n hx hb dL_law_253 rfl (lv_at hl 5 rfl) ?_
      refine lv_iconst (v := (0 : Int32)) hx hb dL_law_254 (by decide) ?_
      obtain ⟨h_57, hf⟩ := hf
      refine ga_O C hG h_57 dL_law_255 ?_
      refine lv_iload hx hb dL_law_256 (lv_at hl 0 rfl) ?_
      refine lv_i2l hx hb dL_law_258 rfl ?_
      refine W.lcmp hx hb dL_law_259 ?_
      refine lv_if_eq (tgt := 265) hx hb dL_law_260 (by decide) (fun c_58 => ?_) (fun c_58 => ?_)
      · replace hf := hf.1 c_58
        exact vL_law_265 C hE hX hbl h9 hs9 hG23 SI_38 SX_39 CU CQ CJ CX MI TT AW nE LT la nW_40 WI_41 WR_42 WL_43 WX_44 wd_45 I_51 X_52 O_46 _ _ _ hf hG (lv_sub hl [2, 3, 4, 5, 6] rfl)
      · replace hf := hf.2 c_58
        refine lv_iconst (v := (0 : Int32)) hx hb dL_law_263 (by decide) ?_
        exact hf.elim
  · replace hf := hf.2 c_55
    refine lv_iconst (v := (0 : Int32)) hx hb dL_law_246 (by decide) ?_
    exact hf.elim
set_option maxHeartbeats 4000000 in
set_option maxRecDepth 100000 in
theorem vL_law_185 {p : Program} {l : Launch} {e : Env} {s : State} {m : MethodId} {below : List Frame} {meth : Method} {c : Code} {D : va_G} {B : Nat → Nat} {b L : Nat} {xs : Nat → Int32} {cl sl : Nat} (C : gX p s m #[Value.ref b] meth c cL_law 7 ret wsL_law RL D B (fun q => s.heap.size ≤ q)) (hE : gE l (fun q => s.heap.size ≤ q) s s.heap) (hX : va_X b L xs s s.heap) (hbl : b < s.heap.size) (h9 : cl + 9 ≤ 601024) (hs9 : sl + 1991 ≤ 7293034) {y4 : Int32} {G23 : (Nat → Int32) → (Nat → Nat → Int32) → (Int64) → (Int32) → (Nat → Nat → Int64) → (Nat → Nat → Int32) → (Nat → Int32) → (Nat → Int64) → (Nat → Int32) → (Nat) → (Nat → Nat → Int32) → (Nat → Nat) → (Nat) → (Nat → Nat → Int32) → (Nat → Nat → Nat) → (Nat → Nat → Int32) → (Nat → Nat → Nat → Int32) → (Nat → Nat → Nat) → (Nat → Int32) → (Nat → Nat → Int32) → (Nat → Int64) → Int32 → Prop} (hG23 : ∀ (SI : Nat → Int32) (SX : Nat → Nat → Int32) (CU : Int64) (CQ : Int32) (CJ : Nat → Nat → Int64) (CX : Nat → Nat → Int32) (MI : Nat → Int32) (TT : Nat → Int64) (AW : Nat → Int32) (nE : Nat) (LT : Nat → Nat → Int32) (la : Nat → Nat) (nW : Nat) (WI : Nat → Nat → Int32) (WR : Nat → Nat → Nat) (WL : Nat → Nat → Int32) (WX : Nat → Nat → Nat → Int32) (wd : Nat → Nat → Nat) (I : Nat → Int32) (X : Nat → Nat → Int32) (O : Nat → Int64) (H : Heap) (locs : List Loc) (ls : Array Slot), G23 SI SX CU CQ CJ CX MI TT AW nE LT la nW WI WR WL WX wd I X O (y4 + (4 : Int32)) → GS D B (fun q => s.heap.size ≤ q) s.heap ((SI, SX), (CU, CQ, CJ, CX), (MI, TT, AW, nE, LT, la), (nW, WI, WR, WL, WX, wd), (I, X), O) H locs → lv_has ls 7 [(0, .ref (b)), (1, .ref (B 1)), (2, .ref (B 0)), (3, .ref (B 9)), (4, .int (y4 + (4 : Int32)))] → W p l e room_1 s m #[Value.ref b] below meth c H locs (cl + 9) (sl + 1991) (lw_Z below #[Value.ref b] s) (F0 m 23 ls [])) (SI : Nat → Int32) (SX : Nat → Nat → Int32) (CU : Int64) (CQ : Int32) (CJ : Nat → Nat → Int64) (CX : Nat → Nat → Int32) (MI : Nat → Int32) (TT : Nat → Int64) (AW : Nat → Int32) (nE : Nat) (LT : Nat → Nat → Int32) (la : Nat → Nat) (nW : Nat) (WI : Nat → Nat → Int32) (WR : Nat → Nat → Nat) (WL : Nat → Nat → Int32) (WX : Nat → Nat → Nat → Int32) (wd : Nat → Nat → Nat) (I : Nat → Int32) (X : Nat → Nat → Int32) (O : Nat → Int64)  (H : Heap) (locs : List Loc) (ls : Array Slot) (hf : fL_law_185 L xs G23 SI SX CU CQ CJ CX MI TT AW nE LT la nW WI WR WL WX wd I X O y4) (hG : GS D B (fun q => s.heap.size ≤ q) s.heap ((SI, SX), (CU, CQ, CJ, CX), (MI, TT, AW, nE, LT, la), (nW, WI, WR, WL, WX, wd), (I, X), O) H locs) (hl : lv_has ls 7 [(0, .ref (b)), (1, .ref (B 1)), (2, .ref (B 0)), (3, .ref (B 9)), (4, .int y4)]) : W p l e room_1 s m #[Value.ref b] below meth c H locs (cl + 5) (sl + 30) (lw_Z below #[Value.ref b] s) (F0 m 185 ls []) := by
  obtain ⟨hx, hb, hml, hown, hts, hK, hr, hlk, hA, hN⟩ := id C
  unfold fL_law_185 at hf
  refine lv_goto (tgt := 1123) hx hb dL_law_185 (by decide) ?_
  refine W.widen (k := cl + 9) (n := sl + 1991) (by omega) (by omega) ?_
  exact vL_law_1123 C hE hX hbl h9 hs9 hG23 SI SX CU CQ CJ CX MI TT AW nE LT la nW WI WR WL WX wd I X O _ _ _ hf hG (lv_sub hl [0, 1, 2, 3, 4] rfl)
set_option maxHeartbeats 4000000 in
set_option maxRecDepth 100000 in
theorem vL_law_108 {p : Program} {l : Launch} {e : Env} {s : State} {m : MethodId} {below : List Frame} {meth : Method} {c : Code} {D : va_G} {B : Nat → Nat} {b L : Nat} {xs : Nat → Int32} {cl sl : Nat} (C : gX p s m #[Value.ref b] meth c cL_law 7 ret wsL_law RL D B (fun q => s.heap.size ≤ q)) (hE : gE l (fun q => s.heap.size ≤ q) s s.heap) (hX : va_X b L xs s s.heap) (hbl : b < s.heap.size) (h9 : cl + 9 ≤ 601024) (hs9 : sl + 1991 ≤ 7293034) {y4 : Int32} {G23 : (Nat → Int32) → (Nat → Nat → Int32) → (Int64) → (Int32) → (Nat → Nat → Int64) → (Nat → Nat → Int32) → (Nat → Int32) → (Nat → Int64) → (Nat → Int32) → (Nat) → (Nat → Nat → Int32) → (Nat → Nat) → (Nat) → (Nat → Nat → Int32) → (Nat → Nat → Nat) → (Nat → Nat → Int32) → (Nat → Nat → Nat → Int32) → (Nat → Nat → Nat) → (Nat → Int32) → (Nat → Nat → Int32) → (Nat → Int64) → Int32 → Prop} (hG23 : ∀ (SI : Nat → Int32) (SX : Nat → Nat → Int32) (CU : Int64) (CQ : Int32) (CJ : Nat → Nat → Int64) (CX : Nat → Nat → Int32) (MI : Nat → Int32) (TT : Nat → Int64) (AW : Nat → Int32) (nE : Nat) (LT : Nat → Nat → Int32) (la : Nat → Nat) (nW : Nat) (WI : Nat → Nat → Int32) (WR : Nat → Nat → Nat) (WL : Nat → Nat → Int32) (WX : Nat → Nat → Nat → Int32) (wd : Nat → Nat → Nat) (I : Nat → Int32) (X : Nat → Nat → Int32) (O : Nat → Int64) (H : Heap) (locs : List Loc) (ls : Array Slot), G23 SI SX CU CQ CJ CX MI TT AW nE LT la nW WI WR WL WX wd I X O (y4 + (4 : Int32)) → GS D B (fun q => s.heap.size ≤ q) s.heap ((SI, SX), (CU, CQ, CJ, CX), (MI, TT, AW, nE, LT, la), (nW, WI, WR, WL, WX, wd), (I, X), O) H locs → lv_has ls 7 [(0, .ref (b)), (1, .ref (B 1)), (2, .ref (B 0)), (3, .ref (B 9)), (4, .int (y4 + (4 : Int32)))] → W p l e room_1 s m #[Value.ref b] below meth c H locs (cl + 9) (sl + 1991) (lw_Z below #[Value.ref b] s) (F0 m 23 ls [])) (SI : Nat → Int32) (SX : Nat → Nat → Int32) (CU : Int64) (CQ : Int32) (CJ : Nat → Nat → Int64) (CX : Nat → Nat → Int32) (MI : Nat → Int32) (TT : Nat → Int64) (AW : Nat → Int32) (nE : Nat) (LT : Nat → Nat → Int32) (la : Nat → Nat) (nW : Nat) (WI : Nat → Nat → Int32) (WR : Nat → Nat → Nat) (WL : Nat → Nat → Int32) (WX : Nat → Nat → Nat → Int32) (wd : Nat → Nat → Nat) (I : Nat → Int32) (X : Nat → Nat → Int32) (O : Nat → Int64)  (H : Heap) (locs : List Loc) (ls : Array Slot) (hf : fL_law_108 L xs G23 SI SX CU CQ CJ CX MI TT AW nE LT la nW WI WR WL WX wd I X O y4) (hG : GS D B (fun q => s.heap.size ≤ q) s.heap ((SI, SX), (CU, CQ, CJ, CX), (MI, TT, AW, nE, LT, la), (nW, WI, WR, WL, WX, wd), (I, X), O) H locs) (hl : lv_has ls 7 [(0, .ref (b)), (1, .ref (B 1)), (2, .ref (B 0)), (3, .ref (B 9)), (4, .int y4)]) : W p l e room_1 s m #[Value.ref b] below meth c H locs cl sl (lw_Z below #[Value.ref b] s) (F0 m 108 ls []) := by
  obtain ⟨hx, hb, hml, hown, hts, hK, hr, hlk, hA, hN⟩ := id C
  unfold fL_law_108 at hf
  refine lv_aload_n hx hb dL_law_108 rfl (lv_at hl 1 rfl) ?_
  refine lv_aload_n hx hb dL_law_109 rfl (lv_at hl 0 rfl) ?_
  refine lv_iload hx hb dL_law_110 (lv_at hl 4 rfl) ?_
  refine lv_iconst (v := (1 : Int32)) hx hb dL_law_112 (by decide) ?_
  refine lv_iadd hx hb dL_law_113 ?_
  obtain ⟨h_17, hf⟩ := hf
  refine va_sld hx hb hX hbl (Nat.not_le.mpr hbl) hG.2.2 h_17 dL_law_114 ?_
  refine lv_aload_n hx hb dL_law_115 rfl (lv_at hl 0 rfl) ?_
  refine lv_iload hx hb dL_law_116 (lv_at hl 4 rfl) ?_
  refine lv_iconst (v := (2 : Int32)) hx hb dL_law_118 (by decide) ?_
  refine lv_iadd hx hb dL_law_119 ?_
  obtain ⟨h_18, hf⟩ := hf
  refine va_sld hx hb hX hbl (Nat.not_le.mpr hbl) hG.2.2 h_18 dL_law_120 ?_
  refine lv_aload_n hx hb dL_law_121 rfl (lv_at hl 0 rfl) ?_
  refine lv_iload hx hb dL_law_122 (lv_at hl 4 rfl) ?_
  refine lv_iconst (v := (3 : Int32)) hx hb dL_law_124 (by decide) ?_
  refine lv_iadd hx hb dL_law_125 ?_
  obtain ⟨h_19, hf⟩ := hf
  refine va_sld hx hb hX hbl (Nat.not_le.mpr hbl) hG.2.2 h_19 dL_law_126 ?_
  refine lv_aload_n hx hb dL_law_127 rfl (lv_at hl 3 rfl) ?_
  refine g_callLi (As := [.ref (B 1), .int (xs (y4 + (1 : Int32)).toNatClampNeg), .int (xs (y4 + (2 : Int32)).toNatClampNeg), .int (xs (y4 + (3 : Int32)).toNatClampNeg), .ref (B 9)]) C hE hG (kL_plane hf) (vx_cwSW 5 hts gL_law_L_plane rfl rfl rfl hdsL_plane ⟨Nat.le_of_ble_eq_true rfl, Nat.le_of_ble_eq_true rfl⟩) rfl hl.1 rfl (Nat.le_of_ble_eq_true rfl) dL_law_128 ⟨by show _ ≤ 601024; omega, by show _ ≤ 7293034; omega⟩ (fun r_23 g1 H locs hq hG => ?_)
  obtain ⟨SI_20, SX_21, O_22, rfl, hf⟩ := hq
  refine lv_istore (lv' := [(5, .int r_23), (0, .ref (b)), (1, .ref (B 1)), (2, .ref (B 0)), (3, .ref (B 9)), (4, .int y4)]) hx hb dL_law_131 hl (by decide) rfl (fun ls hl => ?_)
  refine lv_aload_n hx hb dL_law_133 rfl (lv_at hl 3 rfl) ?_
  refine lv_aload_n hx hb dL_law_134 rfl (lv_at hl 1 rfl) ?_
  refine lv_iload hx hb dL_law_135 (lv_at hl 5 rfl) ?_
  refine lv_iconst (v := (1 : Int32)) hx hb dL_law_137 (by decide) ?_
  refine lv_iadd hx hb dL_law_138 ?_
  obtain ⟨h_24, hf⟩ := hf
  refine va_sld hx hb hX hbl (Nat.not_le.mpr hbl) hG.2.2 h_24 dL_law_139 ?_
  refine lv_aload_n hx hb dL_law_140 rfl (lv_at hl 1 rfl) ?_
  refine lv_iload hx hb dL_law_141 (lv_at hl 5 rfl) ?_
  refine lv_iconst (v := (2 : Int32)) hx hb dL_law_143 (by decide) ?_
  refine lv_iadd hx hb dL_law_144 ?_
  obtain ⟨h_25, hf⟩ := hf
  refine va_sld hx hb hX hbl (Nat.not_le.mpr hbl) hG.2.2 h_25 dL_law_145 ?_
  refine lv_aload_n hx hb dL_law_146 rfl (lv_at hl 1 rfl) ?_
  refine lv_iload hx hb dL_law_147 (lv_at hl 5 rfl) ?_
  refine lv_iconst (v := (3 : Int32)) hx hb dL_law_149 (by decide) ?_
  refine lv_iadd hx hb dL_law_150 ?_
  obtain ⟨h_26, hf⟩ := hf
  refine va_sld hx hb hX hbl (Nat.not_le.mpr hbl) hG.2.2 h_26 dL_law_151 ?_
  refine g_callVi0 (As := [.int (xs (y4 + (1 : Int32)).toNatClampNeg), .int (xs (y4 + (2 : Int32)).toNatClampNeg), .int (xs (y4 + (3 : Int32)).toNatClampNeg)]) C hG (kX6_plane hf) (cwV 3 hts gL_law_X6_plane rfl rfl rfl hdvX6_plane ⟨Nat.le_of_ble_eq_true rfl, Nat.le_of_ble_eq_true rfl⟩) (va_recv hK hG.1 (ci := 6) (q0 := 0) rfl rfl) rfl hl.1 rfl (Nat.le_of_ble_eq_true rfl) dL_law_152 ⟨by show _ ≤ 601024; omega, by show _ ≤ 7293034; omega⟩ (fun r_29 g1 H locs hq hG => ?_)
  obtain ⟨I_27, X_28, rfl, hf⟩ := hq
  refine lv_istore (lv' := [(6, .int r_29), (5, .int r_23), (0, .ref (b)), (1, .ref (B 1)), (2, .ref (B 0)), (3, .ref (B 9)), (4, .int y4)]) hx hb dL_law_155 hl (by decide) rfl (fun ls hl => ?_)
  refine lv_aload_n hx hb dL_law_157 rfl (lv_at hl 4 rfl) ?_
  refine g_callVi0 (As := []) C hG (kX6_thrown hf) (cwV 0 hts gL_law_X6_thrown rfl rfl rfl hdvX6_thrown ⟨Nat.le_of_ble_eq_true rfl, Nat.le_of_ble_eq_true rfl⟩) (va_recv hK hG.1 (ci := 6) (q0 := 0) rfl rfl) rfl hl.1 rfl (Nat.le_of_ble_eq_true rfl) dL_law_158 ⟨by show _ ≤ 601024; omega, by show _ ≤ 7293034; omega⟩ (fun r_30 g1 H locs hq hG => ?_)
  obtain ⟨rfl, hf⟩ := hq
  refine lv_iload hx hb dL_law_161 (lv_at hl 1 rfl) ?_
  refine lv_icmp_eq (tgt := 168) hx hb dL_law_163 (by decide) (fun c_31 => ?_) (fun c_31 => ?_)
  · replace hf := hf.1 c_31
    refine lv_iload hx hb dL_law_168 (lv_at hl 1 rfl) ?_
    refine lv_if_ne (tgt := 185) hx hb dL_law_170 (by decide) (fun c_32 => ?_) (fun c_32 => ?_)
    · replace hf := hf.1 c_32
      exact vL_law_185 C hE hX hbl h9 hs9 hG23 SI_20 SX_21 CU CQ CJ CX MI TT AW nE LT la nW WI WR WL WX wd I_27 X_28 O_22 _ _ _ hf hG (lv_sub hl [2, 3, 4, 5, 6] rfl)
    · replace hf := hf.2 c_32
      refine lv_aload_n hx hb dL_law_173 rfl (lv_at hl 5 rfl) ?_
      refine lv_iconst (v := (0 : Int32)) hx hb dL_law_174 (by decide) ?_
      obtain ⟨h_33, hf⟩ := hf
      refine ga_O C hG h_33 dL_law_175 ?_
      refine lv_iload hx hb dL_law_176 (lv_at hl 0 rfl) ?_
      refine lv_i2l hx hb dL_law_178 rfl ?_
      refine W.lcmp hx hb dL_law_179 ?_
      refine lv_if_eq (tgt := 185) hx hb dL_law_180 (by decide) (fun c_34 => ?_) (fun c_34 => ?_)
      · replace hf := hf.1 c_34
        exact vL_law_185 C hE hX hbl h9 hs9 hG23 SI_20 SX_21 CU CQ CJ CX MI TT AW nE LT la nW WI WR WL WX wd I_27 X_28 O_22 _ _ _ hf hG (lv_sub hl [2, 3, 4, 5, 6] rfl)
      · replace hf := hf.2 c_34
        refine lv_iconst (v := (0 : Int32)) hx hb dL_law_183 (by decide) ?_
        exact hf.elim
  · replace hf := hf.2 c_31
    refine lv_iconst (v := (0 : Int32)) hx hb dL_law_166 (by decide) ?_
    exact hf.elim
set_option maxHeartbeats 4000000 in
set_option maxRecDepth 100000 in
theorem vL_law_23 {p : Program} {l : Launch} {e : Env} {s : State} {m : MethodId} {below : List Frame} {meth : Method} {c : Code} {D : va_G} {B : Nat → Nat} {b L : Nat} {xs : Nat → Int32} {cl sl : Nat} (C : gX p s m #[Value.ref b] meth c cL_law 7 ret wsL_law RL D B (fun q => s.heap.size ≤ q)) (hE : gE l (fun q => s.heap.size ≤ q) s s.heap) (hX : va_X b L xs s s.heap) (hbl : b < s.heap.size) (h9 : cl + 9 ≤ 601024) (hs9 : sl + 1991 ≤ 7293034) {y4 : Int32} {G23 : (Nat → Int32) → (Nat → Nat → Int32) → (Int64) → (Int32) → (Nat → Nat → Int64) → (Nat → Nat → Int32) → (Nat → Int32) → (Nat → Int64) → (Nat → Int32) → (Nat) → (Nat → Nat → Int32) → (Nat → Nat) → (Nat) → (Nat → Nat → Int32) → (Nat → Nat → Nat) → (Nat → Nat → Int32) → (Nat → Nat → Nat → Int32) → (Nat → Nat → Nat) → (Nat → Int32) → (Nat → Nat → Int32) → (Nat → Int64) → Int32 → Prop} (hG23 : ∀ (SI : Nat → Int32) (SX : Nat → Nat → Int32) (CU : Int64) (CQ : Int32) (CJ : Nat → Nat → Int64) (CX : Nat → Nat → Int32) (MI : Nat → Int32) (TT : Nat → Int64) (AW : Nat → Int32) (nE : Nat) (LT : Nat → Nat → Int32) (la : Nat → Nat) (nW : Nat) (WI : Nat → Nat → Int32) (WR : Nat → Nat → Nat) (WL : Nat → Nat → Int32) (WX : Nat → Nat → Nat → Int32) (wd : Nat → Nat → Nat) (I : Nat → Int32) (X : Nat → Nat → Int32) (O : Nat → Int64) (H : Heap) (locs : List Loc) (ls : Array Slot), G23 SI SX CU CQ CJ CX MI TT AW nE LT la nW WI WR WL WX wd I X O (y4 + (4 : Int32)) → GS D B (fun q => s.heap.size ≤ q) s.heap ((SI, SX), (CU, CQ, CJ, CX), (MI, TT, AW, nE, LT, la), (nW, WI, WR, WL, WX, wd), (I, X), O) H locs → lv_has ls 7 [(0, .ref (b)), (1, .ref (B 1)), (2, .ref (B 0)), (3, .ref (B 9)), (4, .int (y4 + (4 : Int32)))] → W p l e room_1 s m #[Value.ref b] below meth c H locs (cl + 9) (sl + 1991) (lw_Z below #[Value.ref b] s) (F0 m 23 ls [])) (SI : Nat → Int32) (SX : Nat → Nat → Int32) (CU : Int64) (CQ : Int32) (CJ : Nat → Nat → Int64) (CX : Nat → Nat → Int32) (MI : Nat → Int32) (TT : Nat → Int64) (AW : Nat → Int32) (nE : Nat) (LT : Nat → Nat → Int32) (la : Nat → Nat) (nW : Nat) (WI : Nat → Nat → Int32) (WR : Nat → Nat → Nat) (WL : Nat → Nat → Int32) (WX : Nat → Nat → Nat → Int32) (wd : Nat → Nat → Nat) (I : Nat → Int32) (X : Nat → Nat → Int32) (O : Nat → Int64)  (H : Heap) (locs : List Loc) (ls : Array Slot) (hf : fL_law_23 L xs G23 SI SX CU CQ CJ CX MI TT AW nE LT la nW WI WR WL WX wd I X O y4) (hG : GS D B (fun q => s.heap.size ≤ q) s.heap ((SI, SX), (CU, CQ, CJ, CX), (MI, TT, AW, nE, LT, la), (nW, WI, WR, WL, WX, wd), (I, X), O) H locs) (hl : lv_has ls 7 [(0, .ref (b)), (1, .ref (B 1)), (2, .ref (B 0)), (3, .ref (B 9)), (4, .int y4)]) : W p l e room_1 s m #[Value.ref b] below meth c H locs cl sl (lw_Z below #[Value.ref b] s) (F0 m 23 ls []) := by
  obtain ⟨hx, hb, hml, hown, hts, hK, hr, hlk, hA, hN⟩ := id C
  unfold fL_law_23 at hf
  refine lv_iload hx hb dL_law_23 (lv_at hl 4 rfl) ?_
  refine lv_aload_n hx hb dL_law_25 rfl (lv_at hl 0 rfl) ?_
  refine va_slen hx hb hX hbl (Nat.not_le.mpr hbl) hG.2.2 dL_law_26 ?_
  refine lv_iconst (v := (4 : Int32)) hx hb dL_law_27 (by decide) ?_
  refine lv_isub hx hb dL_law_28 ?_
  refine lv_icmp_gt (tgt := 1129) hx hb dL_law_29 (by decide) (fun c_1 => ?_) (fun c_1 => ?_)
  · replace hf := hf.1 c_1
    refine lv_iconst (v := (1 : Int32)) hx hb dL_law_1129 (by decide) ?_
    refine va_forget (fun q hq => hG.2.2.2.2 q hq) ?_
    refine W.widen (k := 601024) (n := 7293034) (by omega) (by omega) ?_
    exact lw_ret hx hb hr hlk dL_law_1130
  · replace hf := hf.2 c_1
    refine lv_aload_n hx hb dL_law_32 rfl (lv_at hl 0 rfl) ?_
    refine lv_iload hx hb dL_law_33 (lv_at hl 4 rfl) ?_
    obtain ⟨h_2, hf⟩ := hf
    refine va_sld hx hb hX hbl (Nat.not_le.mpr hbl) hG.2.2 h_2 dL_law_35 ?_
    refine lv_bipush (v := (15 : Int32)) hx hb dL_law_36 (by decide) ?_
    refine lv_iand hx hb dL_law_38 ?_
    by_cases q_3 : (xs y4.toNatClampNeg &&& (15 : Int32)) = (0 : Int32)
    · refine lv_tableIn (tgt := 108) (off := 69) hx hb dL_law_39 (by rw [q_3]; decide) (by rw [q_3]; decide) (by rw [q_3]; decide) (by decide) ?_
      replace hf := hf.1 q_3
      exact vL_law_108 C hE hX hbl h9 hs9 hG23 SI SX CU CQ CJ CX MI TT AW nE LT la nW WI WR WL WX wd I X O _ _ _ hf hG (lv_sub hl [0, 1, 2, 3, 4] rfl)
    replace hf := hf.2 q_3
    by_cases q_4 : (xs y4.toNatClampNeg &&& (15 : Int32)) = (1 : Int32)
    · refine lv_tableIn (tgt := 188) (off := 149) hx hb dL_law_39 (by rw [q_4]; decide) (by rw [q_4]; decide) (by rw [q_4]; decide) (by decide) ?_
      replace hf := hf.1 q_4
      exact vL_law_188 C hE hX hbl h9 hs9 hG23 SI SX CU CQ CJ CX MI TT AW nE LT la nW WI WR WL WX wd I X O _ _ _ hf hG (lv_sub hl [0, 1, 2, 3, 4] rfl)
    replace hf := hf.2 q_4
    by_cases q_5 : (xs y4.toNatClampNeg &&& (15 : Int32)) = (2 : Int32)
    · refine lv_tableIn (tgt := 268) (off := 229) hx hb dL_law_39 (by rw [q_5]; decide) (by rw [q_5]; decide) (by rw [q_5]; decide) (by decide) ?_
      replace hf := hf.1 q_5
      exact vL_law_268 C hE hX hbl h9 hs9 hG23 SI SX CU CQ CJ CX MI TT AW nE LT la nW WI WR WL WX wd I X O _ _ _ hf hG (lv_sub hl [0, 1, 2, 3, 4] rfl)
    replace hf := hf.2 q_5
    by_cases q_6 : (xs y4.toNatClampNeg &&& (15 : Int32)) = (3 : Int32)
    · refine lv_tableIn (tgt := 336) (off := 297) hx hb dL_law_39 (by rw [q_6]; decide) (by rw [q_6]; decide) (by rw [q_6]; decide) (by decide) ?_
      replace hf := hf.1 q_6
      exact vL_law_336 C hE hX hbl h9 hs9 hG23 SI SX CU CQ CJ CX MI TT AW nE LT la nW WI WR WL WX wd I X O _ _ _ hf hG (lv_sub hl [0, 1, 2, 3, 4] rfl)
    replace hf := hf.2 q_6
    by_cases q_7 : (xs y4.toNatClampNeg &&& (15 : Int32)) = (4 : Int32)
    · refine lv_tableIn (tgt := 427) (off := 388) hx hb dL_law_39 (by rw [q_7]; decide) (by rw [q_7]; decide) (by rw [q_7]; decide) (by decide) ?_
      replace hf := hf.1 q_7
      exact vL_law_427 C hE hX hbl h9 hs9 hG23 SI SX CU CQ CJ CX MI TT AW nE LT la nW WI WR WL WX wd I X O _ _ _ hf hG (lv_sub hl [0, 1, 2, 3, 4] rfl)
    replace hf := hf.2 q_7
    by_cases q_8 : (xs y4.toNatClampNeg &&& (15 : Int32)) = (5 : Int32)
    · refine lv_tableIn (tgt := 507) (off := 468) hx hb dL_law_39 (by rw [q_8]; decide) (by rw [q_8]; decide) (by rw [q_8]; decide) (by decide) ?_
      replace hf := hf.1 q_8
      exact vL_law_507 C hE hX hbl h9 hs9 hG23 SI SX CU CQ CJ CX MI TT AW nE LT la nW WI WR WL WX wd I X O _ _ _ hf hG (lv_sub hl [0, 1, 2, 3, 4] rfl)
    replace hf := hf.2 q_8
    by_cases q_9 : (xs y4.toNatClampNeg &&& (15 : Int32)) = (6 : Int32)
    · refine lv_tableIn (tgt := 594) (off := 555) hx hb dL_law_39 (by rw [q_9]; decide) (by rw [q_9]; decide) (by rw [q_9]; decide) (by decide) ?_
      replace hf := hf.1 q_9
      exact vL_law_594 C hE hX hbl h9 hs9 hG23 SI SX CU CQ CJ CX MI TT AW nE LT la nW WI WR WL WX wd I X O _ _ _ hf hG (lv_sub hl [0, 1, 2, 3, 4] rfl)
    replace hf := hf.2 q_9
    by_cases q_10 : (xs y4.toNatClampNeg &&& (15 : Int32)) = (7 : Int32)
    · refine lv_tableIn (tgt := 674) (off := 635) hx hb dL_law_39 (by rw [q_10]; decide) (by rw [q_10]; decide) (by rw [q_10]; decide) (by decide) ?_
      replace hf := hf.1 q_10
      exact vL_law_674 C hE hX hbl h9 hs9 hG23 SI SX CU CQ CJ CX MI TT AW nE LT la nW WI WR WL WX wd I X O _ _ _ hf hG (lv_sub hl [0, 1, 2, 3, 4] rfl)
    replace hf := hf.2 q_10
    by_cases q_11 : (xs y4.toNatClampNeg &&& (15 : Int32)) = (8 : Int32)
    · refine lv_tableIn (tgt := 770) (off := 731) hx hb dL_law_39 (by rw [q_11]; decide) (by rw [q_11]; decide) (by rw [q_11]; decide) (by decide) ?_
      replace hf := hf.1 q_11
      exact vL_law_770 C hE hX hbl h9 hs9 hG23 SI SX CU CQ CJ CX MI TT AW nE LT la nW WI WR WL WX wd I X O _ _ _ hf hG (lv_sub hl [0, 1, 2, 3, 4] rfl)
    replace hf := hf.2 q_11
    by_cases q_12 : (xs y4.toNatClampNeg &&& (15 : Int32)) = (9 : Int32)
    · refine lv_tableIn (tgt := 826) (off := 787) hx hb dL_law_39 (by rw [q_12]; decide) (by rw [q_12]; decide) (by rw [q_12]; decide) (by decide) ?_
      replace hf := hf.1 q_12
      exact vL_law_826 C hE hX hbl h9 hs9 hG23 SI SX CU CQ CJ CX MI TT AW nE LT la nW WI WR WL WX wd I X O _ _ _ hf hG (lv_sub hl [0, 1, 2, 3, 4] rfl)
    replace hf := hf.2 q_12
    by_cases q_13 : (xs y4.toNatClampNeg &&& (15 : Int32)) = (10 : Int32)
    · refine lv_tableIn (tgt := 906) (off := 867) hx hb dL_law_39 (by rw [q_13]; decide) (by rw [q_13]; decide) (by rw [q_13]; decide) (by decide) ?_
      replace hf := hf.1 q_13
      exact vL_law_906 C hE hX hbl h9 hs9 hG23 SI SX CU CQ CJ CX MI TT AW nE LT la nW WI WR WL WX wd I X O _ _ _ hf hG (lv_sub hl [0, 1, 2, 3, 4] rfl)
    replace hf := hf.2 q_13
    by_cases q_14 : (xs y4.toNatClampNeg &&& (15 : Int32)) = (11 : Int32)
    · refine lv_tableIn (tgt := 974) (off := 935) hx hb dL_law_39 (by rw [q_14]; decide) (by rw [q_14]; decide) (by rw [q_14]; decide) (by decide) ?_
      replace hf := hf.1 q_14
      exact vL_law_974 C hE hX hbl h9 hs9 hG23 SI SX CU CQ CJ CX MI TT AW nE LT la nW WI WR WL WX wd I X O _ _ _ hf hG (lv_sub hl [0, 1, 2, 3, 4] rfl)
    replace hf := hf.2 q_14
    by_cases q_15 : (xs y4.toNatClampNeg &&& (15 : Int32)) = (12 : Int32)
    · refine lv_tableIn (tgt := 1030) (off := 991) hx hb dL_law_39 (by rw [q_15]; decide) (by rw [q_15]; decide) (by rw [q_15]; decide) (by decide) ?_
      replace hf := hf.1 q_15
      exact vL_law_1030 C hE hX hbl h9 hs9 hG23 SI SX CU CQ CJ CX MI TT AW nE LT la nW WI WR WL WX wd I X O _ _ _ hf hG (lv_sub hl [0, 1, 2, 3, 4] rfl)
    replace hf := hf.2 q_15
    by_cases q_16 : (xs y4.toNatClampNeg &&& (15 : Int32)) = (13 : Int32)
    · refine lv_tableIn (tgt := 1098) (off := 1059) hx hb dL_law_39 (by rw [q_16]; decide) (by rw [q_16]; decide) (by rw [q_16]; decide) (by decide) ?_
      replace hf := hf.1 q_16
      exact vL_law_1098 C hE hX hbl h9 hs9 hG23 SI SX CU CQ CJ CX MI TT AW nE LT la nW WI WR WL WX wd I X O _ _ _ hf hG (lv_sub hl [0, 1, 2, 3, 4] rfl)
    replace hf := hf.2 q_16
    have nq_3 := lv_neT q_3 (show ((0 : Int32)).toInt = (0 : Int) by decide)
    have nq_4 := lv_neT q_4 (show ((1 : Int32)).toInt = (1 : Int) by decide)
    have nq_5 := lv_neT q_5 (show ((2 : Int32)).toInt = (2 : Int) by decide)
    have nq_6 := lv_neT q_6 (show ((3 : Int32)).toInt = (3 : Int) by decide)
    have nq_7 := lv_neT q_7 (show ((4 : Int32)).toInt = (4 : Int) by decide)
    have nq_8 := lv_neT q_8 (show ((5 : Int32)).toInt = (5 : Int) by decide)
    have nq_9 := lv_neT q_9 (show ((6 : Int32)).toInt = (6 : Int) by decide)
    have nq_10 := lv_neT q_10 (show ((7 : Int32)).toInt = (7 : Int) by decide)
    have nq_11 := lv_neT q_11 (show ((8 : Int32)).toInt = (8 : Int) by decide)
    have nq_12 := lv_neT q_12 (show ((9 : Int32)).toInt = (9 : Int) by decide)
    have nq_13 := lv_neT q_13 (show ((10 : Int32)).toInt = (10 : Int) by decide)
    have nq_14 := lv_neT q_14 (show ((11 : Int32)).toInt = (11 : Int) by decide)
    have nq_15 := lv_neT q_15 (show ((12 : Int32)).toInt = (12 : Int) by decide)
    have nq_16 := lv_neT q_16 (show ((13 : Int32)).toInt = (13 : Int) by decide)
    refine lv_tableOut (tgt := 1123) hx hb dL_law_39 (by omega) (by decide) ?_
    refine W.widen (k := cl + 9) (n := sl + 1991) (by omega) (by omega) ?_
    exact vL_law_1123 C hE hX hbl h9 hs9 hG23 SI SX CU CQ CJ CX MI TT AW nE LT la nW WI WR WL WX wd I X O _ _ _ hf hG (lv_sub hl [0, 1, 2, 3, 4] rfl)

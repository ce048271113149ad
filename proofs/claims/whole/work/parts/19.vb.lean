def rX4_lateness : Room := { frames := 0, cells := 0, slots := 0, locals := 0 }
theorem hdvX4_lateness : yX4_lateness.cls = RX4 ∧ yX4_lateness.cls ≠ "java/lang/invoke/MethodHandle" ∧ yX4_lateness.cls ≠ "java/lang/invoke/VarHandle" ∧ (parseMethodDescriptor yX4_lateness.desc).map (fun d => d.parameters.length) = some 2 := by decide +kernel
theorem inX4_lateness_wsX40 : ∀ w ∈ wsX40, w ∈ wsX4_lateness := (fun _ h => List.mem_cons_of_mem _ (List.mem_append_right _ h))
set_option maxHeartbeats 4000000 in
set_option maxRecDepth 100000 in
theorem vX4_lateness_b0 {p : Program} {l : Launch} {e : Env} {s : State} {m : MethodId} {args : Array Value} {below : List Frame} {meth : Method} {c : Code} {D : va_G} {B : Nat → Nat} {A : Nat → Prop} {S : sS} {K : sK} {L : sL} {M : sM} {O : sO} {post : Int32 → sG → Prop} {nW : Nat} {WI : Nat → Nat → Int32} {WR : Nat → Nat → Nat} {WL : Nat → Nat → Int32} {WX : Nat → Nat → Nat → Int32} {wd : Nat → Nat → Nat} {j0 : Nat} {Q : Int32 → Prop} (C : gX p s m args meth c cX4_lateness 3 (some .int) wsX4_lateness RX4 D B A) (hpost : ∀ (v : Int32) , Q v  → post v (S, K, L, (nW, WI, WR, WL, WX, wd), M, O))   (x1 : Int32) (x2 : Int32) (H : Heap) (locs : List Loc) (ls : Array Slot) (hf : fX4_lateness nW WI WR WL WX wd j0 Q x1 x2) (hG : GS D B A s.heap (S, K, L, (nW, WI, WR, WL, WX, wd), M, O) H locs) (hl : lv_has ls 3 [(0, .ref (wd 0 j0)), (1, .int x1), (2, .int x2)]) : W p l e (headSpec wsX4_lateness rX4_lateness).room s m args below meth c H locs 0 0 (MQ below (va_Qi post (gB D B A) A) args s 0 0 A) (F0 m 0 ls []) := by
  obtain ⟨hx, hb, hml, hown, hts, hK, hr, hlk, hA, hN⟩ := id C
  unfold fX4_lateness at hf
  refine lv_aload_n hx hb dX4_lateness_0 rfl (lv_at hl 0 rfl) ?_
  obtain ⟨h_1, hf⟩ := hf
  refine gg_w_2 C hG h_1 inX4_lateness_wsX40 (hts _ (List.mem_of_getElem? (i := 1) rfl)) dX4_lateness_1 ?_
  refine lv_iload_n hx hb dX4_lateness_4 rfl (lv_at hl 1 rfl) ?_
  refine lv_bipush (v := (32 : Int32)) hx hb dX4_lateness_5 (by decide) ?_
  refine lv_imul hx hb dX4_lateness_7 ?_
  refine lv_iload_n hx hb dX4_lateness_8 rfl (lv_at hl 2 rfl) ?_
  refine lv_bipush (v := (31 : Int32)) hx hb dX4_lateness_9 (by decide) ?_
  refine lv_iand hx hb dX4_lateness_11 ?_
  refine lv_iadd hx hb dX4_lateness_12 ?_
  obtain ⟨h_3, h_2, hf⟩ := hf
  refine ga_wt C hG h_3 h_2 dX4_lateness_13 ?_
  exact g_iret C hG (hpost _ hf) dX4_lateness_14
set_option maxRecDepth 100000 in
theorem kX4_lateness {l : Launch} {D : va_G} {B : Nat → Nat} {S : sS} {K : sK} {L : sL} {M : sM} {O : sO} {nW : Nat} {WI : Nat → Nat → Int32} {WR : Nat → Nat → Nat} {WL : Nat → Nat → Int32} {WX : Nat → Nat → Nat → Int32} {wd : Nat → Nat → Nat} {j0 : Nat} {Q : Int32 → Prop} {x1 : Int32} {x2 : Int32} (hf : fX4_lateness nW WI WR WL WX wd j0 Q x1 x2) : gMi D B l yX4_lateness wsX4_lateness rX4_lateness 0 0 [.ref (wd 0 j0), .int x1, .int x2] (S, K, L, (nW, WI, WR, WL, WX, wd), M, O) (fun r g1 => g1 = (S, K, L, (nW, WI, WR, WL, WX, wd), M, O) ∧ Q r ) := by
  refine gMi_of (cc := cX4_lateness) (maxL := 3) (ret := some .int) (by decide +kernel) rfl (Nat.le_of_ble_eq_true rfl) ?_
  intro p e s m below meth c A hA0 C hG ls hl
  exact vX4_lateness_b0 C (fun v  hq => ⟨rfl, hq⟩) x1 x2 _ _ _ hf hG hl
def rX4_extreme : Room := { frames := 1, cells := 0, slots := 0, locals := 22 }
theorem hdvX4_extreme : yX4_extreme.cls = RX4 ∧ yX4_extreme.cls ≠ "java/lang/invoke/MethodHandle" ∧ yX4_extreme.cls ≠ "java/lang/invoke/VarHandle" ∧ (parseMethodDescriptor yX4_extreme.desc).map (fun d => d.parameters.length) = some 2 := by decide +kernel
set_option maxHeartbeats 4000000 in
set_option maxRecDepth 100000 in
theorem vX4_extreme_b53 {p : Program} {l : Launch} {e : Env} {s : State} {m : MethodId} {args : Array Value} {below : List Frame} {meth : Method} {c : Code} {D : va_G} {B : Nat → Nat} {A : Nat → Prop} {S : sS} {K : sK} {L : sL} {M : sM} {O : sO} {post : Int32 → sG → Prop} {nW : Nat} {WI : Nat → Nat → Int32} {WR : Nat → Nat → Nat} {WL : Nat → Nat → Int32} {WX : Nat → Nat → Nat → Int32} {wd : Nat → Nat → Nat} {j0 : Nat} {Q : Int32 → Prop} (C : gX p s m args meth c cX4_extreme 6 (some .int) wsX4_extreme RX4 D B A) (hpost : ∀ (v : Int32) , Q v  → post v (S, K, L, (nW, WI, WR, WL, WX, wd), M, O)) {G10 : Int32 → Int32 → Int32 → Int32 → Prop} (hG10 : ∀  (y1 : Int32) (y2 : Int32) (y3 : Int32) (y4 : Int32) (H : Heap) (locs : List Loc) (ls : Array Slot), G10 y1 y2 y3 y4 → GS D B A s.heap (S, K, L, (nW, WI, WR, WL, WX, wd), M, O) H locs → lv_has ls 6 [(0, .ref (wd 0 j0)), (1, .int y1), (2, .int y2), (3, .int y3), (4, .int y4)] → W p l e (headSpec wsX4_extreme rX4_extreme).room s m args below meth c H locs 0 0 (MQ below (va_Qi post (gB D B A) A) args s 0 0 A) (F0 m 10 ls []))  (y1 : Int32) (y2 : Int32) (y4 : Int32) (t0 : Int32) (H : Heap) (locs : List Loc) (ls : Array Slot) (hf : fX4_extreme_b53 nW WI WR WL WX wd j0 G10 Q y1 y2 y4 t0) (hG : GS D B A s.heap (S, K, L, (nW, WI, WR, WL, WX, wd), M, O) H locs) (hl : lv_has ls 6 [(0, .ref (wd 0 j0)), (1, .int y1), (2, .int y2), (4, .int y4)]) : W p l e (headSpec wsX4_extreme rX4_extreme).room s m args below meth c H locs 0 0 (MQ below (va_Qi post (gB D B A) A) args s 0 0 A) (F0 m 53 ls [.int t0]) := by
  obtain ⟨hx, hb, hml, hown, hts, hK, hr, hlk, hA, hN⟩ := id C
  unfold fX4_extreme_b53 at hf
  refine lv_istore_n (lv' := [(3, .int t0), (0, .ref (wd 0 j0)), (1, .int y1), (2, .int y2), (4, .int y4)]) hx hb dX4_extreme_53 rfl hl (by decide) rfl (fun ls hl => ?_)
  obtain ⟨x4_8, ex4_8⟩ : ∃ y : Int32, y = y4 + (1 : Int32) := ⟨_, rfl⟩
  replace hf := hf x4_8 ex4_8
  refine lv_iinc (v := x4_8) (lv' := [(4, .int x4_8), (3, .int t0), (0, .ref (wd 0 j0)), (1, .int y1), (2, .int y2)]) hx hb dX4_extreme_54 hl (k := 4) rfl (by rw [ex4_8]; rfl) (by decide) rfl (fun ls hl => ?_)
  refine lv_goto (tgt := 10) hx hb dX4_extreme_57 (by decide) ?_
  exact hG10 y1 y2 t0 x4_8 _ _ _ hf hG (lv_sub hl [2, 3, 4, 1, 0] rfl)
set_option maxHeartbeats 4000000 in
set_option maxRecDepth 100000 in
theorem vX4_extreme_h10 {p : Program} {l : Launch} {e : Env} {s : State} {m : MethodId} {args : Array Value} {below : List Frame} {meth : Method} {c : Code} {D : va_G} {B : Nat → Nat} {A : Nat → Prop} {S : sS} {K : sK} {L : sL} {M : sM} {O : sO} {post : Int32 → sG → Prop} {nW : Nat} {WI : Nat → Nat → Int32} {WR : Nat → Nat → Nat} {WL : Nat → Nat → Int32} {WX : Nat → Nat → Nat → Int32} {wd : Nat → Nat → Nat} {j0 : Nat} {Q : Int32 → Prop} (C : gX p s m args meth c cX4_extreme 6 (some .int) wsX4_extreme RX4 D B A) (hpost : ∀ (v : Int32) , Q v  → post v (S, K, L, (nW, WI, WR, WL, WX, wd), M, O))  : ∀ (n10 : Nat)  (y1 : Int32) (y2 : Int32) (y3 : Int32) (y4 : Int32) (H : Heap) (locs : List Loc) (ls : Array Slot), fX4_extreme_h10 nW WI WR WL WX wd j0 Q n10 y1 y2 y3 y4 → GS D B A s.heap (S, K, L, (nW, WI, WR, WL, WX, wd), M, O) H locs → lv_has ls 6 [(0, .ref (wd 0 j0)), (1, .int y1), (2, .int y2), (3, .int y3), (4, .int y4)] → W p l e (headSpec wsX4_extreme rX4_extreme).room s m args below meth c H locs 0 0 (MQ below (va_Qi post (gB D B A) A) args s 0 0 A) (F0 m 10 ls []) := by
  obtain ⟨hx, hb, hml, hown, hts, hK, hr, hlk, hA, hN⟩ := id C
  intro n10
  induction n10 with
  | zero =>
    intro y1 y2 y3 y4 H locs ls hf
    exact False.elim hf
  | succ n10 hG10 =>
    intro y1 y2 y3 y4 H locs ls hf hG hl
    unfold fX4_extreme_h10 at hf
    refine lv_iload hx hb dX4_extreme_10 (lv_at hl 4 rfl) ?_
    refine lv_bipush (v := (32 : Int32)) hx hb dX4_extreme_12 (by decide) ?_
    refine lv_icmp_ge (tgt := 60) hx hb dX4_extreme_14 (by decide) (fun c_3 => ?_) (fun c_3 => ?_)
    · replace hf := hf.1 c_3
      refine lv_iload_n hx hb dX4_extreme_60 rfl (lv_at hl 3 rfl) ?_
      exact g_iret C hG (hpost _ hf) dX4_extreme_61
    · replace hf := hf.2 c_3
      refine lv_aload_n hx hb dX4_extreme_17 rfl (lv_at hl 0 rfl) ?_
      refine lv_iload_n hx hb dX4_extreme_18 rfl (lv_at hl 1 rfl) ?_
      refine lv_iload hx hb dX4_extreme_19 (lv_at hl 4 rfl) ?_
      obtain ⟨h_5, hf⟩ := hf
      refine g_callVi0 (As := [.int y1, .int y4]) C hG (kX4_lateness hf) (cwV 2 hts gX4_extreme_X4_lateness rfl rfl rfl hdvX4_lateness ⟨Nat.le_of_ble_eq_true rfl, Nat.le_of_ble_eq_true rfl⟩) (g_recv_w hK hG h_5) rfl hl.1 rfl (Nat.le_of_ble_eq_true rfl) dX4_extreme_21 ⟨Nat.zero_le _, Nat.zero_le _⟩ (fun r_4 g1 H locs hq hG => ?_)
      obtain ⟨rfl, hf⟩ := hq
      refine lv_istore (lv' := [(5, .int r_4), (0, .ref (wd 0 j0)), (1, .int y1), (2, .int y2), (3, .int y3), (4, .int y4)]) hx hb dX4_extreme_24 hl (by decide) rfl (fun ls hl => ?_)
      refine lv_iload hx hb dX4_extreme_26 (lv_at hl 0 rfl) ?_
      refine lv_iconst (v := (-1 : Int32)) hx hb dX4_extreme_28 (by decide) ?_
      refine lv_icmp_ne (tgt := 34) hx hb dX4_extreme_29 (by decide) (fun c_6 => ?_) (fun c_6 => ?_)
      · replace hf := hf.1 c_6
        refine lv_iload_n hx hb dX4_extreme_34 rfl (lv_at hl 3 rfl) ?_
        refine lv_if_eq (tgt := 47) hx hb dX4_extreme_35 (by decide) (fun c_7 => ?_) (fun c_7 => ?_)
        · replace hf := hf.1 c_7
          refine lv_iload_n hx hb dX4_extreme_47 rfl (lv_at hl 4 rfl) ?_
          refine lv_iload hx hb dX4_extreme_48 (lv_at hl 0 rfl) ?_
          refine va_mmin hx hb (hml.trans hl.1.symm) hown (hts _ (List.mem_of_getElem? (i := 5) rfl)) (hts _ (List.mem_of_getElem? (i := 6) rfl)) (hts _ (List.mem_of_getElem? (i := 3) rfl)) (hts _ (List.mem_of_getElem? (i := 7) rfl)) (Nat.le_of_ble_eq_true rfl) (Nat.le_of_ble_eq_true rfl) (Nat.zero_le _) (Nat.zero_le _) dX4_extreme_50 ?_
          exact vX4_extreme_b53 C hpost hG10 y1 y2 y4 (if r_4 < y3 then r_4 else y3) _ _ _ hf hG (lv_sub hl [1, 2, 3, 5] rfl)
        · replace hf := hf.2 c_7
          refine lv_iload_n hx hb dX4_extreme_38 rfl (lv_at hl 4 rfl) ?_
          refine lv_iload hx hb dX4_extreme_39 (lv_at hl 0 rfl) ?_
          refine va_mmax hx hb (hml.trans hl.1.symm) hown (hts _ (List.mem_of_getElem? (i := 1) rfl)) (hts _ (List.mem_of_getElem? (i := 2) rfl)) (hts _ (List.mem_of_getElem? (i := 3) rfl)) (hts _ (List.mem_of_getElem? (i := 4) rfl)) (Nat.le_of_ble_eq_true rfl) (Nat.le_of_ble_eq_true rfl) (Nat.zero_le _) (Nat.zero_le _) dX4_extreme_41 ?_
          refine lv_goto (tgt := 53) hx hb dX4_extreme_44 (by decide) ?_
          exact vX4_extreme_b53 C hpost hG10 y1 y2 y4 (if y3 < r_4 then r_4 else y3) _ _ _ hf hG (lv_sub hl [1, 2, 3, 5] rfl)
      · replace hf := hf.2 c_6
        refine lv_iconst (v := (-1 : Int32)) hx hb dX4_extreme_32 (by decide) ?_
        exact g_iret C hG (hpost _ hf) dX4_extreme_33
set_option maxHeartbeats 4000000 in
set_option maxRecDepth 100000 in
theorem vX4_extreme_b0 {p : Program} {l : Launch} {e : Env} {s : State} {m : MethodId} {args : Array Value} {below : List Frame} {meth : Method} {c : Code} {D : va_G} {B : Nat → Nat} {A : Nat → Prop} {S : sS} {K : sK} {L : sL} {M : sM} {O : sO} {post : Int32 → sG → Prop} {nW : Nat} {WI : Nat → Nat → Int32} {WR : Nat → Nat → Nat} {WL : Nat → Nat → Int32} {WX : Nat → Nat → Nat → Int32} {wd : Nat → Nat → Nat} {j0 : Nat} {Q : Int32 → Prop} (C : gX p s m args meth c cX4_extreme 6 (some .int) wsX4_extreme RX4 D B A) (hpost : ∀ (v : Int32) , Q v  → post v (S, K, L, (nW, WI, WR, WL, WX, wd), M, O))   (x1 : Int32) (x2 : Int32) (H : Heap) (locs : List Loc) (ls : Array Slot) (hf : fX4_extreme nW WI WR WL WX wd j0 Q x1 x2) (hG : GS D B A s.heap (S, K, L, (nW, WI, WR, WL, WX, wd), M, O) H locs) (hl : lv_has ls 6 [(0, .ref (wd 0 j0)), (1, .int x1), (2, .int x2)]) : W p l e (headSpec wsX4_extreme rX4_extreme).room s m args below meth c H locs 0 0 (MQ below (va_Qi post (gB D B A) A) args s 0 0 A) (F0 m 0 ls []) := by
  obtain ⟨hx, hb, hml, hown, hts, hK, hr, hlk, hA, hN⟩ := id C
  unfold fX4_extreme at hf
  refine lv_aload_n hx hb dX4_extreme_0 rfl (lv_at hl 0 rfl) ?_
  refine lv_iload_n hx hb dX4_extreme_1 rfl (lv_at hl 1 rfl) ?_
  refine lv_iconst (v := (0 : Int32)) hx hb dX4_extreme_2 (by decide) ?_
  obtain ⟨h_2, hf⟩ := hf
  refine g_callVi0 (As := [.int x1, .int (0 : Int32)]) C hG (kX4_lateness hf) (cwV 2 hts gX4_extreme_X4_lateness rfl rfl rfl hdvX4_lateness ⟨Nat.le_of_ble_eq_true rfl, Nat.le_of_ble_eq_true rfl⟩) (g_recv_w hK hG h_2) rfl hl.1 rfl (Nat.le_of_ble_eq_true rfl) dX4_extreme_3 ⟨Nat.zero_le _, Nat.zero_le _⟩ (fun r_1 g1 H locs hq hG => ?_)
  obtain ⟨rfl, hf⟩ := hq
  refine lv_istore_n (lv' := [(3, .int r_1), (0, .ref (wd 0 j0)), (1, .int x1), (2, .int x2)]) hx hb dX4_extreme_6 rfl hl (by decide) rfl (fun ls hl => ?_)
  refine lv_iconst (v := (0 : Int32)) hx hb dX4_extreme_7 (by decide) ?_
  refine lv_istore (lv' := [(4, .int (0 : Int32)), (3, .int r_1), (0, .ref (wd 0 j0)), (1, .int x1), (2, .int x2)]) hx hb dX4_extreme_8 hl (by decide) rfl (fun ls hl => ?_)
  obtain ⟨n10, hf⟩ := hf
  exact vX4_extreme_h10 C hpost  n10 x1 x2 r_1 (0 : Int32) _ _ _ hf hG (lv_sub hl [2, 3, 4, 1, 0] rfl)
set_option maxRecDepth 100000 in
theorem kX4_extreme {l : Launch} {D : va_G} {B : Nat → Nat} {S : sS} {K : sK} {L : sL} {M : sM} {O : sO} {nW : Nat} {WI : Nat → Nat → Int32} {WR : Nat → Nat → Nat} {WL : Nat → Nat → Int32} {WX : Nat → Nat → Nat → Int32} {wd : Nat → Nat → Nat} {j0 : Nat} {Q : Int32 → Prop} {x1 : Int32} {x2 : Int32} (hf : fX4_extreme nW WI WR WL WX wd j0 Q x1 x2) : gMi D B l yX4_extreme wsX4_extreme rX4_extreme 0 0 [.ref (wd 0 j0), .int x1, .int x2] (S, K, L, (nW, WI, WR, WL, WX, wd), M, O) (fun r g1 => g1 = (S, K, L, (nW, WI, WR, WL, WX, wd), M, O) ∧ Q r ) := by
  refine gMi_of (cc := cX4_extreme) (maxL := 6) (ret := some .int) (by decide +kernel) rfl (Nat.le_of_ble_eq_true rfl) ?_
  intro p e s m below meth c A hA0 C hG ls hl
  exact vX4_extreme_b0 C (fun v  hq => ⟨rfl, hq⟩) x1 x2 _ _ _ hf hG hl
def rX4_note : Room := { frames := 0, cells := 0, slots := 0, locals := 0 }
theorem hdvX4_note : yX4_note.cls = RX4 ∧ yX4_note.cls ≠ "java/lang/invoke/MethodHandle" ∧ yX4_note.cls ≠ "java/lang/invoke/VarHandle" ∧ (parseMethodDescriptor yX4_note.desc).map (fun d => d.parameters.length) = some 3 := by decide +kernel
theorem inX4_note_wsX40 : ∀ w ∈ wsX40, w ∈ wsX4_note := (fun _ h => List.mem_cons_of_mem _ (List.mem_append_right _ h))
set_option maxHeartbeats 4000000 in
set_option maxRecDepth 100000 in
theorem vX4_note_b32 {p : Program} {l : Launch} {e : Env} {s : State} {m : MethodId} {args : Array Value} {below : List Frame} {meth : Method} {c : Code} {D : va_G} {B : Nat → Nat} {A : Nat → Prop} {S : sS} {K : sK} {L : sL} {M : sM} {O : sO} {post : sG → Prop} {nW : Nat} {wd : Nat → Nat → Nat} {j0 : Nat} {Q : (Nat → Nat → Int32) → (Nat → Nat → Nat) → (Nat → Nat → Int32) → (Nat → Nat → Nat → Int32) → Prop} (C : gX p s m args meth c cX4_note 5 (none) wsX4_note RX4 D B A) (hpost : ∀ (WI : Nat → Nat → Int32) (WR : Nat → Nat → Nat) (WL : Nat → Nat → Int32) (WX : Nat → Nat → Nat → Int32), Q WI WR WL WX → post (S, K, L, (nW, WI, WR, WL, WX, wd), M, O)) {G3 : (Nat → Nat → Int32) → (Nat → Nat → Nat) → (Nat → Nat → Int32) → (Nat → Nat → Nat → Int32) → Int32 → Int32 → Int32 → Int32 → Prop} (hG3 : ∀ (WI : Nat → Nat → Int32) (WR : Nat → Nat → Nat) (WL : Nat → Nat → Int32) (WX : Nat → Nat → Nat → Int32) (y1 : Int32) (y2 : Int32) (y3 : Int32) (y4 : Int32) (H : Heap) (locs : List Loc) (ls : Array Slot), G3 WI WR WL WX y1 y2 y3 y4 → GS D B A s.heap (S, K, L, (nW, WI, WR, WL, WX, wd), M, O) H locs → lv_has ls 5 [(0, .ref (wd 0 j0)), (1, .int y1), (2, .int y2), (3, .int y3), (4, .int y4)] → W p l e (headSpec wsX4_note rX4_note).room s m args below meth c H locs 0 0 (MQ below (va_Qv post (gB D B A) A) args s 0 0 A) (F0 m 3 ls [])) (WI : Nat → Nat → Int32) (WR : Nat → Nat → Nat) (WL : Nat → Nat → Int32) (WX : Nat → Nat → Nat → Int32) (y1 : Int32) (y2 : Int32) (y3 : Int32) (y4 : Int32) (H : Heap) (locs : List Loc) (ls : Array Slot) (hf : fX4_note_b32 nW wd j0 G3 Q WI WR WL WX y1 y2 y3 y4) (hG : GS D B A s.heap (S, K, L, (nW, WI, WR, WL, WX, wd), M, O) H locs) (hl : lv_has ls 5 [(0, .ref (wd 0 j0)), (1, .int y1), (2, .int y2), (3, .int y3), (4, .int y4)]) : W p l e (headSpec wsX4_note rX4_note).room s m args below meth c H locs 0 0 (MQ below (va_Qv post (gB D B A) A) args s 0 0 A) (F0 m 32 ls []) := by
  obtain ⟨hx, hb, hml, hown, hts, hK, hr, hlk, hA, hN⟩ := id C
  unfold fX4_note_b32 at hf
  obtain ⟨x4_7, ex4_7⟩ : ∃ y : Int32, y = y4 + (1 : Int32) := ⟨_, rfl⟩
  replace hf := hf x4_7 ex4_7
  refine lv_iinc (v := x4_7) (lv' := [(4, .int x4_7), (0, .ref (wd 0 j0)), (1, .int y1), (2, .int y2), (3, .int y3)]) hx hb dX4_note_32 hl (k := 4) rfl (by rw [ex4_7]; rfl) (by decide) rfl (fun ls hl => ?_)
  refine lv_goto (tgt := 3) hx hb dX4_note_35 (by decide) ?_
  exact hG3 WI WR WL WX y1 y2 y3 x4_7 _ _ _ hf hG (lv_sub hl [1, 2, 3, 4, 0] rfl)
set_option maxHeartbeats 4000000 in
set_option maxRecDepth 100000 in
theorem vX4_note_h3 {p : Program} {l : Launch} {e : Env} {s : State} {m : MethodId} {args : Array Value} {below : List Frame} {meth : Method} {c : Code} {D : va_G} {B : Nat → Nat} {A : Nat → Prop} {S : sS} {K : sK} {L : sL} {M : sM} {O : sO} {post : sG → Prop} {nW : Nat} {wd : Nat → Nat → Nat} {j0 : Nat} {Q : (Nat → Nat → Int32) → (Nat → Nat → Nat) → (Nat → Nat → Int32) → (Nat → Nat → Nat → Int32) → Prop} (C : gX p s m args meth c cX4_note 5 (none) wsX4_note RX4 D B A) (hpost : ∀ (WI : Nat → Nat → Int32) (WR : Nat → Nat → Nat) (WL : Nat → Nat → Int32) (WX : Nat → Nat → Nat → Int32), Q WI WR WL WX → post (S, K, L, (nW, WI, WR, WL, WX, wd), M, O))  : ∀ (n3 : Nat) (WI : Nat → Nat → Int32) (WR : Nat → Nat → Nat) (WL : Nat → Nat → Int32) (WX : Nat → Nat → Nat → Int32) (y1 : Int32) (y2 : Int32) (y3 : Int32) (y4 : Int32) (H : Heap) (locs : List Loc) (ls : Array Slot), fX4_note_h3 nW wd j0 Q n3 WI WR WL WX y1 y2 y3 y4 → GS D B A s.heap (S, K, L, (nW, WI, WR, WL, WX, wd), M, O) H locs → lv_has ls 5 [(0, .ref (wd 0 j0)), (1, .int y1), (2, .int y2), (3, .int y3), (4, .int y4)] → W p l e (headSpec wsX4_note rX4_note).room s m args below meth c H locs 0 0 (MQ below (va_Qv post (gB D B A) A) args s 0 0 A) (F0 m 3 ls []) := by
  obtain ⟨hx, hb, hml, hown, hts, hK, hr, hlk, hA, hN⟩ := id C
  intro n3
  induction n3 with
  | zero =>
    intro WI WR WL WX y1 y2 y3 y4 H locs ls hf
    exact False.elim hf
  | succ n3 hG3 =>
    intro WI WR WL WX y1 y2 y3 y4 H locs ls hf hG hl
    unfold fX4_note_h3 at hf
    refine lv_iload hx hb dX4_note_3 (lv_at hl 4 rfl) ?_
    refine lv_bipush (v := (32 : Int32)) hx hb dX4_note_5 (by decide) ?_
    refine lv_icmp_ge (tgt := 38) hx hb dX4_note_7 (by decide) (fun c_1 => ?_) (fun c_1 => ?_)
    · replace hf := hf.1 c_1
      exact g_vret C hG (hpost _ _ _ _ hf) dX4_note_38
    · replace hf := hf.2 c_1
      refine lv_iload_n hx hb dX4_note_10 rfl (lv_at hl 2 rfl) ?_
      refine lv_iload hx hb dX4_note_11 (lv_at hl 4 rfl) ?_
      refine lv_iushr hx hb dX4_note_13 rfl ?_
      refine lv_iconst (v := (1 : Int32)) hx hb dX4_note_14 (by decide) ?_
      refine lv_iand hx hb dX4_note_15 ?_
      refine lv_if_eq (tgt := 32) hx hb dX4_note_16 (by decide) (fun c_2 => ?_) (fun c_2 => ?_)
      · replace hf := hf.1 c_2
        exact vX4_note_b32 C hpost hG3 WI WR WL WX y1 y2 y3 y4 _ _ _ hf hG (lv_sub hl [0, 1, 2, 3, 4] rfl)
      · replace hf := hf.2 c_2
        refine lv_aload_n hx hb dX4_note_19 rfl (lv_at hl 0 rfl) ?_
        obtain ⟨h_3, hf⟩ := hf
        refine gg_w_2 C hG h_3 inX4_note_wsX40 (hts _ (List.mem_of_getElem? (i := 1) rfl)) dX4_note_20 ?_
        refine lv_iload_n hx hb dX4_note_23 rfl (lv_at hl 1 rfl) ?_
        refine lv_bipush (v := (32 : Int32)) hx hb dX4_note_24 (by decide) ?_
        refine lv_imul hx hb dX4_note_26 ?_
        refine lv_iload hx hb dX4_note_27 (lv_at hl 4 rfl) ?_
        refine lv_iadd hx hb dX4_note_29 ?_
        refine lv_iload_n hx hb dX4_note_30 rfl (lv_at hl 3 rfl) ?_
        obtain ⟨h_5, h_4, hf⟩ := hf
        refine gs_wt C hG h_5 h_4 dX4_note_31 (fun WL_6 H locs eWL_6 hG => ?_)
        replace hf := hf WL_6 eWL_6
        exact vX4_note_b32 C hpost hG3 WI WR WL_6 WX y1 y2 y3 y4 _ _ _ hf hG (lv_sub hl [0, 1, 2, 3, 4] rfl)
set_option maxHeartbeats 4000000 in
set_option maxRecDepth 100000 in
theorem vX4_note_b0 {p : Program} {l : Launch} {e : Env} {s : State} {m : MethodId} {args : Array Value} {below : List Frame} {meth : Method} {c : Code} {D : va_G} {B : Nat → Nat} {A : Nat → Prop} {S : sS} {K : sK} {L : sL} {M : sM} {O : sO} {post : sG → Prop} {nW : Nat} {wd : Nat → Nat → Nat} {j0 : Nat} {Q : (Nat → Nat → Int32) → (Nat → Nat → Nat) → (Nat → Nat → Int32) → (Nat → Nat → Nat → Int32) → Prop} (C : gX p s m args meth c cX4_note 5 (none) wsX4_note RX4 D B A) (hpost : ∀ (WI : Nat → Nat → Int32) (WR : Nat → Nat → Nat) (WL : Nat → Nat → Int32) (WX : Nat → Nat → Nat → Int32), Q WI WR WL WX → post (S, K, L, (nW, WI, WR, WL, WX, wd), M, O))  (WI : Nat → Nat → Int32) (WR : Nat → Nat → Nat) (WL : Nat → Nat → Int32) (WX : Nat → Nat → Nat → Int32) (x1 : Int32) (x2 : Int32) (x3 : Int32) (H : Heap) (locs : List Loc) (ls : Array Slot) (hf : fX4_note nW wd j0 Q WI WR WL WX x1 x2 x3) (hG : GS D B A s.heap (S, K, L, (nW, WI, WR, WL, WX, wd), M, O) H locs) (hl : lv_has ls 5 [(0, .ref (wd 0 j0)), (1, .int x1), (2, .int x2), (3, .int x3)]) : W p l e (headSpec wsX4_note rX4_note).room s m args below meth c H locs 0 0 (MQ below (va_Qv post (gB D B A) A) args s 0 0 A) (F0 m 0 ls []) := by
  obtain ⟨hx, hb, hml, hown, hts, hK, hr, hlk, hA, hN⟩ := id C
  unfold fX4_note at hf
  refine lv_iconst (v := (0 : Int32)) hx hb dX4_note_0 (by decide) ?_
  refine lv_istore (lv' := [(4, .int (0 : Int32)), (0, .ref (wd 0 j0)), (1, .int x1), (2, .int x2), (3, .int x3)]) hx hb dX4_note_1 hl (by decide) rfl (fun ls hl => ?_)
  obtain ⟨n3, hf⟩ := hf
  exact vX4_note_h3 C hpost  n3 WI WR WL WX x1 x2 x3 (0 : Int32) _ _ _ hf hG (lv_sub hl [1, 2, 3, 4, 0] rfl)
set_option maxRecDepth 100000 in
theorem kX4_note {l : Launch} {D : va_G} {B : Nat → Nat} {S : sS} {K : sK} {L : sL} {M : sM} {O : sO} {nW : Nat} {wd : Nat → Nat → Nat} {j0 : Nat} {Q : (Nat → Nat → Int32) → (Nat → Nat → Nat) → (Nat → Nat → Int32) → (Nat → Nat → Nat → Int32) → Prop} {WI : Nat → Nat → Int32} {WR : Nat → Nat → Nat} {WL : Nat → Nat → Int32} {WX : Nat → Nat → Nat → Int32} {x1 : Int32} {x2 : Int32} {x3 : Int32} (hf : fX4_note nW wd j0 Q WI WR WL WX x1 x2 x3) : gMv D B l yX4_note wsX4_note rX4_note 0 0 [.ref (wd 0 j0), .int x1, .int x2, .int x3] (S, K, L, (nW, WI, WR, WL, WX, wd), M, O) (fun g1 => ∃ (WI1 : Nat → Nat → Int32) (WR1 : Nat → Nat → Nat) (WL1 : Nat → Nat → Int32) (WX1 : Nat → Nat → Nat → Int32), g1 = (S, K, L, (nW, WI1, WR1, WL1, WX1, wd), M, O) ∧ Q WI1 WR1 WL1 WX1) := by
  refine gMv_of (cc := cX4_note) (maxL := 5) (ret := none) (by decide +kernel) rfl (Nat.le_of_ble_eq_true rfl) ?_
  intro p e s m below meth c A hA0 C hG ls hl
  exact vX4_note_b0 C (fun WI WR WL WX hq => ⟨WI, WR, WL, WX, rfl, hq⟩) WI WR WL WX x1 x2 x3 _ _ _ hf hG hl
def rX4_overLinks : Room := { frames := 2, cells := 0, slots := 0, locals := 43 }
theorem hdvX4_overLinks : yX4_overLinks.cls = RX4 ∧ yX4_overLinks.cls ≠ "java/lang/invoke/MethodHandle" ∧ yX4_overLinks.cls ≠ "java/lang/invoke/VarHandle" ∧ (parseMethodDescriptor yX4_overLinks.desc).map (fun d => d.parameters.length) = some 1 := by decide +kernel
theorem inX4_overLinks_wsX40 : ∀ w ∈ wsX40, w ∈ wsX4_overLinks := (fun _ h => List.mem_cons_of_mem _ (List.mem_append_left _ (List.mem_append_right _ h)))
set_option maxHeartbeats 4000000 in
set_option maxRecDepth 100000 in
theorem vX4_overLinks_b124 {p : Program} {l : Launch} {e : Env} {s : State} {m : MethodId} {args : Array Value} {below : List Frame} {meth : Method} {c : Code} {D : va_G} {B : Nat → Nat} {A : Nat → Prop} {K : sK} {L : sL} {M : sM} {O : sO} {post : Int32 → sG → Prop} {SI : Nat → Int32} {SX : Nat → Nat → Int32} {nW : Nat} {WI : Nat → Nat → Int32} {WR : Nat → Nat → Nat} {WL : Nat → Nat → Int32} {WX : Nat → Nat → Nat → Int32} {wd : Nat → Nat → Nat} {j0 : Nat} {Q : Int32 → Prop} (C : gX p s m args meth c cX4_overLinks 6 (some .int) wsX4_overLinks RX4 D B A) (hpost : ∀ (v : Int32) , Q v  → post v ((SI, SX), K, L, (nW, WI, WR, WL, WX, wd), M, O)) {G43 : Int32 → Int32 → Int32 → Int32 → Prop} (hG43 : ∀  (y1 : Int32) (y2 : Int32) (y3 : Int32) (y4 : Int32) (H : Heap) (locs : List Loc) (ls : Array Slot), G43 y1 y2 y3 y4 → GS D B A s.heap ((SI, SX), K, L, (nW, WI, WR, WL, WX, wd), M, O) H locs → lv_has ls 6 [(0, .ref (wd 0 j0)), (1, .int y1), (2, .int y2), (3, .int y3), (4, .int y4)] → W p l e (headSpec wsX4_overLinks rX4_overLinks).room s m args below meth c H locs 0 0 (MQ below (va_Qi post (gB D B A) A) args s 0 0 A) (F0 m 43 ls []))  (y1 : Int32) (y2 : Int32) (y3 : Int32) (y4 : Int32) (H : Heap) (locs : List Loc) (ls : Array Slot) (hf : fX4_overLinks_b124 SI SX nW WI WR WL WX wd j0 G43 Q y1 y2 y3 y4) (hG : GS D B A s.heap ((SI, SX), K, L, (nW, WI, WR, WL, WX, wd), M, O) H locs) (hl : lv_has ls 6 [(0, .ref (wd 0 j0)), (1, .int y1), (2, .int y2), (3, .int y3), (4, .int y4)]) : W p l e (headSpec wsX4_overLinks rX4_overLinks).room s m args below meth c H locs 0 0 (MQ below (va_Qi post (gB D B A) A) args s 0 0 A) (F0 m 124 ls []) := by
  obtain ⟨hx, hb, hml, hown, hts, hK, hr, hlk, hA, hN⟩ := id C
  unfold fX4_overLinks_b124 at hf
  obtain ⟨x4_33, ex4_33⟩ : ∃ y : Int32, y = y4 + (1 : Int32) := ⟨_, rfl⟩
  replace hf := hf x4_33 ex4_33
  refine lv_iinc (v := x4_33) (lv' := [(4, .int x4_33), (0, .ref (wd 0 j0)), (1, .int y1), (2, .int y2), (3, .int y3)]) hx hb dX4_overLinks_124 hl (k := 4) rfl (by rw [ex4_33]; rfl) (by decide) rfl (fun ls hl => ?_)
  refine lv_goto (tgt := 43) hx hb dX4_overLinks_127 (by decide) ?_
  exact hG43 y1 y2 y3 x4_33 _ _ _ hf hG (lv_sub hl [1, 2, 3, 4, 0] rfl)
set_option maxHeartbeats 4000000 in
set_option maxRecDepth 100000 in
theorem vX4_overLinks_b121 {p : Program} {l : Launch} {e : Env} {s : State} {m : MethodId} {args : Array Value} {below : List Frame} {meth : Method} {c : Code} {D : va_G} {B : Nat → Nat} {A : Nat → Prop} {K : sK} {L : sL} {M : sM} {O : sO} {post : Int32 → sG → Prop} {SI : Nat → Int32} {SX : Nat → Nat → Int32} {nW : Nat} {WI : Nat → Nat → Int32} {WR : Nat → Nat → Nat} {WL : Nat → Nat → Int32} {WX : Nat → Nat → Nat → Int32} {wd : Nat → Nat → Nat} {j0 : Nat} {Q : Int32 → Prop} (C : gX p s m args meth c cX4_overLinks 6 (some .int) wsX4_overLinks RX4 D B A) (hpost : ∀ (v : Int32) , Q v  → post v ((SI, SX), K, L, (nW, WI, WR, WL, WX, wd), M, O)) {G43 : Int32 → Int32 → Int32 → Int32 → Prop} (hG43 : ∀  (y1 : Int32) (y2 : Int32) (y3 : Int32) (y4 : Int32) (H : Heap) (locs : List Loc) (ls : Array Slot), G43 y1 y2 y3 y4 → GS D B A s.heap ((SI, SX), K, L, (nW, WI, WR, WL, WX, wd), M, O) H locs → lv_has ls 6 [(0, .ref (wd 0 j0)), (1, .int y1), (2, .int y2), (3, .int y3), (4, .int y4)] → W p l e (headSpec wsX4_overLinks rX4_overLinks).room s m args below meth c H locs 0 0 (MQ below (va_Qi post (gB D B A) A) args s 0 0 A) (F0 m 43 ls []))  (y1 : Int32) (y3 : Int32) (y4 : Int32) (t0 : Int32) (t1 : Int32) (t2 : Int32) (H : Heap) (locs : List Loc) (ls : Array Slot) (hf : fX4_overLinks_b121 SI SX nW WI WR WL WX wd j0 G43 Q y1 y3 y4 t0 t1 t2) (hG : GS D B A s.heap ((SI, SX), K, L, (nW, WI, WR, WL, WX, wd), M, O) H locs) (hl : lv_has ls 6 [(0, .ref (wd 0 j0)), (1, .int y1), (3, .int y3), (4, .int y4)]) : W p l e (headSpec wsX4_overLinks rX4_overLinks).room s m args below meth c H locs 0 0 (MQ below (va_Qi post (gB D B A) A) args s 0 0 A) (F0 m 121 ls [.int t0, .int t1, .int t2]) := by
  obtain ⟨hx, hb, hml, hown, hts, hK, hr, hlk, hA, hN⟩ := id C
  unfold fX4_overLinks_b121 at hf
  refine lv_iand hx hb dX4_overLinks_121 ?_
  refine lv_ior hx hb dX4_overLinks_122 ?_
  refine lv_topi (fun x2_32 ex2_32 => ?_)
  replace hf := hf x2_32 ex2_32
  refine lv_istore_n (lv' := [(2, .int x2_32), (0, .ref (wd 0 j0)), (1, .int y1), (3, .int y3), (4, .int y4)]) hx hb dX4_overLinks_123 rfl hl (by decide) rfl (fun ls hl => ?_)
  exact vX4_overLinks_b124 C hpost hG43 y1 x2_32 y3 y4 _ _ _ hf hG (lv_sub hl [1, 2, 0, 3, 4] rfl)
set_option maxHeartbeats 4000000 in
set_option maxRecDepth 100000 in
theorem vX4_overLinks_h43 {p : Program} {l : Launch} {e : Env} {s : State} {m : MethodId} {args : Array Value} {below : List Frame} {meth : Method} {c : Code} {D : va_G} {B : Nat → Nat} {A : Nat → Prop} {K : sK} {L : sL} {M : sM} {O : sO} {post : Int32 → sG → Prop} {SI : Nat → Int32} {SX : Nat → Nat → Int32} {nW : Nat} {WI : Nat → Nat → Int32} {WR : Nat → Nat → Nat} {WL : Nat → Nat → Int32} {WX : Nat → Nat → Nat → Int32} {wd : Nat → Nat → Nat} {j0 : Nat} {Q : Int32 → Prop} (C : gX p s m args meth c cX4_overLinks 6 (some .int) wsX4_overLinks RX4 D B A) (hpost : ∀ (v : Int32) , Q v  → post v ((SI, SX), K, L, (nW, WI, WR, WL, WX, wd), M, O))  : ∀ (n43 : Nat)  (y1 : Int32) (y2 : Int32) (y3 : Int32) (y4 : Int32) (H : Heap) (locs : List Loc) (ls : Array Slot), fX4_overLinks_h43 SI SX nW WI WR WL WX wd j0 Q n43 y1 y2 y3 y4 → GS D B A s.heap ((SI, SX), K, L, (nW, WI, WR, WL, WX, wd), M, O) H locs → lv_has ls 6 [(0, .ref (wd 0 j0)), (1, .int y1), (2, .int y2), (3, .int y3), (4, .int y4)] → W p l e (headSpec wsX4_overLinks rX4_overLinks).room s m args below meth c H locs 0 0 (MQ below (va_Qi post (gB D B A) A) args s 0 0 A) (F0 m 43 ls []) := by
  obtain ⟨hx, hb, hml, hown, hts, hK, hr, hlk, hA, hN⟩ := id C
  intro n43
  induction n43 with
  | zero =>
    intro y1 y2 y3 y4 H locs ls hf
    exact False.elim hf
  | succ n43 hG43 =>
    intro y1 y2 y3 y4 H locs ls hf hG hl
    unfold fX4_overLinks_h43 at hf
    refine lv_iload hx hb dX4_overLinks_43 (lv_at hl 4 rfl) ?_
    refine lv_iload_n hx hb dX4_overLinks_45 rfl (lv_at hl 3 rfl) ?_
    refine lv_icmp_ge (tgt := 130) hx hb dX4_overLinks_46 (by decide) (fun c_10 => ?_) (fun c_10 => ?_)
    · replace hf := hf.1 c_10
      refine lv_iload_n hx hb dX4_overLinks_130 rfl (lv_at hl 2 rfl) ?_
      exact g_iret C hG (hpost _ hf) dX4_overLinks_131
    · replace hf := hf.2 c_10
      refine lv_aload_n hx hb dX4_overLinks_49 rfl (lv_at hl 0 rfl) ?_
      obtain ⟨h_11, hf⟩ := hf
      refine gg_w_4 C hG h_11 inX4_overLinks_wsX40 (hts _ (List.mem_of_getElem? (i := 3) rfl)) dX4_overLinks_50 ?_
      refine lv_iload hx hb dX4_overLinks_53 (lv_at hl 4 rfl) ?_
      obtain ⟨h_13, h_14, h_12, hf⟩ := hf
      refine ga_wa C hG h_13 h_14 h_12 dX4_overLinks_55 ?_
      refine lv_if_ne (tgt := 62) hx hb dX4_overLinks_56 (by decide) (fun c_15 => ?_) (fun c_15 => ?_)
      · replace hf := hf.1 c_15
        refine lv_aload_n hx hb dX4_overLinks_62 rfl (lv_at hl 0 rfl) ?_
        obtain ⟨h_16, hf⟩ := hf
        refine gg_w_0 C hG h_16 inX4_overLinks_wsX40 (hts _ (List.mem_of_getElem? (i := 1) rfl)) dX4_overLinks_63 ?_
        refine lv_iload_n hx hb dX4_overLinks_66 rfl (lv_at hl 1 rfl) ?_
        refine lv_iload hx hb dX4_overLinks_67 (lv_at hl 4 rfl) ?_
        refine g_callVi0 (As := [.int y1, .int y4]) C hG (kX3_ticksToTake hf) (cwV 2 hts gX4_overLinks_X3_ticksToTake rfl rfl rfl hdvX3_ticksToTake ⟨Nat.le_of_ble_eq_true rfl, Nat.le_of_ble_eq_true rfl⟩) (va_recv hK hG.1 (ci := 3) (q0 := 27) rfl rfl) rfl hl.1 rfl (Nat.le_of_ble_eq_true rfl) dX4_overLinks_69 ⟨Nat.zero_le _, Nat.zero_le _⟩ (fun r_17 g1 H locs hq hG => ?_)
        obtain ⟨rfl, hf⟩ := hq
        refine lv_istore (lv' := [(5, .int r_17), (0, .ref (wd 0 j0)), (1, .int y1), (2, .int y2), (3, .int y3), (4, .int y4)]) hx hb dX4_overLinks_72 hl (by decide) rfl (fun ls hl => ?_)
        refine lv_iload hx hb dX4_overLinks_74 (lv_at hl 0 rfl) ?_
        refine lv_if_eq (tgt := 124) hx hb dX4_overLinks_76 (by decide) (fun c_18 => ?_) (fun c_18 => ?_)
        · replace hf := hf.1 c_18
          exact vX4_overLinks_b124 C hpost hG43 y1 y2 y3 y4 _ _ _ hf hG (lv_sub hl [1, 2, 3, 4, 5] rfl)
        · replace hf := hf.2 c_18
          refine lv_iload_n hx hb dX4_overLinks_79 rfl (lv_at hl 3 rfl) ?_
          refine lv_iload hx hb dX4_overLinks_80 (lv_at hl 0 rfl) ?_
          refine lv_aload_n hx hb dX4_overLinks_82 rfl (lv_at hl 1 rfl) ?_
          obtain ⟨h_19, hf⟩ := hf
          refine gg_w_0 C hG h_19 inX4_overLinks_wsX40 (hts _ (List.mem_of_getElem? (i := 1) rfl)) dX4_overLinks_83 ?_
          refine lv_iload_n hx hb dX4_overLinks_86 rfl (lv_at hl 2 rfl) ?_
          refine lv_iload hx hb dX4_overLinks_87 (lv_at hl 5 rfl) ?_
          refine g_callVi0 (As := [.int y1, .int y4]) C hG (kX3_lengthOf hf) (cwV 2 hts gX4_overLinks_X3_lengthOf rfl rfl rfl hdvX3_lengthOf ⟨Nat.le_of_ble_eq_true rfl, Nat.le_of_ble_eq_true rfl⟩) (va_recv hK hG.1 (ci := 3) (q0 := 27) rfl rfl) rfl hl.1 rfl (Nat.le_of_ble_eq_true rfl) dX4_overLinks_89 ⟨Nat.zero_le _, Nat.zero_le _⟩ (fun r_20 g1 H locs hq hG => ?_)
          obtain ⟨rfl, hf⟩ := hq
          refine lv_iconst (v := (2 : Int32)) hx hb dX4_overLinks_92 (by decide) ?_
          refine lv_icmp_ne (tgt := 110) hx hb dX4_overLinks_93 (by decide) (fun c_21 => ?_) (fun c_21 => ?_)
          · replace hf := hf.1 c_21
            refine lv_aload_n hx hb dX4_overLinks_110 rfl (lv_at hl 1 rfl) ?_
            obtain ⟨h_22, hf⟩ := hf
            refine gg_w_4 C hG h_22 inX4_overLinks_wsX40 (hts _ (List.mem_of_getElem? (i := 3) rfl)) dX4_overLinks_111 ?_
            refine lv_iload hx hb dX4_overLinks_114 (lv_at hl 5 rfl) ?_
            obtain ⟨h_24, h_25, h_23, hf⟩ := hf
            refine ga_wa C hG h_24 h_25 h_23 dX4_overLinks_116 ?_
            refine lv_iconst (v := (1 : Int32)) hx hb dX4_overLinks_117 (by decide) ?_
            refine g_callNi0 (As := [.int (WX (WR j0 4) j0 y4.toNatClampNeg), .int (1 : Int32)]) C hG (kX5_ahead hf) ⟨va_cnB 2 hts gX4_overLinks_X5_ahead_n69 rfl rfl rfl (hN _ (List.mem_of_getElem? (i := 10) rfl)) (hts _ (List.mem_of_getElem? (i := 6) rfl)) hdsX5_ahead ⟨Nat.le_of_ble_eq_true rfl, Nat.le_of_ble_eq_true rfl⟩, hts _ (List.mem_of_getElem? (i := 36) rfl), trivial⟩ rfl hl.1 rfl (Nat.le_of_ble_eq_true rfl) dX4_overLinks_118 ⟨Nat.zero_le _, Nat.zero_le _⟩ (fun r_26 g1 H locs hq hG => ?_)
            obtain ⟨rfl, hf⟩ := hq
            exact vX4_overLinks_b121 C hpost hG43 y1 y3 y4 r_26 r_17 y2 _ _ _ hf hG (lv_sub hl [1, 2, 4, 5] rfl)
          · replace hf := hf.2 c_21
            refine lv_aload_n hx hb dX4_overLinks_96 rfl (lv_at hl 1 rfl) ?_
            obtain ⟨h_27, hf⟩ := hf
            refine gg_w_5 C hG h_27 inX4_overLinks_wsX40 (hts _ (List.mem_of_getElem? (i := 4) rfl)) dX4_overLinks_97 ?_
            refine lv_iload hx hb dX4_overLinks_100 (lv_at hl 5 rfl) ?_
            obtain ⟨h_29, h_30, h_28, hf⟩ := hf
            refine ga_wa C hG h_29 h_30 h_28 dX4_overLinks_102 ?_
            refine lv_iconst (v := (2 : Int32)) hx hb dX4_overLinks_103 (by decide) ?_
            refine g_callNi0 (As := [.int (WX (WR j0 5) j0 y4.toNatClampNeg), .int (2 : Int32)]) C hG (kX5_ahead hf) ⟨va_cnB 2 hts gX4_overLinks_X5_ahead_n69 rfl rfl rfl (hN _ (List.mem_of_getElem? (i := 10) rfl)) (hts _ (List.mem_of_getElem? (i := 6) rfl)) hdsX5_ahead ⟨Nat.le_of_ble_eq_true rfl, Nat.le_of_ble_eq_true rfl⟩, hts _ (List.mem_of_getElem? (i := 36) rfl), trivial⟩ rfl hl.1 rfl (Nat.le_of_ble_eq_true rfl) dX4_overLinks_104 ⟨Nat.zero_le _, Nat.zero_le _⟩ (fun r_31 g1 H locs hq hG => ?_)
            obtain ⟨rfl, hf⟩ := hq
            refine lv_goto (tgt := 121) hx hb dX4_overLinks_107 (by decide) ?_
            exact vX4_overLinks_b121 C hpost hG43 y1 y3 y4 r_31 r_17 y2 _ _ _ hf hG (lv_sub hl [1, 2, 4, 5] rfl)
      · replace hf := hf.2 c_15
        refine lv_goto (tgt := 124) hx hb dX4_overLinks_59 (by decide) ?_
        exact vX4_overLinks_b124 C hpost hG43 y1 y2 y3 y4 _ _ _ hf hG (lv_sub hl [0, 1, 2, 3, 4] rfl)
set_option maxHeartbeats 4000000 in
set_option maxRecDepth 100000 in
theorem vX4_overLinks_b23 {p : Program} {l : Launch} {e : Env} {s : State} {m : MethodId} {args : Array Value} {below : List Frame} {meth : Method} {c : Code} {D : va_G} {B : Nat → Nat} {A : Nat → Prop} {K : sK} {L : sL} {M : sM} {O : sO} {post : Int32 → sG → Prop} {SI : Nat → Int32} {SX : Nat → Nat → Int32} {nW : Nat} {WI : Nat → Nat → Int32} {WR : Nat → Nat → Nat} {WL : Nat → Nat → Int32} {WX : Nat → Nat → Nat → Int32} {wd : Nat → Nat → Nat} {j0 : Nat} {Q : Int32 → Prop} (C : gX p s m args meth c cX4_overLinks 6 (some .int) wsX4_overLinks RX4 D B A) (hpost : ∀ (v : Int32) , Q v  → post v ((SI, SX), K, L, (nW, WI, WR, WL, WX, wd), M, O))   (y1 : Int32) (t0 : Int32) (H : Heap) (locs : List Loc) (ls : Array Slot) (hf : fX4_overLinks_b23 SI SX nW WI WR WL WX wd j0 Q y1 t0) (hG : GS D B A s.heap ((SI, SX), K, L, (nW, WI, WR, WL, WX, wd), M, O) H locs) (hl : lv_has ls 6 [(0, .ref (wd 0 j0)), (1, .int y1)]) : W p l e (headSpec wsX4_overLinks rX4_overLinks).room s m args below meth c H locs 0 0 (MQ below (va_Qi post (gB D B A) A) args s 0 0 A) (F0 m 23 ls [.int t0]) := by
  obtain ⟨hx, hb, hml, hown, hts, hK, hr, hlk, hA, hN⟩ := id C
  unfold fX4_overLinks_b23 at hf
  refine lv_istore_n (lv' := [(2, .int t0), (0, .ref (wd 0 j0)), (1, .int y1)]) hx hb dX4_overLinks_23 rfl hl (by decide) rfl (fun ls hl => ?_)
  refine lv_aload_n hx hb dX4_overLinks_24 rfl (lv_at hl 1 rfl) ?_
  obtain ⟨h_6, hf⟩ := hf
  refine gg_w_0 C hG h_6 inX4_overLinks_wsX40 (hts _ (List.mem_of_getElem? (i := 1) rfl)) dX4_overLinks_25 ?_
  refine lv_iload_n hx hb dX4_overLinks_28 rfl (lv_at hl 2 rfl) ?_
  refine g_callVi0 (As := [.int y1]) C hG (kX3_nearTo hf) (cwV 1 hts gX4_overLinks_X3_nearTo rfl rfl rfl hdvX3_nearTo ⟨Nat.le_of_ble_eq_true rfl, Nat.le_of_ble_eq_true rfl⟩) (va_recv hK hG.1 (ci := 3) (q0 := 27) rfl rfl) rfl hl.1 rfl (Nat.le_of_ble_eq_true rfl) dX4_overLinks_29 ⟨Nat.zero_le _, Nat.zero_le _⟩ (fun r_7 g1 H locs hq hG => ?_)
  obtain ⟨rfl, hf⟩ := hq
  refine lv_istore_n (lv' := [(3, .int r_7), (2, .int t0), (0, .ref (wd 0 j0)), (1, .int y1)]) hx hb dX4_overLinks_32 rfl hl (by decide) rfl (fun ls hl => ?_)
  refine lv_aload_n hx hb dX4_overLinks_33 rfl (lv_at hl 2 rfl) ?_
  obtain ⟨h_8, hf⟩ := hf
  refine gg_w_0 C hG h_8 inX4_overLinks_wsX40 (hts _ (List.mem_of_getElem? (i := 1) rfl)) dX4_overLinks_34 ?_
  refine lv_iload_n hx hb dX4_overLinks_37 rfl (lv_at hl 3 rfl) ?_
  refine g_callVi0 (As := [.int y1]) C hG (kX3_nearFrom hf) (cwV 1 hts gX4_overLinks_X3_nearFrom rfl rfl rfl hdvX3_nearFrom ⟨Nat.le_of_ble_eq_true rfl, Nat.le_of_ble_eq_true rfl⟩) (va_recv hK hG.1 (ci := 3) (q0 := 27) rfl rfl) rfl hl.1 rfl (Nat.le_of_ble_eq_true rfl) dX4_overLinks_38 ⟨Nat.zero_le _, Nat.zero_le _⟩ (fun r_9 g1 H locs hq hG => ?_)
  obtain ⟨rfl, hf⟩ := hq
  refine lv_istore (lv' := [(4, .int r_9), (3, .int r_7), (2, .int t0), (0, .ref (wd 0 j0)), (1, .int y1)]) hx hb dX4_overLinks_41 hl (by decide) rfl (fun ls hl => ?_)
  obtain ⟨n43, hf⟩ := hf
  exact vX4_overLinks_h43 C hpost  n43 y1 t0 r_7 r_9 _ _ _ hf hG (lv_sub hl [3, 4, 2, 1, 0] rfl)
set_option maxHeartbeats 4000000 in
set_option maxRecDepth 100000 in
theorem vX4_overLinks_b0 {p : Program} {l : Launch} {e : Env} {s : State} {m : MethodId} {args : Array Value} {below : List Frame} {meth : Method} {c : Code} {D : va_G} {B : Nat → Nat} {A : Nat → Prop} {K : sK} {L : sL} {M : sM} {O : sO} {post : Int32 → sG → Prop} {SI : Nat → Int32} {SX : Nat → Nat → Int32} {nW : Nat} {WI : Nat → Nat → Int32} {WR : Nat → Nat → Nat} {WL : Nat → Nat → Int32} {WX : Nat → Nat → Nat → Int32} {wd : Nat → Nat → Nat} {j0 : Nat} {Q : Int32 → Prop} (C : gX p s m args meth c cX4_overLinks 6 (some .int) wsX4_overLinks RX4 D B A) (hpost : ∀ (v : Int32) , Q v  → post v ((SI, SX), K, L, (nW, WI, WR, WL, WX, wd), M, O))   (x1 : Int32) (H : Heap) (locs : List Loc) (ls : Array Slot) (hf : fX4_overLinks SI SX nW WI WR WL WX wd j0 Q x1) (hG : GS D B A s.heap ((SI, SX), K, L, (nW, WI, WR, WL, WX, wd), M, O) H locs) (hl : lv_has ls 6 [(0, .ref (wd 0 j0)), (1, .int x1)]) : W p l e (headSpec wsX4_overLinks rX4_overLinks).room s m args below meth c H locs 0 0 (MQ below (va_Qi post (gB D B A) A) args s 0 0 A) (F0 m 0 ls []) := by
  obtain ⟨hx, hb, hml, hown, hts, hK, hr, hlk, hA, hN⟩ := id C
  unfold fX4_overLinks at hf
  refine lv_iload_n hx hb dX4_overLinks_0 rfl (lv_at hl 1 rfl) ?_
  refine g_callNi0 (As := [.int x1]) C hG (kX5_isRelay hf) ⟨va_cnB 1 hts gX4_overLinks_X5_isRelay_n79 rfl rfl rfl (hN _ (List.mem_of_getElem? (i := 11) rfl)) (hts _ (List.mem_of_getElem? (i := 6) rfl)) hdsX5_isRelay ⟨Nat.le_of_ble_eq_true rfl, Nat.le_of_ble_eq_true rfl⟩, hts _ (List.mem_of_getElem? (i := 5) rfl), trivial⟩ rfl hl.1 rfl (Nat.le_of_ble_eq_true rfl) dX4_overLinks_1 ⟨Nat.zero_le _, Nat.zero_le _⟩ (fun r_1 g1 H locs hq hG => ?_)
  obtain ⟨rfl, hf⟩ := hq
  refine lv_if_eq (tgt := 22) hx hb dX4_overLinks_4 (by decide) (fun c_2 => ?_) (fun c_2 => ?_)
  · replace hf := hf.1 c_2
    refine lv_iconst (v := (0 : Int32)) hx hb dX4_overLinks_22 (by decide) ?_
    exact vX4_overLinks_b23 C hpost  x1 (0 : Int32) _ _ _ hf hG (lv_sub hl [0, 1] rfl)
  · replace hf := hf.2 c_2
    refine lv_aload_n hx hb dX4_overLinks_7 rfl (lv_at hl 0 rfl) ?_
    obtain ⟨h_3, hf⟩ := hf
    refine gg_w_0 C hG h_3 inX4_overLinks_wsX40 (hts _ (List.mem_of_getElem? (i := 1) rfl)) dX4_overLinks_8 ?_
    refine lv_aload_n hx hb dX4_overLinks_11 rfl (lv_at hl 0 rfl) ?_
    obtain ⟨h_4, hf⟩ := hf
    refine gg_w_1 C hG h_4 inX4_overLinks_wsX40 (hts _ (List.mem_of_getElem? (i := 2) rfl)) dX4_overLinks_12 ?_
    refine lv_iload_n hx hb dX4_overLinks_15 rfl (lv_at hl 1 rfl) ?_
    refine g_callVi0 (As := [.int (WI j0 1), .int x1]) C hG (kX3_ticksToTake hf) (cwV 2 hts gX4_overLinks_X3_ticksToTake rfl rfl rfl hdvX3_ticksToTake ⟨Nat.le_of_ble_eq_true rfl, Nat.le_of_ble_eq_true rfl⟩) (va_recv hK hG.1 (ci := 3) (q0 := 27) rfl rfl) rfl hl.1 rfl (Nat.le_of_ble_eq_true rfl) dX4_overLinks_16 ⟨Nat.zero_le _, Nat.zero_le _⟩ (fun r_5 g1 H locs hq hG => ?_)
    obtain ⟨rfl, hf⟩ := hq
    refine lv_goto (tgt := 23) hx hb dX4_overLinks_19 (by decide) ?_
    exact vX4_overLinks_b23 C hpost  x1 r_5 _ _ _ hf hG (lv_sub hl [0, 1] rfl)
set_option maxRecDepth 100000 in
theorem kX4_overLinks {l : Launch} {D : va_G} {B : Nat → Nat} {K : sK} {L : sL} {M : sM} {O : sO} {SI : Nat → Int32} {SX : Nat → Nat → Int32} {nW : Nat} {WI : Nat → Nat → Int32} {WR : Nat → Nat → Nat} {WL : Nat → Nat → Int32} {WX : Nat → Nat → Nat → Int32} {wd : Nat → Nat → Nat} {j0 : Nat} {Q : Int32 → Prop} {x1 : Int32} (hf : fX4_overLinks SI SX nW WI WR WL WX wd j0 Q x1) : gMi D B l yX4_overLinks wsX4_overLinks rX4_overLinks 0 0 [.ref (wd 0 j0), .int x1] ((SI, SX), K, L, (nW, WI, WR, WL, WX, wd), M, O) (fun r g1 => g1 = ((SI, SX), K, L, (nW, WI, WR, WL, WX, wd), M, O) ∧ Q r ) := by
  refine gMi_of (cc := cX4_overLinks) (maxL := 6) (ret := some .int) (by decide +kernel) rfl (Nat.le_of_ble_eq_true rfl) ?_
  intro p e s m below meth c A hA0 C hG ls hl
  exact vX4_overLinks_b0 C (fun v  hq => ⟨rfl, hq⟩) x1 _ _ _ hf hG hl
def rX4_grow : Room := { frames := 3, cells := 0, slots := 0, locals := 68 }
theorem hdvX4_grow : yX4_grow.cls = RX4 ∧ yX4_grow.cls ≠ "java/lang/invoke/MethodHandle" ∧ yX4_grow.cls ≠ "java/lang/invoke/VarHandle" ∧ (parseMethodDescriptor yX4_grow.desc).map (fun d => d.parameters.length) = some 1 := by decide +kernel
theorem inX4_grow_wsX40 : ∀ w ∈ wsX40, w ∈ wsX4_grow := (fun _ h => List.mem_cons_of_mem _ (List.mem_append_left _ (List.mem_append_right _ h)))
set_option maxHeartbeats 4000000 in
set_option maxRecDepth 100000 in
theorem vX4_grow_b94 {p : Program} {l : Launch} {e : Env} {s : State} {m : MethodId} {args : Array Value} {below : List Frame} {meth : Method} {c : Code} {D : va_G} {B : Nat → Nat} {A : Nat → Prop} {K : sK} {L : sL} {M : sM} {O : sO} {post : Int32 → sG → Prop} {SI : Nat → Int32} {SX : Nat → Nat → Int32} {nW : Nat} {wd : Nat → Nat → Nat} {j0 : Nat} {Q : Int32 → (Nat → Nat → Int32) → (Nat → Nat → Nat) → (Nat → Nat → Int32) → (Nat → Nat → Nat → Int32) → Prop} (C : gX p s m args meth c cX4_grow 6 (some .boolean) wsX4_grow RX4 D B A) (hpost : ∀ (v : Int32) (WI : Nat → Nat → Int32) (WR : Nat → Nat → Nat) (WL : Nat → Nat → Int32) (WX : Nat → Nat → Nat → Int32), Q v WI WR WL WX → post v ((SI, SX), K, L, (nW, WI, WR, WL, WX, wd), M, O)) {G4 : (Nat → Nat → Int32) → (Nat → Nat → Nat) → (Nat → Nat → Int32) → (Nat → Nat → Nat → Int32) → Int32 → Int32 → Int32 → Prop} (hG4 : ∀ (WI : Nat → Nat → Int32) (WR : Nat → Nat → Nat) (WL : Nat → Nat → Int32) (WX : Nat → Nat → Nat → Int32) (y1 : Int32) (y2 : Int32) (y3 : Int32) (H : Heap) (locs : List Loc) (ls : Array Slot), G4 WI WR WL WX y1 y2 y3 → GS D B A s.heap ((SI, SX), K, L, (nW, WI, WR, WL, WX, wd), M, O) H locs → lv_has ls 6 [(0, .ref (wd 0 j0)), (1, .int y1), (2, .int y2), (3, .int y3)] → W p l e (headSpec wsX4_grow rX4_grow).room s m args below meth c H locs 0 0 (MQ below (va_Qi post (gB D B A) A) args s 0 0 A) (F0 m 4 ls [])) (WI : Nat → Nat → Int32) (WR : Nat → Nat → Nat) (WL : Nat → Nat → Int32) (WX : Nat → Nat → Nat → Int32) (y1 : Int32) (y2 : Int32) (y3 : Int32) (H : Heap) (locs : List Loc) (ls : Array Slot) (hf : fX4_grow_b94 SI SX nW wd j0 G4 Q WI WR WL WX y1 y2 y3) (hG : GS D B A s.heap ((SI, SX), K, L, (nW, WI, WR, WL, WX, wd), M, O) H locs) (hl : lv_has ls 6 [(0, .ref (wd 0 j0)), (1, .int y1), (2, .int y2), (3, .int y3)]) : W p l e (headSpec wsX4_grow rX4_grow).room s m args below meth c H locs 0 0 (MQ below (va_Qi post (gB D B A) A) args s 0 0 A) (F0 m 94 ls []) := by
  obtain ⟨hx, hb, hml, hown, hts, hK, hr, hlk, hA, hN⟩ := id C
  unfold fX4_grow_b94 at hf
  obtain ⟨x3_38, ex3_38⟩ : ∃ y : Int32, y = y3 + (1 : Int32) := ⟨_, rfl⟩
  replace hf := hf x3_38 ex3_38
  refine lv_iinc (v := x3_38) (lv' := [(3, .int x3_38), (0, .ref (wd 0 j0)), (1, .int y1), (2, .int y2)]) hx hb dX4_grow_94 hl (k := 3) rfl (by rw [ex3_38]; rfl) (by decide) rfl (fun ls hl => ?_)
  refine lv_goto (tgt := 4) hx hb dX4_grow_97 (by decide) ?_
  exact hG4 WI WR WL WX y1 y2 x3_38 _ _ _ hf hG (lv_sub hl [1, 2, 3, 0] rfl)
set_option maxHeartbeats 4000000 in
set_option maxRecDepth 100000 in
theorem vX4_grow_b64 {p : Program} {l : Launch} {e : Env} {s : State} {m : MethodId} {args : Array Value} {below : List Frame} {meth : Method} {c : Code} {D : va_G} {B : Nat → Nat} {A : Nat → Prop} {K : sK} {L : sL} {M : sM} {O : sO} {post : Int32 → sG → Prop} {SI : Nat → Int32} {SX : Nat → Nat → Int32} {nW : Nat} {wd : Nat → Nat → Nat} {j0 : Nat} {Q : Int32 → (Nat → Nat → Int32) → (Nat → Nat → Nat) → (Nat → Nat → Int32) → (Nat → Nat → Nat → Int32) → Prop} (C : gX p s m args meth c cX4_grow 6 (some .boolean) wsX4_grow RX4 D B A) (hpost : ∀ (v : Int32) (WI : Nat → Nat → Int32) (WR : Nat → Nat → Nat) (WL : Nat → Nat → Int32) (WX : Nat → Nat → Nat → Int32), Q v WI WR WL WX → post v ((SI, SX), K, L, (nW, WI, WR, WL, WX, wd), M, O)) {G4 : (Nat → Nat → Int32) → (Nat → Nat → Nat) → (Nat → Nat → Int32) → (Nat → Nat → Nat → Int32) → Int32 → Int32 → Int32 → Prop} (hG4 : ∀ (WI : Nat → Nat → Int32) (WR : Nat → Nat → Nat) (WL : Nat → Nat → Int32) (WX : Nat → Nat → Nat → Int32) (y1 : Int32) (y2 : Int32) (y3 : Int32) (H : Heap) (locs : List Loc) (ls : Array Slot), G4 WI WR WL WX y1 y2 y3 → GS D B A s.heap ((SI, SX), K, L, (nW, WI, WR, WL, WX, wd), M, O) H locs → lv_has ls 6 [(0, .ref (wd 0 j0)), (1, .int y1), (2, .int y2), (3, .int y3)] → W p l e (headSpec wsX4_grow rX4_grow).room s m args below meth c H locs 0 0 (MQ below (va_Qi post (gB D B A) A) args s 0 0 A) (F0 m 4 ls [])) (WI : Nat → Nat → Int32) (WR : Nat → Nat → Nat) (WL : Nat → Nat → Int32) (WX : Nat → Nat → Nat → Int32) (y1 : Int32) (y2 : Int32) (y3 : Int32) (y4 : Int32) (y5 : Int32) (H : Heap) (locs : List Loc) (ls : Array Slot) (hf : fX4_grow_b64 SI SX nW wd j0 G4 Q WI WR WL WX y1 y2 y3 y4 y5) (hG : GS D B A s.heap ((SI, SX), K, L, (nW, WI, WR, WL, WX, wd), M, O) H locs) (hl : lv_has ls 6 [(0, .ref (wd 0 j0)), (1, .int y1), (2, .int y2), (3, .int y3), (4, .int y4), (5, .int y5)]) : W p l e (headSpec wsX4_grow rX4_grow).room s m args below meth c H locs 0 0 (MQ below (va_Qi post (gB D B A) A) args s 0 0 A) (F0 m 64 ls []) := by
  obtain ⟨hx, hb, hml, hown, hts, hK, hr, hlk, hA, hN⟩ := id C
  unfold fX4_grow_b64 at hf
  refine lv_aload_n hx hb dX4_grow_64 rfl (lv_at hl 0 rfl) ?_
  obtain ⟨h_27, hf⟩ := hf
  refine gg_w_6 C hG h_27 inX4_grow_wsX40 (hts _ (List.mem_of_getElem? (i := 4) rfl)) dX4_grow_65 ?_
  refine lv_iload_n hx hb dX4_grow_68 rfl (lv_at hl 3 rfl) ?_
  refine lv_iload hx hb dX4_grow_69 (lv_at hl 5 rfl) ?_
  obtain ⟨h_29, h_30, h_28, hf⟩ := hf
  refine gs_wa C hG h_29 h_30 h_28 dX4_grow_71 (fun WX_31 H locs eWX_31 hG => ?_)
  replace hf := hf WX_31 eWX_31
  refine lv_iload hx hb dX4_grow_72 (lv_at hl 5 rfl) ?_
  refine lv_iload hx hb dX4_grow_74 (lv_at hl 4 rfl) ?_
  refine lv_icmp_eq (tgt := 94) hx hb dX4_grow_76 (by decide) (fun c_32 => ?_) (fun c_32 => ?_)
  · replace hf := hf.1 c_32
    exact vX4_grow_b94 C hpost hG4 WI WR WL WX_31 y1 y2 y3 _ _ _ hf hG (lv_sub hl [0, 1, 2, 3] rfl)
  · replace hf := hf.2 c_32
    refine lv_aload_n hx hb dX4_grow_79 rfl (lv_at hl 0 rfl) ?_
    refine lv_iload_n hx hb dX4_grow_80 rfl (lv_at hl 3 rfl) ?_
    refine lv_iload hx hb dX4_grow_81 (lv_at hl 5 rfl) ?_
    refine lv_iload hx hb dX4_grow_83 (lv_at hl 4 rfl) ?_
    refine lv_iconst (v := (-1 : Int32)) hx hb dX4_grow_85 (by decide) ?_
    refine lv_ixor hx hb dX4_grow_86 ?_
    refine lv_iand hx hb dX4_grow_87 ?_
    refine lv_iload_n hx hb dX4_grow_88 rfl (lv_at hl 1 rfl) ?_
    obtain ⟨h_37, hf⟩ := hf
    refine g_callVv0 (As := [.int y3, .int (y5 &&& (y4 ^^^ (-1 : Int32))), .int y1]) C hG (kX4_note hf) (cwV 3 hts gX4_grow_X4_note rfl rfl rfl hdvX4_note ⟨Nat.le_of_ble_eq_true rfl, Nat.le_of_ble_eq_true rfl⟩) (g_recv_w hK hG h_37) rfl hl.1 rfl (Nat.le_of_ble_eq_true rfl) dX4_grow_89 ⟨Nat.zero_le _, Nat.zero_le _⟩ (fun g1 H locs hq hG => ?_)
    obtain ⟨WI_33, WR_34, WL_35, WX_36, rfl, hf⟩ := hq
    refine lv_iconst (v := (1 : Int32)) hx hb dX4_grow_92 (by decide) ?_
    refine lv_istore_n (lv' := [(2, .int (1 : Int32)), (0, .ref (wd 0 j0)), (1, .int y1), (3, .int y3), (4, .int y4), (5, .int y5)]) hx hb dX4_grow_93 rfl hl (by decide) rfl (fun ls hl => ?_)
    exact vX4_grow_b94 C hpost hG4 WI_33 WR_34 WL_35 WX_36 y1 (1 : Int32) y3 _ _ _ hf hG (lv_sub hl [1, 2, 0, 3] rfl)
set_option maxHeartbeats 4000000 in
set_option maxRecDepth 100000 in
theorem vX4_grow_h4 {p : Program} {l : Launch} {e : Env} {s : State} {m : MethodId} {args : Array Value} {below : List Frame} {meth : Method} {c : Code} {D : va_G} {B : Nat → Nat} {A : Nat → Prop} {K : sK} {L : sL} {M : sM} {O : sO} {post : Int32 → sG → Prop} {SI : Nat → Int32} {SX : Nat → Nat → Int32} {nW : Nat} {wd : Nat → Nat → Nat} {j0 : Nat} {Q : Int32 → (Nat → Nat → Int32) → (Nat → Nat → Nat) → (Nat → Nat → Int32) → (Nat → Nat → Nat → Int32) → Prop} (C : gX p s m args meth c cX4_grow 6 (some .boolean) wsX4_grow RX4 D B A) (hpost : ∀ (v : Int32) (WI : Nat → Nat → Int32) (WR : Nat → Nat → Nat) (WL : Nat → Nat → Int32) (WX : Nat → Nat → Nat → Int32), Q v WI WR WL WX → post v ((SI, SX), K, L, (nW, WI, WR, WL, WX, wd), M, O))  : ∀ (n4 : Nat) (WI : Nat → Nat → Int32) (WR : Nat → Nat → Nat) (WL : Nat → Nat → Int32) (WX : Nat → Nat → Nat → Int32) (y1 : Int32) (y2 : Int32) (y3 : Int32) (H : Heap) (locs : List Loc) (ls : Array Slot), fX4_grow_h4 SI SX nW wd j0 Q n4 WI WR WL WX y1 y2 y3 → GS D B A s.heap ((SI, SX), K, L, (nW, WI, WR, WL, WX, wd), M, O) H locs → lv_has ls 6 [(0, .ref (wd 0 j0)), (1, .int y1), (2, .int y2), (3, .int y3)] → W p l e (headSpec wsX4_grow rX4_grow).room s m args below meth c H locs 0 0 (MQ below (va_Qi post (gB D B A) A) args s 0 0 A) (F0 m 4 ls []) := by
  obtain ⟨hx, hb, hml, hown, hts, hK, hr, hlk, hA, hN⟩ := id C
  intro n4
  induction n4 with
  | zero =>
    intro WI WR WL WX y1 y2 y3 H locs ls hf
    exact False.elim hf
  | succ n4 hG4 =>
    intro WI WR WL WX y1 y2 y3 H locs ls hf hG hl
    unfold fX4_grow_h4 at hf
    refine lv_iload_n hx hb dX4_grow_4 rfl (lv_at hl 3 rfl) ?_
    refine lv_bipush (v := (56 : Int32)) hx hb dX4_grow_5 (by decide) ?_
    refine lv_icmp_ge (tgt := 100) hx hb dX4_grow_7 (by decide) (fun c_1 => ?_) (fun c_1 => ?_)
    · replace hf := hf.1 c_1
      refine lv_aload_n hx hb dX4_grow_100 rfl (lv_at hl 0 rfl) ?_
      obtain ⟨h_2, hf⟩ := hf
      refine gg_w_5 C hG h_2 inX4_grow_wsX40 (hts _ (List.mem_of_getElem? (i := 5) rfl)) dX4_grow_101 ?_
      refine lv_astore_n (lv' := [(3, .ref (wd (WR j0 5) j0)), (0, .ref (wd 0 j0)), (1, .int y1), (2, .int y2)]) hx hb dX4_grow_104 rfl hl (by decide) rfl (fun ls hl => ?_)
      refine lv_aload_n hx hb dX4_grow_105 rfl (lv_at hl 1 rfl) ?_
      refine lv_aload_n hx hb dX4_grow_106 rfl (lv_at hl 1 rfl) ?_
      obtain ⟨h_3, hf⟩ := hf
      refine gg_w_4 C hG h_3 inX4_grow_wsX40 (hts _ (List.mem_of_getElem? (i := 1) rfl)) dX4_grow_107 ?_
      obtain ⟨h_4, hf⟩ := hf
      refine gp_w_5 C hG h_4 inX4_grow_wsX40 (hts _ (List.mem_of_getElem? (i := 5) rfl)) dX4_grow_110 (fun WR_5 H locs eWR_5 hG => ?_)
      replace hf := hf WR_5 eWR_5
      refine lv_aload_n hx hb dX4_grow_113 rfl (lv_at hl 1 rfl) ?_
      refine lv_aload_n hx hb dX4_grow_114 rfl (lv_at hl 1 rfl) ?_
      obtain ⟨h_6, hf⟩ := hf
      refine gg_w_6 C hG h_6 inX4_grow_wsX40 (hts _ (List.mem_of_getElem? (i := 4) rfl)) dX4_grow_115 ?_
      obtain ⟨h_7, hf⟩ := hf
      refine gp_w_4 C hG h_7 inX4_grow_wsX40 (hts _ (List.mem_of_getElem? (i := 1) rfl)) dX4_grow_118 (fun WR_8 H locs eWR_8 hG => ?_)
      replace hf := hf WR_8 eWR_8
      refine lv_aload_n hx hb dX4_grow_121 rfl (lv_at hl 1 rfl) ?_
      refine lv_aload_n hx hb dX4_grow_122 rfl (lv_at hl 0 rfl) ?_
      obtain ⟨h_9, hf⟩ := hf
      refine gp_w_6 C hG h_9 inX4_grow_wsX40 (hts _ (List.mem_of_getElem? (i := 4) rfl)) dX4_grow_123 (fun WR_10 H locs eWR_10 hG => ?_)
      replace hf := hf WR_10 eWR_10
      refine lv_iload_n hx hb dX4_grow_126 rfl (lv_at hl 3 rfl) ?_
      obtain ⟨h_11, hf⟩ := hf
      exact g_zret C hG h_11 (hpost _ _ _ _ _ hf) dX4_grow_127
    · replace hf := hf.2 c_1
      refine lv_aload_n hx hb dX4_grow_10 rfl (lv_at hl 0 rfl) ?_
      obtain ⟨h_12, hf⟩ := hf
      refine gg_w_4 C hG h_12 inX4_grow_wsX40 (hts _ (List.mem_of_getElem? (i := 1) rfl)) dX4_grow_11 ?_
      refine lv_iload_n hx hb dX4_grow_14 rfl (lv_at hl 3 rfl) ?_
      obtain ⟨h_14, h_15, h_13, hf⟩ := hf
      refine ga_wa C hG h_14 h_15 h_13 dX4_grow_15 ?_
      refine lv_topi (fun x4_16 ex4_16 => ?_)
      replace hf := hf x4_16 ex4_16
      refine lv_istore (lv' := [(4, .int x4_16), (0, .ref (wd 0 j0)), (1, .int y1), (2, .int y2), (3, .int y3)]) hx hb dX4_grow_16 hl (by decide) rfl (fun ls hl => ?_)
      refine lv_iload hx hb dX4_grow_18 (lv_at hl 0 rfl) ?_
      refine lv_istore (lv' := [(5, .int x4_16), (4, .int x4_16), (0, .ref (wd 0 j0)), (1, .int y1), (2, .int y2), (3, .int y3)]) hx hb dX4_grow_20 hl (by decide) rfl (fun ls hl => ?_)
      refine lv_iload hx hb dX4_grow_22 (lv_at hl 1 rfl) ?_
      refine lv_iconst (v := (-1 : Int32)) hx hb dX4_grow_24 (by decide) ?_
      refine lv_icmp_eq (tgt := 64) hx hb dX4_grow_25 (by decide) (fun c_17 => ?_) (fun c_17 => ?_)
      · replace hf := hf.1 c_17
        exact vX4_grow_b64 C hpost hG4 WI WR WL WX y1 y2 y3 x4_16 x4_16 _ _ _ hf hG (lv_sub hl [2, 3, 4, 5, 1, 0] rfl)
      · replace hf := hf.2 c_17
        refine lv_iload_n hx hb dX4_grow_28 rfl (lv_at hl 5 rfl) ?_
        refine lv_aload_n hx hb dX4_grow_29 rfl (lv_at hl 2 rfl) ?_
        obtain ⟨h_18, hf⟩ := hf
        refine gg_w_1 C hG h_18 inX4_grow_wsX40 (hts _ (List.mem_of_getElem? (i := 2) rfl)) dX4_grow_30 ?_
        refine lv_icmp_eq (tgt := 64) hx hb dX4_grow_33 (by decide) (fun c_19 => ?_) (fun c_19 => ?_)
        · replace hf := hf.1 c_19
          exact vX4_grow_b64 C hpost hG4 WI WR WL WX y1 y2 y3 x4_16 x4_16 _ _ _ hf hG (lv_sub hl [2, 3, 4, 5, 1, 0] rfl)
        · replace hf := hf.2 c_19
          refine lv_aload_n hx hb dX4_grow_36 rfl (lv_at hl 2 rfl) ?_
          obtain ⟨h_20, hf⟩ := hf
          refine gg_w_0 C hG h_20 inX4_grow_wsX40 (hts _ (List.mem_of_getElem? (i := 3) rfl)) dX4_grow_37 ?_
          refine lv_iload_n hx hb dX4_grow_40 rfl (lv_at hl 5 rfl) ?_
          refine g_callVi0 (As := [.int y3]) C hG (kX3_isUp hf) (cwV 1 hts gX4_grow_X3_isUp rfl rfl rfl hdvX3_isUp ⟨Nat.le_of_ble_eq_true rfl, Nat.le_of_ble_eq_true rfl⟩) (va_recv hK hG.1 (ci := 3) (q0 := 27) rfl rfl) rfl hl.1 rfl (Nat.le_of_ble_eq_true rfl) dX4_grow_41 ⟨Nat.zero_le _, Nat.zero_le _⟩ (fun r_21 g1 H locs hq hG => ?_)
          obtain ⟨rfl, hf⟩ := hq
          refine lv_if_eq (tgt := 64) hx hb dX4_grow_44 (by decide) (fun c_22 => ?_) (fun c_22 => ?_)
          · replace hf := hf.1 c_22
            exact vX4_grow_b64 C hpost hG4 WI WR WL WX y1 y2 y3 x4_16 x4_16 _ _ _ hf hG (lv_sub hl [2, 3, 4, 5, 1, 0] rfl)
          · replace hf := hf.2 c_22
            refine lv_iload hx hb dX4_grow_47 (lv_at hl 1 rfl) ?_
            refine lv_iload hx hb dX4_grow_49 (lv_at hl 1 rfl) ?_
            refine lv_iconst (v := (1 : Int32)) hx hb dX4_grow_51 (by decide) ?_
            refine g_callNi0 (As := [.int x4_16, .int (1 : Int32)]) C hG (kX5_ahead hf) ⟨va_cnB 2 hts gX4_grow_X5_ahead_n69 rfl rfl rfl (hN _ (List.mem_of_getElem? (i := 10) rfl)) (hts _ (List.mem_of_getElem? (i := 13) rfl)) hdsX5_ahead ⟨Nat.le_of_ble_eq_true rfl, Nat.le_of_ble_eq_true rfl⟩, hts _ (List.mem_of_getElem? (i := 12) rfl), trivial⟩ rfl hl.1 rfl (Nat.le_of_ble_eq_true rfl) dX4_grow_52 ⟨Nat.zero_le _, Nat.zero_le _⟩ (fun r_23 g1 H locs hq hG => ?_)
            obtain ⟨rfl, hf⟩ := hq
            refine lv_ior hx hb dX4_grow_55 ?_
            refine lv_aload_n hx hb dX4_grow_56 rfl (lv_at hl 2 rfl) ?_
            refine lv_iload_n hx hb dX4_grow_57 rfl (lv_at hl 5 rfl) ?_
            obtain ⟨h_25, hf⟩ := hf
            refine g_callVi0 (As := [.int y3]) C hG (kX4_overLinks hf) (cwV 1 hts gX4_grow_X4_overLinks rfl rfl rfl hdvX4_overLinks ⟨Nat.le_of_ble_eq_true rfl, Nat.le_of_ble_eq_true rfl⟩) (g_recv_w hK hG h_25) rfl hl.1 rfl (Nat.le_of_ble_eq_true rfl) dX4_grow_58 ⟨Nat.zero_le _, Nat.zero_le _⟩ (fun r_24 g1 H locs hq hG => ?_)
            obtain ⟨rfl, hf⟩ := hq
            refine lv_ior hx hb dX4_grow_61 ?_
            refine lv_topi (fun x5_26 ex5_26 => ?_)
            replace hf := hf x5_26 ex5_26
            refine lv_istore (lv' := [(5, .int x5_26), (4, .int x4_16), (0, .ref (wd 0 j0)), (1, .int y1), (2, .int y2), (3, .int y3)]) hx hb dX4_grow_62 hl (by decide) rfl (fun ls hl => ?_)
            exact vX4_grow_b64 C hpost hG4 WI WR WL WX y1 y2 y3 x4_16 x5_26 _ _ _ hf hG (lv_sub hl [2, 3, 4, 5, 1, 0] rfl)
set_option maxHeartbeats 4000000 in
set_option maxRecDepth 100000 in
theorem vX4_grow_b0 {p : Program} {l : Launch} {e : Env} {s : State} {m : MethodId} {args : Array Value} {below : List Frame} {meth : Method} {c : Code} {D : va_G} {B : Nat → Nat} {A : Nat → Prop} {K : sK} {L : sL} {M : sM} {O : sO} {post : Int32 → sG → Prop} {SI : Nat → Int32} {SX : Nat → Nat → Int32} {nW : Nat} {wd : Nat → Nat → Nat} {j0 : Nat} {Q : Int32 → (Nat → Nat → Int32) → (Nat → Nat → Nat) → (Nat → Nat → Int32) → (Nat → Nat → Nat → Int32) → Prop} (C : gX p s m args meth c cX4_grow 6 (some .boolean) wsX4_grow RX4 D B A) (hpost : ∀ (v : Int32) (WI : Nat → Nat → Int32) (WR : Nat → Nat → Nat) (WL : Nat → Nat → Int32) (WX : Nat → Nat → Nat → Int32), Q v WI WR WL WX → post v ((SI, SX), K, L, (nW, WI, WR, WL, WX, wd), M, O))  (WI : Nat → Nat → Int32) (WR : Nat → Nat → Nat) (WL : Nat → Nat → Int32) (WX : Nat → Nat → Nat → Int32) (x1 : Int32) (H : Heap) (locs : List Loc) (ls : Array Slot) (hf : fX4_grow SI SX nW wd j0 Q WI WR WL WX x1) (hG : GS D B A s.heap ((SI, SX), K, L, (nW, WI, WR, WL, WX, wd), M, O) H locs) (hl : lv_has ls 6 [(0, .ref (wd 0 j0)), (1, .int x1)]) : W p l e (headSpec wsX4_grow rX4_grow).room s m args below meth c H locs 0 0 (MQ below (va_Qi post (gB D B A) A) args s 0 0 A) (F0 m 0 ls []) := by
  obtain ⟨hx, hb, hml, hown, hts, hK, hr, hlk, hA, hN⟩ := id C
  unfold fX4_grow at hf
  refine lv_iconst (v := (0 : Int32)) hx hb dX4_grow_0 (by decide) ?_
  refine lv_istore_n (lv' := [(2, .int (0 : Int32)), (0, .ref (wd 0 j0)), (1, .int x1)]) hx hb dX4_grow_1 rfl hl (by decide) rfl (fun ls hl => ?_)
  refine lv_iconst (v := (0 : Int32)) hx hb dX4_grow_2 (by decide) ?_
  refine lv_istore_n (lv' := [(3, .int (0 : Int32)), (2, .int (0 : Int32)), (0, .ref (wd 0 j0)), (1, .int x1)]) hx hb dX4_grow_3 rfl hl (by decide) rfl (fun ls hl => ?_)
  obtain ⟨n4, hf⟩ := hf
  exact vX4_grow_h4 C hpost  n4 WI WR WL WX x1 (0 : Int32) (0 : Int32) _ _ _ hf hG (lv_sub hl [2, 3, 1, 0] rfl)
set_option maxRecDepth 100000 in
theorem kX4_grow {l : Launch} {D : va_G} {B : Nat → Nat} {K : sK} {L : sL} {M : sM} {O : sO} {SI : Nat → Int32} {SX : Nat → Nat → Int32} {nW : Nat} {wd : Nat → Nat → Nat} {j0 : Nat} {Q : Int32 → (Nat → Nat → Int32) → (Nat → Nat → Nat) → (Nat → Nat → Int32) → (Nat → Nat → Nat → Int32) → Prop} {WI : Nat → Nat → Int32} {WR : Nat → Nat → Nat} {WL : Nat → Nat → Int32} {WX : Nat → Nat → Nat → Int32} {x1 : Int32} (hf : fX4_grow SI SX nW wd j0 Q WI WR WL WX x1) : gMi D B l yX4_grow wsX4_grow rX4_grow 0 0 [.ref (wd 0 j0), .int x1] ((SI, SX), K, L, (nW, WI, WR, WL, WX, wd), M, O) (fun r g1 => ∃ (WI1 : Nat → Nat → Int32) (WR1 : Nat → Nat → Nat) (WL1 : Nat → Nat → Int32) (WX1 : Nat → Nat → Nat → Int32), g1 = ((SI, SX), K, L, (nW, WI1, WR1, WL1, WX1, wd), M, O) ∧ Q r WI1 WR1 WL1 WX1) := by
  refine gMi_of (cc := cX4_grow) (maxL := 6) (ret := some .boolean) (by decide +kernel) rfl (Nat.le_of_ble_eq_true rfl) ?_
  intro p e s m below meth c A hA0 C hG ls hl
  exact vX4_grow_b0 C (fun v WI WR WL WX hq => ⟨WI, WR, WL, WX, rfl, hq⟩) WI WR WL WX x1 _ _ _ hf hG hl
def rX4_refresh : Room := { frames := 4, cells := 0, slots := 0, locals := 93 }
theorem hdvX4_refresh : yX4_refresh.cls = RX4 ∧ yX4_refresh.cls ≠ "java/lang/invoke/MethodHandle" ∧ yX4_refresh.cls ≠ "java/lang/invoke/VarHandle" ∧ (parseMethodDescriptor yX4_refresh.desc).map (fun d => d.parameters.length) = some 0 := by decide +kernel
theorem inX4_refresh_wsX30 : ∀ w ∈ wsX30, w ∈ wsX4_refresh := (fun _ h => List.mem_cons_of_mem _ (List.mem_append_right _ h))
theorem inX4_refresh_wsX40 : ∀ w ∈ wsX40, w ∈ wsX4_refresh := (fun _ h => List.mem_cons_of_mem _ (List.mem_append_left _ (List.mem_append_right _ h)))
set_option maxHeartbeats 4000000 in
set_option maxRecDepth 100000 in
theorem vX4_refresh_b77 {p : Program} {l : Launch} {e : Env} {s : State} {m : MethodId} {args : Array Value} {below : List Frame} {meth : Method} {c : Code} {D : va_G} {B : Nat → Nat} {A : Nat → Prop} {K : sK} {L : sL} {M : sM} {O : sO} {post : sG → Prop} {SI : Nat → Int32} {SX : Nat → Nat → Int32} {nW : Nat} {wd : Nat → Nat → Nat} {j0 : Nat} {Q : (Nat → Nat → Int32) → (Nat → Nat → Nat) → (Nat → Nat → Int32) → (Nat → Nat → Nat → Int32) → Prop} (C : gX p s m args meth c cX4_refresh 3 (none) wsX4_refresh RX4 D B A) (hpost : ∀ (WI : Nat → Nat → Int32) (WR : Nat → Nat → Nat) (WL : Nat → Nat → Int32) (WX : Nat → Nat → Nat → Int32), Q WI WR WL WX → post ((SI, SX), K, L, (nW, WI, WR, WL, WX, wd), M, O))  (WI : Nat → Nat → Int32) (WR : Nat → Nat → Nat) (WL : Nat → Nat → Int32) (WX : Nat → Nat → Nat → Int32)  (H : Heap) (locs : List Loc) (ls : Array Slot) (hf : fX4_refresh_b77 SI SX nW wd j0 Q WI WR WL WX) (hG : GS D B A s.heap ((SI, SX), K, L, (nW, WI, WR, WL, WX, wd), M, O) H locs) (hl : lv_has ls 3 [(0, .ref (wd 0 j0))]) : W p l e (headSpec wsX4_refresh rX4_refresh).room s m args below meth c H locs 0 0 (MQ below (va_Qv post (gB D B A) A) args s 0 0 A) (F0 m 77 ls []) := by
  obtain ⟨hx, hb, hml, hown, hts, hK, hr, hlk, hA, hN⟩ := id C
  unfold fX4_refresh_b77 at hf
  refine lv_aload_n hx hb dX4_refresh_77 rfl (lv_at hl 0 rfl) ?_
  refine lv_aload_n hx hb dX4_refresh_78 rfl (lv_at hl 0 rfl) ?_
  obtain ⟨h_25, hf⟩ := hf
  refine gg_w_0 C hG h_25 inX4_refresh_wsX40 (hts _ (List.mem_of_getElem? (i := 2) rfl)) dX4_refresh_79 ?_
  refine gg_S_3 C hG inX4_refresh_wsX30 (hts _ (List.mem_of_getElem? (i := 3) rfl)) dX4_refresh_82 ?_
  obtain ⟨h_26, hf⟩ := hf
  refine gp_w_3 C hG h_26 inX4_refresh_wsX40 (hts _ (List.mem_of_getElem? (i := 1) rfl)) dX4_refresh_85 (fun WI_27 H locs eWI_27 hG => ?_)
  replace hf := hf WI_27 eWI_27
  exact g_vret C hG (hpost _ _ _ _ hf) dX4_refresh_88
set_option maxHeartbeats 4000000 in
set_option maxRecDepth 100000 in
theorem vX4_refresh_b70 {p : Program} {l : Launch} {e : Env} {s : State} {m : MethodId} {args : Array Value} {below : List Frame} {meth : Method} {c : Code} {D : va_G} {B : Nat → Nat} {A : Nat → Prop} {K : sK} {L : sL} {M : sM} {O : sO} {post : sG → Prop} {SI : Nat → Int32} {SX : Nat → Nat → Int32} {nW : Nat} {wd : Nat → Nat → Nat} {j0 : Nat} {Q : (Nat → Nat → Int32) → (Nat → Nat → Nat) → (Nat → Nat → Int32) → (Nat → Nat → Nat → Int32) → Prop} (C : gX p s m args meth c cX4_refresh 3 (none) wsX4_refresh RX4 D B A) (hpost : ∀ (WI : Nat → Nat → Int32) (WR : Nat → Nat → Nat) (WL : Nat → Nat → Int32) (WX : Nat → Nat → Nat → Int32), Q WI WR WL WX → post ((SI, SX), K, L, (nW, WI, WR, WL, WX, wd), M, O)) {G43 : (Nat → Nat → Int32) → (Nat → Nat → Nat) → (Nat → Nat → Int32) → (Nat → Nat → Nat → Int32) → Int32 → Int32 → Prop} (hG43 : ∀ (WI : Nat → Nat → Int32) (WR : Nat → Nat → Nat) (WL : Nat → Nat → Int32) (WX : Nat → Nat → Nat → Int32) (y1 : Int32) (y2 : Int32) (H : Heap) (locs : List Loc) (ls : Array Slot), G43 WI WR WL WX y1 y2 → GS D B A s.heap ((SI, SX), K, L, (nW, WI, WR, WL, WX, wd), M, O) H locs → lv_has ls 3 [(0, .ref (wd 0 j0)), (1, .int y1), (2, .int y2)] → W p l e (headSpec wsX4_refresh rX4_refresh).room s m args below meth c H locs 0 0 (MQ below (va_Qv post (gB D B A) A) args s 0 0 A) (F0 m 43 ls [])) (WI : Nat → Nat → Int32) (WR : Nat → Nat → Nat) (WL : Nat → Nat → Int32) (WX : Nat → Nat → Nat → Int32) (y2 : Int32) (t0 : Int32) (H : Heap) (locs : List Loc) (ls : Array Slot) (hf : fX4_refresh_b70 SI SX nW wd j0 G43 Q WI WR WL WX y2 t0) (hG : GS D B A s.heap ((SI, SX), K, L, (nW, WI, WR, WL, WX, wd), M, O) H locs) (hl : lv_has ls 3 [(0, .ref (wd 0 j0)), (2, .int y2)]) : W p l e (headSpec wsX4_refresh rX4_refresh).room s m args below meth c H locs 0 0 (MQ below (va_Qv post (gB D B A) A) args s 0 0 A) (F0 m 70 ls [.int t0]) := by
  obtain ⟨hx, hb, hml, hown, hts, hK, hr, hlk, hA, hN⟩ := id C
  unfold fX4_refresh_b70 at hf
  refine lv_istore_n (lv' := [(1, .int t0), (0, .ref (wd 0 j0)), (2, .int y2)]) hx hb dX4_refresh_70 rfl hl (by decide) rfl (fun ls hl => ?_)
  obtain ⟨x2_24, ex2_24⟩ : ∃ y : Int32, y = y2 + (1 : Int32) := ⟨_, rfl⟩
  replace hf := hf x2_24 ex2_24
  refine lv_iinc (v := x2_24) (lv' := [(2, .int x2_24), (1, .int t0), (0, .ref (wd 0 j0))]) hx hb dX4_refresh_71 hl (k := 2) rfl (by rw [ex2_24]; rfl) (by decide) rfl (fun ls hl => ?_)
  refine lv_goto (tgt := 43) hx hb dX4_refresh_74 (by decide) ?_
  exact hG43 WI WR WL WX t0 x2_24 _ _ _ hf hG (lv_sub hl [2, 1, 0] rfl)
set_option maxHeartbeats 4000000 in
set_option maxRecDepth 100000 in
theorem vX4_refresh_h43 {p : Program} {l : Launch} {e : Env} {s : State} {m : MethodId} {args : Array Value} {below : List Frame} {meth : Method} {c : Code} {D : va_G} {B : Nat → Nat} {A : Nat → Prop} {K : sK} {L : sL} {M : sM} {O : sO} {post : sG → Prop} {SI : Nat → Int32} {SX : Nat → Nat → Int32} {nW : Nat} {wd : Nat → Nat → Nat} {j0 : Nat} {Q : (Nat → Nat → Int32) → (Nat → Nat → Nat) → (Nat → Nat → Int32) → (Nat → Nat → Nat → Int32) → Prop} (C : gX p s m args meth c cX4_refresh 3 (none) wsX4_refresh RX4 D B A) (hpost : ∀ (WI : Nat → Nat → Int32) (WR : Nat → Nat → Nat) (WL : Nat → Nat → Int32) (WX : Nat → Nat → Nat → Int32), Q WI WR WL WX → post ((SI, SX), K, L, (nW, WI, WR, WL, WX, wd), M, O))  : ∀ (n43 : Nat) (WI : Nat → Nat → Int32) (WR : Nat → Nat → Nat) (WL : Nat → Nat → Int32) (WX : Nat → Nat → Nat → Int32) (y1 : Int32) (y2 : Int32) (H : Heap) (locs : List Loc) (ls : Array Slot), fX4_refresh_h43 SI SX nW wd j0 Q n43 WI WR WL WX y1 y2 → GS D B A s.heap ((SI, SX), K, L, (nW, WI, WR, WL, WX, wd), M, O) H locs → lv_has ls 3 [(0, .ref (wd 0 j0)), (1, .int y1), (2, .int y2)] → W p l e (headSpec wsX4_refresh rX4_refresh).room s m args below meth c H locs 0 0 (MQ below (va_Qv post (gB D B A) A) args s 0 0 A) (F0 m 43 ls []) := by
  obtain ⟨hx, hb, hml, hown, hts, hK, hr, hlk, hA, hN⟩ := id C
  intro n43
  induction n43 with
  | zero =>
    intro WI WR WL WX y1 y2 H locs ls hf
    exact False.elim hf
  | succ n43 hG43 =>
    intro WI WR WL WX y1 y2 H locs ls hf hG hl
    unfold fX4_refresh_h43 at hf
    refine lv_iload_n hx hb dX4_refresh_43 rfl (lv_at hl 2 rfl) ?_
    refine lv_sipush (v := (1666 : Int32)) hx hb dX4_refresh_44 (by decide) ?_
    refine lv_icmp_gt (tgt := 77) hx hb dX4_refresh_47 (by decide) (fun c_15 => ?_) (fun c_15 => ?_)
    · replace hf := hf.1 c_15
      exact vX4_refresh_b77 C hpost  WI WR WL WX _ _ _ hf hG (lv_sub hl [0] rfl)
    · replace hf := hf.2 c_15
      refine lv_iload_n hx hb dX4_refresh_50 rfl (lv_at hl 1 rfl) ?_
      refine lv_iconst (v := (2 : Int32)) hx hb dX4_refresh_51 (by decide) ?_
      refine lv_icmp_ge (tgt := 77) hx hb dX4_refresh_52 (by decide) (fun c_16 => ?_) (fun c_16 => ?_)
      · replace hf := hf.1 c_16
        exact vX4_refresh_b77 C hpost  WI WR WL WX _ _ _ hf hG (lv_sub hl [0] rfl)
      · replace hf := hf.2 c_16
        refine lv_aload_n hx hb dX4_refresh_55 rfl (lv_at hl 0 rfl) ?_
        refine lv_iload_n hx hb dX4_refresh_56 rfl (lv_at hl 2 rfl) ?_
        obtain ⟨h_22, hf⟩ := hf
        refine g_callVi0 (As := [.int y2]) C hG (kX4_grow hf) (cwV 1 hts gX4_refresh_X4_grow rfl rfl rfl hdvX4_grow ⟨Nat.le_of_ble_eq_true rfl, Nat.le_of_ble_eq_true rfl⟩) (g_recv_w hK hG h_22) rfl hl.1 rfl (Nat.le_of_ble_eq_true rfl) dX4_refresh_57 ⟨Nat.zero_le _, Nat.zero_le _⟩ (fun r_21 g1 H locs hq hG => ?_)
        obtain ⟨WI_17, WR_18, WL_19, WX_20, rfl, hf⟩ := hq
        refine lv_if_eq (tgt := 67) hx hb dX4_refresh_60 (by decide) (fun c_23 => ?_) (fun c_23 => ?_)
        · replace hf := hf.1 c_23
          refine lv_iload_n hx hb dX4_refresh_67 rfl (lv_at hl 1 rfl) ?_
          refine lv_iconst (v := (1 : Int32)) hx hb dX4_refresh_68 (by decide) ?_
          refine lv_iadd hx hb dX4_refresh_69 ?_
          exact vX4_refresh_b70 C hpost hG43 WI_17 WR_18 WL_19 WX_20 y2 (y1 + (1 : Int32)) _ _ _ hf hG (lv_sub hl [0, 2] rfl)
        · replace hf := hf.2 c_23
          refine lv_iconst (v := (0 : Int32)) hx hb dX4_refresh_63 (by decide) ?_
          refine lv_goto (tgt := 70) hx hb dX4_refresh_64 (by decide) ?_
          exact vX4_refresh_b70 C hpost hG43 WI_17 WR_18 WL_19 WX_20 y2 (0 : Int32) _ _ _ hf hG (lv_sub hl [0, 2] rfl)
set_option maxHeartbeats 4000000 in
set_option maxRecDepth 100000 in
theorem vX4_refresh_b0 {p : Program} {l : Launch} {e : Env} {s : State} {m : MethodId} {args : Array Value} {below : List Frame} {meth : Method} {c : Code} {D : va_G} {B : Nat → Nat} {A : Nat → Prop} {K : sK} {L : sL} {M : sM} {O : sO} {post : sG → Prop} {SI : Nat → Int32} {SX : Nat → Nat → Int32} {nW : Nat} {wd : Nat → Nat → Nat} {j0 : Nat} {Q : (Nat → Nat → Int32) → (Nat → Nat → Nat) → (Nat → Nat → Int32) → (Nat → Nat → Nat → Int32) → Prop} (C : gX p s m args meth c cX4_refresh 3 (none) wsX4_refresh RX4 D B A) (hpost : ∀ (WI : Nat → Nat → Int32) (WR : Nat → Nat → Nat) (WL : Nat → Nat → Int32) (WX : Nat → Nat → Nat → Int32), Q WI WR WL WX → post ((SI, SX), K, L, (nW, WI, WR, WL, WX, wd), M, O))  (WI : Nat → Nat → Int32) (WR : Nat → Nat → Nat) (WL : Nat → Nat → Int32) (WX : Nat → Nat → Nat → Int32)  (H : Heap) (locs : List Loc) (ls : Array Slot) (hf : fX4_refresh SI SX nW wd j0 Q WI WR WL WX) (hG : GS D B A s.heap ((SI, SX), K, L, (nW, WI, WR, WL, WX, wd), M, O) H locs) (hl : lv_has ls 3 [(0, .ref (wd 0 j0))]) : W p l e (headSpec wsX4_refresh rX4_refresh).room s m args below meth c H locs 0 0 (MQ below (va_Qv post (gB D B A) A) args s 0 0 A) (F0 m 0 ls []) := by
  obtain ⟨hx, hb, hml, hown, hts, hK, hr, hlk, hA, hN⟩ := id C
  unfold fX4_refresh at hf
  refine lv_aload_n hx hb dX4_refresh_0 rfl (lv_at hl 0 rfl) ?_
  obtain ⟨h_1, hf⟩ := hf
  refine gg_w_3 C hG h_1 inX4_refresh_wsX40 (hts _ (List.mem_of_getElem? (i := 1) rfl)) dX4_refresh_1 ?_
  refine lv_aload_n hx hb dX4_refresh_4 rfl (lv_at hl 0 rfl) ?_
  obtain ⟨h_2, hf⟩ := hf
  refine gg_w_0 C hG h_2 inX4_refresh_wsX40 (hts _ (List.mem_of_getElem? (i := 2) rfl)) dX4_refresh_5 ?_
  refine gg_S_3 C hG inX4_refresh_wsX30 (hts _ (List.mem_of_getElem? (i := 3) rfl)) dX4_refresh_8 ?_
  refine lv_icmp_ne (tgt := 15) hx hb dX4_refresh_11 (by decide) (fun c_3 => ?_) (fun c_3 => ?_)
  · replace hf := hf.1 c_3
    refine lv_aload_n hx hb dX4_refresh_15 rfl (lv_at hl 0 rfl) ?_
    obtain ⟨h_4, hf⟩ := hf
    refine gg_w_2 C hG h_4 inX4_refresh_wsX40 (hts _ (List.mem_of_getElem? (i := 4) rfl)) dX4_refresh_16 ?_
    refine lv_iconst (v := (-1 : Int32)) hx hb dX4_refresh_19 (by decide) ?_
    obtain ⟨h_5, hf⟩ := hf
    refine g_callSv0 (As := [.ref (wd 1 j0), .int (-1 : Int32)]) C hG (kfill_wt h_5 (-1 : Int32)) (va_cwS 2 hts gX4_refresh_J7_fill_53178 rfl rfl rfl hdsJ7_fill_53178 ⟨Nat.le_of_ble_eq_true rfl, Nat.le_of_ble_eq_true rfl⟩) rfl hl.1 rfl (Nat.le_of_ble_eq_true rfl) dX4_refresh_20 ⟨Nat.zero_le _, Nat.zero_le _⟩ (fun g1 H locs hq hG => ?_)
    subst hq
    obtain ⟨WL_6, eWL_6⟩ : ∃ y : Nat → Nat → Int32, y = va_up WL j0 (gfill 1792 (-1 : Int32) (WL j0)) := ⟨_, rfl⟩
    rw [← eWL_6] at hG
    replace hf := hf WL_6 eWL_6
    refine lv_aload_n hx hb dX4_refresh_23 rfl (lv_at hl 0 rfl) ?_
    obtain ⟨h_7, hf⟩ := hf
    refine gg_w_4 C hG h_7 inX4_refresh_wsX40 (hts _ (List.mem_of_getElem? (i := 5) rfl)) dX4_refresh_24 ?_
    refine lv_iconst (v := (0 : Int32)) hx hb dX4_refresh_27 (by decide) ?_
    obtain ⟨h_8, h_9, hf⟩ := hf
    refine g_callSv0 (As := [.ref (wd (WR j0 4) j0), .int (0 : Int32)]) C hG (kfill_wa h_8 h_9 (0 : Int32)) (va_cwS 2 hts gX4_refresh_J7_fill_53178 rfl rfl rfl hdsJ7_fill_53178 ⟨Nat.le_of_ble_eq_true rfl, Nat.le_of_ble_eq_true rfl⟩) rfl hl.1 rfl (Nat.le_of_ble_eq_true rfl) dX4_refresh_28 ⟨Nat.zero_le _, Nat.zero_le _⟩ (fun g1 H locs hq hG => ?_)
    subst hq
    obtain ⟨WX_10, eWX_10⟩ : ∃ y : Nat → Nat → Nat → Int32, y = va_up WX (WR j0 4) (va_up (WX (WR j0 4)) j0 (gfill 56 (0 : Int32) (WX (WR j0 4) j0))) := ⟨_, rfl⟩
    rw [← eWX_10] at hG
    replace hf := hf WX_10 eWX_10
    refine lv_aload_n hx hb dX4_refresh_31 rfl (lv_at hl 0 rfl) ?_
    obtain ⟨h_11, hf⟩ := hf
    refine gg_w_5 C hG h_11 inX4_refresh_wsX40 (hts _ (List.mem_of_getElem? (i := 6) rfl)) dX4_refresh_32 ?_
    refine lv_iconst (v := (0 : Int32)) hx hb dX4_refresh_35 (by decide) ?_
    obtain ⟨h_12, h_13, hf⟩ := hf
    refine g_callSv0 (As := [.ref (wd (WR j0 5) j0), .int (0 : Int32)]) C hG (kfill_wa h_12 h_13 (0 : Int32)) (va_cwS 2 hts gX4_refresh_J7_fill_53178 rfl rfl rfl hdsJ7_fill_53178 ⟨Nat.le_of_ble_eq_true rfl, Nat.le_of_ble_eq_true rfl⟩) rfl hl.1 rfl (Nat.le_of_ble_eq_true rfl) dX4_refresh_36 ⟨Nat.zero_le _, Nat.zero_le _⟩ (fun g1 H locs hq hG => ?_)
    subst hq
    obtain ⟨WX_14, eWX_14⟩ : ∃ y : Nat → Nat → Nat → Int32, y = va_up WX_10 (WR j0 5) (va_up (WX_10 (WR j0 5)) j0 (gfill 56 (0 : Int32) (WX_10 (WR j0 5) j0))) := ⟨_, rfl⟩
    rw [← eWX_14] at hG
    replace hf := hf WX_14 eWX_14
    refine lv_iconst (v := (0 : Int32)) hx hb dX4_refresh_39 (by decide) ?_
    refine lv_istore_n (lv' := [(1, .int (0 : Int32)), (0, .ref (wd 0 j0))]) hx hb dX4_refresh_40 rfl hl (by decide) rfl (fun ls hl => ?_)
    refine lv_iconst (v := (1 : Int32)) hx hb dX4_refresh_41 (by decide) ?_
    refine lv_istore_n (lv' := [(2, .int (1 : Int32)), (1, .int (0 : Int32)), (0, .ref (wd 0 j0))]) hx hb dX4_refresh_42 rfl hl (by decide) rfl (fun ls hl => ?_)
    obtain ⟨n43, hf⟩ := hf
    exact vX4_refresh_h43 C hpost  n43 WI WR WL_6 WX_14 (0 : Int32) (1 : Int32) _ _ _ hf hG (lv_sub hl [2, 1, 0] rfl)
  · replace hf := hf.2 c_3
    exact g_vret C hG (hpost _ _ _ _ hf) dX4_refresh_14
set_option maxRecDepth 100000 in
theorem kX4_refresh {l : Launch} {D : va_G} {B : Nat → Nat} {K : sK} {L : sL} {M : sM} {O : sO} {SI : Nat → Int32} {SX : Nat → Nat → Int32} {nW : Nat} {wd : Nat → Nat → Nat} {j0 : Nat} {Q : (Nat → Nat → Int32) → (Nat → Nat → Nat) → (Nat → Nat → Int32) → (Nat → Nat → Nat → Int32) → Prop} {WI : Nat → Nat → Int32} {WR : Nat → Nat → Nat} {WL : Nat → Nat → Int32} {WX : Nat → Nat → Nat → Int32} (hf : fX4_refresh SI SX nW wd j0 Q WI WR WL WX) : gMv D B l yX4_refresh wsX4_refresh rX4_refresh 0 0 [.ref (wd 0 j0)] ((SI, SX), K, L, (nW, WI, WR, WL, WX, wd), M, O) (fun g1 => ∃ (WI1 : Nat → Nat → Int32) (WR1 : Nat → Nat → Nat) (WL1 : Nat → Nat → Int32) (WX1 : Nat → Nat → Nat → Int32), g1 = ((SI, SX), K, L, (nW, WI1, WR1, WL1, WX1, wd), M, O) ∧ Q WI1 WR1 WL1 WX1) := by
  refine gMv_of (cc := cX4_refresh) (maxL := 3) (ret := none) (by decide +kernel) rfl (Nat.le_of_ble_eq_true rfl) ?_
  intro p e s m below meth c A hA0 C hG ls hl
  exact vX4_refresh_b0 C (fun WI WR WL WX hq => ⟨WI, WR, WL, WX, rfl, hq⟩) WI WR WL WX _ _ _ hf hG hl
def rX0_doorIn : Room := { frames := 0, cells := 0, slots := 0, locals := 0 }
theorem hdsX0_doorIn : yX0_doorIn.cls ≠ "java/lang/invoke/MethodHandle" ∧ yX0_doorIn.cls ≠ "java/lang/invoke/VarHandle" ∧ (parseMethodDescriptor yX0_doorIn.desc).map (fun d => d.parameters.length) = some 1 := by decide +kernel
set_option maxHeartbeats 4000000 in
set_option maxRecDepth 100000 in
theorem vX0_doorIn_b0 {p : Program} {l : Launch} {e : Env} {s : State} {m : MethodId} {args : Array Value} {below : List Frame} {meth : Method} {c : Code} {D : va_G} {B : Nat → Nat} {A : Nat → Prop} {S : sS} {K : sK} {L : sL} {Y : sY} {M : sM} {O : sO} {post : Int32 → sG → Prop} {Q : Int32 → Prop} (C : gX p s m args meth c cX0_doorIn 1 (some .int) wsX0_doorIn RX0 D B A) (hpost : ∀ (v : Int32) , Q v  → post v (S, K, L, Y, M, O))   (x0 : Int32) (H : Heap) (locs : List Loc) (ls : Array Slot) (hf : fX0_doorIn Q x0) (hG : GS D B A s.heap (S, K, L, Y, M, O) H locs) (hl : lv_has ls 1 [(0, .int x0)]) : W p l e (headSpec wsX0_doorIn rX0_doorIn).room s m args below meth c H locs 0 0 (MQ below (va_Qi post (gB D B A) A) args s 0 0 A) (F0 m 0 ls []) := by
  obtain ⟨hx, hb, hml, hown, hts, hK, hr, hlk, hA, hN⟩ := id C
  unfold fX0_doorIn at hf
  refine lv_iconst (v := (2 : Int32)) hx hb dX0_doorIn_0 (by decide) ?_
  refine lv_iload_n hx hb dX0_doorIn_1 rfl (lv_at hl 0 rfl) ?_
  refine lv_imul hx hb dX0_doorIn_2 ?_
  exact g_iret C hG (hpost _ hf) dX0_doorIn_3
set_option maxRecDepth 100000 in
theorem kX0_doorIn {l : Launch} {D : va_G} {B : Nat → Nat} {S : sS} {K : sK} {L : sL} {Y : sY} {M : sM} {O : sO}  {Q : Int32 → Prop} {x0 : Int32} (hf : fX0_doorIn Q x0) : gMi D B l yX0_doorIn wsX0_doorIn rX0_doorIn 0 0 [.int x0] (S, K, L, Y, M, O) (fun r g1 => g1 = (S, K, L, Y, M, O) ∧ Q r ) := by
  refine gMi_of (cc := cX0_doorIn) (maxL := 1) (ret := some .int) (by decide +kernel) rfl (Nat.le_of_ble_eq_true rfl) ?_
  intro p e s m below meth c A hA0 C hG ls hl
  exact vX0_doorIn_b0 C (fun v  hq => ⟨rfl, hq⟩) x0 _ _ _ hf hG hl
def rX0_doorOut : Room := { frames := 0, cells := 0, slots := 0, locals := 0 }
theorem hdsX0_doorOut : yX0_doorOut.cls ≠ "java/lang/invoke/MethodHandle" ∧ yX0_doorOut.cls ≠ "java/lang/invoke/VarHandle" ∧ (parseMethodDescriptor yX0_doorOut.desc).map (fun d => d.parameters.length) = some 1 := by decide +kernel
set_option maxHeartbeats 4000000 in
set_option maxRecDepth 100000 in
theorem vX0_doorOut_b0 {p : Program} {l : Launch} {e : Env} {s : State} {m : MethodId} {args : Array Value} {below : List Frame} {meth : Method} {c : Code} {D : va_G} {B : Nat → Nat} {A : Nat → Prop} {S : sS} {K : sK} {L : sL} {Y : sY} {M : sM} {O : sO} {post : Int32 → sG → Prop} {Q : Int32 → Prop} (C : gX p s m args meth c cX0_doorOut 1 (some .int) wsX0_doorOut RX0 D B A) (hpost : ∀ (v : Int32) , Q v  → post v (S, K, L, Y, M, O))   (x0 : Int32) (H : Heap) (locs : List Loc) (ls : Array Slot) (hf : fX0_doorOut Q x0) (hG : GS D B A s.heap (S, K, L, Y, M, O) H locs) (hl : lv_has ls 1 [(0, .int x0)]) : W p l e (headSpec wsX0_doorOut rX0_doorOut).room s m args below meth c H locs 0 0 (MQ below (va_Qi post (gB D B A) A) args s 0 0 A) (F0 m 0 ls []) := by
  obtain ⟨hx, hb, hml, hown, hts, hK, hr, hlk, hA, hN⟩ := id C
  unfold fX0_doorOut at hf
  refine lv_iconst (v := (2 : Int32)) hx hb dX0_doorOut_0 (by decide) ?_
  refine lv_iload_n hx hb dX0_doorOut_1 rfl (lv_at hl 0 rfl) ?_
  refine lv_imul hx hb dX0_doorOut_2 ?_
  refine lv_iconst (v := (1 : Int32)) hx hb dX0_doorOut_3 (by decide) ?_
  refine lv_iadd hx hb dX0_doorOut_4 ?_
  exact g_iret C hG (hpost _ hf) dX0_doorOut_5
set_option maxRecDepth 100000 in
theorem kX0_doorOut {l : Launch} {D : va_G} {B : Nat → Nat} {S : sS} {K : sK} {L : sL} {Y : sY} {M : sM} {O : sO}  {Q : Int32 → Prop} {x0 : Int32} (hf : fX0_doorOut Q x0) : gMi D B l yX0_doorOut wsX0_doorOut rX0_doorOut 0 0 [.int x0] (S, K, L, Y, M, O) (fun r g1 => g1 = (S, K, L, Y, M, O) ∧ Q r ) := by
  refine gMi_of (cc := cX0_doorOut) (maxL := 1) (ret := some .int) (by decide +kernel) rfl (Nat.le_of_ble_eq_true rfl) ?_
  intro p e s m below meth c A hA0 C hG ls hl
  exact vX0_doorOut_b0 C (fun v  hq => ⟨rfl, hq⟩) x0 _ _ _ hf hG hl
def rX0_isOut : Room := { frames := 0, cells := 0, slots := 0, locals := 0 }
theorem hdsX0_isOut : yX0_isOut.cls ≠ "java/lang/invoke/MethodHandle" ∧ yX0_isOut.cls ≠ "java/lang/invoke/VarHandle" ∧ (parseMethodDescriptor yX0_isOut.desc).map (fun d => d.parameters.length) = some 1 := by decide +kernel
set_option maxHeartbeats 4000000 in
set_option maxRecDepth 100000 in
theorem vX0_isOut_b0 {p : Program} {l : Launch} {e : Env} {s : State} {m : MethodId} {args : Array Value} {below : List Frame} {meth : Method} {c : Code} {D : va_G} {B : Nat → Nat} {A : Nat → Prop} {S : sS} {K : sK} {L : sL} {Y : sY} {M : sM} {O : sO} {post : Int32 → sG → Prop} {Q : Int32 → Prop} (C : gX p s m args meth c cX0_isOut 1 (some .boolean) wsX0_isOut RX0 D B A) (hpost : ∀ (v : Int32) , Q v  → post v (S, K, L, Y, M, O))   (x0 : Int32) (H : Heap) (locs : List Loc) (ls : Array Slot) (hf : fX0_isOut Q x0) (hG : GS D B A s.heap (S, K, L, Y, M, O) H locs) (hl : lv_has ls 1 [(0, .int x0)]) : W p l e (headSpec wsX0_isOut rX0_isOut).room s m args below meth c H locs 0 0 (MQ below (va_Qi post (gB D B A) A) args s 0 0 A) (F0 m 0 ls []) := by
  obtain ⟨hx, hb, hml, hown, hts, hK, hr, hlk, hA, hN⟩ := id C
  unfold fX0_isOut at hf
  refine lv_iload_n hx hb dX0_isOut_0 rfl (lv_at hl 0 rfl) ?_
  refine lv_iconst (v := (1 : Int32)) hx hb dX0_isOut_1 (by decide) ?_
  refine lv_iand hx hb dX0_isOut_2 ?_
  refine lv_if_eq (tgt := 10) hx hb dX0_isOut_3 (by decide) (fun c_1 => ?_) (fun c_1 => ?_)
  · replace hf := hf.1 c_1
    refine lv_iconst (v := (0 : Int32)) hx hb dX0_isOut_10 (by decide) ?_
    exact g_zret C hG rfl (hpost _ hf) dX0_isOut_11
  · replace hf := hf.2 c_1
    refine lv_iconst (v := (1 : Int32)) hx hb dX0_isOut_6 (by decide) ?_
    refine lv_goto (tgt := 11) hx hb dX0_isOut_7 (by decide) ?_
    exact g_zret C hG rfl (hpost _ hf) dX0_isOut_11
set_option maxRecDepth 100000 in
theorem kX0_isOut {l : Launch} {D : va_G} {B : Nat → Nat} {S : sS} {K : sK} {L : sL} {Y : sY} {M : sM} {O : sO}  {Q : Int32 → Prop} {x0 : Int32} (hf : fX0_isOut Q x0) : gMi D B l yX0_isOut wsX0_isOut rX0_isOut 0 0 [.int x0] (S, K, L, Y, M, O) (fun r g1 => g1 = (S, K, L, Y, M, O) ∧ Q r ) := by
  refine gMi_of (cc := cX0_isOut) (maxL := 1) (ret := some .boolean) (by decide +kernel) rfl (Nat.le_of_ble_eq_true rfl) ?_
  intro p e s m below meth c A hA0 C hG ls hl
  exact vX0_isOut_b0 C (fun v  hq => ⟨rfl, hq⟩) x0 _ _ _ hf hG hl
def rX0_relayOf : Room := { frames := 0, cells := 0, slots := 0, locals := 0 }
theorem hdsX0_relayOf : yX0_relayOf.cls ≠ "java/lang/invoke/MethodHandle" ∧ yX0_relayOf.cls ≠ "java/lang/invoke/VarHandle" ∧ (parseMethodDescriptor yX0_relayOf.desc).map (fun d => d.parameters.length) = some 1 := by decide +kernel
set_option maxHeartbeats 4000000 in
set_option maxRecDepth 100000 in
theorem vX0_relayOf_b0 {p : Program} {l : Launch} {e : Env} {s : State} {m : MethodId} {args : Array Value} {below : List Frame} {meth : Method} {c : Code} {D : va_G} {B : Nat → Nat} {A : Nat → Prop} {S : sS} {K : sK} {L : sL} {Y : sY} {M : sM} {O : sO} {post : Int32 → sG → Prop} {Q : Int32 → Prop} (C : gX p s m args meth c cX0_relayOf 1 (some .int) wsX0_relayOf RX0 D B A) (hpost : ∀ (v : Int32) , Q v  → post v (S, K, L, Y, M, O))   (x0 : Int32) (H : Heap) (locs : List Loc) (ls : Array Slot) (hf : fX0_relayOf Q x0) (hG : GS D B A s.heap (S, K, L, Y, M, O) H locs) (hl : lv_has ls 1 [(0, .int x0)]) : W p l e (headSpec wsX0_relayOf rX0_relayOf).room s m args below meth c H locs 0 0 (MQ below (va_Qi post (gB D B A) A) args s 0 0 A) (F0 m 0 ls []) := by
  obtain ⟨hx, hb, hml, hown, hts, hK, hr, hlk, hA, hN⟩ := id C
  unfold fX0_relayOf at hf
  refine lv_iload_n hx hb dX0_relayOf_0 rfl (lv_at hl 0 rfl) ?_
  refine lv_iconst (v := (1 : Int32)) hx hb dX0_relayOf_1 (by decide) ?_
  refine lv_ishr hx hb dX0_relayOf_2 ?_
  exact g_iret C hG (hpost _ hf) dX0_relayOf_3
set_option maxRecDepth 100000 in
theorem kX0_relayOf {l : Launch} {D : va_G} {B : Nat → Nat} {S : sS} {K : sK} {L : sL} {Y : sY} {M : sM} {O : sO}  {Q : Int32 → Prop} {x0 : Int32} (hf : fX0_relayOf Q x0) : gMi D B l yX0_relayOf wsX0_relayOf rX0_relayOf 0 0 [.int x0] (S, K, L, Y, M, O) (fun r g1 => g1 = (S, K, L, Y, M, O) ∧ Q r ) := by
  refine gMi_of (cc := cX0_relayOf) (maxL := 1) (ret := some .int) (by decide +kernel) rfl (Nat.le_of_ble_eq_true rfl) ?_
  intro p e s m below meth c A hA0 C hG ls hl
  exact vX0_relayOf_b0 C (fun v  hq => ⟨rfl, hq⟩) x0 _ _ _ hf hG hl
def rX0_enter : Room := { frames := 0, cells := 0, slots := 0, locals := 0 }
theorem hdvX0_enter : yX0_enter.cls = RX0 ∧ yX0_enter.cls ≠ "java/lang/invoke/MethodHandle" ∧ yX0_enter.cls ≠ "java/lang/invoke/VarHandle" ∧ (parseMethodDescriptor yX0_enter.desc).map (fun d => d.parameters.length) = some 2 := by decide +kernel
theorem inX0_enter_wsX00 : ∀ w ∈ wsX00, w ∈ wsX0_enter := (fun _ h => List.mem_cons_of_mem _ (List.mem_append_right _ h))
set_option maxHeartbeats 4000000 in
set_option maxRecDepth 100000 in
theorem vX0_enter_b0 {p : Program} {l : Launch} {e : Env} {s : State} {m : MethodId} {args : Array Value} {below : List Frame} {meth : Method} {c : Code} {D : va_G} {B : Nat → Nat} {A : Nat → Prop} {S : sS} {L : sL} {Y : sY} {M : sM} {O : sO} {post : sG → Prop} {Q : (Int64) → (Int32) → (Nat → Nat → Int64) → (Nat → Nat → Int32) → Prop} (C : gX p s m args meth c cX0_enter 3 (none) wsX0_enter RX0 D B A) (hpost : ∀ (CU : Int64) (CQ : Int32) (CJ : Nat → Nat → Int64) (CX : Nat → Nat → Int32), Q CU CQ CJ CX → post (S, (CU, CQ, CJ, CX), L, Y, M, O))  (CU : Int64) (CQ : Int32) (CJ : Nat → Nat → Int64) (CX : Nat → Nat → Int32) (x1 : Int32) (x2 : Int32) (H : Heap) (locs : List Loc) (ls : Array Slot) (hf : fX0_enter Q CU CQ CJ CX x1 x2) (hG : GS D B A s.heap (S, (CU, CQ, CJ, CX), L, Y, M, O) H locs) (hl : lv_has ls 3 [(0, .ref (B 3)), (1, .int x1), (2, .int x2)]) : W p l e (headSpec wsX0_enter rX0_enter).room s m args below meth c H locs 0 0 (MQ below (va_Qv post (gB D B A) A) args s 0 0 A) (F0 m 0 ls []) := by
  obtain ⟨hx, hb, hml, hown, hts, hK, hr, hlk, hA, hN⟩ := id C
  unfold fX0_enter at hf
  refine lv_aload_n hx hb dX0_enter_0 rfl (lv_at hl 0 rfl) ?_
  refine gg_K_4 C hG inX0_enter_wsX00 (hts _ (List.mem_of_getElem? (i := 1) rfl)) dX0_enter_1 ?_
  refine lv_iload_n hx hb dX0_enter_4 rfl (lv_at hl 1 rfl) ?_
  obtain ⟨h_1, hf⟩ := hf
  refine ga_K_4 C hG h_1 dX0_enter_5 ?_
  refine lv_iconst (v := (-1 : Int32)) hx hb dX0_enter_6 (by decide) ?_
  refine lv_icmp_ne (tgt := 46) hx hb dX0_enter_7 (by decide) (fun c_2 => ?_) (fun c_2 => ?_)
  · replace hf := hf.1 c_2
    exact g_vret C hG (hpost _ _ _ _ hf) dX0_enter_46
  · replace hf := hf.2 c_2
    refine lv_aload_n hx hb dX0_enter_10 rfl (lv_at hl 0 rfl) ?_
    refine gg_K_6 C hG inX0_enter_wsX00 (hts _ (List.mem_of_getElem? (i := 2) rfl)) dX0_enter_11 ?_
    refine lv_bipush (v := (96 : Int32)) hx hb dX0_enter_14 (by decide) ?_
    refine lv_icmp_ge (tgt := 46) hx hb dX0_enter_16 (by decide) (fun c_3 => ?_) (fun c_3 => ?_)
    · replace hf := hf.1 c_3
      exact g_vret C hG (hpost _ _ _ _ hf) dX0_enter_46
    · replace hf := hf.2 c_3
      refine lv_aload_n hx hb dX0_enter_19 rfl (lv_at hl 0 rfl) ?_
      refine gg_K_4 C hG inX0_enter_wsX00 (hts _ (List.mem_of_getElem? (i := 1) rfl)) dX0_enter_20 ?_
      refine lv_iload_n hx hb dX0_enter_23 rfl (lv_at hl 1 rfl) ?_
      refine lv_iload_n hx hb dX0_enter_24 rfl (lv_at hl 2 rfl) ?_
      obtain ⟨h_4, hf⟩ := hf
      refine gs_K_4 C hG h_4 dX0_enter_25 (fun CX_5 H locs eCX_5 hG => ?_)
      replace hf := hf CX_5 eCX_5
      refine lv_aload_n hx hb dX0_enter_26 rfl (lv_at hl 0 rfl) ?_
      refine gg_K_5 C hG inX0_enter_wsX00 (hts _ (List.mem_of_getElem? (i := 3) rfl)) dX0_enter_27 ?_
      refine lv_aload_n hx hb dX0_enter_30 rfl (lv_at hl 0 rfl) ?_
      refine gg_K_6 C hG inX0_enter_wsX00 (hts _ (List.mem_of_getElem? (i := 2) rfl)) dX0_enter_31 ?_
      refine lv_iload_n hx hb dX0_enter_34 rfl (lv_at hl 1 rfl) ?_
      obtain ⟨h_6, hf⟩ := hf
      refine gs_K_5 C hG h_6 dX0_enter_35 (fun CX_7 H locs eCX_7 hG => ?_)
      replace hf := hf CX_7 eCX_7
      refine lv_aload_n hx hb dX0_enter_36 rfl (lv_at hl 0 rfl) ?_
      refine lv_dup hx hb dX0_enter_37 rfl ?_
      refine gg_K_6 C hG inX0_enter_wsX00 (hts _ (List.mem_of_getElem? (i := 2) rfl)) dX0_enter_38 ?_
      refine lv_iconst (v := (1 : Int32)) hx hb dX0_enter_41 (by decide) ?_
      refine lv_iadd hx hb dX0_enter_42 ?_
      refine gp_K_6 C hG inX0_enter_wsX00 (hts _ (List.mem_of_getElem? (i := 2) rfl)) dX0_enter_43 (fun CQ_8 H locs eCQ_8 hG => ?_)
      replace hf := hf CQ_8 eCQ_8
      exact g_vret C hG (hpost _ _ _ _ hf) dX0_enter_46
set_option maxRecDepth 100000 in
theorem kX0_enter {l : Launch} {D : va_G} {B : Nat → Nat} {S : sS} {L : sL} {Y : sY} {M : sM} {O : sO}  {Q : (Int64) → (Int32) → (Nat → Nat → Int64) → (Nat → Nat → Int32) → Prop} {CU : Int64} {CQ : Int32} {CJ : Nat → Nat → Int64} {CX : Nat → Nat → Int32} {x1 : Int32} {x2 : Int32} (hf : fX0_enter Q CU CQ CJ CX x1 x2) : gMv D B l yX0_enter wsX0_enter rX0_enter 0 0 [.ref (B 3), .int x1, .int x2] (S, (CU, CQ, CJ, CX), L, Y, M, O) (fun g1 => ∃ (CU1 : Int64) (CQ1 : Int32) (CJ1 : Nat → Nat → Int64) (CX1 : Nat → Nat → Int32), g1 = (S, (CU1, CQ1, CJ1, CX1), L, Y, M, O) ∧ Q CU1 CQ1 CJ1 CX1) := by
  refine gMv_of (cc := cX0_enter) (maxL := 3) (ret := none) (by decide +kernel) rfl (Nat.le_of_ble_eq_true rfl) ?_
  intro p e s m below meth c A hA0 C hG ls hl
  exact vX0_enter_b0 C (fun CU CQ CJ CX hq => ⟨CU, CQ, CJ, CX, rfl, hq⟩) CU CQ CJ CX x1 x2 _ _ _ hf hG hl
def rX0_goOnFromIn : Room := { frames := 1, cells := 0, slots := 0, locals := 22 }
theorem hdvX0_goOnFromIn : yX0_goOnFromIn.cls = RX0 ∧ yX0_goOnFromIn.cls ≠ "java/lang/invoke/MethodHandle" ∧ yX0_goOnFromIn.cls ≠ "java/lang/invoke/VarHandle" ∧ (parseMethodDescriptor yX0_goOnFromIn.desc).map (fun d => d.parameters.length) = some 1 := by decide +kernel
theorem inX0_goOnFromIn_wsX00 : ∀ w ∈ wsX00, w ∈ wsX0_goOnFromIn := (fun _ h => List.mem_cons_of_mem _ (List.mem_append_left _ (List.mem_append_right _ h)))
theorem inX0_goOnFromIn_wsX30 : ∀ w ∈ wsX30, w ∈ wsX0_goOnFromIn := (fun _ h => List.mem_cons_of_mem _ (List.mem_append_right _ h))
set_option maxHeartbeats 4000000 in
set_option maxRecDepth 100000 in
theorem vX0_goOnFromIn_b67 {p : Program} {l : Launch} {e : Env} {s : State} {m : MethodId} {args : Array Value} {below : List Frame} {meth : Method} {c : Code} {D : va_G} {B : Nat → Nat} {A : Nat → Prop} {L : sL} {Y : sY} {M : sM} {O : sO} {post : sG → Prop} {SI : Nat → Int32} {SX : Nat → Nat → Int32} {Q : (Int64) → (Int32) → (Nat → Nat → Int64) → (Nat → Nat → Int32) → Prop} (C : gX p s m args meth c cX0_goOnFromIn 4 (none) wsX0_goOnFromIn RX0 D B A) (hpost : ∀ (CU : Int64) (CQ : Int32) (CJ : Nat → Nat → Int64) (CX : Nat → Nat → Int32), Q CU CQ CJ CX → post ((SI, SX), (CU, CQ, CJ, CX), L, Y, M, O)) {G31 : (Int64) → (Int32) → (Nat → Nat → Int64) → (Nat → Nat → Int32) → Int32 → Int32 → Int32 → Prop} (hG31 : ∀ (CU : Int64) (CQ : Int32) (CJ : Nat → Nat → Int64) (CX : Nat → Nat → Int32) (y1 : Int32) (y2 : Int32) (y3 : Int32) (H : Heap) (locs : List Loc) (ls : Array Slot), G31 CU CQ CJ CX y1 y2 y3 → GS D B A s.heap ((SI, SX), (CU, CQ, CJ, CX), L, Y, M, O) H locs → lv_has ls 4 [(0, .ref (B 3)), (1, .int y1), (2, .int y2), (3, .int y3)] → W p l e (headSpec wsX0_goOnFromIn rX0_goOnFromIn).room s m args below meth c H locs 0 0 (MQ below (va_Qv post (gB D B A) A) args s 0 0 A) (F0 m 31 ls [])) (CU : Int64) (CQ : Int32) (CJ : Nat → Nat → Int64) (CX : Nat → Nat → Int32) (y1 : Int32) (y2 : Int32) (y3 : Int32) (H : Heap) (locs : List Loc) (ls : Array Slot) (hf : fX0_goOnFromIn_b67 SI SX G31 Q CU CQ CJ CX y1 y2 y3) (hG : GS D B A s.heap ((SI, SX), (CU, CQ, CJ, CX), L, Y, M, O) H locs) (hl : lv_has ls 4 [(0, .ref (B 3)), (1, .int y1), (2, .int y2), (3, .int y3)]) : W p l e (headSpec wsX0_goOnFromIn rX0_goOnFromIn).room s m args below meth c H locs 0 0 (MQ below (va_Qv post (gB D B A) A) args s 0 0 A) (F0 m 67 ls []) := by
  obtain ⟨hx, hb, hml, hown, hts, hK, hr, hlk, hA, hN⟩ := id C
  unfold fX0_goOnFromIn_b67 at hf
  obtain ⟨x3_18, ex3_18⟩ : ∃ y : Int32, y = y3 + (1 : Int32) := ⟨_, rfl⟩
  replace hf := hf x3_18 ex3_18
  refine lv_iinc (v := x3_18) (lv' := [(3, .int x3_18), (0, .ref (B 3)), (1, .int y1), (2, .int y2)]) hx hb dX0_goOnFromIn_67 hl (k := 3) rfl (by rw [ex3_18]; rfl) (by decide) rfl (fun ls hl => ?_)
  refine lv_goto (tgt := 31) hx hb dX0_goOnFromIn_70 (by decide) ?_
  exact hG31 CU CQ CJ CX y1 y2 x3_18 _ _ _ hf hG (lv_sub hl [1, 2, 3, 0] rfl)
set_option maxHeartbeats 4000000 in
set_option maxRecDepth 100000 in
theorem vX0_goOnFromIn_h31 {p : Program} {l : Launch} {e : Env} {s : State} {m : MethodId} {args : Array Value} {below : List Frame} {meth : Method} {c : Code} {D : va_G} {B : Nat → Nat} {A : Nat → Prop} {L : sL} {Y : sY} {M : sM} {O : sO} {post : sG → Prop} {SI : Nat → Int32} {SX : Nat → Nat → Int32} {Q : (Int64) → (Int32) → (Nat → Nat → Int64) → (Nat → Nat → Int32) → Prop} (C : gX p s m args meth c cX0_goOnFromIn 4 (none) wsX0_goOnFromIn RX0 D B A) (hpost : ∀ (CU : Int64) (CQ : Int32) (CJ : Nat → Nat → Int64) (CX : Nat → Nat → Int32), Q CU CQ CJ CX → post ((SI, SX), (CU, CQ, CJ, CX), L, Y, M, O))  : ∀ (n31 : Nat) (CU : Int64) (CQ : Int32) (CJ : Nat → Nat → Int64) (CX : Nat → Nat → Int32) (y1 : Int32) (y2 : Int32) (y3 : Int32) (H : Heap) (locs : List Loc) (ls : Array Slot), fX0_goOnFromIn_h31 SI SX Q n31 CU CQ CJ CX y1 y2 y3 → GS D B A s.heap ((SI, SX), (CU, CQ, CJ, CX), L, Y, M, O) H locs → lv_has ls 4 [(0, .ref (B 3)), (1, .int y1), (2, .int y2), (3, .int y3)] → W p l e (headSpec wsX0_goOnFromIn rX0_goOnFromIn).room s m args below meth c H locs 0 0 (MQ below (va_Qv post (gB D B A) A) args s 0 0 A) (F0 m 31 ls []) := by
  obtain ⟨hx, hb, hml, hown, hts, hK, hr, hlk, hA, hN⟩ := id C
  intro n31
  induction n31 with
  | zero =>
    intro CU CQ CJ CX y1 y2 y3 H locs ls hf
    exact False.elim hf
  | succ n31 hG31 =>
    intro CU CQ CJ CX y1 y2 y3 H locs ls hf hG hl
    unfold fX0_goOnFromIn_h31 at hf
    refine lv_iload_n hx hb dX0_goOnFromIn_31 rfl (lv_at hl 3 rfl) ?_
    refine lv_aload_n hx hb dX0_goOnFromIn_32 rfl (lv_at hl 0 rfl) ?_
    refine gg_K_0 C hG inX0_goOnFromIn_wsX00 (hts _ (List.mem_of_getElem? (i := 2) rfl)) dX0_goOnFromIn_33 ?_
    refine gg_S_1 C hG inX0_goOnFromIn_wsX30 (hts _ (List.mem_of_getElem? (i := 3) rfl)) dX0_goOnFromIn_36 ?_
    refine lv_icmp_ge (tgt := 73) hx hb dX0_goOnFromIn_39 (by decide) (fun c_9 => ?_) (fun c_9 => ?_)
    · replace hf := hf.1 c_9
      exact g_vret C hG (hpost _ _ _ _ hf) dX0_goOnFromIn_73
    · replace hf := hf.2 c_9
      refine lv_aload_n hx hb dX0_goOnFromIn_42 rfl (lv_at hl 0 rfl) ?_
      refine gg_K_2 C hG inX0_goOnFromIn_wsX00 (hts _ (List.mem_of_getElem? (i := 4) rfl)) dX0_goOnFromIn_43 ?_
      refine lv_iload_n hx hb dX0_goOnFromIn_46 rfl (lv_at hl 3 rfl) ?_
      obtain ⟨h_10, hf⟩ := hf
      refine ga_K_2 C hG h_10 dX0_goOnFromIn_47 ?_
      refine lv_iload_n hx hb dX0_goOnFromIn_48 rfl (lv_at hl 2 rfl) ?_
      refine g_callNl0 (As := [.int y2]) C hG (kX5_bit hf) ⟨va_cnB 1 hts gX0_goOnFromIn_X5_bit_n62 rfl rfl rfl (hN _ (List.mem_of_getElem? (i := 0) rfl)) (hts _ (List.mem_of_getElem? (i := 10) rfl)) hdsX5_bit ⟨Nat.le_of_ble_eq_true rfl, Nat.le_of_ble_eq_true rfl⟩, hts _ (List.mem_of_getElem? (i := 9) rfl), trivial⟩ rfl hl.1 rfl (Nat.le_of_ble_eq_true rfl) dX0_goOnFromIn_49 ⟨Nat.zero_le _, Nat.zero_le _⟩ (fun r_11 g1 H locs hq hG => ?_)
      obtain ⟨rfl, hf⟩ := hq
      refine lv_land hx hb dX0_goOnFromIn_52 ?_
      refine lv_lconst (v := (0 : Int64)) hx hb dX0_goOnFromIn_53 (by decide) ?_
      refine W.lcmp hx hb dX0_goOnFromIn_54 ?_
      refine lv_if_eq (tgt := 67) hx hb dX0_goOnFromIn_55 (by decide) (fun c_12 => ?_) (fun c_12 => ?_)
      · replace hf := hf.1 c_12
        exact vX0_goOnFromIn_b67 C hpost hG31 CU CQ CJ CX y1 y2 y3 _ _ _ hf hG (lv_sub hl [0, 1, 2, 3] rfl)
      · replace hf := hf.2 c_12
        refine lv_aload_n hx hb dX0_goOnFromIn_58 rfl (lv_at hl 0 rfl) ?_
        refine lv_iload_n hx hb dX0_goOnFromIn_59 rfl (lv_at hl 3 rfl) ?_
        refine g_callSi0 (As := [.int y3]) C hG (kX0_doorOut hf) (va_cwS 1 hts gX0_goOnFromIn_X0_doorOut rfl rfl rfl hdsX0_doorOut ⟨Nat.le_of_ble_eq_true rfl, Nat.le_of_ble_eq_true rfl⟩) rfl hl.1 rfl (Nat.le_of_ble_eq_true rfl) dX0_goOnFromIn_60 ⟨Nat.zero_le _, Nat.zero_le _⟩ (fun r_13 g1 H locs hq hG => ?_)
        obtain ⟨rfl, hf⟩ := hq
        refine lv_iload_n hx hb dX0_goOnFromIn_63 rfl (lv_at hl 1 rfl) ?_
        refine g_callVv0 (As := [.int r_13, .int y1]) C hG (kX0_enter hf) (cwV 2 hts gX0_goOnFromIn_X0_enter rfl rfl rfl hdvX0_enter ⟨Nat.le_of_ble_eq_true rfl, Nat.le_of_ble_eq_true rfl⟩) (va_recv hK hG.1 (ci := 0) (q0 := 36) rfl rfl) rfl hl.1 rfl (Nat.le_of_ble_eq_true rfl) dX0_goOnFromIn_64 ⟨Nat.zero_le _, Nat.zero_le _⟩ (fun g1 H locs hq hG => ?_)
        obtain ⟨CU_14, CQ_15, CJ_16, CX_17, rfl, hf⟩ := hq
        exact vX0_goOnFromIn_b67 C hpost hG31 CU_14 CQ_15 CJ_16 CX_17 y1 y2 y3 _ _ _ hf hG (lv_sub hl [0, 1, 2, 3] rfl)
set_option maxHeartbeats 4000000 in
set_option maxRecDepth 100000 in
theorem vX0_goOnFromIn_b0 {p : Program} {l : Launch} {e : Env} {s : State} {m : MethodId} {args : Array Value} {below : List Frame} {meth : Method} {c : Code} {D : va_G} {B : Nat → Nat} {A : Nat → Prop} {L : sL} {Y : sY} {M : sM} {O : sO} {post : sG → Prop} {SI : Nat → Int32} {SX : Nat → Nat → Int32} {Q : (Int64) → (Int32) → (Nat → Nat → Int64) → (Nat → Nat → Int32) → Prop} (C : gX p s m args meth c cX0_goOnFromIn 4 (none) wsX0_goOnFromIn RX0 D B A) (hpost : ∀ (CU : Int64) (CQ : Int32) (CJ : Nat → Nat → Int64) (CX : Nat → Nat → Int32), Q CU CQ CJ CX → post ((SI, SX), (CU, CQ, CJ, CX), L, Y, M, O))  (CU : Int64) (CQ : Int32) (CJ : Nat → Nat → Int64) (CX : Nat → Nat → Int32) (x1 : Int32) (H : Heap) (locs : List Loc) (ls : Array Slot) (hf : fX0_goOnFromIn SI SX Q CU CQ CJ CX x1) (hG : GS D B A s.heap ((SI, SX), (CU, CQ, CJ, CX), L, Y, M, O) H locs) (hl : lv_has ls 4 [(0, .ref (B 3)), (1, .int x1)]) : W p l e (headSpec wsX0_goOnFromIn rX0_goOnFromIn).room s m args below meth c H locs 0 0 (MQ below (va_Qv post (gB D B A) A) args s 0 0 A) (F0 m 0 ls []) := by
  obtain ⟨hx, hb, hml, hown, hts, hK, hr, hlk, hA, hN⟩ := id C
  unfold fX0_goOnFromIn at hf
  refine lv_iload_n hx hb dX0_goOnFromIn_0 rfl (lv_at hl 1 rfl) ?_
  refine g_callSi0 (As := [.int x1]) C hG (kX0_relayOf hf) (va_cwS 1 hts gX0_goOnFromIn_X0_relayOf rfl rfl rfl hdsX0_relayOf ⟨Nat.le_of_ble_eq_true rfl, Nat.le_of_ble_eq_true rfl⟩) rfl hl.1 rfl (Nat.le_of_ble_eq_true rfl) dX0_goOnFromIn_1 ⟨Nat.zero_le _, Nat.zero_le _⟩ (fun r_1 g1 H locs hq hG => ?_)
  obtain ⟨rfl, hf⟩ := hq
  refine lv_istore_n (lv' := [(2, .int r_1), (0, .ref (B 3)), (1, .int x1)]) hx hb dX0_goOnFromIn_4 rfl hl (by decide) rfl (fun ls hl => ?_)
  refine lv_aload_n hx hb dX0_goOnFromIn_5 rfl (lv_at hl 1 rfl) ?_
  refine gg_K_3 C hG inX0_goOnFromIn_wsX00 (hts _ (List.mem_of_getElem? (i := 1) rfl)) dX0_goOnFromIn_6 ?_
  refine lv_iload_n hx hb dX0_goOnFromIn_9 rfl (lv_at hl 0 rfl) ?_
  refine g_callNl0 (As := [.int r_1]) C hG (kX5_bit hf) ⟨va_cnB 1 hts gX0_goOnFromIn_X5_bit_n62 rfl rfl rfl (hN _ (List.mem_of_getElem? (i := 0) rfl)) (hts _ (List.mem_of_getElem? (i := 10) rfl)) hdsX5_bit ⟨Nat.le_of_ble_eq_true rfl, Nat.le_of_ble_eq_true rfl⟩, hts _ (List.mem_of_getElem? (i := 9) rfl), trivial⟩ rfl hl.1 rfl (Nat.le_of_ble_eq_true rfl) dX0_goOnFromIn_10 ⟨Nat.zero_le _, Nat.zero_le _⟩ (fun r_2 g1 H locs hq hG => ?_)
  obtain ⟨rfl, hf⟩ := hq
  refine lv_land hx hb dX0_goOnFromIn_13 ?_
  refine lv_lconst (v := (0 : Int64)) hx hb dX0_goOnFromIn_14 (by decide) ?_
  refine W.lcmp hx hb dX0_goOnFromIn_15 ?_
  refine lv_if_ne (tgt := 29) hx hb dX0_goOnFromIn_16 (by decide) (fun c_3 => ?_) (fun c_3 => ?_)
  · replace hf := hf.1 c_3
    refine lv_iconst (v := (0 : Int32)) hx hb dX0_goOnFromIn_29 (by decide) ?_
    refine lv_istore_n (lv' := [(3, .int (0 : Int32)), (2, .int r_1), (0, .ref (B 3)), (1, .int x1)]) hx hb dX0_goOnFromIn_30 rfl hl (by decide) rfl (fun ls hl => ?_)
    obtain ⟨n31, hf⟩ := hf
    exact vX0_goOnFromIn_h31 C hpost  n31 CU CQ CJ CX x1 r_1 (0 : Int32) _ _ _ hf hG (lv_sub hl [2, 3, 1, 0] rfl)
  · replace hf := hf.2 c_3
    refine lv_aload_n hx hb dX0_goOnFromIn_19 rfl (lv_at hl 1 rfl) ?_
    refine lv_iload_n hx hb dX0_goOnFromIn_20 rfl (lv_at hl 0 rfl) ?_
    refine g_callSi0 (As := [.int r_1]) C hG (kX0_doorOut hf) (va_cwS 1 hts gX0_goOnFromIn_X0_doorOut rfl rfl rfl hdsX0_doorOut ⟨Nat.le_of_ble_eq_true rfl, Nat.le_of_ble_eq_true rfl⟩) rfl hl.1 rfl (Nat.le_of_ble_eq_true rfl) dX0_goOnFromIn_21 ⟨Nat.zero_le _, Nat.zero_le _⟩ (fun r_4 g1 H locs hq hG => ?_)
    obtain ⟨rfl, hf⟩ := hq
    refine lv_iload_n hx hb dX0_goOnFromIn_24 rfl (lv_at hl 2 rfl) ?_
    refine g_callVv0 (As := [.int r_4, .int x1]) C hG (kX0_enter hf) (cwV 2 hts gX0_goOnFromIn_X0_enter rfl rfl rfl hdvX0_enter ⟨Nat.le_of_ble_eq_true rfl, Nat.le_of_ble_eq_true rfl⟩) (va_recv hK hG.1 (ci := 0) (q0 := 36) rfl rfl) rfl hl.1 rfl (Nat.le_of_ble_eq_true rfl) dX0_goOnFromIn_25 ⟨Nat.zero_le _, Nat.zero_le _⟩ (fun g1 H locs hq hG => ?_)
    obtain ⟨CU_5, CQ_6, CJ_7, CX_8, rfl, hf⟩ := hq
    exact g_vret C hG (hpost _ _ _ _ hf) dX0_goOnFromIn_28
set_option maxRecDepth 100000 in
theorem kX0_goOnFromIn {l : Launch} {D : va_G} {B : Nat → Nat} {L : sL} {Y : sY} {M : sM} {O : sO} {SI : Nat → Int32} {SX : Nat → Nat → Int32} {Q : (Int64) → (Int32) → (Nat → Nat → Int64) → (Nat → Nat → Int32) → Prop} {CU : Int64} {CQ : Int32} {CJ : Nat → Nat → Int64} {CX : Nat → Nat → Int32} {x1 : Int32} (hf : fX0_goOnFromIn SI SX Q CU CQ CJ CX x1) : gMv D B l yX0_goOnFromIn wsX0_goOnFromIn rX0_goOnFromIn 0 0 [.ref (B 3), .int x1] ((SI, SX), (CU, CQ, CJ, CX), L, Y, M, O) (fun g1 => ∃ (CU1 : Int64) (CQ1 : Int32) (CJ1 : Nat → Nat → Int64) (CX1 : Nat → Nat → Int32), g1 = ((SI, SX), (CU1, CQ1, CJ1, CX1), L, Y, M, O) ∧ Q CU1 CQ1 CJ1 CX1) := by
  refine gMv_of (cc := cX0_goOnFromIn) (maxL := 4) (ret := none) (by decide +kernel) rfl (Nat.le_of_ble_eq_true rfl) ?_
  intro p e s m below meth c A hA0 C hG ls hl
  exact vX0_goOnFromIn_b0 C (fun CU CQ CJ CX hq => ⟨CU, CQ, CJ, CX, rfl, hq⟩) CU CQ CJ CX x1 _ _ _ hf hG hl
def rX0_goOnFromOut : Room := { frames := 1, cells := 0, slots := 0, locals := 22 }
theorem hdvX0_goOnFromOut : yX0_goOnFromOut.cls = RX0 ∧ yX0_goOnFromOut.cls ≠ "java/lang/invoke/MethodHandle" ∧ yX0_goOnFromOut.cls ≠ "java/lang/invoke/VarHandle" ∧ (parseMethodDescriptor yX0_goOnFromOut.desc).map (fun d => d.parameters.length) = some 1 := by decide +kernel
theorem inX0_goOnFromOut_wsX00 : ∀ w ∈ wsX00, w ∈ wsX0_goOnFromOut := (fun _ h => List.mem_cons_of_mem _ (List.mem_append_left _ (List.mem_append_right _ h)))
theorem inX0_goOnFromOut_wsX30 : ∀ w ∈ wsX30, w ∈ wsX0_goOnFromOut := (fun _ h => List.mem_cons_of_mem _ (List.mem_append_right _ h))
set_option maxHeartbeats 4000000 in
set_option maxRecDepth 100000 in
theorem vX0_goOnFromOut_b66 {p : Program} {l : Launch} {e : Env} {s : State} {m : MethodId} {args : Array Value} {below : List Frame} {meth : Method} {c : Code} {D : va_G} {B : Nat → Nat} {A : Nat → Prop} {L : sL} {Y : sY} {M : sM} {O : sO} {post : sG → Prop} {SI : Nat → Int32} {SX : Nat → Nat → Int32} {Q : (Int64) → (Int32) → (Nat → Nat → Int64) → (Nat → Nat → Int32) → Prop} (C : gX p s m args meth c cX0_goOnFromOut 4 (none) wsX0_goOnFromOut RX0 D B A) (hpost : ∀ (CU : Int64) (CQ : Int32) (CJ : Nat → Nat → Int64) (CX : Nat → Nat → Int32), Q CU CQ CJ CX → post ((SI, SX), (CU, CQ, CJ, CX), L, Y, M, O)) {G30 : (Int64) → (Int32) → (Nat → Nat → Int64) → (Nat → Nat → Int32) → Int32 → Int32 → Int32 → Prop} (hG30 : ∀ (CU : Int64) (CQ : Int32) (CJ : Nat → Nat → Int64) (CX : Nat → Nat → Int32) (y1 : Int32) (y2 : Int32) (y3 : Int32) (H : Heap) (locs : List Loc) (ls : Array Slot), G30 CU CQ CJ CX y1 y2 y3 → GS D B A s.heap ((SI, SX), (CU, CQ, CJ, CX), L, Y, M, O) H locs → lv_has ls 4 [(0, .ref (B 3)), (1, .int y1), (2, .int y2), (3, .int y3)] → W p l e (headSpec wsX0_goOnFromOut rX0_goOnFromOut).room s m args below meth c H locs 0 0 (MQ below (va_Qv post (gB D B A) A) args s 0 0 A) (F0 m 30 ls [])) (CU : Int64) (CQ : Int32) (CJ : Nat → Nat → Int64) (CX : Nat → Nat → Int32) (y1 : Int32) (y2 : Int32) (y3 : Int32) (H : Heap) (locs : List Loc) (ls : Array Slot) (hf : fX0_goOnFromOut_b66 SI SX G30 Q CU CQ CJ CX y1 y2 y3) (hG : GS D B A s.heap ((SI, SX), (CU, CQ, CJ, CX), L, Y, M, O) H locs) (hl : lv_has ls 4 [(0, .ref (B 3)), (1, .int y1), (2, .int y2), (3, .int y3)]) : W p l e (headSpec wsX0_goOnFromOut rX0_goOnFromOut).room s m args below meth c H locs 0 0 (MQ below (va_Qv post (gB D B A) A) args s 0 0 A) (F0 m 66 ls []) := by
  obtain ⟨hx, hb, hml, hown, hts, hK, hr, hlk, hA, hN⟩ := id C
  unfold fX0_goOnFromOut_b66 at hf
  obtain ⟨x3_18, ex3_18⟩ : ∃ y : Int32, y = y3 + (1 : Int32) := ⟨_, rfl⟩
  replace hf := hf x3_18 ex3_18
  refine lv_iinc (v := x3_18) (lv' := [(3, .int x3_18), (0, .ref (B 3)), (1, .int y1), (2, .int y2)]) hx hb dX0_goOnFromOut_66 hl (k := 3) rfl (by rw [ex3_18]; rfl) (by decide) rfl (fun ls hl => ?_)
  refine lv_goto (tgt := 30) hx hb dX0_goOnFromOut_69 (by decide) ?_
  exact hG30 CU CQ CJ CX y1 y2 x3_18 _ _ _ hf hG (lv_sub hl [1, 2, 3, 0] rfl)
set_option maxHeartbeats 4000000 in
set_option maxRecDepth 100000 in
theorem vX0_goOnFromOut_h30 {p : Program} {l : Launch} {e : Env} {s : State} {m : MethodId} {args : Array Value} {below : List Frame} {meth : Method} {c : Code} {D : va_G} {B : Nat → Nat} {A : Nat → Prop} {L : sL} {Y : sY} {M : sM} {O : sO} {post : sG → Prop} {SI : Nat → Int32} {SX : Nat → Nat → Int32} {Q : (Int64) → (Int32) → (Nat → Nat → Int64) → (Nat → Nat → Int32) → Prop} (C : gX p s m args meth c cX0_goOnFromOut 4 (none) wsX0_goOnFromOut RX0 D B A) (hpost : ∀ (CU : Int64) (CQ : Int32) (CJ : Nat → Nat → Int64) (CX : Nat → Nat → Int32), Q CU CQ CJ CX → post ((SI, SX), (CU, CQ, CJ, CX), L, Y, M, O))  : ∀ (n30 : Nat) (CU : Int64) (CQ : Int32) (CJ : Nat → Nat → Int64) (CX : Nat → Nat → Int32) (y1 : Int32) (y2 : Int32) (y3 : Int32) (H : Heap) (locs : List Loc) (ls : Array Slot), fX0_goOnFromOut_h30 SI SX Q n30 CU CQ CJ CX y1 y2 y3 → GS D B A s.heap ((SI, SX), (CU, CQ, CJ, CX), L, Y, M, O) H locs → lv_has ls 4 [(0, .ref (B 3)), (1, .int y1), (2, .int y2), (3, .int y3)] → W p l e (headSpec wsX0_goOnFromOut rX0_goOnFromOut).room s m args below meth c H locs 0 0 (MQ below (va_Qv post (gB D B A) A) args s 0 0 A) (F0 m 30 ls []) := by
  obtain ⟨hx, hb, hml, hown, hts, hK, hr, hlk, hA, hN⟩ := id C
  intro n30
  induction n30 with
  | zero =>
    intro CU CQ CJ CX y1 y2 y3 H locs ls hf
    exact False.elim hf
  | succ n30 hG30 =>
    intro CU CQ CJ CX y1 y2 y3 H locs ls hf hG hl
    unfold fX0_goOnFromOut_h30 at hf
    refine lv_iload_n hx hb dX0_goOnFromOut_30 rfl (lv_at hl 3 rfl) ?_
    refine lv_aload_n hx hb dX0_goOnFromOut_31 rfl (lv_at hl 0 rfl) ?_
    refine gg_K_0 C hG inX0_goOnFromOut_wsX00 (hts _ (List.mem_of_getElem? (i := 2) rfl)) dX0_goOnFromOut_32 ?_
    refine gg_S_1 C hG inX0_goOnFromOut_wsX30 (hts _ (List.mem_of_getElem? (i := 3) rfl)) dX0_goOnFromOut_35 ?_
    refine lv_icmp_ge (tgt := 72) hx hb dX0_goOnFromOut_38 (by decide) (fun c_9 => ?_) (fun c_9 => ?_)
    · replace hf := hf.1 c_9
      exact g_vret C hG (hpost _ _ _ _ hf) dX0_goOnFromOut_72
    · replace hf := hf.2 c_9
      refine lv_aload_n hx hb dX0_goOnFromOut_41 rfl (lv_at hl 0 rfl) ?_
      refine gg_K_1 C hG inX0_goOnFromOut_wsX00 (hts _ (List.mem_of_getElem? (i := 4) rfl)) dX0_goOnFromOut_42 ?_
      refine lv_iload_n hx hb dX0_goOnFromOut_45 rfl (lv_at hl 2 rfl) ?_
      obtain ⟨h_10, hf⟩ := hf
      refine ga_K_1 C hG h_10 dX0_goOnFromOut_46 ?_
      refine lv_iload_n hx hb dX0_goOnFromOut_47 rfl (lv_at hl 3 rfl) ?_
      refine g_callNl0 (As := [.int y3]) C hG (kX5_bit hf) ⟨va_cnB 1 hts gX0_goOnFromOut_X5_bit_n62 rfl rfl rfl (hN _ (List.mem_of_getElem? (i := 0) rfl)) (hts _ (List.mem_of_getElem? (i := 10) rfl)) hdsX5_bit ⟨Nat.le_of_ble_eq_true rfl, Nat.le_of_ble_eq_true rfl⟩, hts _ (List.mem_of_getElem? (i := 9) rfl), trivial⟩ rfl hl.1 rfl (Nat.le_of_ble_eq_true rfl) dX0_goOnFromOut_48 ⟨Nat.zero_le _, Nat.zero_le _⟩ (fun r_11 g1 H locs hq hG => ?_)
      obtain ⟨rfl, hf⟩ := hq
      refine lv_land hx hb dX0_goOnFromOut_51 ?_
      refine lv_lconst (v := (0 : Int64)) hx hb dX0_goOnFromOut_52 (by decide) ?_
      refine W.lcmp hx hb dX0_goOnFromOut_53 ?_
      refine lv_if_eq (tgt := 66) hx hb dX0_goOnFromOut_54 (by decide) (fun c_12 => ?_) (fun c_12 => ?_)
      · replace hf := hf.1 c_12
        exact vX0_goOnFromOut_b66 C hpost hG30 CU CQ CJ CX y1 y2 y3 _ _ _ hf hG (lv_sub hl [0, 1, 2, 3] rfl)
      · replace hf := hf.2 c_12
        refine lv_aload_n hx hb dX0_goOnFromOut_57 rfl (lv_at hl 0 rfl) ?_
        refine lv_iload_n hx hb dX0_goOnFromOut_58 rfl (lv_at hl 3 rfl) ?_
        refine g_callSi0 (As := [.int y3]) C hG (kX0_doorIn hf) (va_cwS 1 hts gX0_goOnFromOut_X0_doorIn rfl rfl rfl hdsX0_doorIn ⟨Nat.le_of_ble_eq_true rfl, Nat.le_of_ble_eq_true rfl⟩) rfl hl.1 rfl (Nat.le_of_ble_eq_true rfl) dX0_goOnFromOut_59 ⟨Nat.zero_le _, Nat.zero_le _⟩ (fun r_13 g1 H locs hq hG => ?_)
        obtain ⟨rfl, hf⟩ := hq
        refine lv_iload_n hx hb dX0_goOnFromOut_62 rfl (lv_at hl 1 rfl) ?_
        refine g_callVv0 (As := [.int r_13, .int y1]) C hG (kX0_enter hf) (cwV 2 hts gX0_goOnFromOut_X0_enter rfl rfl rfl hdvX0_enter ⟨Nat.le_of_ble_eq_true rfl, Nat.le_of_ble_eq_true rfl⟩) (va_recv hK hG.1 (ci := 0) (q0 := 36) rfl rfl) rfl hl.1 rfl (Nat.le_of_ble_eq_true rfl) dX0_goOnFromOut_63 ⟨Nat.zero_le _, Nat.zero_le _⟩ (fun g1 H locs hq hG => ?_)
        obtain ⟨CU_14, CQ_15, CJ_16, CX_17, rfl, hf⟩ := hq
        exact vX0_goOnFromOut_b66 C hpost hG30 CU_14 CQ_15 CJ_16 CX_17 y1 y2 y3 _ _ _ hf hG (lv_sub hl [0, 1, 2, 3] rfl)
set_option maxHeartbeats 4000000 in
set_option maxRecDepth 100000 in
theorem vX0_goOnFromOut_b28 {p : Program} {l : Launch} {e : Env} {s : State} {m : MethodId} {args : Array Value} {below : List Frame} {meth : Method} {c : Code} {D : va_G} {B : Nat → Nat} {A : Nat → Prop} {L : sL} {Y : sY} {M : sM} {O : sO} {post : sG → Prop} {SI : Nat → Int32} {SX : Nat → Nat → Int32} {Q : (Int64) → (Int32) → (Nat → Nat → Int64) → (Nat → Nat → Int32) → Prop} (C : gX p s m args meth c cX0_goOnFromOut 4 (none) wsX0_goOnFromOut RX0 D B A) (hpost : ∀ (CU : Int64) (CQ : Int32) (CJ : Nat → Nat → Int64) (CX : Nat → Nat → Int32), Q CU CQ CJ CX → post ((SI, SX), (CU, CQ, CJ, CX), L, Y, M, O))  (CU : Int64) (CQ : Int32) (CJ : Nat → Nat → Int64) (CX : Nat → Nat → Int32) (y1 : Int32) (y2 : Int32) (H : Heap) (locs : List Loc) (ls : Array Slot) (hf : fX0_goOnFromOut_b28 SI SX Q CU CQ CJ CX y1 y2) (hG : GS D B A s.heap ((SI, SX), (CU, CQ, CJ, CX), L, Y, M, O) H locs) (hl : lv_has ls 4 [(0, .ref (B 3)), (1, .int y1), (2, .int y2)]) : W p l e (headSpec wsX0_goOnFromOut rX0_goOnFromOut).room s m args below meth c H locs 0 0 (MQ below (va_Qv post (gB D B A) A) args s 0 0 A) (F0 m 28 ls []) := by
  obtain ⟨hx, hb, hml, hown, hts, hK, hr, hlk, hA, hN⟩ := id C
  unfold fX0_goOnFromOut_b28 at hf
  refine lv_iconst (v := (0 : Int32)) hx hb dX0_goOnFromOut_28 (by decide) ?_
  refine lv_istore_n (lv' := [(3, .int (0 : Int32)), (0, .ref (B 3)), (1, .int y1), (2, .int y2)]) hx hb dX0_goOnFromOut_29 rfl hl (by decide) rfl (fun ls hl => ?_)
  obtain ⟨n30, hf⟩ := hf
  exact vX0_goOnFromOut_h30 C hpost  n30 CU CQ CJ CX y1 y2 (0 : Int32) _ _ _ hf hG (lv_sub hl [1, 2, 3, 0] rfl)
set_option maxHeartbeats 4000000 in
set_option maxRecDepth 100000 in
theorem vX0_goOnFromOut_b0 {p : Program} {l : Launch} {e : Env} {s : State} {m : MethodId} {args : Array Value} {below : List Frame} {meth : Method} {c : Code} {D : va_G} {B : Nat → Nat} {A : Nat → Prop} {L : sL} {Y : sY} {M : sM} {O : sO} {post : sG → Prop} {SI : Nat → Int32} {SX : Nat → Nat → Int32} {Q : (Int64) → (Int32) → (Nat → Nat → Int64) → (Nat → Nat → Int32) → Prop} (C : gX p s m args meth c cX0_goOnFromOut 4 (none) wsX0_goOnFromOut RX0 D B A) (hpost : ∀ (CU : Int64) (CQ : Int32) (CJ : Nat → Nat → Int64) (CX : Nat → Nat → Int32), Q CU CQ CJ CX → post ((SI, SX), (CU, CQ, CJ, CX), L, Y, M, O))  (CU : Int64) (CQ : Int32) (CJ : Nat → Nat → Int64) (CX : Nat → Nat → Int32) (x1 : Int32) (H : Heap) (locs : List Loc) (ls : Array Slot) (hf : fX0_goOnFromOut SI SX Q CU CQ CJ CX x1) (hG : GS D B A s.heap ((SI, SX), (CU, CQ, CJ, CX), L, Y, M, O) H locs) (hl : lv_has ls 4 [(0, .ref (B 3)), (1, .int x1)]) : W p l e (headSpec wsX0_goOnFromOut rX0_goOnFromOut).room s m args below meth c H locs 0 0 (MQ below (va_Qv post (gB D B A) A) args s 0 0 A) (F0 m 0 ls []) := by
  obtain ⟨hx, hb, hml, hown, hts, hK, hr, hlk, hA, hN⟩ := id C
  unfold fX0_goOnFromOut at hf
  refine lv_iload_n hx hb dX0_goOnFromOut_0 rfl (lv_at hl 1 rfl) ?_
  refine g_callSi0 (As := [.int x1]) C hG (kX0_relayOf hf) (va_cwS 1 hts gX0_goOnFromOut_X0_relayOf rfl rfl rfl hdsX0_relayOf ⟨Nat.le_of_ble_eq_true rfl, Nat.le_of_ble_eq_true rfl⟩) rfl hl.1 rfl (Nat.le_of_ble_eq_true rfl) dX0_goOnFromOut_1 ⟨Nat.zero_le _, Nat.zero_le _⟩ (fun r_1 g1 H locs hq hG => ?_)
  obtain ⟨rfl, hf⟩ := hq
  refine lv_istore_n (lv' := [(2, .int r_1), (0, .ref (B 3)), (1, .int x1)]) hx hb dX0_goOnFromOut_4 rfl hl (by decide) rfl (fun ls hl => ?_)
  refine lv_aload_n hx hb dX0_goOnFromOut_5 rfl (lv_at hl 1 rfl) ?_
  refine gg_K_3 C hG inX0_goOnFromOut_wsX00 (hts _ (List.mem_of_getElem? (i := 1) rfl)) dX0_goOnFromOut_6 ?_
  refine lv_iload_n hx hb dX0_goOnFromOut_9 rfl (lv_at hl 0 rfl) ?_
  refine g_callNl0 (As := [.int r_1]) C hG (kX5_bit hf) ⟨va_cnB 1 hts gX0_goOnFromOut_X5_bit_n62 rfl rfl rfl (hN _ (List.mem_of_getElem? (i := 0) rfl)) (hts _ (List.mem_of_getElem? (i := 10) rfl)) hdsX5_bit ⟨Nat.le_of_ble_eq_true rfl, Nat.le_of_ble_eq_true rfl⟩, hts _ (List.mem_of_getElem? (i := 9) rfl), trivial⟩ rfl hl.1 rfl (Nat.le_of_ble_eq_true rfl) dX0_goOnFromOut_10 ⟨Nat.zero_le _, Nat.zero_le _⟩ (fun r_2 g1 H locs hq hG => ?_)
  obtain ⟨rfl, hf⟩ := hq
  refine lv_land hx hb dX0_goOnFromOut_13 ?_
  refine lv_lconst (v := (0 : Int64)) hx hb dX0_goOnFromOut_14 (by decide) ?_
  refine W.lcmp hx hb dX0_goOnFromOut_15 ?_
  refine lv_if_eq (tgt := 28) hx hb dX0_goOnFromOut_16 (by decide) (fun c_3 => ?_) (fun c_3 => ?_)
  · replace hf := hf.1 c_3
    exact vX0_goOnFromOut_b28 C hpost  CU CQ CJ CX x1 r_1 _ _ _ hf hG (lv_sub hl [1, 2, 0] rfl)
  · replace hf := hf.2 c_3
    refine lv_aload_n hx hb dX0_goOnFromOut_19 rfl (lv_at hl 1 rfl) ?_
    refine lv_iload_n hx hb dX0_goOnFromOut_20 rfl (lv_at hl 0 rfl) ?_
    refine g_callSi0 (As := [.int r_1]) C hG (kX0_doorIn hf) (va_cwS 1 hts gX0_goOnFromOut_X0_doorIn rfl rfl rfl hdsX0_doorIn ⟨Nat.le_of_ble_eq_true rfl, Nat.le_of_ble_eq_true rfl⟩) rfl hl.1 rfl (Nat.le_of_ble_eq_true rfl) dX0_goOnFromOut_21 ⟨Nat.zero_le _, Nat.zero_le _⟩ (fun r_4 g1 H locs hq hG => ?_)
    obtain ⟨rfl, hf⟩ := hq
    refine lv_iload_n hx hb dX0_goOnFromOut_24 rfl (lv_at hl 2 rfl) ?_
    refine g_callVv0 (As := [.int r_4, .int x1]) C hG (kX0_enter hf) (cwV 2 hts gX0_goOnFromOut_X0_enter rfl rfl rfl hdvX0_enter ⟨Nat.le_of_ble_eq_true rfl, Nat.le_of_ble_eq_true rfl⟩) (va_recv hK hG.1 (ci := 0) (q0 := 36) rfl rfl) rfl hl.1 rfl (Nat.le_of_ble_eq_true rfl) dX0_goOnFromOut_25 ⟨Nat.zero_le _, Nat.zero_le _⟩ (fun g1 H locs hq hG => ?_)
    obtain ⟨CU_5, CQ_6, CJ_7, CX_8, rfl, hf⟩ := hq
    exact vX0_goOnFromOut_b28 C hpost  CU_5 CQ_6 CJ_7 CX_8 x1 r_1 _ _ _ hf hG (lv_sub hl [1, 2, 0] rfl)
set_option maxRecDepth 100000 in
theorem kX0_goOnFromOut {l : Launch} {D : va_G} {B : Nat → Nat} {L : sL} {Y : sY} {M : sM} {O : sO} {SI : Nat → Int32} {SX : Nat → Nat → Int32} {Q : (Int64) → (Int32) → (Nat → Nat → Int64) → (Nat → Nat → Int32) → Prop} {CU : Int64} {CQ : Int32} {CJ : Nat → Nat → Int64} {CX : Nat → Nat → Int32} {x1 : Int32} (hf : fX0_goOnFromOut SI SX Q CU CQ CJ CX x1) : gMv D B l yX0_goOnFromOut wsX0_goOnFromOut rX0_goOnFromOut 0 0 [.ref (B 3), .int x1] ((SI, SX), (CU, CQ, CJ, CX), L, Y, M, O) (fun g1 => ∃ (CU1 : Int64) (CQ1 : Int32) (CJ1 : Nat → Nat → Int64) (CX1 : Nat → Nat → Int32), g1 = ((SI, SX), (CU1, CQ1, CJ1, CX1), L, Y, M, O) ∧ Q CU1 CQ1 CJ1 CX1) := by
  refine gMv_of (cc := cX0_goOnFromOut) (maxL := 4) (ret := none) (by decide +kernel) rfl (Nat.le_of_ble_eq_true rfl) ?_
  intro p e s m below meth c A hA0 C hG ls hl
  exact vX0_goOnFromOut_b0 C (fun CU CQ CJ CX hq => ⟨CU, CQ, CJ, CX, rfl, hq⟩) CU CQ CJ CX x1 _ _ _ hf hG hl
def rX0_search : Room := { frames := 2, cells := 0, slots := 0, locals := 45 }
theorem hdvX0_search : yX0_search.cls = RX0 ∧ yX0_search.cls ≠ "java/lang/invoke/MethodHandle" ∧ yX0_search.cls ≠ "java/lang/invoke/VarHandle" ∧ (parseMethodDescriptor yX0_search.desc).map (fun d => d.parameters.length) = some 2 := by decide +kernel
theorem inX0_search_wsX00 : ∀ w ∈ wsX00, w ∈ wsX0_search := (fun _ h => List.mem_cons_of_mem _ (List.mem_append_left _ (List.mem_append_right _ h)))
theorem inX0_search_wsX30 : ∀ w ∈ wsX30, w ∈ wsX0_search := (fun _ h => List.mem_cons_of_mem _ (List.mem_append_right _ h))
set_option maxHeartbeats 4000000 in
set_option maxRecDepth 100000 in
theorem vX0_search_b134 {p : Program} {l : Launch} {e : Env} {s : State} {m : MethodId} {args : Array Value} {below : List Frame} {meth : Method} {c : Code} {D : va_G} {B : Nat → Nat} {A : Nat → Prop} {L : sL} {Y : sY} {M : sM} {O : sO} {post : Int32 → sG → Prop} {SI : Nat → Int32} {SX : Nat → Nat → Int32} {Q : Int32 → (Int64) → (Int32) → (Nat → Nat → Int64) → (Nat → Nat → Int32) → Prop} (C : gX p s m args meth c cX0_search 7 (some .int) wsX0_search RX0 D B A) (hpost : ∀ (v : Int32) (CU : Int64) (CQ : Int32) (CJ : Nat → Nat → Int64) (CX : Nat → Nat → Int32), Q v CU CQ CJ CX → post v ((SI, SX), (CU, CQ, CJ, CX), L, Y, M, O)) {G60 : (Int64) → (Int32) → (Nat → Nat → Int64) → (Nat → Nat → Int32) → Int64 → Int32 → Prop} (hG60 : ∀ (CU : Int64) (CQ : Int32) (CJ : Nat → Nat → Int64) (CX : Nat → Nat → Int32) (y3 : Int64) (y5 : Int32) (H : Heap) (locs : List Loc) (ls : Array Slot), G60 CU CQ CJ CX y3 y5 → GS D B A s.heap ((SI, SX), (CU, CQ, CJ, CX), L, Y, M, O) H locs → lv_has ls 7 [(0, .ref (B 3)), (3, .long y3), (5, .int y5)] → W p l e (headSpec wsX0_search rX0_search).room s m args below meth c H locs 0 0 (MQ below (va_Qi post (gB D B A) A) args s 0 0 A) (F0 m 60 ls [])) (CU : Int64) (CQ : Int32) (CJ : Nat → Nat → Int64) (CX : Nat → Nat → Int32) (y3 : Int64) (y5 : Int32) (H : Heap) (locs : List Loc) (ls : Array Slot) (hf : fX0_search_b134 SI SX G60 Q CU CQ CJ CX y3 y5) (hG : GS D B A s.heap ((SI, SX), (CU, CQ, CJ, CX), L, Y, M, O) H locs) (hl : lv_has ls 7 [(0, .ref (B 3)), (3, .long y3), (5, .int y5)]) : W p l e (headSpec wsX0_search rX0_search).room s m args below meth c H locs 0 0 (MQ below (va_Qi post (gB D B A) A) args s 0 0 A) (F0 m 134 ls []) := by
  obtain ⟨hx, hb, hml, hown, hts, hK, hr, hlk, hA, hN⟩ := id C
  unfold fX0_search_b134 at hf
  obtain ⟨x5_31, ex5_31⟩ : ∃ y : Int32, y = y5 + (1 : Int32) := ⟨_, rfl⟩
  replace hf := hf x5_31 ex5_31
  refine lv_iinc (v := x5_31) (lv' := [(5, .int x5_31), (0, .ref (B 3)), (3, .long y3)]) hx hb dX0_search_134 hl (k := 2) rfl (by rw [ex5_31]; rfl) (by decide) rfl (fun ls hl => ?_)
  refine lv_goto (tgt := 60) hx hb dX0_search_137 (by decide) ?_
  exact hG60 CU CQ CJ CX y3 x5_31 _ _ _ hf hG (lv_sub hl [1, 2, 0] rfl)
set_option maxHeartbeats 4000000 in
set_option maxRecDepth 100000 in
theorem vX0_search_b111 {p : Program} {l : Launch} {e : Env} {s : State} {m : MethodId} {args : Array Value} {below : List Frame} {meth : Method} {c : Code} {D : va_G} {B : Nat → Nat} {A : Nat → Prop} {L : sL} {Y : sY} {M : sM} {O : sO} {post : Int32 → sG → Prop} {SI : Nat → Int32} {SX : Nat → Nat → Int32} {Q : Int32 → (Int64) → (Int32) → (Nat → Nat → Int64) → (Nat → Nat → Int32) → Prop} (C : gX p s m args meth c cX0_search 7 (some .int) wsX0_search RX0 D B A) (hpost : ∀ (v : Int32) (CU : Int64) (CQ : Int32) (CJ : Nat → Nat → Int64) (CX : Nat → Nat → Int32), Q v CU CQ CJ CX → post v ((SI, SX), (CU, CQ, CJ, CX), L, Y, M, O)) {G60 : (Int64) → (Int32) → (Nat → Nat → Int64) → (Nat → Nat → Int32) → Int64 → Int32 → Prop} (hG60 : ∀ (CU : Int64) (CQ : Int32) (CJ : Nat → Nat → Int64) (CX : Nat → Nat → Int32) (y3 : Int64) (y5 : Int32) (H : Heap) (locs : List Loc) (ls : Array Slot), G60 CU CQ CJ CX y3 y5 → GS D B A s.heap ((SI, SX), (CU, CQ, CJ, CX), L, Y, M, O) H locs → lv_has ls 7 [(0, .ref (B 3)), (3, .long y3), (5, .int y5)] → W p l e (headSpec wsX0_search rX0_search).room s m args below meth c H locs 0 0 (MQ below (va_Qi post (gB D B A) A) args s 0 0 A) (F0 m 60 ls [])) (CU : Int64) (CQ : Int32) (CJ : Nat → Nat → Int64) (CX : Nat → Nat → Int32) (y3 : Int64) (y5 : Int32) (y6 : Int32) (H : Heap) (locs : List Loc) (ls : Array Slot) (hf : fX0_search_b111 SI SX G60 Q CU CQ CJ CX y3 y5 y6) (hG : GS D B A s.heap ((SI, SX), (CU, CQ, CJ, CX), L, Y, M, O) H locs) (hl : lv_has ls 7 [(0, .ref (B 3)), (3, .long y3), (5, .int y5), (6, .int y6)]) : W p l e (headSpec wsX0_search rX0_search).room s m args below meth c H locs 0 0 (MQ below (va_Qi post (gB D B A) A) args s 0 0 A) (F0 m 111 ls []) := by
  obtain ⟨hx, hb, hml, hown, hts, hK, hr, hlk, hA, hN⟩ := id C
  unfold fX0_search_b111 at hf
  refine lv_iload hx hb dX0_search_111 (lv_at hl 3 rfl) ?_
  refine g_callSi0 (As := [.int y6]) C hG (kX0_isOut hf) (va_cwS 1 hts gX0_search_X0_isOut rfl rfl rfl hdsX0_isOut ⟨Nat.le_of_ble_eq_true rfl, Nat.le_of_ble_eq_true rfl⟩) rfl hl.1 rfl (Nat.le_of_ble_eq_true rfl) dX0_search_113 ⟨Nat.zero_le _, Nat.zero_le _⟩ (fun r_21 g1 H locs hq hG => ?_)
  obtain ⟨rfl, hf⟩ := hq
  refine lv_if_eq (tgt := 128) hx hb dX0_search_116 (by decide) (fun c_22 => ?_) (fun c_22 => ?_)
  · replace hf := hf.1 c_22
    refine lv_aload_n hx hb dX0_search_128 rfl (lv_at hl 0 rfl) ?_
    refine lv_iload hx hb dX0_search_129 (lv_at hl 3 rfl) ?_
    refine g_callVv0 (As := [.int y6]) C hG (kX0_goOnFromIn hf) (cwV 1 hts gX0_search_X0_goOnFromIn rfl rfl rfl hdvX0_goOnFromIn ⟨Nat.le_of_ble_eq_true rfl, Nat.le_of_ble_eq_true rfl⟩) (va_recv hK hG.1 (ci := 0) (q0 := 36) rfl rfl) rfl hl.1 rfl (Nat.le_of_ble_eq_true rfl) dX0_search_131 ⟨Nat.zero_le _, Nat.zero_le _⟩ (fun g1 H locs hq hG => ?_)
    obtain ⟨CU_23, CQ_24, CJ_25, CX_26, rfl, hf⟩ := hq
    exact vX0_search_b134 C hpost hG60 CU_23 CQ_24 CJ_25 CX_26 y3 y5 _ _ _ hf hG (lv_sub hl [0, 1, 2] rfl)
  · replace hf := hf.2 c_22
    refine lv_aload_n hx hb dX0_search_119 rfl (lv_at hl 0 rfl) ?_
    refine lv_iload hx hb dX0_search_120 (lv_at hl 3 rfl) ?_
    refine g_callVv0 (As := [.int y6]) C hG (kX0_goOnFromOut hf) (cwV 1 hts gX0_search_X0_goOnFromOut rfl rfl rfl hdvX0_goOnFromOut ⟨Nat.le_of_ble_eq_true rfl, Nat.le_of_ble_eq_true rfl⟩) (va_recv hK hG.1 (ci := 0) (q0 := 36) rfl rfl) rfl hl.1 rfl (Nat.le_of_ble_eq_true rfl) dX0_search_122 ⟨Nat.zero_le _, Nat.zero_le _⟩ (fun g1 H locs hq hG => ?_)
    obtain ⟨CU_27, CQ_28, CJ_29, CX_30, rfl, hf⟩ := hq
    refine lv_goto (tgt := 134) hx hb dX0_search_125 (by decide) ?_
    exact vX0_search_b134 C hpost hG60 CU_27 CQ_28 CJ_29 CX_30 y3 y5 _ _ _ hf hG (lv_sub hl [0, 1, 2] rfl)
set_option maxHeartbeats 4000000 in
set_option maxRecDepth 100000 in
theorem vX0_search_h60 {p : Program} {l : Launch} {e : Env} {s : State} {m : MethodId} {args : Array Value} {below : List Frame} {meth : Method} {c : Code} {D : va_G} {B : Nat → Nat} {A : Nat → Prop} {L : sL} {Y : sY} {M : sM} {O : sO} {post : Int32 → sG → Prop} {SI : Nat → Int32} {SX : Nat → Nat → Int32} {Q : Int32 → (Int64) → (Int32) → (Nat → Nat → Int64) → (Nat → Nat → Int32) → Prop} (C : gX p s m args meth c cX0_search 7 (some .int) wsX0_search RX0 D B A) (hpost : ∀ (v : Int32) (CU : Int64) (CQ : Int32) (CJ : Nat → Nat → Int64) (CX : Nat → Nat → Int32), Q v CU CQ CJ CX → post v ((SI, SX), (CU, CQ, CJ, CX), L, Y, M, O))  : ∀ (n60 : Nat) (CU : Int64) (CQ : Int32) (CJ : Nat → Nat → Int64) (CX : Nat → Nat → Int32) (y3 : Int64) (y5 : Int32) (H : Heap) (locs : List Loc) (ls : Array Slot), fX0_search_h60 SI SX Q n60 CU CQ CJ CX y3 y5 → GS D B A s.heap ((SI, SX), (CU, CQ, CJ, CX), L, Y, M, O) H locs → lv_has ls 7 [(0, .ref (B 3)), (3, .long y3), (5, .int y5)] → W p l e (headSpec wsX0_search rX0_search).room s m args below meth c H locs 0 0 (MQ below (va_Qi post (gB D B A) A) args s 0 0 A) (F0 m 60 ls []) := by
  obtain ⟨hx, hb, hml, hown, hts, hK, hr, hlk, hA, hN⟩ := id C
  intro n60
  induction n60 with
  | zero =>
    intro CU CQ CJ CX y3 y5 H locs ls hf
    exact False.elim hf
  | succ n60 hG60 =>
    intro CU CQ CJ CX y3 y5 H locs ls hf hG hl
    unfold fX0_search_h60 at hf
    refine lv_iload hx hb dX0_search_60 (lv_at hl 2 rfl) ?_
    refine lv_aload_n hx hb dX0_search_62 rfl (lv_at hl 0 rfl) ?_
    refine gg_K_6 C hG inX0_search_wsX00 (hts _ (List.mem_of_getElem? (i := 2) rfl)) dX0_search_63 ?_
    refine lv_icmp_ge (tgt := 140) hx hb dX0_search_66 (by decide) (fun c_12 => ?_) (fun c_12 => ?_)
    · replace hf := hf.1 c_12
      refine lv_iconst (v := (-1 : Int32)) hx hb dX0_search_140 (by decide) ?_
      exact g_iret C hG (hpost _ _ _ _ _ hf) dX0_search_141
    · replace hf := hf.2 c_12
      refine lv_iload hx hb dX0_search_69 (lv_at hl 2 rfl) ?_
      refine lv_bipush (v := (96 : Int32)) hx hb dX0_search_71 (by decide) ?_
      refine lv_icmp_ge (tgt := 140) hx hb dX0_search_73 (by decide) (fun c_13 => ?_) (fun c_13 => ?_)
      · replace hf := hf.1 c_13
        refine lv_iconst (v := (-1 : Int32)) hx hb dX0_search_140 (by decide) ?_
        exact g_iret C hG (hpost _ _ _ _ _ hf) dX0_search_141
      · replace hf := hf.2 c_13
        refine lv_aload_n hx hb dX0_search_76 rfl (lv_at hl 0 rfl) ?_
        refine gg_K_5 C hG inX0_search_wsX00 (hts _ (List.mem_of_getElem? (i := 5) rfl)) dX0_search_77 ?_
        refine lv_iload hx hb dX0_search_80 (lv_at hl 2 rfl) ?_
        obtain ⟨h_14, hf⟩ := hf
        refine ga_K_5 C hG h_14 dX0_search_82 ?_
        refine lv_topi (fun x6_15 ex6_15 => ?_)
        replace hf := hf x6_15 ex6_15
        refine lv_istore (lv' := [(6, .int x6_15), (0, .ref (B 3)), (3, .long y3), (5, .int y5)]) hx hb dX0_search_83 hl (by decide) rfl (fun ls hl => ?_)
        refine lv_iload hx hb dX0_search_85 (lv_at hl 0 rfl) ?_
        refine g_callSi0 (As := [.int x6_15]) C hG (kX0_isOut hf) (va_cwS 1 hts gX0_search_X0_isOut rfl rfl rfl hdsX0_isOut ⟨Nat.le_of_ble_eq_true rfl, Nat.le_of_ble_eq_true rfl⟩) rfl hl.1 rfl (Nat.le_of_ble_eq_true rfl) dX0_search_87 ⟨Nat.zero_le _, Nat.zero_le _⟩ (fun r_16 g1 H locs hq hG => ?_)
        obtain ⟨rfl, hf⟩ := hq
        refine lv_if_eq (tgt := 111) hx hb dX0_search_90 (by decide) (fun c_17 => ?_) (fun c_17 => ?_)
        · replace hf := hf.1 c_17
          exact vX0_search_b111 C hpost hG60 CU CQ CJ CX y3 y5 x6_15 _ _ _ hf hG (lv_sub hl [1, 2, 3, 0] rfl)
        · replace hf := hf.2 c_17
          refine lv_lload_n hx hb dX0_search_93 rfl (lv_at hl 2 rfl) ?_
          refine lv_iload hx hb dX0_search_94 (lv_at hl 0 rfl) ?_
          refine g_callSi0 (As := [.int x6_15]) C hG (kX0_relayOf hf) (va_cwS 1 hts gX0_search_X0_relayOf rfl rfl rfl hdsX0_relayOf ⟨Nat.le_of_ble_eq_true rfl, Nat.le_of_ble_eq_true rfl⟩) rfl hl.1 rfl (Nat.le_of_ble_eq_true rfl) dX0_search_96 ⟨Nat.zero_le _, Nat.zero_le _⟩ (fun r_18 g1 H locs hq hG => ?_)
          obtain ⟨rfl, hf⟩ := hq
          refine g_callNl0 (As := [.int r_18]) C hG (kX5_bit hf) ⟨va_cnB 1 hts gX0_search_X5_bit_n62 rfl rfl rfl (hN _ (List.mem_of_getElem? (i := 0) rfl)) (hts _ (List.mem_of_getElem? (i := 11) rfl)) hdsX5_bit ⟨Nat.le_of_ble_eq_true rfl, Nat.le_of_ble_eq_true rfl⟩, hts _ (List.mem_of_getElem? (i := 10) rfl), trivial⟩ rfl hl.1 rfl (Nat.le_of_ble_eq_true rfl) dX0_search_99 ⟨Nat.zero_le _, Nat.zero_le _⟩ (fun r_19 g1 H locs hq hG => ?_)
          obtain ⟨rfl, hf⟩ := hq
          refine lv_land hx hb dX0_search_102 ?_
          refine lv_lconst (v := (0 : Int64)) hx hb dX0_search_103 (by decide) ?_
          refine W.lcmp hx hb dX0_search_104 ?_
          refine lv_if_eq (tgt := 111) hx hb dX0_search_105 (by decide) (fun c_20 => ?_) (fun c_20 => ?_)
          · replace hf := hf.1 c_20
            exact vX0_search_b111 C hpost hG60 CU CQ CJ CX y3 y5 x6_15 _ _ _ hf hG (lv_sub hl [1, 2, 3, 0] rfl)
          · replace hf := hf.2 c_20
            refine lv_iload hx hb dX0_search_108 (lv_at hl 0 rfl) ?_
            exact g_iret C hG (hpost _ _ _ _ _ hf) dX0_search_110
set_option maxHeartbeats 4000000 in
set_option maxRecDepth 100000 in
theorem vX0_search_b51 {p : Program} {l : Launch} {e : Env} {s : State} {m : MethodId} {args : Array Value} {below : List Frame} {meth : Method} {c : Code} {D : va_G} {B : Nat → Nat} {A : Nat → Prop} {L : sL} {Y : sY} {M : sM} {O : sO} {post : Int32 → sG → Prop} {SI : Nat → Int32} {SX : Nat → Nat → Int32} {Q : Int32 → (Int64) → (Int32) → (Nat → Nat → Int64) → (Nat → Nat → Int32) → Prop} (C : gX p s m args meth c cX0_search 7 (some .int) wsX0_search RX0 D B A) (hpost : ∀ (v : Int32) (CU : Int64) (CQ : Int32) (CJ : Nat → Nat → Int64) (CX : Nat → Nat → Int32), Q v CU CQ CJ CX → post v ((SI, SX), (CU, CQ, CJ, CX), L, Y, M, O)) {G16 : (Int64) → (Int32) → (Nat → Nat → Int64) → (Nat → Nat → Int32) → Int64 → Int64 → Int32 → Prop} (hG16 : ∀ (CU : Int64) (CQ : Int32) (CJ : Nat → Nat → Int64) (CX : Nat → Nat → Int32) (y1 : Int64) (y3 : Int64) (y5 : Int32) (H : Heap) (locs : List Loc) (ls : Array Slot), G16 CU CQ CJ CX y1 y3 y5 → GS D B A s.heap ((SI, SX), (CU, CQ, CJ, CX), L, Y, M, O) H locs → lv_has ls 7 [(0, .ref (B 3)), (1, .long y1), (3, .long y3), (5, .int y5)] → W p l e (headSpec wsX0_search rX0_search).room s m args below meth c H locs 0 0 (MQ below (va_Qi post (gB D B A) A) args s 0 0 A) (F0 m 16 ls [])) (CU : Int64) (CQ : Int32) (CJ : Nat → Nat → Int64) (CX : Nat → Nat → Int32) (y1 : Int64) (y3 : Int64) (y5 : Int32) (H : Heap) (locs : List Loc) (ls : Array Slot) (hf : fX0_search_b51 SI SX G16 Q CU CQ CJ CX y1 y3 y5) (hG : GS D B A s.heap ((SI, SX), (CU, CQ, CJ, CX), L, Y, M, O) H locs) (hl : lv_has ls 7 [(0, .ref (B 3)), (1, .long y1), (3, .long y3), (5, .int y5)]) : W p l e (headSpec wsX0_search rX0_search).room s m args below meth c H locs 0 0 (MQ below (va_Qi post (gB D B A) A) args s 0 0 A) (F0 m 51 ls []) := by
  obtain ⟨hx, hb, hml, hown, hts, hK, hr, hlk, hA, hN⟩ := id C
  unfold fX0_search_b51 at hf
  obtain ⟨x5_11, ex5_11⟩ : ∃ y : Int32, y = y5 + (1 : Int32) := ⟨_, rfl⟩
  replace hf := hf x5_11 ex5_11
  refine lv_iinc (v := x5_11) (lv' := [(5, .int x5_11), (0, .ref (B 3)), (1, .long y1), (3, .long y3)]) hx hb dX0_search_51 hl (k := 3) rfl (by rw [ex5_11]; rfl) (by decide) rfl (fun ls hl => ?_)
  refine lv_goto (tgt := 16) hx hb dX0_search_54 (by decide) ?_
  exact hG16 CU CQ CJ CX y1 y3 x5_11 _ _ _ hf hG (lv_sub hl [1, 2, 3, 0] rfl)
set_option maxHeartbeats 4000000 in
set_option maxRecDepth 100000 in
theorem vX0_search_h16 {p : Program} {l : Launch} {e : Env} {s : State} {m : MethodId} {args : Array Value} {below : List Frame} {meth : Method} {c : Code} {D : va_G} {B : Nat → Nat} {A : Nat → Prop} {L : sL} {Y : sY} {M : sM} {O : sO} {post : Int32 → sG → Prop} {SI : Nat → Int32} {SX : Nat → Nat → Int32} {Q : Int32 → (Int64) → (Int32) → (Nat → Nat → Int64) → (Nat → Nat → Int32) → Prop} (C : gX p s m args meth c cX0_search 7 (some .int) wsX0_search RX0 D B A) (hpost : ∀ (v : Int32) (CU : Int64) (CQ : Int32) (CJ : Nat → Nat → Int64) (CX : Nat → Nat → Int32), Q v CU CQ CJ CX → post v ((SI, SX), (CU, CQ, CJ, CX), L, Y, M, O))  : ∀ (n16 : Nat) (CU : Int64) (CQ : Int32) (CJ : Nat → Nat → Int64) (CX : Nat → Nat → Int32) (y1 : Int64) (y3 : Int64) (y5 : Int32) (H : Heap) (locs : List Loc) (ls : Array Slot), fX0_search_h16 SI SX Q n16 CU CQ CJ CX y1 y3 y5 → GS D B A s.heap ((SI, SX), (CU, CQ, CJ, CX), L, Y, M, O) H locs → lv_has ls 7 [(0, .ref (B 3)), (1, .long y1), (3, .long y3), (5, .int y5)] → W p l e (headSpec wsX0_search rX0_search).room s m args below meth c H locs 0 0 (MQ below (va_Qi post (gB D B A) A) args s 0 0 A) (F0 m 16 ls []) := by
  obtain ⟨hx, hb, hml, hown, hts, hK, hr, hlk, hA, hN⟩ := id C
  intro n16
  induction n16 with
  | zero =>
    intro CU CQ CJ CX y1 y3 y5 H locs ls hf
    exact False.elim hf
  | succ n16 hG16 =>
    intro CU CQ CJ CX y1 y3 y5 H locs ls hf hG hl
    unfold fX0_search_h16 at hf
    refine lv_iload hx hb dX0_search_16 (lv_at hl 3 rfl) ?_
    refine lv_aload_n hx hb dX0_search_18 rfl (lv_at hl 0 rfl) ?_
    refine gg_K_0 C hG inX0_search_wsX00 (hts _ (List.mem_of_getElem? (i := 3) rfl)) dX0_search_19 ?_
    refine gg_S_1 C hG inX0_search_wsX30 (hts _ (List.mem_of_getElem? (i := 4) rfl)) dX0_search_22 ?_
    refine lv_icmp_ge (tgt := 57) hx hb dX0_search_25 (by decide) (fun c_3 => ?_) (fun c_3 => ?_)
    · replace hf := hf.1 c_3
      refine lv_iconst (v := (0 : Int32)) hx hb dX0_search_57 (by decide) ?_
      refine lv_istore (lv' := [(5, .int (0 : Int32)), (0, .ref (B 3)), (1, .long y1), (3, .long y3)]) hx hb dX0_search_58 hl (by decide) rfl (fun ls hl => ?_)
      obtain ⟨n60, hf⟩ := hf
      exact vX0_search_h60 C hpost  n60 CU CQ CJ CX y3 (0 : Int32) _ _ _ hf hG (lv_sub hl [1, 3, 0] rfl)
    · replace hf := hf.2 c_3
      refine lv_lload_n hx hb dX0_search_28 rfl (lv_at hl 1 rfl) ?_
      refine lv_iload hx hb dX0_search_29 (lv_at hl 3 rfl) ?_
      refine g_callNl0 (As := [.int y5]) C hG (kX5_bit hf) ⟨va_cnB 1 hts gX0_search_X5_bit_n62 rfl rfl rfl (hN _ (List.mem_of_getElem? (i := 0) rfl)) (hts _ (List.mem_of_getElem? (i := 11) rfl)) hdsX5_bit ⟨Nat.le_of_ble_eq_true rfl, Nat.le_of_ble_eq_true rfl⟩, hts _ (List.mem_of_getElem? (i := 10) rfl), trivial⟩ rfl hl.1 rfl (Nat.le_of_ble_eq_true rfl) dX0_search_31 ⟨Nat.zero_le _, Nat.zero_le _⟩ (fun r_4 g1 H locs hq hG => ?_)
      obtain ⟨rfl, hf⟩ := hq
      refine lv_land hx hb dX0_search_34 ?_
      refine lv_lconst (v := (0 : Int64)) hx hb dX0_search_35 (by decide) ?_
      refine W.lcmp hx hb dX0_search_36 ?_
      refine lv_if_eq (tgt := 51) hx hb dX0_search_37 (by decide) (fun c_5 => ?_) (fun c_5 => ?_)
      · replace hf := hf.1 c_5
        exact vX0_search_b51 C hpost hG16 CU CQ CJ CX y1 y3 y5 _ _ _ hf hG (lv_sub hl [0, 1, 2, 3] rfl)
      · replace hf := hf.2 c_5
        refine lv_aload_n hx hb dX0_search_40 rfl (lv_at hl 0 rfl) ?_
        refine lv_iload hx hb dX0_search_41 (lv_at hl 3 rfl) ?_
        refine g_callSi0 (As := [.int y5]) C hG (kX0_doorIn hf) (va_cwS 1 hts gX0_search_X0_doorIn rfl rfl rfl hdsX0_doorIn ⟨Nat.le_of_ble_eq_true rfl, Nat.le_of_ble_eq_true rfl⟩) rfl hl.1 rfl (Nat.le_of_ble_eq_true rfl) dX0_search_43 ⟨Nat.zero_le _, Nat.zero_le _⟩ (fun r_6 g1 H locs hq hG => ?_)
        obtain ⟨rfl, hf⟩ := hq
        refine lv_bipush (v := (-2 : Int32)) hx hb dX0_search_46 (by decide) ?_
        refine g_callVv0 (As := [.int r_6, .int (-2 : Int32)]) C hG (kX0_enter hf) (cwV 2 hts gX0_search_X0_enter rfl rfl rfl hdvX0_enter ⟨Nat.le_of_ble_eq_true rfl, Nat.le_of_ble_eq_true rfl⟩) (va_recv hK hG.1 (ci := 0) (q0 := 36) rfl rfl) rfl hl.1 rfl (Nat.le_of_ble_eq_true rfl) dX0_search_48 ⟨Nat.zero_le _, Nat.zero_le _⟩ (fun g1 H locs hq hG => ?_)
        obtain ⟨CU_7, CQ_8, CJ_9, CX_10, rfl, hf⟩ := hq
        exact vX0_search_b51 C hpost hG16 CU_7 CQ_8 CJ_9 CX_10 y1 y3 y5 _ _ _ hf hG (lv_sub hl [0, 1, 2, 3] rfl)
set_option maxHeartbeats 4000000 in
set_option maxRecDepth 100000 in
theorem vX0_search_b0 {p : Program} {l : Launch} {e : Env} {s : State} {m : MethodId} {args : Array Value} {below : List Frame} {meth : Method} {c : Code} {D : va_G} {B : Nat → Nat} {A : Nat → Prop} {L : sL} {Y : sY} {M : sM} {O : sO} {post : Int32 → sG → Prop} {SI : Nat → Int32} {SX : Nat → Nat → Int32} {Q : Int32 → (Int64) → (Int32) → (Nat → Nat → Int64) → (Nat → Nat → Int32) → Prop} (C : gX p s m args meth c cX0_search 7 (some .int) wsX0_search RX0 D B A) (hpost : ∀ (v : Int32) (CU : Int64) (CQ : Int32) (CJ : Nat → Nat → Int64) (CX : Nat → Nat → Int32), Q v CU CQ CJ CX → post v ((SI, SX), (CU, CQ, CJ, CX), L, Y, M, O))  (CU : Int64) (CQ : Int32) (CJ : Nat → Nat → Int64) (CX : Nat → Nat → Int32) (x1 : Int64) (x3 : Int64) (H : Heap) (locs : List Loc) (ls : Array Slot) (hf : fX0_search SI SX Q CU CQ CJ CX x1 x3) (hG : GS D B A s.heap ((SI, SX), (CU, CQ, CJ, CX), L, Y, M, O) H locs) (hl : lv_has ls 7 [(0, .ref (B 3)), (1, .long x1), (3, .long x3)]) : W p l e (headSpec wsX0_search rX0_search).room s m args below meth c H locs 0 0 (MQ below (va_Qi post (gB D B A) A) args s 0 0 A) (F0 m 0 ls []) := by
  obtain ⟨hx, hb, hml, hown, hts, hK, hr, hlk, hA, hN⟩ := id C
  unfold fX0_search at hf
  refine lv_aload_n hx hb dX0_search_0 rfl (lv_at hl 0 rfl) ?_
  refine gg_K_4 C hG inX0_search_wsX00 (hts _ (List.mem_of_getElem? (i := 1) rfl)) dX0_search_1 ?_
  refine lv_iconst (v := (-1 : Int32)) hx hb dX0_search_4 (by decide) ?_
  refine g_callSv0 (As := [.ref (B 44), .int (-1 : Int32)]) C hG (kfill_K4 (-1 : Int32)) (va_cwS 2 hts gX0_search_J7_fill_53178 rfl rfl rfl hdsJ7_fill_53178 ⟨Nat.le_of_ble_eq_true rfl, Nat.le_of_ble_eq_true rfl⟩) rfl hl.1 rfl (Nat.le_of_ble_eq_true rfl) dX0_search_5 ⟨Nat.zero_le _, Nat.zero_le _⟩ (fun g1 H locs hq hG => ?_)
  subst hq
  obtain ⟨CX_1, eCX_1⟩ : ∃ y : Nat → Nat → Int32, y = va_up CX 4 (gfill 96 (-1 : Int32) (CX 4)) := ⟨_, rfl⟩
  rw [← eCX_1] at hG
  replace hf := hf CX_1 eCX_1
  refine lv_aload_n hx hb dX0_search_8 rfl (lv_at hl 0 rfl) ?_
  refine lv_iconst (v := (0 : Int32)) hx hb dX0_search_9 (by decide) ?_
  refine gp_K_6 C hG inX0_search_wsX00 (hts _ (List.mem_of_getElem? (i := 2) rfl)) dX0_search_10 (fun CQ_2 H locs eCQ_2 hG => ?_)
  replace hf := hf CQ_2 eCQ_2
  refine lv_iconst (v := (0 : Int32)) hx hb dX0_search_13 (by decide) ?_
  refine lv_istore (lv' := [(5, .int (0 : Int32)), (0, .ref (B 3)), (1, .long x1), (3, .long x3)]) hx hb dX0_search_14 hl (by decide) rfl (fun ls hl => ?_)
  obtain ⟨n16, hf⟩ := hf
  exact vX0_search_h16 C hpost  n16 CU CQ_2 CJ CX_1 x1 x3 (0 : Int32) _ _ _ hf hG (lv_sub hl [1, 2, 3, 0] rfl)
set_option maxRecDepth 100000 in
theorem kX0_search {l : Launch} {D : va_G} {B : Nat → Nat} {L : sL} {Y : sY} {M : sM} {O : sO} {SI : Nat → Int32} {SX : Nat → Nat → Int32} {Q : Int32 → (Int64) → (Int32) → (Nat → Nat → Int64) → (Nat → Nat → Int32) → Prop} {CU : Int64} {CQ : Int32} {CJ : Nat → Nat → Int64} {CX : Nat → Nat → Int32} {x1 : Int64} {x3 : Int64} (hf : fX0_search SI SX Q CU CQ CJ CX x1 x3) : gMi D B l yX0_search wsX0_search rX0_search 0 0 [.ref (B 3), .long x1, .long x3] ((SI, SX), (CU, CQ, CJ, CX), L, Y, M, O) (fun r g1 => ∃ (CU1 : Int64) (CQ1 : Int32) (CJ1 : Nat → Nat → Int64) (CX1 : Nat → Nat → Int32), g1 = ((SI, SX), (CU1, CQ1, CJ1, CX1), L, Y, M, O) ∧ Q r CU1 CQ1 CJ1 CX1) := by
  refine gMi_of (cc := cX0_search) (maxL := 7) (ret := some .int) (by decide +kernel) rfl (Nat.le_of_ble_eq_true rfl) ?_
  intro p e s m below meth c A hA0 C hG ls hl
  exact vX0_search_b0 C (fun v CU CQ CJ CX hq => ⟨CU, CQ, CJ, CX, rfl, hq⟩) CU CQ CJ CX x1 x3 _ _ _ hf hG hl
def rX0_addWay : Room := { frames := 1, cells := 0, slots := 0, locals := 20 }
theorem hdvX0_addWay : yX0_addWay.cls = RX0 ∧ yX0_addWay.cls ≠ "java/lang/invoke/MethodHandle" ∧ yX0_addWay.cls ≠ "java/lang/invoke/VarHandle" ∧ (parseMethodDescriptor yX0_addWay.desc).map (fun d => d.parameters.length) = some 1 := by decide +kernel
theorem inX0_addWay_wsX00 : ∀ w ∈ wsX00, w ∈ wsX0_addWay := (fun _ h => List.mem_cons_of_mem _ (List.mem_append_right _ h))
set_option maxHeartbeats 4000000 in
set_option maxRecDepth 100000 in
theorem vX0_addWay_b109 {p : Program} {l : Launch} {e : Env} {s : State} {m : MethodId} {args : Array Value} {below : List Frame} {meth : Method} {c : Code} {D : va_G} {B : Nat → Nat} {A : Nat → Prop} {S : sS} {L : sL} {Y : sY} {M : sM} {O : sO} {post : sG → Prop} {Q : (Int64) → (Int32) → (Nat → Nat → Int64) → (Nat → Nat → Int32) → Prop} (C : gX p s m args meth c cX0_addWay 7 (none) wsX0_addWay RX0 D B A) (hpost : ∀ (CU : Int64) (CQ : Int32) (CJ : Nat → Nat → Int64) (CX : Nat → Nat → Int32), Q CU CQ CJ CX → post (S, (CU, CQ, CJ, CX), L, Y, M, O)) {G4 : (Int64) → (Int32) → (Nat → Nat → Int64) → (Nat → Nat → Int32) → Int32 → Int32 → Prop} (hG4 : ∀ (CU : Int64) (CQ : Int32) (CJ : Nat → Nat → Int64) (CX : Nat → Nat → Int32) (y2 : Int32) (y3 : Int32) (H : Heap) (locs : List Loc) (ls : Array Slot), G4 CU CQ CJ CX y2 y3 → GS D B A s.heap (S, (CU, CQ, CJ, CX), L, Y, M, O) H locs → lv_has ls 7 [(0, .ref (B 3)), (2, .int y2), (3, .int y3)] → W p l e (headSpec wsX0_addWay rX0_addWay).room s m args below meth c H locs 0 0 (MQ below (va_Qv post (gB D B A) A) args s 0 0 A) (F0 m 4 ls [])) (CU : Int64) (CQ : Int32) (CJ : Nat → Nat → Int64) (CX : Nat → Nat → Int32) (y3 : Int32) (y4 : Int32) (H : Heap) (locs : List Loc) (ls : Array Slot) (hf : fX0_addWay_b109 G4 Q CU CQ CJ CX y3 y4) (hG : GS D B A s.heap (S, (CU, CQ, CJ, CX), L, Y, M, O) H locs) (hl : lv_has ls 7 [(0, .ref (B 3)), (3, .int y3), (4, .int y4)]) : W p l e (headSpec wsX0_addWay rX0_addWay).room s m args below meth c H locs 0 0 (MQ below (va_Qv post (gB D B A) A) args s 0 0 A) (F0 m 109 ls []) := by
  obtain ⟨hx, hb, hml, hown, hts, hK, hr, hlk, hA, hN⟩ := id C
  unfold fX0_addWay_b109 at hf
  refine lv_iload hx hb dX0_addWay_109 (lv_at hl 2 rfl) ?_
  refine lv_istore_n (lv' := [(2, .int y4), (0, .ref (B 3)), (3, .int y3), (4, .int y4)]) hx hb dX0_addWay_111 rfl hl (by decide) rfl (fun ls hl => ?_)
  obtain ⟨x3_21, ex3_21⟩ : ∃ y : Int32, y = y3 + (1 : Int32) := ⟨_, rfl⟩
  replace hf := hf x3_21 ex3_21
  refine lv_iinc (v := x3_21) (lv' := [(3, .int x3_21), (2, .int y4), (0, .ref (B 3)), (4, .int y4)]) hx hb dX0_addWay_112 hl (k := 2) rfl (by rw [ex3_21]; rfl) (by decide) rfl (fun ls hl => ?_)
  refine lv_goto (tgt := 4) hx hb dX0_addWay_115 (by decide) ?_
  exact hG4 CU CQ CJ CX y4 x3_21 _ _ _ hf hG (lv_sub hl [2, 1, 0] rfl)
set_option maxHeartbeats 4000000 in
set_option maxRecDepth 100000 in
theorem vX0_addWay_h4 {p : Program} {l : Launch} {e : Env} {s : State} {m : MethodId} {args : Array Value} {below : List Frame} {meth : Method} {c : Code} {D : va_G} {B : Nat → Nat} {A : Nat → Prop} {S : sS} {L : sL} {Y : sY} {M : sM} {O : sO} {post : sG → Prop} {Q : (Int64) → (Int32) → (Nat → Nat → Int64) → (Nat → Nat → Int32) → Prop} (C : gX p s m args meth c cX0_addWay 7 (none) wsX0_addWay RX0 D B A) (hpost : ∀ (CU : Int64) (CQ : Int32) (CJ : Nat → Nat → Int64) (CX : Nat → Nat → Int32), Q CU CQ CJ CX → post (S, (CU, CQ, CJ, CX), L, Y, M, O))  : ∀ (n4 : Nat) (CU : Int64) (CQ : Int32) (CJ : Nat → Nat → Int64) (CX : Nat → Nat → Int32) (y2 : Int32) (y3 : Int32) (H : Heap) (locs : List Loc) (ls : Array Slot), fX0_addWay_h4 Q n4 CU CQ CJ CX y2 y3 → GS D B A s.heap (S, (CU, CQ, CJ, CX), L, Y, M, O) H locs → lv_has ls 7 [(0, .ref (B 3)), (2, .int y2), (3, .int y3)] → W p l e (headSpec wsX0_addWay rX0_addWay).room s m args below meth c H locs 0 0 (MQ below (va_Qv post (gB D B A) A) args s 0 0 A) (F0 m 4 ls []) := by
  obtain ⟨hx, hb, hml, hown, hts, hK, hr, hlk, hA, hN⟩ := id C
  intro n4
  induction n4 with
  | zero =>
    intro CU CQ CJ CX y2 y3 H locs ls hf
    exact False.elim hf
  | succ n4 hG4 =>
    intro CU CQ CJ CX y2 y3 H locs ls hf hG hl
    unfold fX0_addWay_h4 at hf
    refine lv_iload_n hx hb dX0_addWay_4 rfl (lv_at hl 2 rfl) ?_
    refine lv_bipush (v := (96 : Int32)) hx hb dX0_addWay_5 (by decide) ?_
    refine lv_icmp_ge (tgt := 118) hx hb dX0_addWay_7 (by decide) (fun c_1 => ?_) (fun c_1 => ?_)
    · replace hf := hf.1 c_1
      exact g_vret C hG (hpost _ _ _ _ hf) dX0_addWay_118
    · replace hf := hf.2 c_1
      refine lv_aload_n hx hb dX0_addWay_10 rfl (lv_at hl 0 rfl) ?_
      refine gg_K_4 C hG inX0_addWay_wsX00 (hts _ (List.mem_of_getElem? (i := 1) rfl)) dX0_addWay_11 ?_
      refine lv_iload_n hx hb dX0_addWay_14 rfl (lv_at hl 1 rfl) ?_
      obtain ⟨h_2, hf⟩ := hf
      refine ga_K_4 C hG h_2 dX0_addWay_15 ?_
      refine lv_if_lt (tgt := 118) hx hb dX0_addWay_16 (by decide) (fun c_3 => ?_) (fun c_3 => ?_)
      · replace hf := hf.1 c_3
        exact g_vret C hG (hpost _ _ _ _ hf) dX0_addWay_118
      · replace hf := hf.2 c_3
        refine lv_aload_n hx hb dX0_addWay_19 rfl (lv_at hl 0 rfl) ?_
        refine gg_K_4 C hG inX0_addWay_wsX00 (hts _ (List.mem_of_getElem? (i := 1) rfl)) dX0_addWay_20 ?_
        refine lv_iload_n hx hb dX0_addWay_23 rfl (lv_at hl 1 rfl) ?_
        obtain ⟨h_4, hf⟩ := hf
        refine ga_K_4 C hG h_4 dX0_addWay_24 ?_
        refine lv_topi (fun x4_5 ex4_5 => ?_)
        replace hf := hf x4_5 ex4_5
        refine lv_istore (lv' := [(4, .int x4_5), (0, .ref (B 3)), (2, .int y2), (3, .int y3)]) hx hb dX0_addWay_25 hl (by decide) rfl (fun ls hl => ?_)
        refine lv_iload_n hx hb dX0_addWay_27 rfl (lv_at hl 2 rfl) ?_
        refine g_callSi0 (As := [.int y2]) C hG (kX0_relayOf hf) (va_cwS 1 hts gX0_addWay_X0_relayOf rfl rfl rfl hdsX0_relayOf ⟨Nat.le_of_ble_eq_true rfl, Nat.le_of_ble_eq_true rfl⟩) rfl hl.1 rfl (Nat.le_of_ble_eq_true rfl) dX0_addWay_28 ⟨Nat.zero_le _, Nat.zero_le _⟩ (fun r_6 g1 H locs hq hG => ?_)
        obtain ⟨rfl, hf⟩ := hq
        refine lv_istore (lv' := [(5, .int r_6), (4, .int x4_5), (0, .ref (B 3)), (2, .int y2), (3, .int y3)]) hx hb dX0_addWay_31 hl (by decide) rfl (fun ls hl => ?_)
        refine lv_iload hx hb dX0_addWay_33 (lv_at hl 1 rfl) ?_
        refine g_callSi0 (As := [.int x4_5]) C hG (kX0_relayOf hf) (va_cwS 1 hts gX0_addWay_X0_relayOf rfl rfl rfl hdsX0_relayOf ⟨Nat.le_of_ble_eq_true rfl, Nat.le_of_ble_eq_true rfl⟩) rfl hl.1 rfl (Nat.le_of_ble_eq_true rfl) dX0_addWay_35 ⟨Nat.zero_le _, Nat.zero_le _⟩ (fun r_7 g1 H locs hq hG => ?_)
        obtain ⟨rfl, hf⟩ := hq
        refine lv_istore (lv' := [(6, .int r_7), (5, .int r_6), (4, .int x4_5), (0, .ref (B 3)), (2, .int y2), (3, .int y3)]) hx hb dX0_addWay_38 hl (by decide) rfl (fun ls hl => ?_)
        refine lv_iload hx hb dX0_addWay_40 (lv_at hl 1 rfl) ?_
        refine lv_iload hx hb dX0_addWay_42 (lv_at hl 0 rfl) ?_
        refine lv_icmp_ne (tgt := 64) hx hb dX0_addWay_44 (by decide) (fun c_8 => ?_) (fun c_8 => ?_)
        · replace hf := hf.1 c_8
          refine lv_iload hx hb dX0_addWay_64 (lv_at hl 2 rfl) ?_
          refine g_callSi0 (As := [.int x4_5]) C hG (kX0_isOut hf) (va_cwS 1 hts gX0_addWay_X0_isOut rfl rfl rfl hdsX0_isOut ⟨Nat.le_of_ble_eq_true rfl, Nat.le_of_ble_eq_true rfl⟩) rfl hl.1 rfl (Nat.le_of_ble_eq_true rfl) dX0_addWay_66 ⟨Nat.zero_le _, Nat.zero_le _⟩ (fun r_9 g1 H locs hq hG => ?_)
          obtain ⟨rfl, hf⟩ := hq
          refine lv_if_eq (tgt := 90) hx hb dX0_addWay_69 (by decide) (fun c_10 => ?_) (fun c_10 => ?_)
          · replace hf := hf.1 c_10
            refine lv_aload_n hx hb dX0_addWay_90 rfl (lv_at hl 3 rfl) ?_
            refine gg_K_2 C hG inX0_addWay_wsX00 (hts _ (List.mem_of_getElem? (i := 3) rfl)) dX0_addWay_91 ?_
            refine lv_iload hx hb dX0_addWay_94 (lv_at hl 1 rfl) ?_
            refine lv_dup2_11 hx hb dX0_addWay_96 rfl rfl ?_
            obtain ⟨h_11, hf⟩ := hf
            refine ga_K_2 C hG h_11 dX0_addWay_97 ?_
            refine lv_iload hx hb dX0_addWay_98 (lv_at hl 0 rfl) ?_
            refine g_callNl0 (As := [.int r_7]) C hG (kX5_bit hf) ⟨va_cnB 1 hts gX0_addWay_X5_bit_n62 rfl rfl rfl (hN _ (List.mem_of_getElem? (i := 0) rfl)) (hts _ (List.mem_of_getElem? (i := 10) rfl)) hdsX5_bit ⟨Nat.le_of_ble_eq_true rfl, Nat.le_of_ble_eq_true rfl⟩, hts _ (List.mem_of_getElem? (i := 9) rfl), trivial⟩ rfl hl.1 rfl (Nat.le_of_ble_eq_true rfl) dX0_addWay_100 ⟨Nat.zero_le _, Nat.zero_le _⟩ (fun r_12 g1 H locs hq hG => ?_)
            obtain ⟨rfl, hf⟩ := hq
            refine lv_ldc2 (v := (-1 : Int64)) hx hb hown (hts _ (List.mem_of_getElem? (i := 4) rfl)) dX0_addWay_103 ?_
            refine lv_lxor hx hb dX0_addWay_106 ?_
            refine lv_land hx hb dX0_addWay_107 ?_
            obtain ⟨h_13, hf⟩ := hf
            refine gs_K_2 C hG h_13 dX0_addWay_108 (fun CJ_14 H locs eCJ_14 hG => ?_)
            replace hf := hf CJ_14 eCJ_14
            exact vX0_addWay_b109 C hpost hG4 CU CQ CJ_14 CX y3 x4_5 _ _ _ hf hG (lv_sub hl [3, 5, 2] rfl)
          · replace hf := hf.2 c_10
            refine lv_aload_n hx hb dX0_addWay_72 rfl (lv_at hl 3 rfl) ?_
            refine gg_K_2 C hG inX0_addWay_wsX00 (hts _ (List.mem_of_getElem? (i := 3) rfl)) dX0_addWay_73 ?_
            refine lv_iload hx hb dX0_addWay_76 (lv_at hl 0 rfl) ?_
            refine lv_dup2_11 hx hb dX0_addWay_78 rfl rfl ?_
            obtain ⟨h_15, hf⟩ := hf
            refine ga_K_2 C hG h_15 dX0_addWay_79 ?_
            refine lv_iload hx hb dX0_addWay_80 (lv_at hl 1 rfl) ?_
            refine g_callNl0 (As := [.int r_6]) C hG (kX5_bit hf) ⟨va_cnB 1 hts gX0_addWay_X5_bit_n62 rfl rfl rfl (hN _ (List.mem_of_getElem? (i := 0) rfl)) (hts _ (List.mem_of_getElem? (i := 10) rfl)) hdsX5_bit ⟨Nat.le_of_ble_eq_true rfl, Nat.le_of_ble_eq_true rfl⟩, hts _ (List.mem_of_getElem? (i := 9) rfl), trivial⟩ rfl hl.1 rfl (Nat.le_of_ble_eq_true rfl) dX0_addWay_82 ⟨Nat.zero_le _, Nat.zero_le _⟩ (fun r_16 g1 H locs hq hG => ?_)
            obtain ⟨rfl, hf⟩ := hq
            refine lv_lor hx hb dX0_addWay_85 ?_
            obtain ⟨h_17, hf⟩ := hf
            refine gs_K_2 C hG h_17 dX0_addWay_86 (fun CJ_18 H locs eCJ_18 hG => ?_)
            replace hf := hf CJ_18 eCJ_18
            refine lv_goto (tgt := 109) hx hb dX0_addWay_87 (by decide) ?_
            exact vX0_addWay_b109 C hpost hG4 CU CQ CJ_18 CX y3 x4_5 _ _ _ hf hG (lv_sub hl [3, 5, 2] rfl)
        · replace hf := hf.2 c_8
          refine lv_aload_n hx hb dX0_addWay_47 rfl (lv_at hl 3 rfl) ?_
          refine lv_dup hx hb dX0_addWay_48 rfl ?_
          refine gg_K_3 C hG inX0_addWay_wsX00 (hts _ (List.mem_of_getElem? (i := 2) rfl)) dX0_addWay_49 ?_
          refine lv_iload hx hb dX0_addWay_52 (lv_at hl 1 rfl) ?_
          refine g_callNl0 (As := [.int r_6]) C hG (kX5_bit hf) ⟨va_cnB 1 hts gX0_addWay_X5_bit_n62 rfl rfl rfl (hN _ (List.mem_of_getElem? (i := 0) rfl)) (hts _ (List.mem_of_getElem? (i := 10) rfl)) hdsX5_bit ⟨Nat.le_of_ble_eq_true rfl, Nat.le_of_ble_eq_true rfl⟩, hts _ (List.mem_of_getElem? (i := 9) rfl), trivial⟩ rfl hl.1 rfl (Nat.le_of_ble_eq_true rfl) dX0_addWay_54 ⟨Nat.zero_le _, Nat.zero_le _⟩ (fun r_19 g1 H locs hq hG => ?_)
          obtain ⟨rfl, hf⟩ := hq
          refine lv_lxor hx hb dX0_addWay_57 ?_
          refine gp_K_3 C hG inX0_addWay_wsX00 (hts _ (List.mem_of_getElem? (i := 2) rfl)) dX0_addWay_58 (fun CU_20 H locs eCU_20 hG => ?_)
          replace hf := hf CU_20 eCU_20
          refine lv_goto (tgt := 109) hx hb dX0_addWay_61 (by decide) ?_
          exact vX0_addWay_b109 C hpost hG4 CU_20 CQ CJ CX y3 x4_5 _ _ _ hf hG (lv_sub hl [3, 5, 2] rfl)
set_option maxHeartbeats 4000000 in
set_option maxRecDepth 100000 in
theorem vX0_addWay_b0 {p : Program} {l : Launch} {e : Env} {s : State} {m : MethodId} {args : Array Value} {below : List Frame} {meth : Method} {c : Code} {D : va_G} {B : Nat → Nat} {A : Nat → Prop} {S : sS} {L : sL} {Y : sY} {M : sM} {O : sO} {post : sG → Prop} {Q : (Int64) → (Int32) → (Nat → Nat → Int64) → (Nat → Nat → Int32) → Prop} (C : gX p s m args meth c cX0_addWay 7 (none) wsX0_addWay RX0 D B A) (hpost : ∀ (CU : Int64) (CQ : Int32) (CJ : Nat → Nat → Int64) (CX : Nat → Nat → Int32), Q CU CQ CJ CX → post (S, (CU, CQ, CJ, CX), L, Y, M, O))  (CU : Int64) (CQ : Int32) (CJ : Nat → Nat → Int64) (CX : Nat → Nat → Int32) (x1 : Int32) (H : Heap) (locs : List Loc) (ls : Array Slot) (hf : fX0_addWay Q CU CQ CJ CX x1) (hG : GS D B A s.heap (S, (CU, CQ, CJ, CX), L, Y, M, O) H locs) (hl : lv_has ls 7 [(0, .ref (B 3)), (1, .int x1)]) : W p l e (headSpec wsX0_addWay rX0_addWay).room s m args below meth c H locs 0 0 (MQ below (va_Qv post (gB D B A) A) args s 0 0 A) (F0 m 0 ls []) := by
  obtain ⟨hx, hb, hml, hown, hts, hK, hr, hlk, hA, hN⟩ := id C
  unfold fX0_addWay at hf
  refine lv_iload_n hx hb dX0_addWay_0 rfl (lv_at hl 1 rfl) ?_
  refine lv_istore_n (lv' := [(2, .int x1), (0, .ref (B 3)), (1, .int x1)]) hx hb dX0_addWay_1 rfl hl (by decide) rfl (fun ls hl => ?_)
  refine lv_iconst (v := (0 : Int32)) hx hb dX0_addWay_2 (by decide) ?_
  refine lv_istore_n (lv' := [(3, .int (0 : Int32)), (2, .int x1), (0, .ref (B 3)), (1, .int x1)]) hx hb dX0_addWay_3 rfl hl (by decide) rfl (fun ls hl => ?_)
  obtain ⟨n4, hf⟩ := hf
  exact vX0_addWay_h4 C hpost  n4 CU CQ CJ CX x1 (0 : Int32) _ _ _ hf hG (lv_sub hl [2, 1, 0] rfl)
set_option maxRecDepth 100000 in
theorem kX0_addWay {l : Launch} {D : va_G} {B : Nat → Nat} {S : sS} {L : sL} {Y : sY} {M : sM} {O : sO}  {Q : (Int64) → (Int32) → (Nat → Nat → Int64) → (Nat → Nat → Int32) → Prop} {CU : Int64} {CQ : Int32} {CJ : Nat → Nat → Int64} {CX : Nat → Nat → Int32} {x1 : Int32} (hf : fX0_addWay Q CU CQ CJ CX x1) : gMv D B l yX0_addWay wsX0_addWay rX0_addWay 0 0 [.ref (B 3), .int x1] (S, (CU, CQ, CJ, CX), L, Y, M, O) (fun g1 => ∃ (CU1 : Int64) (CQ1 : Int32) (CJ1 : Nat → Nat → Int64) (CX1 : Nat → Nat → Int32), g1 = (S, (CU1, CQ1, CJ1, CX1), L, Y, M, O) ∧ Q CU1 CQ1 CJ1 CX1) := by
  refine gMv_of (cc := cX0_addWay) (maxL := 7) (ret := none) (by decide +kernel) rfl (Nat.le_of_ble_eq_true rfl) ?_
  intro p e s m below meth c A hA0 C hG ls hl
  exact vX0_addWay_b0 C (fun CU CQ CJ CX hq => ⟨CU, CQ, CJ, CX, rfl, hq⟩) CU CQ CJ CX x1 _ _ _ hf hG hl
def rX0_relaysNear : Room := { frames := 2, cells := 0, slots := 0, locals := 45 }
theorem hdvX0_relaysNear : yX0_relaysNear.cls = RX0 ∧ yX0_relaysNear.cls ≠ "java/lang/invoke/MethodHandle" ∧ yX0_relaysNear.cls ≠ "java/lang/invoke/VarHandle" ∧ (parseMethodDescriptor yX0_relaysNear.desc).map (fun d => d.parameters.length) = some 2 := by decide +kernel
theorem inX0_relaysNear_wsX00 : ∀ w ∈ wsX00, w ∈ wsX0_relaysNear := (fun _ h => List.mem_cons_of_mem _ (List.mem_append_left _ (List.mem_append_right _ h)))
set_option maxHeartbeats 4000000 in
set_option maxRecDepth 100000 in
theorem vX0_relaysNear_b51 {p : Program} {l : Launch} {e : Env} {s : State} {m : MethodId} {args : Array Value} {below : List Frame} {meth : Method} {c : Code} {D : va_G} {B : Nat → Nat} {A : Nat → Prop} {L : sL} {Y : sY} {M : sM} {O : sO} {post : Int64 → sG → Prop} {SI : Nat → Int32} {SX : Nat → Nat → Int32} {CU : Int64} {CQ : Int32} {CJ : Nat → Nat → Int64} {CX : Nat → Nat → Int32} {Q : Int64 → Prop} (C : gX p s m args meth c cX0_relaysNear 7 (some .long) wsX0_relaysNear RX0 D B A) (hpost : ∀ (v : Int64) , Q v  → post v ((SI, SX), (CU, CQ, CJ, CX), L, Y, M, O)) {G22 : Int32 → Int32 → Int64 → Int32 → Int32 → Prop} (hG22 : ∀  (y1 : Int32) (y2 : Int32) (y3 : Int64) (y5 : Int32) (y6 : Int32) (H : Heap) (locs : List Loc) (ls : Array Slot), G22 y1 y2 y3 y5 y6 → GS D B A s.heap ((SI, SX), (CU, CQ, CJ, CX), L, Y, M, O) H locs → lv_has ls 7 [(0, .ref (B 3)), (1, .int y1), (2, .int y2), (3, .long y3), (5, .int y5), (6, .int y6)] → W p l e (headSpec wsX0_relaysNear rX0_relaysNear).room s m args below meth c H locs 0 0 (MQ below (va_Ql post (gB D B A) A) args s 0 0 A) (F0 m 22 ls []))  (y1 : Int32) (y2 : Int32) (y3 : Int64) (y5 : Int32) (y6 : Int32) (H : Heap) (locs : List Loc) (ls : Array Slot) (hf : fX0_relaysNear_b51 SI SX CU CQ CJ CX G22 Q y1 y2 y3 y5 y6) (hG : GS D B A s.heap ((SI, SX), (CU, CQ, CJ, CX), L, Y, M, O) H locs) (hl : lv_has ls 7 [(0, .ref (B 3)), (1, .int y1), (2, .int y2), (3, .long y3), (5, .int y5), (6, .int y6)]) : W p l e (headSpec wsX0_relaysNear rX0_relaysNear).room s m args below meth c H locs 0 0 (MQ below (va_Ql post (gB D B A) A) args s 0 0 A) (F0 m 51 ls []) := by
  obtain ⟨hx, hb, hml, hown, hts, hK, hr, hlk, hA, hN⟩ := id C
  unfold fX0_relaysNear_b51 at hf
  obtain ⟨x6_8, ex6_8⟩ : ∃ y : Int32, y = y6 + (1 : Int32) := ⟨_, rfl⟩
  replace hf := hf x6_8 ex6_8
  refine lv_iinc (v := x6_8) (lv' := [(6, .int x6_8), (0, .ref (B 3)), (1, .int y1), (2, .int y2), (3, .long y3), (5, .int y5)]) hx hb dX0_relaysNear_51 hl (k := 5) rfl (by rw [ex6_8]; rfl) (by decide) rfl (fun ls hl => ?_)
  refine lv_goto (tgt := 22) hx hb dX0_relaysNear_54 (by decide) ?_
  exact hG22 y1 y2 y3 y5 x6_8 _ _ _ hf hG (lv_sub hl [1, 2, 3, 4, 5, 0] rfl)
set_option maxHeartbeats 4000000 in
set_option maxRecDepth 100000 in
theorem vX0_relaysNear_h22 {p : Program} {l : Launch} {e : Env} {s : State} {m : MethodId} {args : Array Value} {below : List Frame} {meth : Method} {c : Code} {D : va_G} {B : Nat → Nat} {A : Nat → Prop} {L : sL} {Y : sY} {M : sM} {O : sO} {post : Int64 → sG → Prop} {SI : Nat → Int32} {SX : Nat → Nat → Int32} {CU : Int64} {CQ : Int32} {CJ : Nat → Nat → Int64} {CX : Nat → Nat → Int32} {Q : Int64 → Prop} (C : gX p s m args meth c cX0_relaysNear 7 (some .long) wsX0_relaysNear RX0 D B A) (hpost : ∀ (v : Int64) , Q v  → post v ((SI, SX), (CU, CQ, CJ, CX), L, Y, M, O))  : ∀ (n22 : Nat)  (y1 : Int32) (y2 : Int32) (y3 : Int64) (y5 : Int32) (y6 : Int32) (H : Heap) (locs : List Loc) (ls : Array Slot), fX0_relaysNear_h22 SI SX CU CQ CJ CX Q n22 y1 y2 y3 y5 y6 → GS D B A s.heap ((SI, SX), (CU, CQ, CJ, CX), L, Y, M, O) H locs → lv_has ls 7 [(0, .ref (B 3)), (1, .int y1), (2, .int y2), (3, .long y3), (5, .int y5), (6, .int y6)] → W p l e (headSpec wsX0_relaysNear rX0_relaysNear).room s m args below meth c H locs 0 0 (MQ below (va_Ql post (gB D B A) A) args s 0 0 A) (F0 m 22 ls []) := by
  obtain ⟨hx, hb, hml, hown, hts, hK, hr, hlk, hA, hN⟩ := id C
  intro n22
  induction n22 with
  | zero =>
    intro y1 y2 y3 y5 y6 H locs ls hf
    exact False.elim hf
  | succ n22 hG22 =>
    intro y1 y2 y3 y5 y6 H locs ls hf hG hl
    unfold fX0_relaysNear_h22 at hf
    refine lv_iload hx hb dX0_relaysNear_22 (lv_at hl 5 rfl) ?_
    refine lv_iload hx hb dX0_relaysNear_24 (lv_at hl 4 rfl) ?_
    refine lv_icmp_ge (tgt := 57) hx hb dX0_relaysNear_26 (by decide) (fun c_3 => ?_) (fun c_3 => ?_)
    · replace hf := hf.1 c_3
      refine lv_lload_n hx hb dX0_relaysNear_57 rfl (lv_at hl 3 rfl) ?_
      exact g_lret C hG (hpost _ hf) dX0_relaysNear_58
    · replace hf := hf.2 c_3
      refine lv_aload_n hx hb dX0_relaysNear_29 rfl (lv_at hl 0 rfl) ?_
      refine gg_K_0 C hG inX0_relaysNear_wsX00 (hts _ (List.mem_of_getElem? (i := 1) rfl)) dX0_relaysNear_30 ?_
      refine lv_iload_n hx hb dX0_relaysNear_33 rfl (lv_at hl 1 rfl) ?_
      refine lv_iload hx hb dX0_relaysNear_34 (lv_at hl 5 rfl) ?_
      refine lv_iload_n hx hb dX0_relaysNear_36 rfl (lv_at hl 2 rfl) ?_
      refine g_callVi0 (As := [.int y1, .int y6, .int y2]) C hG (kX3_isThere hf) (cwV 3 hts gX0_relaysNear_X3_isThere rfl rfl rfl hdvX3_isThere ⟨Nat.le_of_ble_eq_true rfl, Nat.le_of_ble_eq_true rfl⟩) (va_recv hK hG.1 (ci := 3) (q0 := 27) rfl rfl) rfl hl.1 rfl (Nat.le_of_ble_eq_true rfl) dX0_relaysNear_37 ⟨Nat.zero_le _, Nat.zero_le _⟩ (fun r_4 g1 H locs hq hG => ?_)
      obtain ⟨rfl, hf⟩ := hq
      refine lv_if_eq (tgt := 51) hx hb dX0_relaysNear_40 (by decide) (fun c_5 => ?_) (fun c_5 => ?_)
      · replace hf := hf.1 c_5
        exact vX0_relaysNear_b51 C hpost hG22 y1 y2 y3 y5 y6 _ _ _ hf hG (lv_sub hl [0, 1, 2, 3, 4, 5] rfl)
      · replace hf := hf.2 c_5
        refine lv_lload_n hx hb dX0_relaysNear_43 rfl (lv_at hl 3 rfl) ?_
        refine lv_iload hx hb dX0_relaysNear_44 (lv_at hl 5 rfl) ?_
        refine g_callNl0 (As := [.int y6]) C hG (kX5_bit hf) ⟨va_cnB 1 hts gX0_relaysNear_X5_bit_n62 rfl rfl rfl (hN _ (List.mem_of_getElem? (i := 0) rfl)) (hts _ (List.mem_of_getElem? (i := 31) rfl)) hdsX5_bit ⟨Nat.le_of_ble_eq_true rfl, Nat.le_of_ble_eq_true rfl⟩, hts _ (List.mem_of_getElem? (i := 30) rfl), trivial⟩ rfl hl.1 rfl (Nat.le_of_ble_eq_true rfl) dX0_relaysNear_46 ⟨Nat.zero_le _, Nat.zero_le _⟩ (fun r_6 g1 H locs hq hG => ?_)
        obtain ⟨rfl, hf⟩ := hq
        refine lv_lor hx hb dX0_relaysNear_49 ?_
        refine lv_topl (fun x3_7 ex3_7 => ?_)
        replace hf := hf x3_7 ex3_7
        refine lv_lstore_n (lv' := [(3, .long x3_7), (0, .ref (B 3)), (1, .int y1), (2, .int y2), (5, .int y5), (6, .int y6)]) hx hb dX0_relaysNear_50 rfl hl (by decide) rfl (fun ls hl => ?_)
        exact vX0_relaysNear_b51 C hpost hG22 y1 y2 x3_7 y5 y6 _ _ _ hf hG (lv_sub hl [1, 2, 3, 0, 4, 5] rfl)
set_option maxHeartbeats 4000000 in
set_option maxRecDepth 100000 in
theorem vX0_relaysNear_b0 {p : Program} {l : Launch} {e : Env} {s : State} {m : MethodId} {args : Array Value} {below : List Frame} {meth : Method} {c : Code} {D : va_G} {B : Nat → Nat} {A : Nat → Prop} {L : sL} {Y : sY} {M : sM} {O : sO} {post : Int64 → sG → Prop} {SI : Nat → Int32} {SX : Nat → Nat → Int32} {CU : Int64} {CQ : Int32} {CJ : Nat → Nat → Int64} {CX : Nat → Nat → Int32} {Q : Int64 → Prop} (C : gX p s m args meth c cX0_relaysNear 7 (some .long) wsX0_relaysNear RX0 D B A) (hpost : ∀ (v : Int64) , Q v  → post v ((SI, SX), (CU, CQ, CJ, CX), L, Y, M, O))   (x1 : Int32) (x2 : Int32) (H : Heap) (locs : List Loc) (ls : Array Slot) (hf : fX0_relaysNear SI SX CU CQ CJ CX Q x1 x2) (hG : GS D B A s.heap ((SI, SX), (CU, CQ, CJ, CX), L, Y, M, O) H locs) (hl : lv_has ls 7 [(0, .ref (B 3)), (1, .int x1), (2, .int x2)]) : W p l e (headSpec wsX0_relaysNear rX0_relaysNear).room s m args below meth c H locs 0 0 (MQ below (va_Ql post (gB D B A) A) args s 0 0 A) (F0 m 0 ls []) := by
  obtain ⟨hx, hb, hml, hown, hts, hK, hr, hlk, hA, hN⟩ := id C
  unfold fX0_relaysNear at hf
  refine lv_lconst (v := (0 : Int64)) hx hb dX0_relaysNear_0 (by decide) ?_
  refine lv_lstore_n (lv' := [(3, .long (0 : Int64)), (0, .ref (B 3)), (1, .int x1), (2, .int x2)]) hx hb dX0_relaysNear_1 rfl hl (by decide) rfl (fun ls hl => ?_)
  refine lv_aload_n hx hb dX0_relaysNear_2 rfl (lv_at hl 1 rfl) ?_
  refine gg_K_0 C hG inX0_relaysNear_wsX00 (hts _ (List.mem_of_getElem? (i := 1) rfl)) dX0_relaysNear_3 ?_
  refine lv_iload_n hx hb dX0_relaysNear_6 rfl (lv_at hl 2 rfl) ?_
  refine g_callVi0 (As := [.int x1]) C hG (kX3_nearTo hf) (cwV 1 hts gX0_relaysNear_X3_nearTo rfl rfl rfl hdvX3_nearTo ⟨Nat.le_of_ble_eq_true rfl, Nat.le_of_ble_eq_true rfl⟩) (va_recv hK hG.1 (ci := 3) (q0 := 27) rfl rfl) rfl hl.1 rfl (Nat.le_of_ble_eq_true rfl) dX0_relaysNear_7 ⟨Nat.zero_le _, Nat.zero_le _⟩ (fun r_1 g1 H locs hq hG => ?_)
  obtain ⟨rfl, hf⟩ := hq
  refine lv_istore (lv' := [(5, .int r_1), (3, .long (0 : Int64)), (0, .ref (B 3)), (1, .int x1), (2, .int x2)]) hx hb dX0_relaysNear_10 hl (by decide) rfl (fun ls hl => ?_)
  refine lv_aload_n hx hb dX0_relaysNear_12 rfl (lv_at hl 2 rfl) ?_
  refine gg_K_0 C hG inX0_relaysNear_wsX00 (hts _ (List.mem_of_getElem? (i := 1) rfl)) dX0_relaysNear_13 ?_
  refine lv_iload_n hx hb dX0_relaysNear_16 rfl (lv_at hl 3 rfl) ?_
  refine g_callVi0 (As := [.int x1]) C hG (kX3_nearFrom hf) (cwV 1 hts gX0_relaysNear_X3_nearFrom rfl rfl rfl hdvX3_nearFrom ⟨Nat.le_of_ble_eq_true rfl, Nat.le_of_ble_eq_true rfl⟩) (va_recv hK hG.1 (ci := 3) (q0 := 27) rfl rfl) rfl hl.1 rfl (Nat.le_of_ble_eq_true rfl) dX0_relaysNear_17 ⟨Nat.zero_le _, Nat.zero_le _⟩ (fun r_2 g1 H locs hq hG => ?_)
  obtain ⟨rfl, hf⟩ := hq
  refine lv_istore (lv' := [(6, .int r_2), (5, .int r_1), (3, .long (0 : Int64)), (0, .ref (B 3)), (1, .int x1), (2, .int x2)]) hx hb dX0_relaysNear_20 hl (by decide) rfl (fun ls hl => ?_)
  obtain ⟨n22, hf⟩ := hf
  exact vX0_relaysNear_h22 C hpost  n22 x1 x2 (0 : Int64) r_1 r_2 _ _ _ hf hG (lv_sub hl [3, 4, 5, 2, 1, 0] rfl)
set_option maxRecDepth 100000 in
theorem kX0_relaysNear {l : Launch} {D : va_G} {B : Nat → Nat} {L : sL} {Y : sY} {M : sM} {O : sO} {SI : Nat → Int32} {SX : Nat → Nat → Int32} {CU : Int64} {CQ : Int32} {CJ : Nat → Nat → Int64} {CX : Nat → Nat → Int32} {Q : Int64 → Prop} {x1 : Int32} {x2 : Int32} (hf : fX0_relaysNear SI SX CU CQ CJ CX Q x1 x2) : gMl D B l yX0_relaysNear wsX0_relaysNear rX0_relaysNear 0 0 [.ref (B 3), .int x1, .int x2] ((SI, SX), (CU, CQ, CJ, CX), L, Y, M, O) (fun r g1 => g1 = ((SI, SX), (CU, CQ, CJ, CX), L, Y, M, O) ∧ Q r ) := by
  refine gMl_of (cc := cX0_relaysNear) (maxL := 7) (ret := some .long) (by decide +kernel) rfl (Nat.le_of_ble_eq_true rfl) ?_
  intro p e s m below meth c A hA0 C hG ls hl
  exact vX0_relaysNear_b0 C (fun v  hq => ⟨rfl, hq⟩) x1 x2 _ _ _ hf hG hl
def rX0_size : Room := { frames := 3, cells := 0, slots := 0, locals := 71 }
theorem hdvX0_size : yX0_size.cls = RX0 ∧ yX0_size.cls ≠ "java/lang/invoke/MethodHandle" ∧ yX0_size.cls ≠ "java/lang/invoke/VarHandle" ∧ (parseMethodDescriptor yX0_size.desc).map (fun d => d.parameters.length) = some 3 := by decide +kernel
theorem inX0_size_wsX00 : ∀ w ∈ wsX00, w ∈ wsX0_size := (fun _ h => List.mem_cons_of_mem _ (List.mem_append_left _ (List.mem_append_right _ h)))
theorem inX0_size_wsX30 : ∀ w ∈ wsX30, w ∈ wsX0_size := (fun _ h => List.mem_cons_of_mem _ (List.mem_append_right _ h))
set_option maxHeartbeats 4000000 in
set_option maxRecDepth 100000 in
theorem vX0_size_h67 {p : Program} {l : Launch} {e : Env} {s : State} {m : MethodId} {args : Array Value} {below : List Frame} {meth : Method} {c : Code} {D : va_G} {B : Nat → Nat} {A : Nat → Prop} {L : sL} {Y : sY} {M : sM} {O : sO} {post : Int32 → sG → Prop} {SI : Nat → Int32} {SX : Nat → Nat → Int32} {Q : Int32 → (Int64) → (Int32) → (Nat → Nat → Int64) → (Nat → Nat → Int32) → Prop} (C : gX p s m args meth c cX0_size 10 (some .int) wsX0_size RX0 D B A) (hpost : ∀ (v : Int32) (CU : Int64) (CQ : Int32) (CJ : Nat → Nat → Int64) (CX : Nat → Nat → Int32), Q v CU CQ CJ CX → post v ((SI, SX), (CU, CQ, CJ, CX), L, Y, M, O))  : ∀ (n67 : Nat) (CU : Int64) (CQ : Int32) (CJ : Nat → Nat → Int64) (CX : Nat → Nat → Int32) (y4 : Int64) (y6 : Int64) (y8 : Int32) (H : Heap) (locs : List Loc) (ls : Array Slot), fX0_size_h67 SI SX Q n67 CU CQ CJ CX y4 y6 y8 → GS D B A s.heap ((SI, SX), (CU, CQ, CJ, CX), L, Y, M, O) H locs → lv_has ls 10 [(0, .ref (B 3)), (4, .long y4), (6, .long y6), (8, .int y8)] → W p l e (headSpec wsX0_size rX0_size).room s m args below meth c H locs 0 0 (MQ below (va_Qi post (gB D B A) A) args s 0 0 A) (F0 m 67 ls []) := by
  obtain ⟨hx, hb, hml, hown, hts, hK, hr, hlk, hA, hN⟩ := id C
  intro n67
  induction n67 with
  | zero =>
    intro CU CQ CJ CX y4 y6 y8 H locs ls hf
    exact False.elim hf
  | succ n67 hG67 =>
    intro CU CQ CJ CX y4 y6 y8 H locs ls hf hG hl
    unfold fX0_size_h67 at hf
    refine lv_iload hx hb dX0_size_67 (lv_at hl 3 rfl) ?_
    refine lv_bipush (v := (48 : Int32)) hx hb dX0_size_69 (by decide) ?_
    refine lv_icmp_ge (tgt := 105) hx hb dX0_size_71 (by decide) (fun c_11 => ?_) (fun c_11 => ?_)
    · replace hf := hf.1 c_11
      refine lv_bipush (v := (48 : Int32)) hx hb dX0_size_105 (by decide) ?_
      exact g_iret C hG (hpost _ _ _ _ _ hf) dX0_size_107
    · replace hf := hf.2 c_11
      refine lv_aload_n hx hb dX0_size_74 rfl (lv_at hl 0 rfl) ?_
      refine lv_lload hx hb dX0_size_75 (lv_at hl 1 rfl) ?_
      refine lv_lload hx hb dX0_size_77 (lv_at hl 2 rfl) ?_
      refine g_callVi0 (As := [.long y4, .long y6]) C hG (kX0_search hf) (cwV 2 hts gX0_size_X0_search rfl rfl rfl hdvX0_search ⟨Nat.le_of_ble_eq_true rfl, Nat.le_of_ble_eq_true rfl⟩) (va_recv hK hG.1 (ci := 0) (q0 := 36) rfl rfl) rfl hl.1 rfl (Nat.le_of_ble_eq_true rfl) dX0_size_79 ⟨Nat.zero_le _, Nat.zero_le _⟩ (fun r_16 g1 H locs hq hG => ?_)
      obtain ⟨CU_12, CQ_13, CJ_14, CX_15, rfl, hf⟩ := hq
      refine lv_istore (lv' := [(9, .int r_16), (0, .ref (B 3)), (4, .long y4), (6, .long y6), (8, .int y8)]) hx hb dX0_size_82 hl (by decide) rfl (fun ls hl => ?_)
      refine lv_iload hx hb dX0_size_84 (lv_at hl 0 rfl) ?_
      refine lv_iconst (v := (-1 : Int32)) hx hb dX0_size_86 (by decide) ?_
      refine lv_icmp_ne (tgt := 93) hx hb dX0_size_87 (by decide) (fun c_17 => ?_) (fun c_17 => ?_)
      · replace hf := hf.1 c_17
        refine lv_aload_n hx hb dX0_size_93 rfl (lv_at hl 1 rfl) ?_
        refine lv_iload hx hb dX0_size_94 (lv_at hl 0 rfl) ?_
        refine g_callVv0 (As := [.int r_16]) C hG (kX0_addWay hf) (cwV 1 hts gX0_size_X0_addWay rfl rfl rfl hdvX0_addWay ⟨Nat.le_of_ble_eq_true rfl, Nat.le_of_ble_eq_true rfl⟩) (va_recv hK hG.1 (ci := 0) (q0 := 36) rfl rfl) rfl hl.1 rfl (Nat.le_of_ble_eq_true rfl) dX0_size_96 ⟨Nat.zero_le _, Nat.zero_le _⟩ (fun g1 H locs hq hG => ?_)
        obtain ⟨CU_18, CQ_19, CJ_20, CX_21, rfl, hf⟩ := hq
        obtain ⟨x8_22, ex8_22⟩ : ∃ y : Int32, y = y8 + (1 : Int32) := ⟨_, rfl⟩
        replace hf := hf x8_22 ex8_22
        refine lv_iinc (v := x8_22) (lv' := [(8, .int x8_22), (9, .int r_16), (0, .ref (B 3)), (4, .long y4), (6, .long y6)]) hx hb dX0_size_99 hl (k := 4) rfl (by rw [ex8_22]; rfl) (by decide) rfl (fun ls hl => ?_)
        refine lv_goto (tgt := 67) hx hb dX0_size_102 (by decide) ?_
        exact hG67 CU_18 CQ_19 CJ_20 CX_21 y4 y6 x8_22 _ _ _ hf hG (lv_sub hl [2, 3, 4, 0] rfl)
      · replace hf := hf.2 c_17
        refine lv_iload hx hb dX0_size_90 (lv_at hl 4 rfl) ?_
        exact g_iret C hG (hpost _ _ _ _ _ hf) dX0_size_92
set_option maxHeartbeats 4000000 in
set_option maxRecDepth 100000 in
theorem vX0_size_h3 {p : Program} {l : Launch} {e : Env} {s : State} {m : MethodId} {args : Array Value} {below : List Frame} {meth : Method} {c : Code} {D : va_G} {B : Nat → Nat} {A : Nat → Prop} {L : sL} {Y : sY} {M : sM} {O : sO} {post : Int32 → sG → Prop} {SI : Nat → Int32} {SX : Nat → Nat → Int32} {Q : Int32 → (Int64) → (Int32) → (Nat → Nat → Int64) → (Nat → Nat → Int32) → Prop} (C : gX p s m args meth c cX0_size 10 (some .int) wsX0_size RX0 D B A) (hpost : ∀ (v : Int32) (CU : Int64) (CQ : Int32) (CJ : Nat → Nat → Int64) (CX : Nat → Nat → Int32), Q v CU CQ CJ CX → post v ((SI, SX), (CU, CQ, CJ, CX), L, Y, M, O))  : ∀ (n3 : Nat) (CU : Int64) (CQ : Int32) (CJ : Nat → Nat → Int64) (CX : Nat → Nat → Int32) (y1 : Int32) (y2 : Int32) (y3 : Int32) (y4 : Int32) (H : Heap) (locs : List Loc) (ls : Array Slot), fX0_size_h3 SI SX Q n3 CU CQ CJ CX y1 y2 y3 y4 → GS D B A s.heap ((SI, SX), (CU, CQ, CJ, CX), L, Y, M, O) H locs → lv_has ls 10 [(0, .ref (B 3)), (1, .int y1), (2, .int y2), (3, .int y3), (4, .int y4)] → W p l e (headSpec wsX0_size rX0_size).room s m args below meth c H locs 0 0 (MQ below (va_Qi post (gB D B A) A) args s 0 0 A) (F0 m 3 ls []) := by
  obtain ⟨hx, hb, hml, hown, hts, hK, hr, hlk, hA, hN⟩ := id C
  intro n3
  induction n3 with
  | zero =>
    intro CU CQ CJ CX y1 y2 y3 y4 H locs ls hf
    exact False.elim hf
  | succ n3 hG3 =>
    intro CU CQ CJ CX y1 y2 y3 y4 H locs ls hf hG hl
    unfold fX0_size_h3 at hf
    refine lv_iload hx hb dX0_size_3 (lv_at hl 4 rfl) ?_
    refine lv_aload_n hx hb dX0_size_5 rfl (lv_at hl 0 rfl) ?_
    refine gg_K_0 C hG inX0_size_wsX00 (hts _ (List.mem_of_getElem? (i := 1) rfl)) dX0_size_6 ?_
    refine gg_S_1 C hG inX0_size_wsX30 (hts _ (List.mem_of_getElem? (i := 2) rfl)) dX0_size_9 ?_
    refine lv_icmp_ge (tgt := 43) hx hb dX0_size_12 (by decide) (fun c_1 => ?_) (fun c_1 => ?_)
    · replace hf := hf.1 c_1
      refine lv_aload_n hx hb dX0_size_43 rfl (lv_at hl 0 rfl) ?_
      refine lv_lconst (v := (0 : Int64)) hx hb dX0_size_44 (by decide) ?_
      refine gp_K_3 C hG inX0_size_wsX00 (hts _ (List.mem_of_getElem? (i := 5) rfl)) dX0_size_45 (fun CU_2 H locs eCU_2 hG => ?_)
      replace hf := hf CU_2 eCU_2
      refine lv_aload_n hx hb dX0_size_48 rfl (lv_at hl 0 rfl) ?_
      refine lv_iload_n hx hb dX0_size_49 rfl (lv_at hl 1 rfl) ?_
      refine lv_iload_n hx hb dX0_size_50 rfl (lv_at hl 3 rfl) ?_
      refine g_callVl0 (As := [.int y1, .int y3]) C hG (kX0_relaysNear hf) (cwV 2 hts gX0_size_X0_relaysNear rfl rfl rfl hdvX0_relaysNear ⟨Nat.le_of_ble_eq_true rfl, Nat.le_of_ble_eq_true rfl⟩) (va_recv hK hG.1 (ci := 0) (q0 := 36) rfl rfl) rfl hl.1 rfl (Nat.le_of_ble_eq_true rfl) dX0_size_51 ⟨Nat.zero_le _, Nat.zero_le _⟩ (fun r_3 g1 H locs hq hG => ?_)
      obtain ⟨rfl, hf⟩ := hq
      refine lv_lstore (lv' := [(4, .long r_3), (0, .ref (B 3)), (1, .int y1), (2, .int y2), (3, .int y3)]) hx hb dX0_size_54 hl (by decide) rfl (fun ls hl => ?_)
      refine lv_aload_n hx hb dX0_size_56 rfl (lv_at hl 1 rfl) ?_
      refine lv_iload_n hx hb dX0_size_57 rfl (lv_at hl 3 rfl) ?_
      refine lv_iload_n hx hb dX0_size_58 rfl (lv_at hl 4 rfl) ?_
      refine g_callVl0 (As := [.int y2, .int y3]) C hG (kX0_relaysNear hf) (cwV 2 hts gX0_size_X0_relaysNear rfl rfl rfl hdvX0_relaysNear ⟨Nat.le_of_ble_eq_true rfl, Nat.le_of_ble_eq_true rfl⟩) (va_recv hK hG.1 (ci := 0) (q0 := 36) rfl rfl) rfl hl.1 rfl (Nat.le_of_ble_eq_true rfl) dX0_size_59 ⟨Nat.zero_le _, Nat.zero_le _⟩ (fun r_4 g1 H locs hq hG => ?_)
      obtain ⟨rfl, hf⟩ := hq
      refine lv_lstore (lv' := [(6, .long r_4), (4, .long r_3), (0, .ref (B 3)), (1, .int y1), (2, .int y2), (3, .int y3)]) hx hb dX0_size_62 hl (by decide) rfl (fun ls hl => ?_)
      refine lv_iconst (v := (0 : Int32)) hx hb dX0_size_64 (by decide) ?_
      refine lv_istore (lv' := [(8, .int (0 : Int32)), (6, .long r_4), (4, .long r_3), (0, .ref (B 3)), (1, .int y1), (2, .int y2), (3, .int y3)]) hx hb dX0_size_65 hl (by decide) rfl (fun ls hl => ?_)
      obtain ⟨n67, hf⟩ := hf
      exact vX0_size_h67 C hpost  n67 CU_2 CQ CJ CX r_3 r_4 (0 : Int32) _ _ _ hf hG (lv_sub hl [3, 2, 1, 0] rfl)
    · replace hf := hf.2 c_1
      refine lv_aload_n hx hb dX0_size_15 rfl (lv_at hl 0 rfl) ?_
      refine gg_K_1 C hG inX0_size_wsX00 (hts _ (List.mem_of_getElem? (i := 3) rfl)) dX0_size_16 ?_
      refine lv_iload hx hb dX0_size_19 (lv_at hl 4 rfl) ?_
      refine lv_aload_n hx hb dX0_size_21 rfl (lv_at hl 0 rfl) ?_
      refine lv_iload hx hb dX0_size_22 (lv_at hl 4 rfl) ?_
      refine lv_iload_n hx hb dX0_size_24 rfl (lv_at hl 3 rfl) ?_
      refine g_callVl0 (As := [.int y4, .int y3]) C hG (kX0_relaysNear hf) (cwV 2 hts gX0_size_X0_relaysNear rfl rfl rfl hdvX0_relaysNear ⟨Nat.le_of_ble_eq_true rfl, Nat.le_of_ble_eq_true rfl⟩) (va_recv hK hG.1 (ci := 0) (q0 := 36) rfl rfl) rfl hl.1 rfl (Nat.le_of_ble_eq_true rfl) dX0_size_25 ⟨Nat.zero_le _, Nat.zero_le _⟩ (fun r_5 g1 H locs hq hG => ?_)
      obtain ⟨rfl, hf⟩ := hq
      obtain ⟨h_6, hf⟩ := hf
      refine gs_K_1 C hG h_6 dX0_size_28 (fun CJ_7 H locs eCJ_7 hG => ?_)
      replace hf := hf CJ_7 eCJ_7
      refine lv_aload_n hx hb dX0_size_29 rfl (lv_at hl 0 rfl) ?_
      refine gg_K_2 C hG inX0_size_wsX00 (hts _ (List.mem_of_getElem? (i := 4) rfl)) dX0_size_30 ?_
      refine lv_iload hx hb dX0_size_33 (lv_at hl 4 rfl) ?_
      refine lv_lconst (v := (0 : Int64)) hx hb dX0_size_35 (by decide) ?_
      obtain ⟨h_8, hf⟩ := hf
      refine gs_K_2 C hG h_8 dX0_size_36 (fun CJ_9 H locs eCJ_9 hG => ?_)
      replace hf := hf CJ_9 eCJ_9
      obtain ⟨x4_10, ex4_10⟩ : ∃ y : Int32, y = y4 + (1 : Int32) := ⟨_, rfl⟩
      replace hf := hf x4_10 ex4_10
      refine lv_iinc (v := x4_10) (lv' := [(4, .int x4_10), (0, .ref (B 3)), (1, .int y1), (2, .int y2), (3, .int y3)]) hx hb dX0_size_37 hl (k := 4) rfl (by rw [ex4_10]; rfl) (by decide) rfl (fun ls hl => ?_)
      refine lv_goto (tgt := 3) hx hb dX0_size_40 (by decide) ?_
      exact hG3 CU CQ CJ_9 CX y1 y2 y3 x4_10 _ _ _ hf hG (lv_sub hl [1, 2, 3, 4, 0] rfl)
set_option maxHeartbeats 4000000 in
set_option maxRecDepth 100000 in
theorem vX0_size_b0 {p : Program} {l : Launch} {e : Env} {s : State} {m : MethodId} {args : Array Value} {below : List Frame} {meth : Method} {c : Code} {D : va_G} {B : Nat → Nat} {A : Nat → Prop} {L : sL} {Y : sY} {M : sM} {O : sO} {post : Int32 → sG → Prop} {SI : Nat → Int32} {SX : Nat → Nat → Int32} {Q : Int32 → (Int64) → (Int32) → (Nat → Nat → Int64) → (Nat → Nat → Int32) → Prop} (C : gX p s m args meth c cX0_size 10 (some .int) wsX0_size RX0 D B A) (hpost : ∀ (v : Int32) (CU : Int64) (CQ : Int32) (CJ : Nat → Nat → Int64) (CX : Nat → Nat → Int32), Q v CU CQ CJ CX → post v ((SI, SX), (CU, CQ, CJ, CX), L, Y, M, O))  (CU : Int64) (CQ : Int32) (CJ : Nat → Nat → Int64) (CX : Nat → Nat → Int32) (x1 : Int32) (x2 : Int32) (x3 : Int32) (H : Heap) (locs : List Loc) (ls : Array Slot) (hf : fX0_size SI SX Q CU CQ CJ CX x1 x2 x3) (hG : GS D B A s.heap ((SI, SX), (CU, CQ, CJ, CX), L, Y, M, O) H locs) (hl : lv_has ls 10 [(0, .ref (B 3)), (1, .int x1), (2, .int x2), (3, .int x3)]) : W p l e (headSpec wsX0_size rX0_size).room s m args below meth c H locs 0 0 (MQ below (va_Qi post (gB D B A) A) args s 0 0 A) (F0 m 0 ls []) := by
  obtain ⟨hx, hb, hml, hown, hts, hK, hr, hlk, hA, hN⟩ := id C
  unfold fX0_size at hf
  refine lv_iconst (v := (0 : Int32)) hx hb dX0_size_0 (by decide) ?_
  refine lv_istore (lv' := [(4, .int (0 : Int32)), (0, .ref (B 3)), (1, .int x1), (2, .int x2), (3, .int x3)]) hx hb dX0_size_1 hl (by decide) rfl (fun ls hl => ?_)
  obtain ⟨n3, hf⟩ := hf
  exact vX0_size_h3 C hpost  n3 CU CQ CJ CX x1 x2 x3 (0 : Int32) _ _ _ hf hG (lv_sub hl [1, 2, 3, 4, 0] rfl)
set_option maxRecDepth 100000 in
theorem kX0_size {l : Launch} {D : va_G} {B : Nat → Nat} {L : sL} {Y : sY} {M : sM} {O : sO} {SI : Nat → Int32} {SX : Nat → Nat → Int32} {Q : Int32 → (Int64) → (Int32) → (Nat → Nat → Int64) → (Nat → Nat → Int32) → Prop} {CU : Int64} {CQ : Int32} {CJ : Nat → Nat → Int64} {CX : Nat → Nat → Int32} {x1 : Int32} {x2 : Int32} {x3 : Int32} (hf : fX0_size SI SX Q CU CQ CJ CX x1 x2 x3) : gMi D B l yX0_size wsX0_size rX0_size 0 0 [.ref (B 3), .int x1, .int x2, .int x3] ((SI, SX), (CU, CQ, CJ, CX), L, Y, M, O) (fun r g1 => ∃ (CU1 : Int64) (CQ1 : Int32) (CJ1 : Nat → Nat → Int64) (CX1 : Nat → Nat → Int32), g1 = ((SI, SX), (CU1, CQ1, CJ1, CX1), L, Y, M, O) ∧ Q r CU1 CQ1 CJ1 CX1) := by
  refine gMi_of (cc := cX0_size) (maxL := 10) (ret := some .int) (by decide +kernel) rfl (Nat.le_of_ble_eq_true rfl) ?_
  intro p e s m below meth c A hA0 C hG ls hl
  exact vX0_size_b0 C (fun v CU CQ CJ CX hq => ⟨CU, CQ, CJ, CX, rfl, hq⟩) CU CQ CJ CX x1 x2 x3 _ _ _ hf hG hl

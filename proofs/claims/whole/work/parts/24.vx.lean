def rX5_count : Room := { frames := 3, cells := 0, slots := 0, locals := 69 }
theorem hdvX5_count : yX5_count.cls = RX5 ∧ yX5_count.cls ≠ "java/lang/invoke/MethodHandle" ∧ yX5_count.cls ≠ "java/lang/invoke/VarHandle" ∧ (parseMethodDescriptor yX5_count.desc).map (fun d => d.parameters.length) = some 1 := by decide +kernel
theorem inX5_count_wsX20 : ∀ w ∈ wsX20, w ∈ wsX5_count := (fun _ h => List.mem_cons_of_mem _ (List.mem_append_left _ (List.mem_append_left _ (List.mem_append_right _ h))))
theorem inX5_count_wsX30 : ∀ w ∈ wsX30, w ∈ wsX5_count := (fun _ h => List.mem_cons_of_mem _ (List.mem_append_left _ (List.mem_append_right _ h)))
theorem inX5_count_wsX50 : ∀ w ∈ wsX50, w ∈ wsX5_count := (fun _ h => List.mem_cons_of_mem _ (List.mem_append_left _ (List.mem_append_left _ (List.mem_append_left _ (List.mem_append_right _ h)))))
set_option maxHeartbeats 4000000 in
set_option maxRecDepth 100000 in
theorem vX5_count_b0 {p : Program} {l : Launch} {e : Env} {s : State} {m : MethodId} {args : Array Value} {below : List Frame} {meth : Method} {c : Code} {D : va_G} {B : Nat → Nat} {A : Nat → Prop} {K : sK} {Y : sY} {M : sM} {O : sO} {post : Int32 → sG → Prop} {SI : Nat → Int32} {SX : Nat → Nat → Int32} {MI : Nat → Int32} {TT : Nat → Int64} {AW : Nat → Int32} {nE : Nat} {LT : Nat → Nat → Int32} {la : Nat → Nat} {Q : Int32 → Prop} (C : gX p s m args meth c cX5_count 2 (some .int) wsX5_count RX5 D B A) (hpost : ∀ (v : Int32) , Q v  → post v ((SI, SX), K, (MI, TT, AW, nE, LT, la), Y, M, O))   (x1 : Int32) (H : Heap) (locs : List Loc) (ls : Array Slot) (hf : fX5_count SI SX MI TT AW nE LT la Q x1) (hG : GS D B A s.heap ((SI, SX), K, (MI, TT, AW, nE, LT, la), Y, M, O) H locs) (hl : lv_has ls 2 [(0, .ref (B 1)), (1, .int x1)]) : W p l e (headSpec wsX5_count rX5_count).room s m args below meth c H locs 0 0 (MQ below (va_Qi post (gB D B A) A) args s 0 0 A) (F0 m 0 ls []) := by
  obtain ⟨hx, hb, hml, hown, hts, hK, hr, hlk, hA, hN⟩ := id C
  unfold fX5_count at hf
  refine lv_iload_n hx hb dX5_count_0 rfl (lv_at hl 1 rfl) ?_
  by_cases q_1 : x1 = (0 : Int32)
  · refine lv_tableIn (tgt := 52) (off := 51) hx hb dX5_count_1 (by rw [q_1]; decide) (by rw [q_1]; decide) (by rw [q_1]; decide) (by decide) ?_
    replace hf := hf.1 q_1
    refine lv_aload_n hx hb dX5_count_52 rfl (lv_at hl 0 rfl) ?_
    refine gg_R_3 C hG inX5_count_wsX50 (hts _ (List.mem_of_getElem? (i := 1) rfl)) dX5_count_53 ?_
    refine gg_L_0 C hG inX5_count_wsX20 (hts _ (List.mem_of_getElem? (i := 2) rfl)) dX5_count_56 ?_
    exact g_iret C hG (hpost _ hf) dX5_count_59
  replace hf := hf.2 q_1
  by_cases q_2 : x1 = (1 : Int32)
  · refine lv_tableIn (tgt := 60) (off := 59) hx hb dX5_count_1 (by rw [q_2]; decide) (by rw [q_2]; decide) (by rw [q_2]; decide) (by decide) ?_
    replace hf := hf.1 q_2
    refine lv_aload_n hx hb dX5_count_60 rfl (lv_at hl 0 rfl) ?_
    refine gg_R_0 C hG inX5_count_wsX50 (hts _ (List.mem_of_getElem? (i := 3) rfl)) dX5_count_61 ?_
    refine gg_S_0 C hG inX5_count_wsX30 (hts _ (List.mem_of_getElem? (i := 4) rfl)) dX5_count_64 ?_
    exact g_iret C hG (hpost _ hf) dX5_count_67
  replace hf := hf.2 q_2
  by_cases q_3 : x1 = (2 : Int32)
  · refine lv_tableIn (tgt := 68) (off := 67) hx hb dX5_count_1 (by rw [q_3]; decide) (by rw [q_3]; decide) (by rw [q_3]; decide) (by decide) ?_
    replace hf := hf.1 q_3
    refine lv_aload_n hx hb dX5_count_68 rfl (lv_at hl 0 rfl) ?_
    refine gg_R_0 C hG inX5_count_wsX50 (hts _ (List.mem_of_getElem? (i := 3) rfl)) dX5_count_69 ?_
    refine gg_S_1 C hG inX5_count_wsX30 (hts _ (List.mem_of_getElem? (i := 5) rfl)) dX5_count_72 ?_
    exact g_iret C hG (hpost _ hf) dX5_count_75
  replace hf := hf.2 q_3
  by_cases q_4 : x1 = (3 : Int32)
  · refine lv_tableIn (tgt := 76) (off := 75) hx hb dX5_count_1 (by rw [q_4]; decide) (by rw [q_4]; decide) (by rw [q_4]; decide) (by decide) ?_
    replace hf := hf.1 q_4
    refine lv_aload_n hx hb dX5_count_76 rfl (lv_at hl 0 rfl) ?_
    refine gg_R_0 C hG inX5_count_wsX50 (hts _ (List.mem_of_getElem? (i := 3) rfl)) dX5_count_77 ?_
    refine g_callVi0 (As := []) C hG (kX3_deadRelays hf) (cwV 0 hts gX5_count_X3_deadRelays rfl rfl rfl hdvX3_deadRelays ⟨Nat.le_of_ble_eq_true rfl, Nat.le_of_ble_eq_true rfl⟩) (va_recv hK hG.1 (ci := 3) (q0 := 27) rfl rfl) rfl hl.1 rfl (Nat.le_of_ble_eq_true rfl) dX5_count_80 ⟨Nat.zero_le _, Nat.zero_le _⟩ (fun r_5 g1 H locs hq hG => ?_)
    obtain ⟨rfl, hf⟩ := hq
    exact g_iret C hG (hpost _ hf) dX5_count_83
  replace hf := hf.2 q_4
  by_cases q_6 : x1 = (4 : Int32)
  · refine lv_tableIn (tgt := 84) (off := 83) hx hb dX5_count_1 (by rw [q_6]; decide) (by rw [q_6]; decide) (by rw [q_6]; decide) (by decide) ?_
    replace hf := hf.1 q_6
    refine lv_aload_n hx hb dX5_count_84 rfl (lv_at hl 0 rfl) ?_
    refine gg_R_0 C hG inX5_count_wsX50 (hts _ (List.mem_of_getElem? (i := 3) rfl)) dX5_count_85 ?_
    refine gg_S_2 C hG inX5_count_wsX30 (hts _ (List.mem_of_getElem? (i := 6) rfl)) dX5_count_88 ?_
    exact g_iret C hG (hpost _ hf) dX5_count_91
  replace hf := hf.2 q_6
  by_cases q_7 : x1 = (5 : Int32)
  · refine lv_tableIn (tgt := 92) (off := 91) hx hb dX5_count_1 (by rw [q_7]; decide) (by rw [q_7]; decide) (by rw [q_7]; decide) (by decide) ?_
    replace hf := hf.1 q_7
    refine lv_aload_n hx hb dX5_count_92 rfl (lv_at hl 0 rfl) ?_
    refine gg_R_3 C hG inX5_count_wsX50 (hts _ (List.mem_of_getElem? (i := 1) rfl)) dX5_count_93 ?_
    refine gg_L_1 C hG inX5_count_wsX20 (hts _ (List.mem_of_getElem? (i := 7) rfl)) dX5_count_96 ?_
    exact g_iret C hG (hpost _ hf) dX5_count_99
  replace hf := hf.2 q_7
  by_cases q_8 : x1 = (6 : Int32)
  · refine lv_tableIn (tgt := 100) (off := 99) hx hb dX5_count_1 (by rw [q_8]; decide) (by rw [q_8]; decide) (by rw [q_8]; decide) (by decide) ?_
    replace hf := hf.1 q_8
    refine lv_aload_n hx hb dX5_count_100 rfl (lv_at hl 0 rfl) ?_
    refine gg_R_3 C hG inX5_count_wsX50 (hts _ (List.mem_of_getElem? (i := 1) rfl)) dX5_count_101 ?_
    refine lv_iconst (v := (4 : Int32)) hx hb dX5_count_104 (by decide) ?_
    refine g_callVi0 (As := [.int (4 : Int32)]) C hG (kX2_lettersThatAre hf) (cwV 1 hts gX5_count_X2_lettersThatAre rfl rfl rfl hdvX2_lettersThatAre ⟨Nat.le_of_ble_eq_true rfl, Nat.le_of_ble_eq_true rfl⟩) (va_recv hK hG.1 (ci := 2) (q0 := 43) rfl rfl) rfl hl.1 rfl (Nat.le_of_ble_eq_true rfl) dX5_count_105 ⟨Nat.zero_le _, Nat.zero_le _⟩ (fun r_9 g1 H locs hq hG => ?_)
    obtain ⟨rfl, hf⟩ := hq
    exact g_iret C hG (hpost _ hf) dX5_count_108
  replace hf := hf.2 q_8
  by_cases q_10 : x1 = (7 : Int32)
  · refine lv_tableIn (tgt := 109) (off := 108) hx hb dX5_count_1 (by rw [q_10]; decide) (by rw [q_10]; decide) (by rw [q_10]; decide) (by decide) ?_
    replace hf := hf.1 q_10
    refine lv_aload_n hx hb dX5_count_109 rfl (lv_at hl 0 rfl) ?_
    refine gg_R_3 C hG inX5_count_wsX50 (hts _ (List.mem_of_getElem? (i := 1) rfl)) dX5_count_110 ?_
    refine lv_iconst (v := (5 : Int32)) hx hb dX5_count_113 (by decide) ?_
    refine g_callVi0 (As := [.int (5 : Int32)]) C hG (kX2_lettersThatAre hf) (cwV 1 hts gX5_count_X2_lettersThatAre rfl rfl rfl hdvX2_lettersThatAre ⟨Nat.le_of_ble_eq_true rfl, Nat.le_of_ble_eq_true rfl⟩) (va_recv hK hG.1 (ci := 2) (q0 := 43) rfl rfl) rfl hl.1 rfl (Nat.le_of_ble_eq_true rfl) dX5_count_114 ⟨Nat.zero_le _, Nat.zero_le _⟩ (fun r_11 g1 H locs hq hG => ?_)
    obtain ⟨rfl, hf⟩ := hq
    exact g_iret C hG (hpost _ hf) dX5_count_117
  replace hf := hf.2 q_10
  by_cases q_12 : x1 = (8 : Int32)
  · refine lv_tableIn (tgt := 118) (off := 117) hx hb dX5_count_1 (by rw [q_12]; decide) (by rw [q_12]; decide) (by rw [q_12]; decide) (by decide) ?_
    replace hf := hf.1 q_12
    refine lv_aload_n hx hb dX5_count_118 rfl (lv_at hl 0 rfl) ?_
    refine gg_R_0 C hG inX5_count_wsX50 (hts _ (List.mem_of_getElem? (i := 3) rfl)) dX5_count_119 ?_
    refine lv_aload_n hx hb dX5_count_122 rfl (lv_at hl 0 rfl) ?_
    refine gg_R_3 C hG inX5_count_wsX50 (hts _ (List.mem_of_getElem? (i := 1) rfl)) dX5_count_123 ?_
    refine gg_L_0 C hG inX5_count_wsX20 (hts _ (List.mem_of_getElem? (i := 2) rfl)) dX5_count_126 ?_
    refine g_callVi0 (As := [.int (MI 0)]) C hG (kX3_linksOfRelays hf) (cwV 1 hts gX5_count_X3_linksOfRelays rfl rfl rfl hdvX3_linksOfRelays ⟨Nat.le_of_ble_eq_true rfl, Nat.le_of_ble_eq_true rfl⟩) (va_recv hK hG.1 (ci := 3) (q0 := 27) rfl rfl) rfl hl.1 rfl (Nat.le_of_ble_eq_true rfl) dX5_count_129 ⟨Nat.zero_le _, Nat.zero_le _⟩ (fun r_13 g1 H locs hq hG => ?_)
    obtain ⟨rfl, hf⟩ := hq
    exact g_iret C hG (hpost _ hf) dX5_count_132
  replace hf := hf.2 q_12
  have nq_1 := lv_neT q_1 (show ((0 : Int32)).toInt = (0 : Int) by decide)
  have nq_2 := lv_neT q_2 (show ((1 : Int32)).toInt = (1 : Int) by decide)
  have nq_3 := lv_neT q_3 (show ((2 : Int32)).toInt = (2 : Int) by decide)
  have nq_4 := lv_neT q_4 (show ((3 : Int32)).toInt = (3 : Int) by decide)
  have nq_6 := lv_neT q_6 (show ((4 : Int32)).toInt = (4 : Int) by decide)
  have nq_7 := lv_neT q_7 (show ((5 : Int32)).toInt = (5 : Int) by decide)
  have nq_8 := lv_neT q_8 (show ((6 : Int32)).toInt = (6 : Int) by decide)
  have nq_10 := lv_neT q_10 (show ((7 : Int32)).toInt = (7 : Int) by decide)
  have nq_12 := lv_neT q_12 (show ((8 : Int32)).toInt = (8 : Int) by decide)
  refine lv_tableOut (tgt := 133) hx hb dX5_count_1 (by omega) (by decide) ?_
  refine lv_iconst (v := (-1 : Int32)) hx hb dX5_count_133 (by decide) ?_
  exact g_iret C hG (hpost _ hf) dX5_count_134
set_option maxRecDepth 100000 in
theorem kX5_count {l : Launch} {D : va_G} {B : Nat → Nat} {K : sK} {Y : sY} {M : sM} {O : sO} {SI : Nat → Int32} {SX : Nat → Nat → Int32} {MI : Nat → Int32} {TT : Nat → Int64} {AW : Nat → Int32} {nE : Nat} {LT : Nat → Nat → Int32} {la : Nat → Nat} {Q : Int32 → Prop} {x1 : Int32} (hf : fX5_count SI SX MI TT AW nE LT la Q x1) : gMi D B l yX5_count wsX5_count rX5_count 0 0 [.ref (B 1), .int x1] ((SI, SX), K, (MI, TT, AW, nE, LT, la), Y, M, O) (fun r g1 => g1 = ((SI, SX), K, (MI, TT, AW, nE, LT, la), Y, M, O) ∧ Q r ) := by
  refine gMi_of (cc := cX5_count) (maxL := 2) (ret := some .int) (by decide +kernel) rfl (Nat.le_of_ble_eq_true rfl) ?_
  intro p e s m below meth c A hA0 C hG ls hl
  exact vX5_count_b0 C (fun v  hq => ⟨rfl, hq⟩) x1 _ _ _ hf hG hl
def rX5_needNoLetter : Room := { frames := 6, cells := 1, slots := 6, locals := 90 }
theorem hdvX5_needNoLetter : yX5_needNoLetter.cls = RX5 ∧ yX5_needNoLetter.cls ≠ "java/lang/invoke/MethodHandle" ∧ yX5_needNoLetter.cls ≠ "java/lang/invoke/VarHandle" ∧ (parseMethodDescriptor yX5_needNoLetter.desc).map (fun d => d.parameters.length) = some 0 := by decide +kernel
theorem inX5_needNoLetter_wsX20 : ∀ w ∈ wsX20, w ∈ wsX5_needNoLetter := (fun _ h => List.mem_cons_of_mem _ (List.mem_append_left _ (List.mem_append_right _ h)))
theorem inX5_needNoLetter_wsX50 : ∀ w ∈ wsX50, w ∈ wsX5_needNoLetter := (fun _ h => List.mem_cons_of_mem _ (List.mem_append_left _ (List.mem_append_left _ (List.mem_append_right _ h))))
set_option maxHeartbeats 4000000 in
set_option maxRecDepth 100000 in
theorem vX5_needNoLetter_b0 {p : Program} {l : Launch} {e : Env} {s : State} {m : MethodId} {args : Array Value} {below : List Frame} {meth : Method} {c : Code} {D : va_G} {B : Nat → Nat} {A : Nat → Prop} {S : sS} {K : sK} {Y : sY} {M : sM} {O : sO} {post : sG → Prop} {px : String → sG → Prop} {MI : Nat → Int32} {TT : Nat → Int64} {AW : Nat → Int32} {nE : Nat} {LT : Nat → Nat → Int32} {la : Nat → Nat} {Q : Prop} {EX : String → Prop} (C : gX p s m args meth c cX5_needNoLetter 1 (none) wsX5_needNoLetter RX5 D B A) (hE : gE l A s s.heap) (hT : ∀ x ∈ c.exceptionTable.toList, False) (hpost : Q → post (S, K, (MI, TT, AW, nE, LT, la), Y, M, O)) (hpx : ∀ (E : String) , EX E  → px E (S, K, (MI, TT, AW, nE, LT, la), Y, M, O))    (H : Heap) (locs : List Loc) (ls : Array Slot) (hf : fX5_needNoLetter MI TT AW nE LT la Q EX) (hG : GS D B A s.heap (S, K, (MI, TT, AW, nE, LT, la), Y, M, O) H locs) (hl : lv_has ls 1 [(0, .ref (B 1))]) : W p l e (headSpec wsX5_needNoLetter rX5_needNoLetter).room s m args below meth c H locs 0 0 (vx_MQ below (va_Qv post (gB D B A) A) (gQX D B A px) args s 1 6 A) (F0 m 0 ls []) := by
  obtain ⟨hx, hb, hml, hown, hts, hK, hr, hlk, hA, hN⟩ := id C
  unfold fX5_needNoLetter at hf
  refine lv_aload_n hx hb dX5_needNoLetter_0 rfl (lv_at hl 0 rfl) ?_
  refine gg_R_3 C hG inX5_needNoLetter_wsX50 (hts _ (List.mem_of_getElem? (i := 3) rfl)) dX5_needNoLetter_1 ?_
  refine gg_L_1 C hG inX5_needNoLetter_wsX20 (hts _ (List.mem_of_getElem? (i := 4) rfl)) dX5_needNoLetter_4 ?_
  refine lv_if_le (tgt := 20) hx hb dX5_needNoLetter_7 (by decide) (fun c_1 => ?_) (fun c_1 => ?_)
  · replace hf := hf.1 c_1
    exact gx_vret C hG (hpost  hf) dX5_needNoLetter_20 (Nat.le_of_ble_eq_true rfl) (Nat.le_of_ble_eq_true rfl)
  · replace hf := hf.2 c_1
    exact gx_throw (ik := 192) (is := 194) (ic := 196) (cls := "java/lang/IllegalStateException") (text := "there is a letter") C hE hT hG hl.1 (by decide +kernel) (hts _ (List.mem_of_getElem? (i := 1) rfl)) (hts _ (List.mem_of_getElem? (i := 2) rfl)) (List.mem_of_getElem? (i := 6) rfl) (fun w h => hts w ((fun _ h => List.mem_cons_of_mem _ (List.mem_append_right _ h)) w h)) zb_196 zg_196 dX5_needNoLetter_10 dX5_needNoLetter_13 dX5_needNoLetter_14 dX5_needNoLetter_16 dX5_needNoLetter_19 (Nat.le_of_ble_eq_true rfl) (Nat.le_of_ble_eq_true rfl) (Nat.le_of_ble_eq_true rfl) (Nat.le_of_ble_eq_true rfl) (hpx _  hf) (Nat.le_of_ble_eq_true rfl) (Nat.le_of_ble_eq_true rfl)
set_option maxRecDepth 100000 in
theorem kX5_needNoLetter {l : Launch} {D : va_G} {B : Nat → Nat} {S : sS} {K : sK} {Y : sY} {M : sM} {O : sO} {MI : Nat → Int32} {TT : Nat → Int64} {AW : Nat → Int32} {nE : Nat} {LT : Nat → Nat → Int32} {la : Nat → Nat} {Q : Prop} {EX : String → Prop}  (hf : fX5_needNoLetter MI TT AW nE LT la Q EX) : gXv D B l yX5_needNoLetter wsX5_needNoLetter rX5_needNoLetter 1 6 [.ref (B 1)] (S, K, (MI, TT, AW, nE, LT, la), Y, M, O) (fun g1 => g1 = (S, K, (MI, TT, AW, nE, LT, la), Y, M, O) ∧ Q ) (fun E g1 => g1 = (S, K, (MI, TT, AW, nE, LT, la), Y, M, O) ∧ EX E ) := by
  refine gXv_of (cc := cX5_needNoLetter) (maxL := 1) (ret := none) (by decide +kernel) rfl (Nat.le_of_ble_eq_true rfl) ?_
  intro p e s m below meth c A hA0 C hE hT hG ls hl
  exact vX5_needNoLetter_b0 C hE hT (fun  hq => ⟨rfl, hq⟩) (fun E  hq => ⟨rfl, hq⟩)  _ _ _ hf hG hl
def rX5_needRelay : Room := { frames := 6, cells := 1, slots := 6, locals := 90 }
theorem hdvX5_needRelay : yX5_needRelay.cls = RX5 ∧ yX5_needRelay.cls ≠ "java/lang/invoke/MethodHandle" ∧ yX5_needRelay.cls ≠ "java/lang/invoke/VarHandle" ∧ (parseMethodDescriptor yX5_needRelay.desc).map (fun d => d.parameters.length) = some 1 := by decide +kernel
theorem inX5_needRelay_wsX30 : ∀ w ∈ wsX30, w ∈ wsX5_needRelay := (fun _ h => List.mem_cons_of_mem _ (List.mem_append_left _ (List.mem_append_right _ h)))
theorem inX5_needRelay_wsX50 : ∀ w ∈ wsX50, w ∈ wsX5_needRelay := (fun _ h => List.mem_cons_of_mem _ (List.mem_append_left _ (List.mem_append_left _ (List.mem_append_right _ h))))
set_option maxHeartbeats 4000000 in
set_option maxRecDepth 100000 in
theorem vX5_needRelay_b15 {p : Program} {l : Launch} {e : Env} {s : State} {m : MethodId} {args : Array Value} {below : List Frame} {meth : Method} {c : Code} {D : va_G} {B : Nat → Nat} {A : Nat → Prop} {K : sK} {L : sL} {Y : sY} {M : sM} {O : sO} {post : sG → Prop} {px : String → sG → Prop} {SI : Nat → Int32} {SX : Nat → Nat → Int32} {Q : Prop} {EX : String → Prop} (C : gX p s m args meth c cX5_needRelay 2 (none) wsX5_needRelay RX5 D B A) (hE : gE l A s s.heap) (hT : ∀ x ∈ c.exceptionTable.toList, False) (hpost : Q → post ((SI, SX), K, L, Y, M, O)) (hpx : ∀ (E : String) , EX E  → px E ((SI, SX), K, L, Y, M, O))    (H : Heap) (locs : List Loc) (ls : Array Slot) (hf : fX5_needRelay_b15 SI SX Q EX) (hG : GS D B A s.heap ((SI, SX), K, L, Y, M, O) H locs) (hl : lv_has ls 2 []) : W p l e (headSpec wsX5_needRelay rX5_needRelay).room s m args below meth c H locs 0 0 (vx_MQ below (va_Qv post (gB D B A) A) (gQX D B A px) args s 1 6 A) (F0 m 15 ls []) := by
  obtain ⟨hx, hb, hml, hown, hts, hK, hr, hlk, hA, hN⟩ := id C
  unfold fX5_needRelay_b15 at hf
  exact gx_throw (ik := 148) (is := 197) (ic := 152) (cls := "java/lang/IndexOutOfBoundsException") (text := "no such relay") C hE hT hG hl.1 (by decide +kernel) (hts _ (List.mem_of_getElem? (i := 1) rfl)) (hts _ (List.mem_of_getElem? (i := 2) rfl)) (List.mem_of_getElem? (i := 7) rfl) (fun w h => hts w ((fun _ h => List.mem_cons_of_mem _ (List.mem_append_right _ h)) w h)) zb_152 zg_152 dX5_needRelay_15 dX5_needRelay_18 dX5_needRelay_19 dX5_needRelay_21 dX5_needRelay_24 (Nat.le_of_ble_eq_true rfl) (Nat.le_of_ble_eq_true rfl) (Nat.le_of_ble_eq_true rfl) (Nat.le_of_ble_eq_true rfl) (hpx _  hf) (Nat.le_of_ble_eq_true rfl) (Nat.le_of_ble_eq_true rfl)
set_option maxHeartbeats 4000000 in
set_option maxRecDepth 100000 in
theorem vX5_needRelay_b0 {p : Program} {l : Launch} {e : Env} {s : State} {m : MethodId} {args : Array Value} {below : List Frame} {meth : Method} {c : Code} {D : va_G} {B : Nat → Nat} {A : Nat → Prop} {K : sK} {L : sL} {Y : sY} {M : sM} {O : sO} {post : sG → Prop} {px : String → sG → Prop} {SI : Nat → Int32} {SX : Nat → Nat → Int32} {Q : Prop} {EX : String → Prop} (C : gX p s m args meth c cX5_needRelay 2 (none) wsX5_needRelay RX5 D B A) (hE : gE l A s s.heap) (hT : ∀ x ∈ c.exceptionTable.toList, False) (hpost : Q → post ((SI, SX), K, L, Y, M, O)) (hpx : ∀ (E : String) , EX E  → px E ((SI, SX), K, L, Y, M, O))   (x1 : Int32) (H : Heap) (locs : List Loc) (ls : Array Slot) (hf : fX5_needRelay SI SX Q EX x1) (hG : GS D B A s.heap ((SI, SX), K, L, Y, M, O) H locs) (hl : lv_has ls 2 [(0, .ref (B 1)), (1, .int x1)]) : W p l e (headSpec wsX5_needRelay rX5_needRelay).room s m args below meth c H locs 0 0 (vx_MQ below (va_Qv post (gB D B A) A) (gQX D B A px) args s 1 6 A) (F0 m 0 ls []) := by
  obtain ⟨hx, hb, hml, hown, hts, hK, hr, hlk, hA, hN⟩ := id C
  unfold fX5_needRelay at hf
  refine lv_iload_n hx hb dX5_needRelay_0 rfl (lv_at hl 1 rfl) ?_
  refine lv_if_lt (tgt := 15) hx hb dX5_needRelay_1 (by decide) (fun c_1 => ?_) (fun c_1 => ?_)
  · replace hf := hf.1 c_1
    exact vX5_needRelay_b15 C hE hT hpost hpx   _ _ _ hf hG (lv_sub hl [] rfl)
  · replace hf := hf.2 c_1
    refine lv_iload_n hx hb dX5_needRelay_4 rfl (lv_at hl 1 rfl) ?_
    refine lv_aload_n hx hb dX5_needRelay_5 rfl (lv_at hl 0 rfl) ?_
    refine gg_R_0 C hG inX5_needRelay_wsX50 (hts _ (List.mem_of_getElem? (i := 3) rfl)) dX5_needRelay_6 ?_
    refine gg_S_1 C hG inX5_needRelay_wsX30 (hts _ (List.mem_of_getElem? (i := 4) rfl)) dX5_needRelay_9 ?_
    refine lv_icmp_lt (tgt := 25) hx hb dX5_needRelay_12 (by decide) (fun c_2 => ?_) (fun c_2 => ?_)
    · replace hf := hf.1 c_2
      exact gx_vret C hG (hpost  hf) dX5_needRelay_25 (Nat.le_of_ble_eq_true rfl) (Nat.le_of_ble_eq_true rfl)
    · replace hf := hf.2 c_2
      exact vX5_needRelay_b15 C hE hT hpost hpx   _ _ _ hf hG (lv_sub hl [] rfl)
set_option maxRecDepth 100000 in
theorem kX5_needRelay {l : Launch} {D : va_G} {B : Nat → Nat} {K : sK} {L : sL} {Y : sY} {M : sM} {O : sO} {SI : Nat → Int32} {SX : Nat → Nat → Int32} {Q : Prop} {EX : String → Prop} {x1 : Int32} (hf : fX5_needRelay SI SX Q EX x1) : gXv D B l yX5_needRelay wsX5_needRelay rX5_needRelay 1 6 [.ref (B 1), .int x1] ((SI, SX), K, L, Y, M, O) (fun g1 => g1 = ((SI, SX), K, L, Y, M, O) ∧ Q ) (fun E g1 => g1 = ((SI, SX), K, L, Y, M, O) ∧ EX E ) := by
  refine gXv_of (cc := cX5_needRelay) (maxL := 2) (ret := none) (by decide +kernel) rfl (Nat.le_of_ble_eq_true rfl) ?_
  intro p e s m below meth c A hA0 C hE hT hG ls hl
  exact vX5_needRelay_b0 C hE hT (fun  hq => ⟨rfl, hq⟩) (fun E  hq => ⟨rfl, hq⟩) x1 _ _ _ hf hG hl
def rX5_needPost : Room := { frames := 6, cells := 1, slots := 6, locals := 90 }
theorem hdvX5_needPost : yX5_needPost.cls = RX5 ∧ yX5_needPost.cls ≠ "java/lang/invoke/MethodHandle" ∧ yX5_needPost.cls ≠ "java/lang/invoke/VarHandle" ∧ (parseMethodDescriptor yX5_needPost.desc).map (fun d => d.parameters.length) = some 1 := by decide +kernel
theorem inX5_needPost_wsX30 : ∀ w ∈ wsX30, w ∈ wsX5_needPost := (fun _ h => List.mem_cons_of_mem _ (List.mem_append_left _ (List.mem_append_right _ h)))
theorem inX5_needPost_wsX50 : ∀ w ∈ wsX50, w ∈ wsX5_needPost := (fun _ h => List.mem_cons_of_mem _ (List.mem_append_left _ (List.mem_append_left _ (List.mem_append_right _ h))))
set_option maxHeartbeats 4000000 in
set_option maxRecDepth 100000 in
theorem vX5_needPost_b15 {p : Program} {l : Launch} {e : Env} {s : State} {m : MethodId} {args : Array Value} {below : List Frame} {meth : Method} {c : Code} {D : va_G} {B : Nat → Nat} {A : Nat → Prop} {K : sK} {L : sL} {Y : sY} {M : sM} {O : sO} {post : sG → Prop} {px : String → sG → Prop} {SI : Nat → Int32} {SX : Nat → Nat → Int32} {Q : Prop} {EX : String → Prop} (C : gX p s m args meth c cX5_needPost 2 (none) wsX5_needPost RX5 D B A) (hE : gE l A s s.heap) (hT : ∀ x ∈ c.exceptionTable.toList, False) (hpost : Q → post ((SI, SX), K, L, Y, M, O)) (hpx : ∀ (E : String) , EX E  → px E ((SI, SX), K, L, Y, M, O))    (H : Heap) (locs : List Loc) (ls : Array Slot) (hf : fX5_needPost_b15 SI SX Q EX) (hG : GS D B A s.heap ((SI, SX), K, L, Y, M, O) H locs) (hl : lv_has ls 2 []) : W p l e (headSpec wsX5_needPost rX5_needPost).room s m args below meth c H locs 0 0 (vx_MQ below (va_Qv post (gB D B A) A) (gQX D B A px) args s 1 6 A) (F0 m 15 ls []) := by
  obtain ⟨hx, hb, hml, hown, hts, hK, hr, hlk, hA, hN⟩ := id C
  unfold fX5_needPost_b15 at hf
  exact gx_throw (ik := 148) (is := 199) (ic := 152) (cls := "java/lang/IndexOutOfBoundsException") (text := "no such post") C hE hT hG hl.1 (by decide +kernel) (hts _ (List.mem_of_getElem? (i := 1) rfl)) (hts _ (List.mem_of_getElem? (i := 2) rfl)) (List.mem_of_getElem? (i := 8) rfl) (fun w h => hts w ((fun _ h => List.mem_cons_of_mem _ (List.mem_append_right _ h)) w h)) zb_152 zg_152 dX5_needPost_15 dX5_needPost_18 dX5_needPost_19 dX5_needPost_21 dX5_needPost_24 (Nat.le_of_ble_eq_true rfl) (Nat.le_of_ble_eq_true rfl) (Nat.le_of_ble_eq_true rfl) (Nat.le_of_ble_eq_true rfl) (hpx _  hf) (Nat.le_of_ble_eq_true rfl) (Nat.le_of_ble_eq_true rfl)
set_option maxHeartbeats 4000000 in
set_option maxRecDepth 100000 in
theorem vX5_needPost_b0 {p : Program} {l : Launch} {e : Env} {s : State} {m : MethodId} {args : Array Value} {below : List Frame} {meth : Method} {c : Code} {D : va_G} {B : Nat → Nat} {A : Nat → Prop} {K : sK} {L : sL} {Y : sY} {M : sM} {O : sO} {post : sG → Prop} {px : String → sG → Prop} {SI : Nat → Int32} {SX : Nat → Nat → Int32} {Q : Prop} {EX : String → Prop} (C : gX p s m args meth c cX5_needPost 2 (none) wsX5_needPost RX5 D B A) (hE : gE l A s s.heap) (hT : ∀ x ∈ c.exceptionTable.toList, False) (hpost : Q → post ((SI, SX), K, L, Y, M, O)) (hpx : ∀ (E : String) , EX E  → px E ((SI, SX), K, L, Y, M, O))   (x1 : Int32) (H : Heap) (locs : List Loc) (ls : Array Slot) (hf : fX5_needPost SI SX Q EX x1) (hG : GS D B A s.heap ((SI, SX), K, L, Y, M, O) H locs) (hl : lv_has ls 2 [(0, .ref (B 1)), (1, .int x1)]) : W p l e (headSpec wsX5_needPost rX5_needPost).room s m args below meth c H locs 0 0 (vx_MQ below (va_Qv post (gB D B A) A) (gQX D B A px) args s 1 6 A) (F0 m 0 ls []) := by
  obtain ⟨hx, hb, hml, hown, hts, hK, hr, hlk, hA, hN⟩ := id C
  unfold fX5_needPost at hf
  refine lv_iload_n hx hb dX5_needPost_0 rfl (lv_at hl 1 rfl) ?_
  refine lv_if_lt (tgt := 15) hx hb dX5_needPost_1 (by decide) (fun c_1 => ?_) (fun c_1 => ?_)
  · replace hf := hf.1 c_1
    exact vX5_needPost_b15 C hE hT hpost hpx   _ _ _ hf hG (lv_sub hl [] rfl)
  · replace hf := hf.2 c_1
    refine lv_iload_n hx hb dX5_needPost_4 rfl (lv_at hl 1 rfl) ?_
    refine lv_aload_n hx hb dX5_needPost_5 rfl (lv_at hl 0 rfl) ?_
    refine gg_R_0 C hG inX5_needPost_wsX50 (hts _ (List.mem_of_getElem? (i := 3) rfl)) dX5_needPost_6 ?_
    refine gg_S_2 C hG inX5_needPost_wsX30 (hts _ (List.mem_of_getElem? (i := 4) rfl)) dX5_needPost_9 ?_
    refine lv_icmp_lt (tgt := 25) hx hb dX5_needPost_12 (by decide) (fun c_2 => ?_) (fun c_2 => ?_)
    · replace hf := hf.1 c_2
      exact gx_vret C hG (hpost  hf) dX5_needPost_25 (Nat.le_of_ble_eq_true rfl) (Nat.le_of_ble_eq_true rfl)
    · replace hf := hf.2 c_2
      exact vX5_needPost_b15 C hE hT hpost hpx   _ _ _ hf hG (lv_sub hl [] rfl)
set_option maxRecDepth 100000 in
theorem kX5_needPost {l : Launch} {D : va_G} {B : Nat → Nat} {K : sK} {L : sL} {Y : sY} {M : sM} {O : sO} {SI : Nat → Int32} {SX : Nat → Nat → Int32} {Q : Prop} {EX : String → Prop} {x1 : Int32} (hf : fX5_needPost SI SX Q EX x1) : gXv D B l yX5_needPost wsX5_needPost rX5_needPost 1 6 [.ref (B 1), .int x1] ((SI, SX), K, L, Y, M, O) (fun g1 => g1 = ((SI, SX), K, L, Y, M, O) ∧ Q ) (fun E g1 => g1 = ((SI, SX), K, L, Y, M, O) ∧ EX E ) := by
  refine gXv_of (cc := cX5_needPost) (maxL := 2) (ret := none) (by decide +kernel) rfl (Nat.le_of_ble_eq_true rfl) ?_
  intro p e s m below meth c A hA0 C hE hT hG ls hl
  exact vX5_needPost_b0 C hE hT (fun  hq => ⟨rfl, hq⟩) (fun E  hq => ⟨rfl, hq⟩) x1 _ _ _ hf hG hl
def rX5_needBetween : Room := { frames := 6, cells := 1, slots := 6, locals := 90 }
theorem hdsX5_needBetween : yX5_needBetween.cls ≠ "java/lang/invoke/MethodHandle" ∧ yX5_needBetween.cls ≠ "java/lang/invoke/VarHandle" ∧ (parseMethodDescriptor yX5_needBetween.desc).map (fun d => d.parameters.length) = some 3 := by decide +kernel
set_option maxHeartbeats 4000000 in
set_option maxRecDepth 100000 in
theorem vX5_needBetween_b10 {p : Program} {l : Launch} {e : Env} {s : State} {m : MethodId} {args : Array Value} {below : List Frame} {meth : Method} {c : Code} {D : va_G} {B : Nat → Nat} {A : Nat → Prop} {S : sS} {K : sK} {L : sL} {Y : sY} {M : sM} {O : sO} {post : sG → Prop} {px : String → sG → Prop} {Q : Prop} {EX : String → Prop} (C : gX p s m args meth c cX5_needBetween 3 (none) wsX5_needBetween RX5 D B A) (hE : gE l A s s.heap) (hT : ∀ x ∈ c.exceptionTable.toList, False) (hpost : Q → post (S, K, L, Y, M, O)) (hpx : ∀ (E : String) , EX E  → px E (S, K, L, Y, M, O))    (H : Heap) (locs : List Loc) (ls : Array Slot) (hf : fX5_needBetween_b10 Q EX) (hG : GS D B A s.heap (S, K, L, Y, M, O) H locs) (hl : lv_has ls 3 []) : W p l e (headSpec wsX5_needBetween rX5_needBetween).room s m args below meth c H locs 0 0 (vx_MQ below (va_Qv post (gB D B A) A) (gQX D B A px) args s 1 6 A) (F0 m 10 ls []) := by
  obtain ⟨hx, hb, hml, hown, hts, hK, hr, hlk, hA, hN⟩ := id C
  unfold fX5_needBetween_b10 at hf
  exact gx_throw (ik := 129) (is := 202) (ic := 133) (cls := "java/lang/IllegalArgumentException") (text := "a number is none") C hE hT hG hl.1 (by decide +kernel) (hts _ (List.mem_of_getElem? (i := 1) rfl)) (hts _ (List.mem_of_getElem? (i := 2) rfl)) (List.mem_of_getElem? (i := 9) rfl) (fun w h => hts w ((fun _ h => List.mem_cons_of_mem _ (List.mem_append_right _ h)) w h)) zb_133 zg_133 dX5_needBetween_10 dX5_needBetween_13 dX5_needBetween_14 dX5_needBetween_16 dX5_needBetween_19 (Nat.le_of_ble_eq_true rfl) (Nat.le_of_ble_eq_true rfl) (Nat.le_of_ble_eq_true rfl) (Nat.le_of_ble_eq_true rfl) (hpx _  hf) (Nat.le_of_ble_eq_true rfl) (Nat.le_of_ble_eq_true rfl)
set_option maxHeartbeats 4000000 in
set_option maxRecDepth 100000 in
theorem vX5_needBetween_b0 {p : Program} {l : Launch} {e : Env} {s : State} {m : MethodId} {args : Array Value} {below : List Frame} {meth : Method} {c : Code} {D : va_G} {B : Nat → Nat} {A : Nat → Prop} {S : sS} {K : sK} {L : sL} {Y : sY} {M : sM} {O : sO} {post : sG → Prop} {px : String → sG → Prop} {Q : Prop} {EX : String → Prop} (C : gX p s m args meth c cX5_needBetween 3 (none) wsX5_needBetween RX5 D B A) (hE : gE l A s s.heap) (hT : ∀ x ∈ c.exceptionTable.toList, False) (hpost : Q → post (S, K, L, Y, M, O)) (hpx : ∀ (E : String) , EX E  → px E (S, K, L, Y, M, O))   (x0 : Int32) (x1 : Int32) (x2 : Int32) (H : Heap) (locs : List Loc) (ls : Array Slot) (hf : fX5_needBetween Q EX x0 x1 x2) (hG : GS D B A s.heap (S, K, L, Y, M, O) H locs) (hl : lv_has ls 3 [(0, .int x0), (1, .int x1), (2, .int x2)]) : W p l e (headSpec wsX5_needBetween rX5_needBetween).room s m args below meth c H locs 0 0 (vx_MQ below (va_Qv post (gB D B A) A) (gQX D B A px) args s 1 6 A) (F0 m 0 ls []) := by
  obtain ⟨hx, hb, hml, hown, hts, hK, hr, hlk, hA, hN⟩ := id C
  unfold fX5_needBetween at hf
  refine lv_iload_n hx hb dX5_needBetween_0 rfl (lv_at hl 0 rfl) ?_
  refine lv_iload_n hx hb dX5_needBetween_1 rfl (lv_at hl 1 rfl) ?_
  refine lv_icmp_lt (tgt := 10) hx hb dX5_needBetween_2 (by decide) (fun c_1 => ?_) (fun c_1 => ?_)
  · replace hf := hf.1 c_1
    exact vX5_needBetween_b10 C hE hT hpost hpx   _ _ _ hf hG (lv_sub hl [] rfl)
  · replace hf := hf.2 c_1
    refine lv_iload_n hx hb dX5_needBetween_5 rfl (lv_at hl 0 rfl) ?_
    refine lv_iload_n hx hb dX5_needBetween_6 rfl (lv_at hl 2 rfl) ?_
    refine lv_icmp_le (tgt := 20) hx hb dX5_needBetween_7 (by decide) (fun c_2 => ?_) (fun c_2 => ?_)
    · replace hf := hf.1 c_2
      exact gx_vret C hG (hpost  hf) dX5_needBetween_20 (Nat.le_of_ble_eq_true rfl) (Nat.le_of_ble_eq_true rfl)
    · replace hf := hf.2 c_2
      exact vX5_needBetween_b10 C hE hT hpost hpx   _ _ _ hf hG (lv_sub hl [] rfl)
set_option maxRecDepth 100000 in
theorem kX5_needBetween {l : Launch} {D : va_G} {B : Nat → Nat} {S : sS} {K : sK} {L : sL} {Y : sY} {M : sM} {O : sO}  {Q : Prop} {EX : String → Prop} {x0 : Int32} {x1 : Int32} {x2 : Int32} (hf : fX5_needBetween Q EX x0 x1 x2) : gXv D B l yX5_needBetween wsX5_needBetween rX5_needBetween 1 6 [.int x0, .int x1, .int x2] (S, K, L, Y, M, O) (fun g1 => g1 = (S, K, L, Y, M, O) ∧ Q ) (fun E g1 => g1 = (S, K, L, Y, M, O) ∧ EX E ) := by
  refine gXv_of (cc := cX5_needBetween) (maxL := 3) (ret := none) (by decide +kernel) rfl (Nat.le_of_ble_eq_true rfl) ?_
  intro p e s m below meth c A hA0 C hE hT hG ls hl
  exact vX5_needBetween_b0 C hE hT (fun  hq => ⟨rfl, hq⟩) (fun E  hq => ⟨rfl, hq⟩) x0 x1 x2 _ _ _ hf hG hl
def rX5_needTick : Room := { frames := 7, cells := 1, slots := 6, locals := 112 }
theorem hdsX5_needTick : yX5_needTick.cls ≠ "java/lang/invoke/MethodHandle" ∧ yX5_needTick.cls ≠ "java/lang/invoke/VarHandle" ∧ (parseMethodDescriptor yX5_needTick.desc).map (fun d => d.parameters.length) = some 1 := by decide +kernel
set_option maxHeartbeats 4000000 in
set_option maxRecDepth 100000 in
theorem vX5_needTick_b0 {p : Program} {l : Launch} {e : Env} {s : State} {m : MethodId} {args : Array Value} {below : List Frame} {meth : Method} {c : Code} {D : va_G} {B : Nat → Nat} {A : Nat → Prop} {S : sS} {K : sK} {L : sL} {Y : sY} {M : sM} {O : sO} {post : sG → Prop} {px : String → sG → Prop} {Q : Prop} {EX : String → Prop} (C : gX p s m args meth c cX5_needTick 1 (none) wsX5_needTick RX5 D B A) (hE : gE l A s s.heap) (hT : ∀ x ∈ c.exceptionTable.toList, False) (hpost : Q → post (S, K, L, Y, M, O)) (hpx : ∀ (E : String) , EX E  → px E (S, K, L, Y, M, O))   (x0 : Int32) (H : Heap) (locs : List Loc) (ls : Array Slot) (hf : fX5_needTick Q EX x0) (hG : GS D B A s.heap (S, K, L, Y, M, O) H locs) (hl : lv_has ls 1 [(0, .int x0)]) : W p l e (headSpec wsX5_needTick rX5_needTick).room s m args below meth c H locs 0 0 (vx_MQ below (va_Qv post (gB D B A) A) (gQX D B A px) args s 1 6 A) (F0 m 0 ls []) := by
  obtain ⟨hx, hb, hml, hown, hts, hK, hr, hlk, hA, hN⟩ := id C
  unfold fX5_needTick at hf
  refine lv_iload_n hx hb dX5_needTick_0 rfl (lv_at hl 0 rfl) ?_
  refine lv_iconst (v := (0 : Int32)) hx hb dX5_needTick_1 (by decide) ?_
  refine lv_ldc (v := (100000000 : Int32)) hx hb hown (hts _ (List.mem_of_getElem? (i := 1) rfl)) dX5_needTick_2 ?_
  refine gx_callSvo (As := [.int x0, .int (0 : Int32), .int (100000000 : Int32)]) (px0 := px) C hE hT hG (kX5_needBetween hf) (va_cwS 3 hts gX5_needTick_X5_needBetween rfl rfl rfl hdsX5_needBetween ⟨Nat.le_of_ble_eq_true rfl, Nat.le_of_ble_eq_true rfl⟩) rfl hl.1 rfl (Nat.le_of_ble_eq_true rfl) dX5_needTick_4 ⟨Nat.le_of_ble_eq_true rfl, Nat.le_of_ble_eq_true rfl⟩ (fun E g1 hq => ?_) (Nat.le_of_ble_eq_true rfl) (Nat.le_of_ble_eq_true rfl) (fun g1 H locs hq hG => ?_)
  · obtain ⟨rfl, hf⟩ := hq
    exact hpx E  hf
  obtain ⟨rfl, hf⟩ := hq
  exact gx_vret C hG (hpost  hf) dX5_needTick_7 (Nat.le_of_ble_eq_true rfl) (Nat.le_of_ble_eq_true rfl)
set_option maxRecDepth 100000 in
theorem kX5_needTick {l : Launch} {D : va_G} {B : Nat → Nat} {S : sS} {K : sK} {L : sL} {Y : sY} {M : sM} {O : sO}  {Q : Prop} {EX : String → Prop} {x0 : Int32} (hf : fX5_needTick Q EX x0) : gXv D B l yX5_needTick wsX5_needTick rX5_needTick 1 6 [.int x0] (S, K, L, Y, M, O) (fun g1 => g1 = (S, K, L, Y, M, O) ∧ Q ) (fun E g1 => g1 = (S, K, L, Y, M, O) ∧ EX E ) := by
  refine gXv_of (cc := cX5_needTick) (maxL := 1) (ret := none) (by decide +kernel) rfl (Nat.le_of_ble_eq_true rfl) ?_
  intro p e s m below meth c A hA0 C hE hT hG ls hl
  exact vX5_needTick_b0 C hE hT (fun  hq => ⟨rfl, hq⟩) (fun E  hq => ⟨rfl, hq⟩) x0 _ _ _ hf hG hl
def rX5_plane : Room := { frames := 7, cells := 5, slots := 30, locals := 143 }
theorem hdvX5_plane : yX5_plane.cls = RX5 ∧ yX5_plane.cls ≠ "java/lang/invoke/MethodHandle" ∧ yX5_plane.cls ≠ "java/lang/invoke/VarHandle" ∧ (parseMethodDescriptor yX5_plane.desc).map (fun d => d.parameters.length) = some 3 := by decide +kernel
theorem inX5_plane_wsX30 : ∀ w ∈ wsX30, w ∈ wsX5_plane := (fun _ h => List.mem_cons_of_mem _ (List.mem_append_left _ (List.mem_append_left _ (List.mem_append_left _ (List.mem_append_left _ (List.mem_append_right _ h))))))
theorem inX5_plane_wsX50 : ∀ w ∈ wsX50, w ∈ wsX5_plane := (fun _ h => List.mem_cons_of_mem _ (List.mem_append_left _ (List.mem_append_left _ (List.mem_append_left _ (List.mem_append_left _ (List.mem_append_left _ (List.mem_append_right _ h)))))))
set_option maxHeartbeats 4000000 in
set_option maxRecDepth 100000 in
theorem vX5_plane_b0 {p : Program} {l : Launch} {e : Env} {s : State} {m : MethodId} {args : Array Value} {below : List Frame} {meth : Method} {c : Code} {D : va_G} {B : Nat → Nat} {A : Nat → Prop} {K : sK} {Y : sY} {M : sM} {O : sO} {post : Int32 → sG → Prop} {px : String → sG → Prop} {MI : Nat → Int32} {TT : Nat → Int64} {AW : Nat → Int32} {nE : Nat} {LT : Nat → Nat → Int32} {la : Nat → Nat} {Q : Int32 → (Nat → Int32) → (Nat → Nat → Int32) → Prop} {EX : String → (Nat → Int32) → (Nat → Nat → Int32) → Prop} (C : gX p s m args meth c cX5_plane 4 (some .int) wsX5_plane RX5 D B A) (hE : gE l A s s.heap) (hT : ∀ x ∈ c.exceptionTable.toList, False) (hpost : ∀ (v : Int32) (SI : Nat → Int32) (SX : Nat → Nat → Int32), Q v SI SX → post v ((SI, SX), K, (MI, TT, AW, nE, LT, la), Y, M, O)) (hpx : ∀ (E : String) (SI : Nat → Int32) (SX : Nat → Nat → Int32), EX E SI SX → px E ((SI, SX), K, (MI, TT, AW, nE, LT, la), Y, M, O))  (SI : Nat → Int32) (SX : Nat → Nat → Int32) (x1 : Int32) (x2 : Int32) (x3 : Int32) (H : Heap) (locs : List Loc) (ls : Array Slot) (hf : fX5_plane MI TT AW nE LT la Q EX SI SX x1 x2 x3) (hG : GS D B A s.heap ((SI, SX), K, (MI, TT, AW, nE, LT, la), Y, M, O) H locs) (hl : lv_has ls 4 [(0, .ref (B 1)), (1, .int x1), (2, .int x2), (3, .int x3)]) : W p l e (headSpec wsX5_plane rX5_plane).room s m args below meth c H locs 0 0 (vx_MQ below (va_Qi post (gB D B A) A) (gQX D B A px) args s 5 30 A) (F0 m 0 ls []) := by
  obtain ⟨hx, hb, hml, hown, hts, hK, hr, hlk, hA, hN⟩ := id C
  unfold fX5_plane at hf
  refine lv_aload_n hx hb dX5_plane_0 rfl (lv_at hl 0 rfl) ?_
  refine gx_callVvo (As := []) (px0 := px) C hE hT hG (kX5_needNoLetter hf) (cwV 0 hts gX5_plane_X5_needNoLetter rfl rfl rfl hdvX5_needNoLetter ⟨Nat.le_of_ble_eq_true rfl, Nat.le_of_ble_eq_true rfl⟩) (va_recv hK hG.1 (ci := 5) (q0 := 41) rfl rfl) rfl hl.1 rfl (Nat.le_of_ble_eq_true rfl) dX5_plane_1 ⟨Nat.le_of_ble_eq_true rfl, Nat.le_of_ble_eq_true rfl⟩ (fun E g1 hq => ?_) (Nat.le_of_ble_eq_true rfl) (Nat.le_of_ble_eq_true rfl) (fun g1 H locs hq hG => ?_)
  · obtain ⟨rfl, hf⟩ := hq
    exact hpx E _ _ hf
  obtain ⟨rfl, hf⟩ := hq
  refine lv_iload_n hx hb dX5_plane_4 rfl (lv_at hl 1 rfl) ?_
  refine lv_iconst (v := (1 : Int32)) hx hb dX5_plane_5 (by decide) ?_
  refine lv_bipush (v := (8 : Int32)) hx hb dX5_plane_6 (by decide) ?_
  refine gx_callSvo (As := [.int x1, .int (1 : Int32), .int (8 : Int32)]) (px0 := px) C hE hT hG (kX5_needBetween hf) (va_cwS 3 hts gX5_plane_X5_needBetween rfl rfl rfl hdsX5_needBetween ⟨Nat.le_of_ble_eq_true rfl, Nat.le_of_ble_eq_true rfl⟩) rfl hl.1 rfl (Nat.le_of_ble_eq_true rfl) dX5_plane_8 ⟨Nat.le_of_ble_eq_true rfl, Nat.le_of_ble_eq_true rfl⟩ (fun E g1 hq => ?_) (Nat.le_of_ble_eq_true rfl) (Nat.le_of_ble_eq_true rfl) (fun g1 H locs hq hG => ?_)
  · obtain ⟨rfl, hf⟩ := hq
    exact hpx E _ _ hf
  obtain ⟨rfl, hf⟩ := hq
  refine lv_iload_n hx hb dX5_plane_11 rfl (lv_at hl 2 rfl) ?_
  refine lv_iconst (v := (0 : Int32)) hx hb dX5_plane_12 (by decide) ?_
  refine lv_bipush (v := (31 : Int32)) hx hb dX5_plane_13 (by decide) ?_
  refine gx_callSvo (As := [.int x2, .int (0 : Int32), .int (31 : Int32)]) (px0 := px) C hE hT hG (kX5_needBetween hf) (va_cwS 3 hts gX5_plane_X5_needBetween rfl rfl rfl hdsX5_needBetween ⟨Nat.le_of_ble_eq_true rfl, Nat.le_of_ble_eq_true rfl⟩) rfl hl.1 rfl (Nat.le_of_ble_eq_true rfl) dX5_plane_15 ⟨Nat.le_of_ble_eq_true rfl, Nat.le_of_ble_eq_true rfl⟩ (fun E g1 hq => ?_) (Nat.le_of_ble_eq_true rfl) (Nat.le_of_ble_eq_true rfl) (fun g1 H locs hq hG => ?_)
  · obtain ⟨rfl, hf⟩ := hq
    exact hpx E _ _ hf
  obtain ⟨rfl, hf⟩ := hq
  refine lv_iload_n hx hb dX5_plane_18 rfl (lv_at hl 3 rfl) ?_
  refine lv_bipush (v := (-3 : Int32)) hx hb dX5_plane_19 (by decide) ?_
  refine lv_iconst (v := (3 : Int32)) hx hb dX5_plane_21 (by decide) ?_
  refine gx_callSvo (As := [.int x3, .int (-3 : Int32), .int (3 : Int32)]) (px0 := px) C hE hT hG (kX5_needBetween hf) (va_cwS 3 hts gX5_plane_X5_needBetween rfl rfl rfl hdsX5_needBetween ⟨Nat.le_of_ble_eq_true rfl, Nat.le_of_ble_eq_true rfl⟩) rfl hl.1 rfl (Nat.le_of_ble_eq_true rfl) dX5_plane_22 ⟨Nat.le_of_ble_eq_true rfl, Nat.le_of_ble_eq_true rfl⟩ (fun E g1 hq => ?_) (Nat.le_of_ble_eq_true rfl) (Nat.le_of_ble_eq_true rfl) (fun g1 H locs hq hG => ?_)
  · obtain ⟨rfl, hf⟩ := hq
    exact hpx E _ _ hf
  obtain ⟨rfl, hf⟩ := hq
  refine lv_aload_n hx hb dX5_plane_25 rfl (lv_at hl 0 rfl) ?_
  refine gg_R_0 C hG inX5_plane_wsX50 (hts _ (List.mem_of_getElem? (i := 3) rfl)) dX5_plane_26 ?_
  refine gg_S_0 C hG inX5_plane_wsX30 (hts _ (List.mem_of_getElem? (i := 4) rfl)) dX5_plane_29 ?_
  refine lv_bipush (v := (6 : Int32)) hx hb dX5_plane_32 (by decide) ?_
  refine lv_icmp_lt (tgt := 47) hx hb dX5_plane_34 (by decide) (fun c_1 => ?_) (fun c_1 => ?_)
  · replace hf := hf.1 c_1
    refine lv_aload_n hx hb dX5_plane_47 rfl (lv_at hl 0 rfl) ?_
    refine gg_R_0 C hG inX5_plane_wsX50 (hts _ (List.mem_of_getElem? (i := 3) rfl)) dX5_plane_48 ?_
    refine lv_iload_n hx hb dX5_plane_51 rfl (lv_at hl 1 rfl) ?_
    refine lv_iload_n hx hb dX5_plane_52 rfl (lv_at hl 2 rfl) ?_
    refine lv_iload_n hx hb dX5_plane_53 rfl (lv_at hl 3 rfl) ?_
    refine g_callVi0 (As := [.int x1, .int x2, .int x3]) C hG (kX3_addPlane hf) (cwV 3 hts gX5_plane_X3_addPlane rfl rfl rfl hdvX3_addPlane ⟨Nat.le_of_ble_eq_true rfl, Nat.le_of_ble_eq_true rfl⟩) (va_recv hK hG.1 (ci := 3) (q0 := 27) rfl rfl) rfl hl.1 rfl (Nat.le_of_ble_eq_true rfl) dX5_plane_54 ⟨Nat.le_of_ble_eq_true rfl, Nat.le_of_ble_eq_true rfl⟩ (fun r_4 g1 H locs hq hG => ?_)
    obtain ⟨SI_2, SX_3, rfl, hf⟩ := hq
    exact gx_iret C hG (hpost _ _ _ hf) dX5_plane_57 (Nat.le_of_ble_eq_true rfl) (Nat.le_of_ble_eq_true rfl)
  · replace hf := hf.2 c_1
    exact gx_throw (ik := 51) (is := 53) (ic := 55) (cls := "java/lang/UnsupportedOperationException") (text := "there are 6 planes") C hE hT hG hl.1 (by decide +kernel) (hts _ (List.mem_of_getElem? (i := 1) rfl)) (hts _ (List.mem_of_getElem? (i := 2) rfl)) (List.mem_of_getElem? (i := 0) rfl) (fun w h => hts w ((fun _ h => List.mem_cons_of_mem _ (List.mem_append_left _ (List.mem_append_left _ (List.mem_append_right _ h)))) w h)) zb_55 zg_55 dX5_plane_37 dX5_plane_40 dX5_plane_41 dX5_plane_43 dX5_plane_46 (Nat.le_of_ble_eq_true rfl) (Nat.le_of_ble_eq_true rfl) (Nat.le_of_ble_eq_true rfl) (Nat.le_of_ble_eq_true rfl) (hpx _ _ _ hf) (Nat.le_of_ble_eq_true rfl) (Nat.le_of_ble_eq_true rfl)
set_option maxRecDepth 100000 in
theorem kX5_plane {l : Launch} {D : va_G} {B : Nat → Nat} {K : sK} {Y : sY} {M : sM} {O : sO} {MI : Nat → Int32} {TT : Nat → Int64} {AW : Nat → Int32} {nE : Nat} {LT : Nat → Nat → Int32} {la : Nat → Nat} {Q : Int32 → (Nat → Int32) → (Nat → Nat → Int32) → Prop} {EX : String → (Nat → Int32) → (Nat → Nat → Int32) → Prop} {SI : Nat → Int32} {SX : Nat → Nat → Int32} {x1 : Int32} {x2 : Int32} {x3 : Int32} (hf : fX5_plane MI TT AW nE LT la Q EX SI SX x1 x2 x3) : gXi D B l yX5_plane wsX5_plane rX5_plane 5 30 [.ref (B 1), .int x1, .int x2, .int x3] ((SI, SX), K, (MI, TT, AW, nE, LT, la), Y, M, O) (fun r g1 => ∃ (SI1 : Nat → Int32) (SX1 : Nat → Nat → Int32), g1 = ((SI1, SX1), K, (MI, TT, AW, nE, LT, la), Y, M, O) ∧ Q r SI1 SX1) (fun E g1 => ∃ (SI1 : Nat → Int32) (SX1 : Nat → Nat → Int32), g1 = ((SI1, SX1), K, (MI, TT, AW, nE, LT, la), Y, M, O) ∧ EX E SI1 SX1) := by
  refine gXi_of (cc := cX5_plane) (maxL := 4) (ret := some .int) (by decide +kernel) rfl (Nat.le_of_ble_eq_true rfl) ?_
  intro p e s m below meth c A hA0 C hE hT hG ls hl
  exact vX5_plane_b0 C hE hT (fun v SI SX hq => ⟨SI, SX, rfl, hq⟩) (fun E SI SX hq => ⟨SI, SX, rfl, hq⟩) SI SX x1 x2 x3 _ _ _ hf hG hl
def rX5_over : Room := { frames := 8, cells := 2, slots := 12, locals := 132 }
theorem hdvX5_over : yX5_over.cls = RX5 ∧ yX5_over.cls ≠ "java/lang/invoke/MethodHandle" ∧ yX5_over.cls ≠ "java/lang/invoke/VarHandle" ∧ (parseMethodDescriptor yX5_over.desc).map (fun d => d.parameters.length) = some 2 := by decide +kernel
theorem inX5_over_wsX50 : ∀ w ∈ wsX50, w ∈ wsX5_over := (fun _ h => List.mem_cons_of_mem _ (List.mem_append_left _ (List.mem_append_left _ (List.mem_append_left _ (List.mem_append_right _ h)))))
set_option maxHeartbeats 4000000 in
set_option maxRecDepth 100000 in
theorem vX5_over_b0 {p : Program} {l : Launch} {e : Env} {s : State} {m : MethodId} {args : Array Value} {below : List Frame} {meth : Method} {c : Code} {D : va_G} {B : Nat → Nat} {A : Nat → Prop} {K : sK} {L : sL} {Y : sY} {M : sM} {O : sO} {post : Int32 → sG → Prop} {px : String → sG → Prop} {SI : Nat → Int32} {SX : Nat → Nat → Int32} {Q : Int32 → Prop} {EX : String → Prop} (C : gX p s m args meth c cX5_over 3 (some .int) wsX5_over RX5 D B A) (hE : gE l A s s.heap) (hT : ∀ x ∈ c.exceptionTable.toList, False) (hpost : ∀ (v : Int32) , Q v  → post v ((SI, SX), K, L, Y, M, O)) (hpx : ∀ (E : String) , EX E  → px E ((SI, SX), K, L, Y, M, O))   (x1 : Int32) (x2 : Int32) (H : Heap) (locs : List Loc) (ls : Array Slot) (hf : fX5_over SI SX Q EX x1 x2) (hG : GS D B A s.heap ((SI, SX), K, L, Y, M, O) H locs) (hl : lv_has ls 3 [(0, .ref (B 1)), (1, .int x1), (2, .int x2)]) : W p l e (headSpec wsX5_over rX5_over).room s m args below meth c H locs 0 0 (vx_MQ below (va_Qi post (gB D B A) A) (gQX D B A px) args s 2 12 A) (F0 m 0 ls []) := by
  obtain ⟨hx, hb, hml, hown, hts, hK, hr, hlk, hA, hN⟩ := id C
  unfold fX5_over at hf
  refine lv_aload_n hx hb dX5_over_0 rfl (lv_at hl 0 rfl) ?_
  refine lv_iload_n hx hb dX5_over_1 rfl (lv_at hl 1 rfl) ?_
  refine gx_callVvo (As := [.int x1]) (px0 := px) C hE hT hG (kX5_needRelay hf) (cwV 1 hts gX5_over_X5_needRelay rfl rfl rfl hdvX5_needRelay ⟨Nat.le_of_ble_eq_true rfl, Nat.le_of_ble_eq_true rfl⟩) (va_recv hK hG.1 (ci := 5) (q0 := 41) rfl rfl) rfl hl.1 rfl (Nat.le_of_ble_eq_true rfl) dX5_over_2 ⟨Nat.le_of_ble_eq_true rfl, Nat.le_of_ble_eq_true rfl⟩ (fun E g1 hq => ?_) (Nat.le_of_ble_eq_true rfl) (Nat.le_of_ble_eq_true rfl) (fun g1 H locs hq hG => ?_)
  · obtain ⟨rfl, hf⟩ := hq
    exact hpx E  hf
  obtain ⟨rfl, hf⟩ := hq
  refine lv_iload_n hx hb dX5_over_5 rfl (lv_at hl 2 rfl) ?_
  refine gx_callSvo (As := [.int x2]) (px0 := px) C hE hT hG (kX5_needTick hf) (va_cwS 1 hts gX5_over_X5_needTick rfl rfl rfl hdsX5_needTick ⟨Nat.le_of_ble_eq_true rfl, Nat.le_of_ble_eq_true rfl⟩) rfl hl.1 rfl (Nat.le_of_ble_eq_true rfl) dX5_over_6 ⟨Nat.le_of_ble_eq_true rfl, Nat.le_of_ble_eq_true rfl⟩ (fun E g1 hq => ?_) (Nat.le_of_ble_eq_true rfl) (Nat.le_of_ble_eq_true rfl) (fun g1 H locs hq hG => ?_)
  · obtain ⟨rfl, hf⟩ := hq
    exact hpx E  hf
  obtain ⟨rfl, hf⟩ := hq
  refine lv_aload_n hx hb dX5_over_9 rfl (lv_at hl 0 rfl) ?_
  refine gg_R_0 C hG inX5_over_wsX50 (hts _ (List.mem_of_getElem? (i := 1) rfl)) dX5_over_10 ?_
  refine lv_iload_n hx hb dX5_over_13 rfl (lv_at hl 1 rfl) ?_
  refine lv_iload_n hx hb dX5_over_14 rfl (lv_at hl 2 rfl) ?_
  refine g_callVi0 (As := [.int x1, .int x2]) C hG (kX3_placeOf hf) (cwV 2 hts gX5_over_X3_placeOf rfl rfl rfl hdvX3_placeOf ⟨Nat.le_of_ble_eq_true rfl, Nat.le_of_ble_eq_true rfl⟩) (va_recv hK hG.1 (ci := 3) (q0 := 27) rfl rfl) rfl hl.1 rfl (Nat.le_of_ble_eq_true rfl) dX5_over_15 ⟨Nat.le_of_ble_eq_true rfl, Nat.le_of_ble_eq_true rfl⟩ (fun r_1 g1 H locs hq hG => ?_)
  obtain ⟨rfl, hf⟩ := hq
  exact gx_iret C hG (hpost _ hf) dX5_over_18 (Nat.le_of_ble_eq_true rfl) (Nat.le_of_ble_eq_true rfl)
set_option maxRecDepth 100000 in
theorem kX5_over {l : Launch} {D : va_G} {B : Nat → Nat} {K : sK} {L : sL} {Y : sY} {M : sM} {O : sO} {SI : Nat → Int32} {SX : Nat → Nat → Int32} {Q : Int32 → Prop} {EX : String → Prop} {x1 : Int32} {x2 : Int32} (hf : fX5_over SI SX Q EX x1 x2) : gXi D B l yX5_over wsX5_over rX5_over 2 12 [.ref (B 1), .int x1, .int x2] ((SI, SX), K, L, Y, M, O) (fun r g1 => g1 = ((SI, SX), K, L, Y, M, O) ∧ Q r ) (fun E g1 => g1 = ((SI, SX), K, L, Y, M, O) ∧ EX E ) := by
  refine gXi_of (cc := cX5_over) (maxL := 3) (ret := some .int) (by decide +kernel) rfl (Nat.le_of_ble_eq_true rfl) ?_
  intro p e s m below meth c A hA0 C hE hT hG ls hl
  exact vX5_over_b0 C hE hT (fun v  hq => ⟨rfl, hq⟩) (fun E  hq => ⟨rfl, hq⟩) x1 x2 _ _ _ hf hG hl
def rX5_dead : Room := { frames := 7, cells := 1, slots := 6, locals := 111 }
theorem hdvX5_dead : yX5_dead.cls = RX5 ∧ yX5_dead.cls ≠ "java/lang/invoke/MethodHandle" ∧ yX5_dead.cls ≠ "java/lang/invoke/VarHandle" ∧ (parseMethodDescriptor yX5_dead.desc).map (fun d => d.parameters.length) = some 2 := by decide +kernel
theorem inX5_dead_wsX50 : ∀ w ∈ wsX50, w ∈ wsX5_dead := (fun _ h => List.mem_cons_of_mem _ (List.mem_append_left _ (List.mem_append_left _ (List.mem_append_left _ (List.mem_append_left _ (List.mem_append_right _ h))))))
set_option maxHeartbeats 4000000 in
set_option maxRecDepth 100000 in
theorem vX5_dead_b0 {p : Program} {l : Launch} {e : Env} {s : State} {m : MethodId} {args : Array Value} {below : List Frame} {meth : Method} {c : Code} {D : va_G} {B : Nat → Nat} {A : Nat → Prop} {K : sK} {Y : sY} {M : sM} {O : sO} {post : Int32 → sG → Prop} {px : String → sG → Prop} {nE : Nat} {la : Nat → Nat} {Q : Int32 → (Nat → Int32) → (Nat → Nat → Int32) → (Nat → Int32) → (Nat → Int64) → (Nat → Int32) → (Nat → Nat → Int32) → Prop} {EX : String → (Nat → Int32) → (Nat → Nat → Int32) → (Nat → Int32) → (Nat → Int64) → (Nat → Int32) → (Nat → Nat → Int32) → Prop} (C : gX p s m args meth c cX5_dead 4 (some .boolean) wsX5_dead RX5 D B A) (hE : gE l A s s.heap) (hT : ∀ x ∈ c.exceptionTable.toList, False) (hpost : ∀ (v : Int32) (SI : Nat → Int32) (SX : Nat → Nat → Int32) (MI : Nat → Int32) (TT : Nat → Int64) (AW : Nat → Int32) (LT : Nat → Nat → Int32), Q v SI SX MI TT AW LT → post v ((SI, SX), K, (MI, TT, AW, nE, LT, la), Y, M, O)) (hpx : ∀ (E : String) (SI : Nat → Int32) (SX : Nat → Nat → Int32) (MI : Nat → Int32) (TT : Nat → Int64) (AW : Nat → Int32) (LT : Nat → Nat → Int32), EX E SI SX MI TT AW LT → px E ((SI, SX), K, (MI, TT, AW, nE, LT, la), Y, M, O))  (SI : Nat → Int32) (SX : Nat → Nat → Int32) (MI : Nat → Int32) (TT : Nat → Int64) (AW : Nat → Int32) (LT : Nat → Nat → Int32) (x1 : Int32) (x2 : Int32) (H : Heap) (locs : List Loc) (ls : Array Slot) (hf : fX5_dead nE la Q EX SI SX MI TT AW LT x1 x2) (hG : GS D B A s.heap ((SI, SX), K, (MI, TT, AW, nE, LT, la), Y, M, O) H locs) (hl : lv_has ls 4 [(0, .ref (B 1)), (1, .int x1), (2, .int x2)]) : W p l e (headSpec wsX5_dead rX5_dead).room s m args below meth c H locs 0 0 (vx_MQ below (va_Qi post (gB D B A) A) (gQX D B A px) args s 1 6 A) (F0 m 0 ls []) := by
  obtain ⟨hx, hb, hml, hown, hts, hK, hr, hlk, hA, hN⟩ := id C
  unfold fX5_dead at hf
  refine lv_aload_n hx hb dX5_dead_0 rfl (lv_at hl 0 rfl) ?_
  refine lv_iload_n hx hb dX5_dead_1 rfl (lv_at hl 1 rfl) ?_
  refine gx_callVvo (As := [.int x1]) (px0 := px) C hE hT hG (kX5_needRelay hf) (cwV 1 hts gX5_dead_X5_needRelay rfl rfl rfl hdvX5_needRelay ⟨Nat.le_of_ble_eq_true rfl, Nat.le_of_ble_eq_true rfl⟩) (va_recv hK hG.1 (ci := 5) (q0 := 41) rfl rfl) rfl hl.1 rfl (Nat.le_of_ble_eq_true rfl) dX5_dead_2 ⟨Nat.le_of_ble_eq_true rfl, Nat.le_of_ble_eq_true rfl⟩ (fun E g1 hq => ?_) (Nat.le_of_ble_eq_true rfl) (Nat.le_of_ble_eq_true rfl) (fun g1 H locs hq hG => ?_)
  · obtain ⟨rfl, hf⟩ := hq
    exact hpx E _ _ _ _ _ _ hf
  obtain ⟨rfl, hf⟩ := hq
  refine lv_aload_n hx hb dX5_dead_5 rfl (lv_at hl 0 rfl) ?_
  refine gg_R_0 C hG inX5_dead_wsX50 (hts _ (List.mem_of_getElem? (i := 1) rfl)) dX5_dead_6 ?_
  refine lv_iload_n hx hb dX5_dead_9 rfl (lv_at hl 1 rfl) ?_
  refine lv_iload_n hx hb dX5_dead_10 rfl (lv_at hl 2 rfl) ?_
  refine g_callVi0 (As := [.int x1, .int x2]) C hG (kX3_turnDead hf) (cwV 2 hts gX5_dead_X3_turnDead rfl rfl rfl hdvX3_turnDead ⟨Nat.le_of_ble_eq_true rfl, Nat.le_of_ble_eq_true rfl⟩) (va_recv hK hG.1 (ci := 3) (q0 := 27) rfl rfl) rfl hl.1 rfl (Nat.le_of_ble_eq_true rfl) dX5_dead_11 ⟨Nat.le_of_ble_eq_true rfl, Nat.le_of_ble_eq_true rfl⟩ (fun r_3 g1 H locs hq hG => ?_)
  obtain ⟨SI_1, SX_2, rfl, hf⟩ := hq
  refine lv_istore_n (lv' := [(3, .int r_3), (0, .ref (B 1)), (1, .int x1), (2, .int x2)]) hx hb dX5_dead_14 rfl hl (by decide) rfl (fun ls hl => ?_)
  refine lv_iload_n hx hb dX5_dead_15 rfl (lv_at hl 0 rfl) ?_
  refine lv_if_eq (tgt := 31) hx hb dX5_dead_16 (by decide) (fun c_4 => ?_) (fun c_4 => ?_)
  · replace hf := hf.1 c_4
    refine lv_iload_n hx hb dX5_dead_31 rfl (lv_at hl 0 rfl) ?_
    obtain ⟨h_5, hf⟩ := hf
    exact gx_zret C hG h_5 (hpost _ _ _ _ _ _ _ hf) dX5_dead_32 (Nat.le_of_ble_eq_true rfl) (Nat.le_of_ble_eq_true rfl)
  · replace hf := hf.2 c_4
    refine lv_iload_n hx hb dX5_dead_19 rfl (lv_at hl 3 rfl) ?_
    refine lv_if_eq (tgt := 31) hx hb dX5_dead_20 (by decide) (fun c_6 => ?_) (fun c_6 => ?_)
    · replace hf := hf.1 c_6
      refine lv_iload_n hx hb dX5_dead_31 rfl (lv_at hl 0 rfl) ?_
      obtain ⟨h_7, hf⟩ := hf
      exact gx_zret C hG h_7 (hpost _ _ _ _ _ _ _ hf) dX5_dead_32 (Nat.le_of_ble_eq_true rfl) (Nat.le_of_ble_eq_true rfl)
    · replace hf := hf.2 c_6
      refine lv_aload_n hx hb dX5_dead_23 rfl (lv_at hl 1 rfl) ?_
      refine gg_R_3 C hG inX5_dead_wsX50 (hts _ (List.mem_of_getElem? (i := 2) rfl)) dX5_dead_24 ?_
      refine lv_iload_n hx hb dX5_dead_27 rfl (lv_at hl 2 rfl) ?_
      refine g_callVv0 (As := [.int x1]) C hG (kX2_lose hf) (cwV 1 hts gX5_dead_X2_lose rfl rfl rfl hdvX2_lose ⟨Nat.le_of_ble_eq_true rfl, Nat.le_of_ble_eq_true rfl⟩) (va_recv hK hG.1 (ci := 2) (q0 := 43) rfl rfl) rfl hl.1 rfl (Nat.le_of_ble_eq_true rfl) dX5_dead_28 ⟨Nat.le_of_ble_eq_true rfl, Nat.le_of_ble_eq_true rfl⟩ (fun g1 H locs hq hG => ?_)
      obtain ⟨MI_8, TT_9, AW_10, LT_11, rfl, hf⟩ := hq
      refine lv_iload_n hx hb dX5_dead_31 rfl (lv_at hl 0 rfl) ?_
      obtain ⟨h_12, hf⟩ := hf
      exact gx_zret C hG h_12 (hpost _ _ _ _ _ _ _ hf) dX5_dead_32 (Nat.le_of_ble_eq_true rfl) (Nat.le_of_ble_eq_true rfl)
set_option maxRecDepth 100000 in
theorem kX5_dead {l : Launch} {D : va_G} {B : Nat → Nat} {K : sK} {Y : sY} {M : sM} {O : sO} {nE : Nat} {la : Nat → Nat} {Q : Int32 → (Nat → Int32) → (Nat → Nat → Int32) → (Nat → Int32) → (Nat → Int64) → (Nat → Int32) → (Nat → Nat → Int32) → Prop} {EX : String → (Nat → Int32) → (Nat → Nat → Int32) → (Nat → Int32) → (Nat → Int64) → (Nat → Int32) → (Nat → Nat → Int32) → Prop} {SI : Nat → Int32} {SX : Nat → Nat → Int32} {MI : Nat → Int32} {TT : Nat → Int64} {AW : Nat → Int32} {LT : Nat → Nat → Int32} {x1 : Int32} {x2 : Int32} (hf : fX5_dead nE la Q EX SI SX MI TT AW LT x1 x2) : gXi D B l yX5_dead wsX5_dead rX5_dead 1 6 [.ref (B 1), .int x1, .int x2] ((SI, SX), K, (MI, TT, AW, nE, LT, la), Y, M, O) (fun r g1 => ∃ (SI1 : Nat → Int32) (SX1 : Nat → Nat → Int32) (MI1 : Nat → Int32) (TT1 : Nat → Int64) (AW1 : Nat → Int32) (LT1 : Nat → Nat → Int32), g1 = ((SI1, SX1), K, (MI1, TT1, AW1, nE, LT1, la), Y, M, O) ∧ Q r SI1 SX1 MI1 TT1 AW1 LT1) (fun E g1 => ∃ (SI1 : Nat → Int32) (SX1 : Nat → Nat → Int32) (MI1 : Nat → Int32) (TT1 : Nat → Int64) (AW1 : Nat → Int32) (LT1 : Nat → Nat → Int32), g1 = ((SI1, SX1), K, (MI1, TT1, AW1, nE, LT1, la), Y, M, O) ∧ EX E SI1 SX1 MI1 TT1 AW1 LT1) := by
  refine gXi_of (cc := cX5_dead) (maxL := 4) (ret := some .boolean) (by decide +kernel) rfl (Nat.le_of_ble_eq_true rfl) ?_
  intro p e s m below meth c A hA0 C hE hT hG ls hl
  exact vX5_dead_b0 C hE hT (fun v SI SX MI TT AW LT hq => ⟨SI, SX, MI, TT, AW, LT, rfl, hq⟩) (fun E SI SX MI TT AW LT hq => ⟨SI, SX, MI, TT, AW, LT, rfl, hq⟩) SI SX MI TT AW LT x1 x2 _ _ _ hf hG hl
def rX5_link : Room := { frames := 8, cells := 3, slots := 18, locals := 132 }
theorem hdvX5_link : yX5_link.cls = RX5 ∧ yX5_link.cls ≠ "java/lang/invoke/MethodHandle" ∧ yX5_link.cls ≠ "java/lang/invoke/VarHandle" ∧ (parseMethodDescriptor yX5_link.desc).map (fun d => d.parameters.length) = some 3 := by decide +kernel
theorem inX5_link_wsX50 : ∀ w ∈ wsX50, w ∈ wsX5_link := (fun _ h => List.mem_cons_of_mem _ (List.mem_append_left _ (List.mem_append_left _ (List.mem_append_left _ (List.mem_append_right _ h)))))
set_option maxHeartbeats 4000000 in
set_option maxRecDepth 100000 in
theorem vX5_link_b0 {p : Program} {l : Launch} {e : Env} {s : State} {m : MethodId} {args : Array Value} {below : List Frame} {meth : Method} {c : Code} {D : va_G} {B : Nat → Nat} {A : Nat → Prop} {K : sK} {L : sL} {Y : sY} {M : sM} {O : sO} {post : Int32 → sG → Prop} {px : String → sG → Prop} {SI : Nat → Int32} {SX : Nat → Nat → Int32} {Q : Int32 → Prop} {EX : String → Prop} (C : gX p s m args meth c cX5_link 4 (some .int) wsX5_link RX5 D B A) (hE : gE l A s s.heap) (hT : ∀ x ∈ c.exceptionTable.toList, False) (hpost : ∀ (v : Int32) , Q v  → post v ((SI, SX), K, L, Y, M, O)) (hpx : ∀ (E : String) , EX E  → px E ((SI, SX), K, L, Y, M, O))   (x1 : Int32) (x2 : Int32) (x3 : Int32) (H : Heap) (locs : List Loc) (ls : Array Slot) (hf : fX5_link SI SX Q EX x1 x2 x3) (hG : GS D B A s.heap ((SI, SX), K, L, Y, M, O) H locs) (hl : lv_has ls 4 [(0, .ref (B 1)), (1, .int x1), (2, .int x2), (3, .int x3)]) : W p l e (headSpec wsX5_link rX5_link).room s m args below meth c H locs 0 0 (vx_MQ below (va_Qi post (gB D B A) A) (gQX D B A px) args s 3 18 A) (F0 m 0 ls []) := by
  obtain ⟨hx, hb, hml, hown, hts, hK, hr, hlk, hA, hN⟩ := id C
  unfold fX5_link at hf
  refine lv_aload_n hx hb dX5_link_0 rfl (lv_at hl 0 rfl) ?_
  refine lv_iload_n hx hb dX5_link_1 rfl (lv_at hl 1 rfl) ?_
  refine gx_callVvo (As := [.int x1]) (px0 := px) C hE hT hG (kX5_needRelay hf) (cwV 1 hts gX5_link_X5_needRelay rfl rfl rfl hdvX5_needRelay ⟨Nat.le_of_ble_eq_true rfl, Nat.le_of_ble_eq_true rfl⟩) (va_recv hK hG.1 (ci := 5) (q0 := 41) rfl rfl) rfl hl.1 rfl (Nat.le_of_ble_eq_true rfl) dX5_link_2 ⟨Nat.le_of_ble_eq_true rfl, Nat.le_of_ble_eq_true rfl⟩ (fun E g1 hq => ?_) (Nat.le_of_ble_eq_true rfl) (Nat.le_of_ble_eq_true rfl) (fun g1 H locs hq hG => ?_)
  · obtain ⟨rfl, hf⟩ := hq
    exact hpx E  hf
  obtain ⟨rfl, hf⟩ := hq
  refine lv_aload_n hx hb dX5_link_5 rfl (lv_at hl 0 rfl) ?_
  refine lv_iload_n hx hb dX5_link_6 rfl (lv_at hl 2 rfl) ?_
  refine gx_callVvo (As := [.int x2]) (px0 := px) C hE hT hG (kX5_needRelay hf) (cwV 1 hts gX5_link_X5_needRelay rfl rfl rfl hdvX5_needRelay ⟨Nat.le_of_ble_eq_true rfl, Nat.le_of_ble_eq_true rfl⟩) (va_recv hK hG.1 (ci := 5) (q0 := 41) rfl rfl) rfl hl.1 rfl (Nat.le_of_ble_eq_true rfl) dX5_link_7 ⟨Nat.le_of_ble_eq_true rfl, Nat.le_of_ble_eq_true rfl⟩ (fun E g1 hq => ?_) (Nat.le_of_ble_eq_true rfl) (Nat.le_of_ble_eq_true rfl) (fun g1 H locs hq hG => ?_)
  · obtain ⟨rfl, hf⟩ := hq
    exact hpx E  hf
  obtain ⟨rfl, hf⟩ := hq
  refine lv_iload_n hx hb dX5_link_10 rfl (lv_at hl 3 rfl) ?_
  refine gx_callSvo (As := [.int x3]) (px0 := px) C hE hT hG (kX5_needTick hf) (va_cwS 1 hts gX5_link_X5_needTick rfl rfl rfl hdsX5_needTick ⟨Nat.le_of_ble_eq_true rfl, Nat.le_of_ble_eq_true rfl⟩) rfl hl.1 rfl (Nat.le_of_ble_eq_true rfl) dX5_link_11 ⟨Nat.le_of_ble_eq_true rfl, Nat.le_of_ble_eq_true rfl⟩ (fun E g1 hq => ?_) (Nat.le_of_ble_eq_true rfl) (Nat.le_of_ble_eq_true rfl) (fun g1 H locs hq hG => ?_)
  · obtain ⟨rfl, hf⟩ := hq
    exact hpx E  hf
  obtain ⟨rfl, hf⟩ := hq
  refine lv_aload_n hx hb dX5_link_14 rfl (lv_at hl 0 rfl) ?_
  refine gg_R_0 C hG inX5_link_wsX50 (hts _ (List.mem_of_getElem? (i := 1) rfl)) dX5_link_15 ?_
  refine lv_iload_n hx hb dX5_link_18 rfl (lv_at hl 1 rfl) ?_
  refine lv_iload_n hx hb dX5_link_19 rfl (lv_at hl 2 rfl) ?_
  refine lv_iload_n hx hb dX5_link_20 rfl (lv_at hl 3 rfl) ?_
  refine g_callVi0 (As := [.int x1, .int x2, .int x3]) C hG (kX3_isThere hf) (cwV 3 hts gX5_link_X3_isThere rfl rfl rfl hdvX3_isThere ⟨Nat.le_of_ble_eq_true rfl, Nat.le_of_ble_eq_true rfl⟩) (va_recv hK hG.1 (ci := 3) (q0 := 27) rfl rfl) rfl hl.1 rfl (Nat.le_of_ble_eq_true rfl) dX5_link_21 ⟨Nat.le_of_ble_eq_true rfl, Nat.le_of_ble_eq_true rfl⟩ (fun r_1 g1 H locs hq hG => ?_)
  obtain ⟨rfl, hf⟩ := hq
  refine lv_if_eq (tgt := 39) hx hb dX5_link_24 (by decide) (fun c_2 => ?_) (fun c_2 => ?_)
  · replace hf := hf.1 c_2
    refine lv_iconst (v := (0 : Int32)) hx hb dX5_link_39 (by decide) ?_
    exact gx_iret C hG (hpost _ hf) dX5_link_40 (Nat.le_of_ble_eq_true rfl) (Nat.le_of_ble_eq_true rfl)
  · replace hf := hf.2 c_2
    refine lv_aload_n hx hb dX5_link_27 rfl (lv_at hl 0 rfl) ?_
    refine gg_R_0 C hG inX5_link_wsX50 (hts _ (List.mem_of_getElem? (i := 1) rfl)) dX5_link_28 ?_
    refine lv_iload_n hx hb dX5_link_31 rfl (lv_at hl 1 rfl) ?_
    refine lv_iload_n hx hb dX5_link_32 rfl (lv_at hl 2 rfl) ?_
    refine g_callVi0 (As := [.int x1, .int x2]) C hG (kX3_lengthOf hf) (cwV 2 hts gX5_link_X3_lengthOf rfl rfl rfl hdvX3_lengthOf ⟨Nat.le_of_ble_eq_true rfl, Nat.le_of_ble_eq_true rfl⟩) (va_recv hK hG.1 (ci := 3) (q0 := 27) rfl rfl) rfl hl.1 rfl (Nat.le_of_ble_eq_true rfl) dX5_link_33 ⟨Nat.le_of_ble_eq_true rfl, Nat.le_of_ble_eq_true rfl⟩ (fun r_3 g1 H locs hq hG => ?_)
    obtain ⟨rfl, hf⟩ := hq
    refine lv_goto (tgt := 40) hx hb dX5_link_36 (by decide) ?_
    exact gx_iret C hG (hpost _ hf) dX5_link_40 (Nat.le_of_ble_eq_true rfl) (Nat.le_of_ble_eq_true rfl)
set_option maxRecDepth 100000 in
theorem kX5_link {l : Launch} {D : va_G} {B : Nat → Nat} {K : sK} {L : sL} {Y : sY} {M : sM} {O : sO} {SI : Nat → Int32} {SX : Nat → Nat → Int32} {Q : Int32 → Prop} {EX : String → Prop} {x1 : Int32} {x2 : Int32} {x3 : Int32} (hf : fX5_link SI SX Q EX x1 x2 x3) : gXi D B l yX5_link wsX5_link rX5_link 3 18 [.ref (B 1), .int x1, .int x2, .int x3] ((SI, SX), K, L, Y, M, O) (fun r g1 => g1 = ((SI, SX), K, L, Y, M, O) ∧ Q r ) (fun E g1 => g1 = ((SI, SX), K, L, Y, M, O) ∧ EX E ) := by
  refine gXi_of (cc := cX5_link) (maxL := 4) (ret := some .int) (by decide +kernel) rfl (Nat.le_of_ble_eq_true rfl) ?_
  intro p e s m below meth c A hA0 C hE hT hG ls hl
  exact vX5_link_b0 C hE hT (fun v  hq => ⟨rfl, hq⟩) (fun E  hq => ⟨rfl, hq⟩) x1 x2 x3 _ _ _ hf hG hl
def rX5_sees : Room := { frames := 8, cells := 3, slots := 18, locals := 132 }
theorem hdvX5_sees : yX5_sees.cls = RX5 ∧ yX5_sees.cls ≠ "java/lang/invoke/MethodHandle" ∧ yX5_sees.cls ≠ "java/lang/invoke/VarHandle" ∧ (parseMethodDescriptor yX5_sees.desc).map (fun d => d.parameters.length) = some 3 := by decide +kernel
theorem inX5_sees_wsX50 : ∀ w ∈ wsX50, w ∈ wsX5_sees := (fun _ h => List.mem_cons_of_mem _ (List.mem_append_left _ (List.mem_append_left _ (List.mem_append_left _ (List.mem_append_right _ h)))))
set_option maxHeartbeats 4000000 in
set_option maxRecDepth 100000 in
theorem vX5_sees_b0 {p : Program} {l : Launch} {e : Env} {s : State} {m : MethodId} {args : Array Value} {below : List Frame} {meth : Method} {c : Code} {D : va_G} {B : Nat → Nat} {A : Nat → Prop} {K : sK} {L : sL} {Y : sY} {M : sM} {O : sO} {post : Int32 → sG → Prop} {px : String → sG → Prop} {SI : Nat → Int32} {SX : Nat → Nat → Int32} {Q : Int32 → Prop} {EX : String → Prop} (C : gX p s m args meth c cX5_sees 4 (some .boolean) wsX5_sees RX5 D B A) (hE : gE l A s s.heap) (hT : ∀ x ∈ c.exceptionTable.toList, False) (hpost : ∀ (v : Int32) , Q v  → post v ((SI, SX), K, L, Y, M, O)) (hpx : ∀ (E : String) , EX E  → px E ((SI, SX), K, L, Y, M, O))   (x1 : Int32) (x2 : Int32) (x3 : Int32) (H : Heap) (locs : List Loc) (ls : Array Slot) (hf : fX5_sees SI SX Q EX x1 x2 x3) (hG : GS D B A s.heap ((SI, SX), K, L, Y, M, O) H locs) (hl : lv_has ls 4 [(0, .ref (B 1)), (1, .int x1), (2, .int x2), (3, .int x3)]) : W p l e (headSpec wsX5_sees rX5_sees).room s m args below meth c H locs 0 0 (vx_MQ below (va_Qi post (gB D B A) A) (gQX D B A px) args s 3 18 A) (F0 m 0 ls []) := by
  obtain ⟨hx, hb, hml, hown, hts, hK, hr, hlk, hA, hN⟩ := id C
  unfold fX5_sees at hf
  refine lv_aload_n hx hb dX5_sees_0 rfl (lv_at hl 0 rfl) ?_
  refine lv_iload_n hx hb dX5_sees_1 rfl (lv_at hl 1 rfl) ?_
  refine gx_callVvo (As := [.int x1]) (px0 := px) C hE hT hG (kX5_needPost hf) (cwV 1 hts gX5_sees_X5_needPost rfl rfl rfl hdvX5_needPost ⟨Nat.le_of_ble_eq_true rfl, Nat.le_of_ble_eq_true rfl⟩) (va_recv hK hG.1 (ci := 5) (q0 := 41) rfl rfl) rfl hl.1 rfl (Nat.le_of_ble_eq_true rfl) dX5_sees_2 ⟨Nat.le_of_ble_eq_true rfl, Nat.le_of_ble_eq_true rfl⟩ (fun E g1 hq => ?_) (Nat.le_of_ble_eq_true rfl) (Nat.le_of_ble_eq_true rfl) (fun g1 H locs hq hG => ?_)
  · obtain ⟨rfl, hf⟩ := hq
    exact hpx E  hf
  obtain ⟨rfl, hf⟩ := hq
  refine lv_aload_n hx hb dX5_sees_5 rfl (lv_at hl 0 rfl) ?_
  refine lv_iload_n hx hb dX5_sees_6 rfl (lv_at hl 2 rfl) ?_
  refine gx_callVvo (As := [.int x2]) (px0 := px) C hE hT hG (kX5_needRelay hf) (cwV 1 hts gX5_sees_X5_needRelay rfl rfl rfl hdvX5_needRelay ⟨Nat.le_of_ble_eq_true rfl, Nat.le_of_ble_eq_true rfl⟩) (va_recv hK hG.1 (ci := 5) (q0 := 41) rfl rfl) rfl hl.1 rfl (Nat.le_of_ble_eq_true rfl) dX5_sees_7 ⟨Nat.le_of_ble_eq_true rfl, Nat.le_of_ble_eq_true rfl⟩ (fun E g1 hq => ?_) (Nat.le_of_ble_eq_true rfl) (Nat.le_of_ble_eq_true rfl) (fun g1 H locs hq hG => ?_)
  · obtain ⟨rfl, hf⟩ := hq
    exact hpx E  hf
  obtain ⟨rfl, hf⟩ := hq
  refine lv_iload_n hx hb dX5_sees_10 rfl (lv_at hl 3 rfl) ?_
  refine gx_callSvo (As := [.int x3]) (px0 := px) C hE hT hG (kX5_needTick hf) (va_cwS 1 hts gX5_sees_X5_needTick rfl rfl rfl hdsX5_needTick ⟨Nat.le_of_ble_eq_true rfl, Nat.le_of_ble_eq_true rfl⟩) rfl hl.1 rfl (Nat.le_of_ble_eq_true rfl) dX5_sees_11 ⟨Nat.le_of_ble_eq_true rfl, Nat.le_of_ble_eq_true rfl⟩ (fun E g1 hq => ?_) (Nat.le_of_ble_eq_true rfl) (Nat.le_of_ble_eq_true rfl) (fun g1 H locs hq hG => ?_)
  · obtain ⟨rfl, hf⟩ := hq
    exact hpx E  hf
  obtain ⟨rfl, hf⟩ := hq
  refine lv_aload_n hx hb dX5_sees_14 rfl (lv_at hl 0 rfl) ?_
  refine gg_R_0 C hG inX5_sees_wsX50 (hts _ (List.mem_of_getElem? (i := 1) rfl)) dX5_sees_15 ?_
  refine lv_iload_n hx hb dX5_sees_18 rfl (lv_at hl 1 rfl) ?_
  refine g_callSi0 (As := [.int x1]) C hG (kX5_nodeOf hf) (va_cwS 1 hts gX5_sees_X5_nodeOf rfl rfl rfl hdsX5_nodeOf ⟨Nat.le_of_ble_eq_true rfl, Nat.le_of_ble_eq_true rfl⟩) rfl hl.1 rfl (Nat.le_of_ble_eq_true rfl) dX5_sees_19 ⟨Nat.le_of_ble_eq_true rfl, Nat.le_of_ble_eq_true rfl⟩ (fun r_1 g1 H locs hq hG => ?_)
  obtain ⟨rfl, hf⟩ := hq
  refine lv_iload_n hx hb dX5_sees_22 rfl (lv_at hl 2 rfl) ?_
  refine lv_iload_n hx hb dX5_sees_23 rfl (lv_at hl 3 rfl) ?_
  refine g_callVi0 (As := [.int r_1, .int x2, .int x3]) C hG (kX3_isThere hf) (cwV 3 hts gX5_sees_X3_isThere rfl rfl rfl hdvX3_isThere ⟨Nat.le_of_ble_eq_true rfl, Nat.le_of_ble_eq_true rfl⟩) (va_recv hK hG.1 (ci := 3) (q0 := 27) rfl rfl) rfl hl.1 rfl (Nat.le_of_ble_eq_true rfl) dX5_sees_24 ⟨Nat.le_of_ble_eq_true rfl, Nat.le_of_ble_eq_true rfl⟩ (fun r_2 g1 H locs hq hG => ?_)
  obtain ⟨rfl, hf⟩ := hq
  obtain ⟨h_3, hf⟩ := hf
  exact gx_zret C hG h_3 (hpost _ hf) dX5_sees_27 (Nat.le_of_ble_eq_true rfl) (Nat.le_of_ble_eq_true rfl)
set_option maxRecDepth 100000 in
theorem kX5_sees {l : Launch} {D : va_G} {B : Nat → Nat} {K : sK} {L : sL} {Y : sY} {M : sM} {O : sO} {SI : Nat → Int32} {SX : Nat → Nat → Int32} {Q : Int32 → Prop} {EX : String → Prop} {x1 : Int32} {x2 : Int32} {x3 : Int32} (hf : fX5_sees SI SX Q EX x1 x2 x3) : gXi D B l yX5_sees wsX5_sees rX5_sees 3 18 [.ref (B 1), .int x1, .int x2, .int x3] ((SI, SX), K, L, Y, M, O) (fun r g1 => g1 = ((SI, SX), K, L, Y, M, O) ∧ Q r ) (fun E g1 => g1 = ((SI, SX), K, L, Y, M, O) ∧ EX E ) := by
  refine gXi_of (cc := cX5_sees) (maxL := 4) (ret := some .boolean) (by decide +kernel) rfl (Nat.le_of_ble_eq_true rfl) ?_
  intro p e s m below meth c A hA0 C hE hT hG ls hl
  exact vX5_sees_b0 C hE hT (fun v  hq => ⟨rfl, hq⟩) (fun E  hq => ⟨rfl, hq⟩) x1 x2 x3 _ _ _ hf hG hl
def rX5_earliest : Room := { frames := 8, cells := 3, slots := 18, locals := 132 }
theorem hdvX5_earliest : yX5_earliest.cls = RX5 ∧ yX5_earliest.cls ≠ "java/lang/invoke/MethodHandle" ∧ yX5_earliest.cls ≠ "java/lang/invoke/VarHandle" ∧ (parseMethodDescriptor yX5_earliest.desc).map (fun d => d.parameters.length) = some 3 := by decide +kernel
theorem inX5_earliest_wsX50 : ∀ w ∈ wsX50, w ∈ wsX5_earliest := (fun _ h => List.mem_cons_of_mem _ (List.mem_append_left _ (List.mem_append_left _ (List.mem_append_left _ (List.mem_append_left _ (List.mem_append_right _ h))))))
set_option maxHeartbeats 4000000 in
set_option maxRecDepth 100000 in
theorem vX5_earliest_b0 {p : Program} {l : Launch} {e : Env} {s : State} {m : MethodId} {args : Array Value} {below : List Frame} {meth : Method} {c : Code} {D : va_G} {B : Nat → Nat} {A : Nat → Prop} {K : sK} {L : sL} {M : sM} {O : sO} {post : Int32 → sG → Prop} {px : String → sG → Prop} {SI : Nat → Int32} {SX : Nat → Nat → Int32} {nW : Nat} {wd : Nat → Nat → Nat} {Q : Int32 → (Nat → Nat → Int32) → (Nat → Nat → Nat) → (Nat → Nat → Int32) → (Nat → Nat → Nat → Int32) → Prop} {EX : String → (Nat → Nat → Int32) → (Nat → Nat → Nat) → (Nat → Nat → Int32) → (Nat → Nat → Nat → Int32) → Prop} (C : gX p s m args meth c cX5_earliest 5 (some .int) wsX5_earliest RX5 D B A) (hE : gE l A s s.heap) (hT : ∀ x ∈ c.exceptionTable.toList, False) (hpost : ∀ (v : Int32) (WI : Nat → Nat → Int32) (WR : Nat → Nat → Nat) (WL : Nat → Nat → Int32) (WX : Nat → Nat → Nat → Int32), Q v WI WR WL WX → post v ((SI, SX), K, L, (nW, WI, WR, WL, WX, wd), M, O)) (hpx : ∀ (E : String) (WI : Nat → Nat → Int32) (WR : Nat → Nat → Nat) (WL : Nat → Nat → Int32) (WX : Nat → Nat → Nat → Int32), EX E WI WR WL WX → px E ((SI, SX), K, L, (nW, WI, WR, WL, WX, wd), M, O))  (WI : Nat → Nat → Int32) (WR : Nat → Nat → Nat) (WL : Nat → Nat → Int32) (WX : Nat → Nat → Nat → Int32) (x1 : Int32) (x2 : Int32) (x3 : Int32) (H : Heap) (locs : List Loc) (ls : Array Slot) (hf : fX5_earliest SI SX nW wd Q EX WI WR WL WX x1 x2 x3) (hG : GS D B A s.heap ((SI, SX), K, L, (nW, WI, WR, WL, WX, wd), M, O) H locs) (hl : lv_has ls 5 [(0, .ref (B 1)), (1, .int x1), (2, .int x2), (3, .int x3)]) : W p l e (headSpec wsX5_earliest rX5_earliest).room s m args below meth c H locs 0 0 (vx_MQ below (va_Qi post (gB D B A) A) (gQX D B A px) args s 3 18 A) (F0 m 0 ls []) := by
  obtain ⟨hx, hb, hml, hown, hts, hK, hr, hlk, hA, hN⟩ := id C
  unfold fX5_earliest at hf
  refine lv_aload_n hx hb dX5_earliest_0 rfl (lv_at hl 0 rfl) ?_
  refine lv_iload_n hx hb dX5_earliest_1 rfl (lv_at hl 1 rfl) ?_
  refine gx_callVvo (As := [.int x1]) (px0 := px) C hE hT hG (kX5_needPost hf) (cwV 1 hts gX5_earliest_X5_needPost rfl rfl rfl hdvX5_needPost ⟨Nat.le_of_ble_eq_true rfl, Nat.le_of_ble_eq_true rfl⟩) (va_recv hK hG.1 (ci := 5) (q0 := 41) rfl rfl) rfl hl.1 rfl (Nat.le_of_ble_eq_true rfl) dX5_earliest_2 ⟨Nat.le_of_ble_eq_true rfl, Nat.le_of_ble_eq_true rfl⟩ (fun E g1 hq => ?_) (Nat.le_of_ble_eq_true rfl) (Nat.le_of_ble_eq_true rfl) (fun g1 H locs hq hG => ?_)
  · obtain ⟨rfl, hf⟩ := hq
    exact hpx E _ _ _ _ hf
  obtain ⟨rfl, hf⟩ := hq
  refine lv_aload_n hx hb dX5_earliest_5 rfl (lv_at hl 0 rfl) ?_
  refine lv_iload_n hx hb dX5_earliest_6 rfl (lv_at hl 2 rfl) ?_
  refine gx_callVvo (As := [.int x2]) (px0 := px) C hE hT hG (kX5_needPost hf) (cwV 1 hts gX5_earliest_X5_needPost rfl rfl rfl hdvX5_needPost ⟨Nat.le_of_ble_eq_true rfl, Nat.le_of_ble_eq_true rfl⟩) (va_recv hK hG.1 (ci := 5) (q0 := 41) rfl rfl) rfl hl.1 rfl (Nat.le_of_ble_eq_true rfl) dX5_earliest_7 ⟨Nat.le_of_ble_eq_true rfl, Nat.le_of_ble_eq_true rfl⟩ (fun E g1 hq => ?_) (Nat.le_of_ble_eq_true rfl) (Nat.le_of_ble_eq_true rfl) (fun g1 H locs hq hG => ?_)
  · obtain ⟨rfl, hf⟩ := hq
    exact hpx E _ _ _ _ hf
  obtain ⟨rfl, hf⟩ := hq
  refine lv_iload_n hx hb dX5_earliest_10 rfl (lv_at hl 3 rfl) ?_
  refine gx_callSvo (As := [.int x3]) (px0 := px) C hE hT hG (kX5_needTick hf) (va_cwS 1 hts gX5_earliest_X5_needTick rfl rfl rfl hdsX5_needTick ⟨Nat.le_of_ble_eq_true rfl, Nat.le_of_ble_eq_true rfl⟩) rfl hl.1 rfl (Nat.le_of_ble_eq_true rfl) dX5_earliest_11 ⟨Nat.le_of_ble_eq_true rfl, Nat.le_of_ble_eq_true rfl⟩ (fun E g1 hq => ?_) (Nat.le_of_ble_eq_true rfl) (Nat.le_of_ble_eq_true rfl) (fun g1 H locs hq hG => ?_)
  · obtain ⟨rfl, hf⟩ := hq
    exact hpx E _ _ _ _ hf
  obtain ⟨rfl, hf⟩ := hq
  refine lv_iload_n hx hb dX5_earliest_14 rfl (lv_at hl 1 rfl) ?_
  refine lv_iload_n hx hb dX5_earliest_15 rfl (lv_at hl 2 rfl) ?_
  refine lv_icmp_ne (tgt := 21) hx hb dX5_earliest_16 (by decide) (fun c_1 => ?_) (fun c_1 => ?_)
  · replace hf := hf.1 c_1
    refine lv_aload_n hx hb dX5_earliest_21 rfl (lv_at hl 0 rfl) ?_
    refine gg_R_1 C hG inX5_earliest_wsX50 (hts _ (List.mem_of_getElem? (i := 1) rfl)) dX5_earliest_22 ?_
    refine lv_iload_n hx hb dX5_earliest_25 rfl (lv_at hl 2 rfl) ?_
    obtain ⟨h_2, hf⟩ := hf
    obtain ⟨z_4, hz_4, h_3, hf⟩ := hf
    refine ga_Yt C hG h_2 hz_4 h_3 dX5_earliest_26 ?_
    obtain ⟨h_9, hf⟩ := hf
    refine g_callVv0 (As := []) C hG (kX4_refresh hf) (cwV 0 hts gX5_earliest_X4_refresh rfl rfl rfl hdvX4_refresh ⟨Nat.le_of_ble_eq_true rfl, Nat.le_of_ble_eq_true rfl⟩) (g_recv_w hK hG h_9) rfl hl.1 rfl (Nat.le_of_ble_eq_true rfl) dX5_earliest_27 ⟨Nat.le_of_ble_eq_true rfl, Nat.le_of_ble_eq_true rfl⟩ (fun g1 H locs hq hG => ?_)
    obtain ⟨WI_5, WR_6, WL_7, WX_8, rfl, hf⟩ := hq
    refine lv_aload_n hx hb dX5_earliest_30 rfl (lv_at hl 0 rfl) ?_
    refine gg_R_1 C hG inX5_earliest_wsX50 (hts _ (List.mem_of_getElem? (i := 1) rfl)) dX5_earliest_31 ?_
    refine lv_iload_n hx hb dX5_earliest_34 rfl (lv_at hl 2 rfl) ?_
    obtain ⟨h_10, hf⟩ := hf
    obtain ⟨z_12, hz_12, h_11, hf⟩ := hf
    refine ga_Yt C hG h_10 hz_12 h_11 dX5_earliest_35 ?_
    refine lv_iload_n hx hb dX5_earliest_36 rfl (lv_at hl 1 rfl) ?_
    refine g_callSi0 (As := [.int x1]) C hG (kX5_nodeOf hf) (va_cwS 1 hts gX5_earliest_X5_nodeOf rfl rfl rfl hdsX5_nodeOf ⟨Nat.le_of_ble_eq_true rfl, Nat.le_of_ble_eq_true rfl⟩) rfl hl.1 rfl (Nat.le_of_ble_eq_true rfl) dX5_earliest_37 ⟨Nat.le_of_ble_eq_true rfl, Nat.le_of_ble_eq_true rfl⟩ (fun r_13 g1 H locs hq hG => ?_)
    obtain ⟨rfl, hf⟩ := hq
    refine lv_iload_n hx hb dX5_earliest_40 rfl (lv_at hl 3 rfl) ?_
    obtain ⟨h_15, hf⟩ := hf
    refine g_callVi0 (As := [.int r_13, .int x3]) C hG (kX4_lateness hf) (cwV 2 hts gX5_earliest_X4_lateness rfl rfl rfl hdvX4_lateness ⟨Nat.le_of_ble_eq_true rfl, Nat.le_of_ble_eq_true rfl⟩) (g_recv_w hK hG h_15) rfl hl.1 rfl (Nat.le_of_ble_eq_true rfl) dX5_earliest_41 ⟨Nat.le_of_ble_eq_true rfl, Nat.le_of_ble_eq_true rfl⟩ (fun r_14 g1 H locs hq hG => ?_)
    obtain ⟨rfl, hf⟩ := hq
    refine lv_istore (lv' := [(4, .int r_14), (0, .ref (B 1)), (1, .int x1), (2, .int x2), (3, .int x3)]) hx hb dX5_earliest_44 hl (by decide) rfl (fun ls hl => ?_)
    refine lv_iload hx hb dX5_earliest_46 (lv_at hl 0 rfl) ?_
    refine lv_iconst (v := (-1 : Int32)) hx hb dX5_earliest_48 (by decide) ?_
    refine lv_icmp_ne (tgt := 56) hx hb dX5_earliest_49 (by decide) (fun c_16 => ?_) (fun c_16 => ?_)
    · replace hf := hf.1 c_16
      refine lv_iload_n hx hb dX5_earliest_56 rfl (lv_at hl 4 rfl) ?_
      refine lv_iload hx hb dX5_earliest_57 (lv_at hl 0 rfl) ?_
      refine lv_iadd hx hb dX5_earliest_59 ?_
      exact gx_iret C hG (hpost _ _ _ _ _ hf) dX5_earliest_60 (Nat.le_of_ble_eq_true rfl) (Nat.le_of_ble_eq_true rfl)
    · replace hf := hf.2 c_16
      refine lv_iconst (v := (-1 : Int32)) hx hb dX5_earliest_52 (by decide) ?_
      refine lv_goto (tgt := 60) hx hb dX5_earliest_53 (by decide) ?_
      exact gx_iret C hG (hpost _ _ _ _ _ hf) dX5_earliest_60 (Nat.le_of_ble_eq_true rfl) (Nat.le_of_ble_eq_true rfl)
  · replace hf := hf.2 c_1
    refine lv_iload_n hx hb dX5_earliest_19 rfl (lv_at hl 3 rfl) ?_
    exact gx_iret C hG (hpost _ _ _ _ _ hf) dX5_earliest_20 (Nat.le_of_ble_eq_true rfl) (Nat.le_of_ble_eq_true rfl)
set_option maxRecDepth 100000 in
theorem kX5_earliest {l : Launch} {D : va_G} {B : Nat → Nat} {K : sK} {L : sL} {M : sM} {O : sO} {SI : Nat → Int32} {SX : Nat → Nat → Int32} {nW : Nat} {wd : Nat → Nat → Nat} {Q : Int32 → (Nat → Nat → Int32) → (Nat → Nat → Nat) → (Nat → Nat → Int32) → (Nat → Nat → Nat → Int32) → Prop} {EX : String → (Nat → Nat → Int32) → (Nat → Nat → Nat) → (Nat → Nat → Int32) → (Nat → Nat → Nat → Int32) → Prop} {WI : Nat → Nat → Int32} {WR : Nat → Nat → Nat} {WL : Nat → Nat → Int32} {WX : Nat → Nat → Nat → Int32} {x1 : Int32} {x2 : Int32} {x3 : Int32} (hf : fX5_earliest SI SX nW wd Q EX WI WR WL WX x1 x2 x3) : gXi D B l yX5_earliest wsX5_earliest rX5_earliest 3 18 [.ref (B 1), .int x1, .int x2, .int x3] ((SI, SX), K, L, (nW, WI, WR, WL, WX, wd), M, O) (fun r g1 => ∃ (WI1 : Nat → Nat → Int32) (WR1 : Nat → Nat → Nat) (WL1 : Nat → Nat → Int32) (WX1 : Nat → Nat → Nat → Int32), g1 = ((SI, SX), K, L, (nW, WI1, WR1, WL1, WX1, wd), M, O) ∧ Q r WI1 WR1 WL1 WX1) (fun E g1 => ∃ (WI1 : Nat → Nat → Int32) (WR1 : Nat → Nat → Nat) (WL1 : Nat → Nat → Int32) (WX1 : Nat → Nat → Nat → Int32), g1 = ((SI, SX), K, L, (nW, WI1, WR1, WL1, WX1, wd), M, O) ∧ EX E WI1 WR1 WL1 WX1) := by
  refine gXi_of (cc := cX5_earliest) (maxL := 5) (ret := some .int) (by decide +kernel) rfl (Nat.le_of_ble_eq_true rfl) ?_
  intro p e s m below meth c A hA0 C hE hT hG ls hl
  exact vX5_earliest_b0 C hE hT (fun v WI WR WL WX hq => ⟨WI, WR, WL, WX, rfl, hq⟩) (fun E WI WR WL WX hq => ⟨WI, WR, WL, WX, rfl, hq⟩) WI WR WL WX x1 x2 x3 _ _ _ hf hG hl
def rX5_late : Room := { frames := 7, cells := 2, slots := 12, locals := 115 }
theorem hdvX5_late : yX5_late.cls = RX5 ∧ yX5_late.cls ≠ "java/lang/invoke/MethodHandle" ∧ yX5_late.cls ≠ "java/lang/invoke/VarHandle" ∧ (parseMethodDescriptor yX5_late.desc).map (fun d => d.parameters.length) = some 3 := by decide +kernel
theorem inX5_late_wsX50 : ∀ w ∈ wsX50, w ∈ wsX5_late := (fun _ h => List.mem_cons_of_mem _ (List.mem_append_left _ (List.mem_append_left _ (List.mem_append_left _ (List.mem_append_right _ h)))))
set_option maxHeartbeats 4000000 in
set_option maxRecDepth 100000 in
theorem vX5_late_b0 {p : Program} {l : Launch} {e : Env} {s : State} {m : MethodId} {args : Array Value} {below : List Frame} {meth : Method} {c : Code} {D : va_G} {B : Nat → Nat} {A : Nat → Prop} {K : sK} {L : sL} {M : sM} {O : sO} {post : Int32 → sG → Prop} {px : String → sG → Prop} {SI : Nat → Int32} {SX : Nat → Nat → Int32} {nW : Nat} {wd : Nat → Nat → Nat} {Q : Int32 → (Nat → Nat → Int32) → (Nat → Nat → Nat) → (Nat → Nat → Int32) → (Nat → Nat → Nat → Int32) → Prop} {EX : String → (Nat → Nat → Int32) → (Nat → Nat → Nat) → (Nat → Nat → Int32) → (Nat → Nat → Nat → Int32) → Prop} (C : gX p s m args meth c cX5_late 4 (some .int) wsX5_late RX5 D B A) (hE : gE l A s s.heap) (hT : ∀ x ∈ c.exceptionTable.toList, False) (hpost : ∀ (v : Int32) (WI : Nat → Nat → Int32) (WR : Nat → Nat → Nat) (WL : Nat → Nat → Int32) (WX : Nat → Nat → Nat → Int32), Q v WI WR WL WX → post v ((SI, SX), K, L, (nW, WI, WR, WL, WX, wd), M, O)) (hpx : ∀ (E : String) (WI : Nat → Nat → Int32) (WR : Nat → Nat → Nat) (WL : Nat → Nat → Int32) (WX : Nat → Nat → Nat → Int32), EX E WI WR WL WX → px E ((SI, SX), K, L, (nW, WI, WR, WL, WX, wd), M, O))  (WI : Nat → Nat → Int32) (WR : Nat → Nat → Nat) (WL : Nat → Nat → Int32) (WX : Nat → Nat → Nat → Int32) (x1 : Int32) (x2 : Int32) (x3 : Int32) (H : Heap) (locs : List Loc) (ls : Array Slot) (hf : fX5_late SI SX nW wd Q EX WI WR WL WX x1 x2 x3) (hG : GS D B A s.heap ((SI, SX), K, L, (nW, WI, WR, WL, WX, wd), M, O) H locs) (hl : lv_has ls 4 [(0, .ref (B 1)), (1, .int x1), (2, .int x2), (3, .int x3)]) : W p l e (headSpec wsX5_late rX5_late).room s m args below meth c H locs 0 0 (vx_MQ below (va_Qi post (gB D B A) A) (gQX D B A px) args s 2 12 A) (F0 m 0 ls []) := by
  obtain ⟨hx, hb, hml, hown, hts, hK, hr, hlk, hA, hN⟩ := id C
  unfold fX5_late at hf
  refine lv_aload_n hx hb dX5_late_0 rfl (lv_at hl 0 rfl) ?_
  refine lv_iload_n hx hb dX5_late_1 rfl (lv_at hl 1 rfl) ?_
  refine gx_callVvo (As := [.int x1]) (px0 := px) C hE hT hG (kX5_needPost hf) (cwV 1 hts gX5_late_X5_needPost rfl rfl rfl hdvX5_needPost ⟨Nat.le_of_ble_eq_true rfl, Nat.le_of_ble_eq_true rfl⟩) (va_recv hK hG.1 (ci := 5) (q0 := 41) rfl rfl) rfl hl.1 rfl (Nat.le_of_ble_eq_true rfl) dX5_late_2 ⟨Nat.le_of_ble_eq_true rfl, Nat.le_of_ble_eq_true rfl⟩ (fun E g1 hq => ?_) (Nat.le_of_ble_eq_true rfl) (Nat.le_of_ble_eq_true rfl) (fun g1 H locs hq hG => ?_)
  · obtain ⟨rfl, hf⟩ := hq
    exact hpx E _ _ _ _ hf
  obtain ⟨rfl, hf⟩ := hq
  refine lv_aload_n hx hb dX5_late_5 rfl (lv_at hl 0 rfl) ?_
  refine lv_iload_n hx hb dX5_late_6 rfl (lv_at hl 2 rfl) ?_
  refine gx_callVvo (As := [.int x2]) (px0 := px) C hE hT hG (kX5_needPost hf) (cwV 1 hts gX5_late_X5_needPost rfl rfl rfl hdvX5_needPost ⟨Nat.le_of_ble_eq_true rfl, Nat.le_of_ble_eq_true rfl⟩) (va_recv hK hG.1 (ci := 5) (q0 := 41) rfl rfl) rfl hl.1 rfl (Nat.le_of_ble_eq_true rfl) dX5_late_7 ⟨Nat.le_of_ble_eq_true rfl, Nat.le_of_ble_eq_true rfl⟩ (fun E g1 hq => ?_) (Nat.le_of_ble_eq_true rfl) (Nat.le_of_ble_eq_true rfl) (fun g1 H locs hq hG => ?_)
  · obtain ⟨rfl, hf⟩ := hq
    exact hpx E _ _ _ _ hf
  obtain ⟨rfl, hf⟩ := hq
  refine lv_iload_n hx hb dX5_late_10 rfl (lv_at hl 1 rfl) ?_
  refine lv_iload_n hx hb dX5_late_11 rfl (lv_at hl 2 rfl) ?_
  refine lv_icmp_ne (tgt := 17) hx hb dX5_late_12 (by decide) (fun c_1 => ?_) (fun c_1 => ?_)
  · replace hf := hf.1 c_1
    refine lv_aload_n hx hb dX5_late_17 rfl (lv_at hl 0 rfl) ?_
    refine gg_R_1 C hG inX5_late_wsX50 (hts _ (List.mem_of_getElem? (i := 1) rfl)) dX5_late_18 ?_
    refine lv_iload_n hx hb dX5_late_21 rfl (lv_at hl 2 rfl) ?_
    obtain ⟨h_2, hf⟩ := hf
    obtain ⟨z_4, hz_4, h_3, hf⟩ := hf
    refine ga_Yt C hG h_2 hz_4 h_3 dX5_late_22 ?_
    obtain ⟨h_9, hf⟩ := hf
    refine g_callVv0 (As := []) C hG (kX4_refresh hf) (cwV 0 hts gX5_late_X4_refresh rfl rfl rfl hdvX4_refresh ⟨Nat.le_of_ble_eq_true rfl, Nat.le_of_ble_eq_true rfl⟩) (g_recv_w hK hG h_9) rfl hl.1 rfl (Nat.le_of_ble_eq_true rfl) dX5_late_23 ⟨Nat.le_of_ble_eq_true rfl, Nat.le_of_ble_eq_true rfl⟩ (fun g1 H locs hq hG => ?_)
    obtain ⟨WI_5, WR_6, WL_7, WX_8, rfl, hf⟩ := hq
    refine lv_aload_n hx hb dX5_late_26 rfl (lv_at hl 0 rfl) ?_
    refine gg_R_1 C hG inX5_late_wsX50 (hts _ (List.mem_of_getElem? (i := 1) rfl)) dX5_late_27 ?_
    refine lv_iload_n hx hb dX5_late_30 rfl (lv_at hl 2 rfl) ?_
    obtain ⟨h_10, hf⟩ := hf
    obtain ⟨z_12, hz_12, h_11, hf⟩ := hf
    refine ga_Yt C hG h_10 hz_12 h_11 dX5_late_31 ?_
    refine lv_iload_n hx hb dX5_late_32 rfl (lv_at hl 1 rfl) ?_
    refine g_callSi0 (As := [.int x1]) C hG (kX5_nodeOf hf) (va_cwS 1 hts gX5_late_X5_nodeOf rfl rfl rfl hdsX5_nodeOf ⟨Nat.le_of_ble_eq_true rfl, Nat.le_of_ble_eq_true rfl⟩) rfl hl.1 rfl (Nat.le_of_ble_eq_true rfl) dX5_late_33 ⟨Nat.le_of_ble_eq_true rfl, Nat.le_of_ble_eq_true rfl⟩ (fun r_13 g1 H locs hq hG => ?_)
    obtain ⟨rfl, hf⟩ := hq
    refine lv_iload_n hx hb dX5_late_36 rfl (lv_at hl 3 rfl) ?_
    obtain ⟨h_15, hf⟩ := hf
    refine g_callVi0 (As := [.int r_13, .int x3]) C hG (kX4_extreme hf) (cwV 2 hts gX5_late_X4_extreme rfl rfl rfl hdvX4_extreme ⟨Nat.le_of_ble_eq_true rfl, Nat.le_of_ble_eq_true rfl⟩) (g_recv_w hK hG h_15) rfl hl.1 rfl (Nat.le_of_ble_eq_true rfl) dX5_late_37 ⟨Nat.le_of_ble_eq_true rfl, Nat.le_of_ble_eq_true rfl⟩ (fun r_14 g1 H locs hq hG => ?_)
    obtain ⟨rfl, hf⟩ := hq
    exact gx_iret C hG (hpost _ _ _ _ _ hf) dX5_late_40 (Nat.le_of_ble_eq_true rfl) (Nat.le_of_ble_eq_true rfl)
  · replace hf := hf.2 c_1
    refine lv_iconst (v := (0 : Int32)) hx hb dX5_late_15 (by decide) ?_
    exact gx_iret C hG (hpost _ _ _ _ _ hf) dX5_late_16 (Nat.le_of_ble_eq_true rfl) (Nat.le_of_ble_eq_true rfl)
set_option maxRecDepth 100000 in
theorem kX5_late {l : Launch} {D : va_G} {B : Nat → Nat} {K : sK} {L : sL} {M : sM} {O : sO} {SI : Nat → Int32} {SX : Nat → Nat → Int32} {nW : Nat} {wd : Nat → Nat → Nat} {Q : Int32 → (Nat → Nat → Int32) → (Nat → Nat → Nat) → (Nat → Nat → Int32) → (Nat → Nat → Nat → Int32) → Prop} {EX : String → (Nat → Nat → Int32) → (Nat → Nat → Nat) → (Nat → Nat → Int32) → (Nat → Nat → Nat → Int32) → Prop} {WI : Nat → Nat → Int32} {WR : Nat → Nat → Nat} {WL : Nat → Nat → Int32} {WX : Nat → Nat → Nat → Int32} {x1 : Int32} {x2 : Int32} {x3 : Int32} (hf : fX5_late SI SX nW wd Q EX WI WR WL WX x1 x2 x3) : gXi D B l yX5_late wsX5_late rX5_late 2 12 [.ref (B 1), .int x1, .int x2, .int x3] ((SI, SX), K, L, (nW, WI, WR, WL, WX, wd), M, O) (fun r g1 => ∃ (WI1 : Nat → Nat → Int32) (WR1 : Nat → Nat → Nat) (WL1 : Nat → Nat → Int32) (WX1 : Nat → Nat → Nat → Int32), g1 = ((SI, SX), K, L, (nW, WI1, WR1, WL1, WX1, wd), M, O) ∧ Q r WI1 WR1 WL1 WX1) (fun E g1 => ∃ (WI1 : Nat → Nat → Int32) (WR1 : Nat → Nat → Nat) (WL1 : Nat → Nat → Int32) (WX1 : Nat → Nat → Nat → Int32), g1 = ((SI, SX), K, L, (nW, WI1, WR1, WL1, WX1, wd), M, O) ∧ EX E WI1 WR1 WL1 WX1) := by
  refine gXi_of (cc := cX5_late) (maxL := 4) (ret := some .int) (by decide +kernel) rfl (Nat.le_of_ble_eq_true rfl) ?_
  intro p e s m below meth c A hA0 C hE hT hG ls hl
  exact vX5_late_b0 C hE hT (fun v WI WR WL WX hq => ⟨WI, WR, WL, WX, rfl, hq⟩) (fun E WI WR WL WX hq => ⟨WI, WR, WL, WX, rfl, hq⟩) WI WR WL WX x1 x2 x3 _ _ _ hf hG hl
def rX5_meets : Room := { frames := 7, cells := 1, slots := 6, locals := 111 }
theorem hdvX5_meets : yX5_meets.cls = RX5 ∧ yX5_meets.cls ≠ "java/lang/invoke/MethodHandle" ∧ yX5_meets.cls ≠ "java/lang/invoke/VarHandle" ∧ (parseMethodDescriptor yX5_meets.desc).map (fun d => d.parameters.length) = some 1 := by decide +kernel
theorem inX5_meets_wsX30 : ∀ w ∈ wsX30, w ∈ wsX5_meets := (fun _ h => List.mem_cons_of_mem _ (List.mem_append_left _ (List.mem_append_right _ h)))
theorem inX5_meets_wsX50 : ∀ w ∈ wsX50, w ∈ wsX5_meets := (fun _ h => List.mem_cons_of_mem _ (List.mem_append_left _ (List.mem_append_left _ (List.mem_append_right _ h))))
set_option maxHeartbeats 4000000 in
set_option maxRecDepth 100000 in
theorem vX5_meets_h9 {p : Program} {l : Launch} {e : Env} {s : State} {m : MethodId} {args : Array Value} {below : List Frame} {meth : Method} {c : Code} {D : va_G} {B : Nat → Nat} {A : Nat → Prop} {K : sK} {L : sL} {Y : sY} {M : sM} {O : sO} {post : Int32 → sG → Prop} {px : String → sG → Prop} {SI : Nat → Int32} {SX : Nat → Nat → Int32} {Q : Int32 → Prop} {EX : String → Prop} (C : gX p s m args meth c cX5_meets 4 (some .int) wsX5_meets RX5 D B A) (hE : gE l A s s.heap) (hT : ∀ x ∈ c.exceptionTable.toList, False) (hpost : ∀ (v : Int32) , Q v  → post v ((SI, SX), K, L, Y, M, O)) (hpx : ∀ (E : String) , EX E  → px E ((SI, SX), K, L, Y, M, O))  : ∀ (n9 : Nat)  (y1 : Int32) (y2 : Int32) (y3 : Int32) (H : Heap) (locs : List Loc) (ls : Array Slot), fX5_meets_h9 SI SX Q EX n9 y1 y2 y3 → GS D B A s.heap ((SI, SX), K, L, Y, M, O) H locs → lv_has ls 4 [(0, .ref (B 1)), (1, .int y1), (2, .int y2), (3, .int y3)] → W p l e (headSpec wsX5_meets rX5_meets).room s m args below meth c H locs 1 6 (vx_MQ below (va_Qi post (gB D B A) A) (gQX D B A px) args s 1 6 A) (F0 m 9 ls []) := by
  obtain ⟨hx, hb, hml, hown, hts, hK, hr, hlk, hA, hN⟩ := id C
  intro n9
  induction n9 with
  | zero =>
    intro y1 y2 y3 H locs ls hf
    exact False.elim hf
  | succ n9 hG9 =>
    intro y1 y2 y3 H locs ls hf hG hl
    unfold fX5_meets_h9 at hf
    refine lv_iload_n hx hb dX5_meets_9 rfl (lv_at hl 3 rfl) ?_
    refine lv_aload_n hx hb dX5_meets_10 rfl (lv_at hl 0 rfl) ?_
    refine gg_R_0 C hG inX5_meets_wsX50 (hts _ (List.mem_of_getElem? (i := 1) rfl)) dX5_meets_11 ?_
    refine gg_S_1 C hG inX5_meets_wsX30 (hts _ (List.mem_of_getElem? (i := 2) rfl)) dX5_meets_14 ?_
    refine lv_icmp_ge (tgt := 41) hx hb dX5_meets_17 (by decide) (fun c_1 => ?_) (fun c_1 => ?_)
    · replace hf := hf.1 c_1
      refine lv_iload_n hx hb dX5_meets_41 rfl (lv_at hl 2 rfl) ?_
      refine g_callSi0 (As := [.int y2]) C hG (kJ6_bitCount_0f7a4 hf) (va_cwS 1 hts gX5_meets_J6_bitCount_0f7a4 rfl rfl rfl hdsJ6_bitCount_0f7a4 ⟨Nat.le_of_ble_eq_true rfl, Nat.le_of_ble_eq_true rfl⟩) rfl hl.1 rfl (Nat.le_of_ble_eq_true rfl) dX5_meets_42 ⟨Nat.le_of_ble_eq_true rfl, Nat.le_of_ble_eq_true rfl⟩ (fun r_2 g1 H locs hq hG => ?_)
      obtain ⟨rfl, hf⟩ := hq
      exact gx_iret C hG (hpost _ hf) dX5_meets_45 (Nat.le_of_ble_eq_true rfl) (Nat.le_of_ble_eq_true rfl)
    · replace hf := hf.2 c_1
      refine lv_iload_n hx hb dX5_meets_20 rfl (lv_at hl 2 rfl) ?_
      refine lv_aload_n hx hb dX5_meets_21 rfl (lv_at hl 0 rfl) ?_
      refine gg_R_0 C hG inX5_meets_wsX50 (hts _ (List.mem_of_getElem? (i := 1) rfl)) dX5_meets_22 ?_
      refine lv_iload_n hx hb dX5_meets_25 rfl (lv_at hl 1 rfl) ?_
      refine g_callSi0 (As := [.int y1]) C hG (kX5_nodeOf hf) (va_cwS 1 hts gX5_meets_X5_nodeOf rfl rfl rfl hdsX5_nodeOf ⟨Nat.le_of_ble_eq_true rfl, Nat.le_of_ble_eq_true rfl⟩) rfl hl.1 rfl (Nat.le_of_ble_eq_true rfl) dX5_meets_26 ⟨Nat.le_of_ble_eq_true rfl, Nat.le_of_ble_eq_true rfl⟩ (fun r_3 g1 H locs hq hG => ?_)
      obtain ⟨rfl, hf⟩ := hq
      refine lv_iload_n hx hb dX5_meets_29 rfl (lv_at hl 3 rfl) ?_
      refine g_callVi0 (As := [.int r_3, .int y3]) C hG (kX3_ticksThere hf) (cwV 2 hts gX5_meets_X3_ticksThere rfl rfl rfl hdvX3_ticksThere ⟨Nat.le_of_ble_eq_true rfl, Nat.le_of_ble_eq_true rfl⟩) (va_recv hK hG.1 (ci := 3) (q0 := 27) rfl rfl) rfl hl.1 rfl (Nat.le_of_ble_eq_true rfl) dX5_meets_30 ⟨Nat.le_of_ble_eq_true rfl, Nat.le_of_ble_eq_true rfl⟩ (fun r_4 g1 H locs hq hG => ?_)
      obtain ⟨rfl, hf⟩ := hq
      refine lv_ior hx hb dX5_meets_33 ?_
      refine lv_topi (fun x2_5 ex2_5 => ?_)
      replace hf := hf x2_5 ex2_5
      refine lv_istore_n (lv' := [(2, .int x2_5), (0, .ref (B 1)), (1, .int y1), (3, .int y3)]) hx hb dX5_meets_34 rfl hl (by decide) rfl (fun ls hl => ?_)
      obtain ⟨x3_6, ex3_6⟩ : ∃ y : Int32, y = y3 + (1 : Int32) := ⟨_, rfl⟩
      replace hf := hf x3_6 ex3_6
      refine lv_iinc (v := x3_6) (lv' := [(3, .int x3_6), (2, .int x2_5), (0, .ref (B 1)), (1, .int y1)]) hx hb dX5_meets_35 hl (k := 3) rfl (by rw [ex3_6]; rfl) (by decide) rfl (fun ls hl => ?_)
      refine lv_goto (tgt := 9) hx hb dX5_meets_38 (by decide) ?_
      exact hG9 y1 x2_5 x3_6 _ _ _ hf hG (lv_sub hl [2, 3, 1, 0] rfl)
set_option maxHeartbeats 4000000 in
set_option maxRecDepth 100000 in
theorem vX5_meets_b0 {p : Program} {l : Launch} {e : Env} {s : State} {m : MethodId} {args : Array Value} {below : List Frame} {meth : Method} {c : Code} {D : va_G} {B : Nat → Nat} {A : Nat → Prop} {K : sK} {L : sL} {Y : sY} {M : sM} {O : sO} {post : Int32 → sG → Prop} {px : String → sG → Prop} {SI : Nat → Int32} {SX : Nat → Nat → Int32} {Q : Int32 → Prop} {EX : String → Prop} (C : gX p s m args meth c cX5_meets 4 (some .int) wsX5_meets RX5 D B A) (hE : gE l A s s.heap) (hT : ∀ x ∈ c.exceptionTable.toList, False) (hpost : ∀ (v : Int32) , Q v  → post v ((SI, SX), K, L, Y, M, O)) (hpx : ∀ (E : String) , EX E  → px E ((SI, SX), K, L, Y, M, O))   (x1 : Int32) (H : Heap) (locs : List Loc) (ls : Array Slot) (hf : fX5_meets SI SX Q EX x1) (hG : GS D B A s.heap ((SI, SX), K, L, Y, M, O) H locs) (hl : lv_has ls 4 [(0, .ref (B 1)), (1, .int x1)]) : W p l e (headSpec wsX5_meets rX5_meets).room s m args below meth c H locs 0 0 (vx_MQ below (va_Qi post (gB D B A) A) (gQX D B A px) args s 1 6 A) (F0 m 0 ls []) := by
  obtain ⟨hx, hb, hml, hown, hts, hK, hr, hlk, hA, hN⟩ := id C
  unfold fX5_meets at hf
  refine lv_aload_n hx hb dX5_meets_0 rfl (lv_at hl 0 rfl) ?_
  refine lv_iload_n hx hb dX5_meets_1 rfl (lv_at hl 1 rfl) ?_
  refine gx_callVvo (As := [.int x1]) (px0 := px) C hE hT hG (kX5_needPost hf) (cwV 1 hts gX5_meets_X5_needPost rfl rfl rfl hdvX5_needPost ⟨Nat.le_of_ble_eq_true rfl, Nat.le_of_ble_eq_true rfl⟩) (va_recv hK hG.1 (ci := 5) (q0 := 41) rfl rfl) rfl hl.1 rfl (Nat.le_of_ble_eq_true rfl) dX5_meets_2 ⟨Nat.le_of_ble_eq_true rfl, Nat.le_of_ble_eq_true rfl⟩ (fun E g1 hq => ?_) (Nat.le_of_ble_eq_true rfl) (Nat.le_of_ble_eq_true rfl) (fun g1 H locs hq hG => ?_)
  · obtain ⟨rfl, hf⟩ := hq
    exact hpx E  hf
  obtain ⟨rfl, hf⟩ := hq
  refine lv_iconst (v := (0 : Int32)) hx hb dX5_meets_5 (by decide) ?_
  refine lv_istore_n (lv' := [(2, .int (0 : Int32)), (0, .ref (B 1)), (1, .int x1)]) hx hb dX5_meets_6 rfl hl (by decide) rfl (fun ls hl => ?_)
  refine lv_iconst (v := (0 : Int32)) hx hb dX5_meets_7 (by decide) ?_
  refine lv_istore_n (lv' := [(3, .int (0 : Int32)), (2, .int (0 : Int32)), (0, .ref (B 1)), (1, .int x1)]) hx hb dX5_meets_8 rfl hl (by decide) rfl (fun ls hl => ?_)
  obtain ⟨n9, hf⟩ := hf
  exact vX5_meets_h9 C hE hT hpost hpx  n9 x1 (0 : Int32) (0 : Int32) _ _ _ hf hG (lv_sub hl [2, 3, 1, 0] rfl)
set_option maxRecDepth 100000 in
theorem kX5_meets {l : Launch} {D : va_G} {B : Nat → Nat} {K : sK} {L : sL} {Y : sY} {M : sM} {O : sO} {SI : Nat → Int32} {SX : Nat → Nat → Int32} {Q : Int32 → Prop} {EX : String → Prop} {x1 : Int32} (hf : fX5_meets SI SX Q EX x1) : gXi D B l yX5_meets wsX5_meets rX5_meets 1 6 [.ref (B 1), .int x1] ((SI, SX), K, L, Y, M, O) (fun r g1 => g1 = ((SI, SX), K, L, Y, M, O) ∧ Q r ) (fun E g1 => g1 = ((SI, SX), K, L, Y, M, O) ∧ EX E ) := by
  refine gXi_of (cc := cX5_meets) (maxL := 4) (ret := some .int) (by decide +kernel) rfl (Nat.le_of_ble_eq_true rfl) ?_
  intro p e s m below meth c A hA0 C hE hT hG ls hl
  exact vX5_meets_b0 C hE hT (fun v  hq => ⟨rfl, hq⟩) (fun E  hq => ⟨rfl, hq⟩) x1 _ _ _ hf hG hl
def rX5_part : Room := { frames := 8, cells := 3, slots := 18, locals := 132 }
theorem hdvX5_part : yX5_part.cls = RX5 ∧ yX5_part.cls ≠ "java/lang/invoke/MethodHandle" ∧ yX5_part.cls ≠ "java/lang/invoke/VarHandle" ∧ (parseMethodDescriptor yX5_part.desc).map (fun d => d.parameters.length) = some 3 := by decide +kernel
theorem inX5_part_wsX50 : ∀ w ∈ wsX50, w ∈ wsX5_part := (fun _ h => List.mem_cons_of_mem _ (List.mem_append_left _ (List.mem_append_left _ (List.mem_append_left _ (List.mem_append_left _ (List.mem_append_right _ h))))))
set_option maxHeartbeats 4000000 in
set_option maxRecDepth 100000 in
theorem vX5_part_b0 {p : Program} {l : Launch} {e : Env} {s : State} {m : MethodId} {args : Array Value} {below : List Frame} {meth : Method} {c : Code} {D : va_G} {B : Nat → Nat} {A : Nat → Prop} {L : sL} {Y : sY} {M : sM} {O : sO} {post : Int32 → sG → Prop} {px : String → sG → Prop} {SI : Nat → Int32} {SX : Nat → Nat → Int32} {Q : Int32 → (Int64) → (Int32) → (Nat → Nat → Int64) → (Nat → Nat → Int32) → Prop} {EX : String → (Int64) → (Int32) → (Nat → Nat → Int64) → (Nat → Nat → Int32) → Prop} (C : gX p s m args meth c cX5_part 4 (some .int) wsX5_part RX5 D B A) (hE : gE l A s s.heap) (hT : ∀ x ∈ c.exceptionTable.toList, False) (hpost : ∀ (v : Int32) (CU : Int64) (CQ : Int32) (CJ : Nat → Nat → Int64) (CX : Nat → Nat → Int32), Q v CU CQ CJ CX → post v ((SI, SX), (CU, CQ, CJ, CX), L, Y, M, O)) (hpx : ∀ (E : String) (CU : Int64) (CQ : Int32) (CJ : Nat → Nat → Int64) (CX : Nat → Nat → Int32), EX E CU CQ CJ CX → px E ((SI, SX), (CU, CQ, CJ, CX), L, Y, M, O))  (CU : Int64) (CQ : Int32) (CJ : Nat → Nat → Int64) (CX : Nat → Nat → Int32) (x1 : Int32) (x2 : Int32) (x3 : Int32) (H : Heap) (locs : List Loc) (ls : Array Slot) (hf : fX5_part SI SX Q EX CU CQ CJ CX x1 x2 x3) (hG : GS D B A s.heap ((SI, SX), (CU, CQ, CJ, CX), L, Y, M, O) H locs) (hl : lv_has ls 4 [(0, .ref (B 1)), (1, .int x1), (2, .int x2), (3, .int x3)]) : W p l e (headSpec wsX5_part rX5_part).room s m args below meth c H locs 0 0 (vx_MQ below (va_Qi post (gB D B A) A) (gQX D B A px) args s 3 18 A) (F0 m 0 ls []) := by
  obtain ⟨hx, hb, hml, hown, hts, hK, hr, hlk, hA, hN⟩ := id C
  unfold fX5_part at hf
  refine lv_aload_n hx hb dX5_part_0 rfl (lv_at hl 0 rfl) ?_
  refine lv_iload_n hx hb dX5_part_1 rfl (lv_at hl 1 rfl) ?_
  refine gx_callVvo (As := [.int x1]) (px0 := px) C hE hT hG (kX5_needPost hf) (cwV 1 hts gX5_part_X5_needPost rfl rfl rfl hdvX5_needPost ⟨Nat.le_of_ble_eq_true rfl, Nat.le_of_ble_eq_true rfl⟩) (va_recv hK hG.1 (ci := 5) (q0 := 41) rfl rfl) rfl hl.1 rfl (Nat.le_of_ble_eq_true rfl) dX5_part_2 ⟨Nat.le_of_ble_eq_true rfl, Nat.le_of_ble_eq_true rfl⟩ (fun E g1 hq => ?_) (Nat.le_of_ble_eq_true rfl) (Nat.le_of_ble_eq_true rfl) (fun g1 H locs hq hG => ?_)
  · obtain ⟨rfl, hf⟩ := hq
    exact hpx E _ _ _ _ hf
  obtain ⟨rfl, hf⟩ := hq
  refine lv_aload_n hx hb dX5_part_5 rfl (lv_at hl 0 rfl) ?_
  refine lv_iload_n hx hb dX5_part_6 rfl (lv_at hl 2 rfl) ?_
  refine gx_callVvo (As := [.int x2]) (px0 := px) C hE hT hG (kX5_needPost hf) (cwV 1 hts gX5_part_X5_needPost rfl rfl rfl hdvX5_needPost ⟨Nat.le_of_ble_eq_true rfl, Nat.le_of_ble_eq_true rfl⟩) (va_recv hK hG.1 (ci := 5) (q0 := 41) rfl rfl) rfl hl.1 rfl (Nat.le_of_ble_eq_true rfl) dX5_part_7 ⟨Nat.le_of_ble_eq_true rfl, Nat.le_of_ble_eq_true rfl⟩ (fun E g1 hq => ?_) (Nat.le_of_ble_eq_true rfl) (Nat.le_of_ble_eq_true rfl) (fun g1 H locs hq hG => ?_)
  · obtain ⟨rfl, hf⟩ := hq
    exact hpx E _ _ _ _ hf
  obtain ⟨rfl, hf⟩ := hq
  refine lv_iload_n hx hb dX5_part_10 rfl (lv_at hl 3 rfl) ?_
  refine gx_callSvo (As := [.int x3]) (px0 := px) C hE hT hG (kX5_needTick hf) (va_cwS 1 hts gX5_part_X5_needTick rfl rfl rfl hdsX5_needTick ⟨Nat.le_of_ble_eq_true rfl, Nat.le_of_ble_eq_true rfl⟩) rfl hl.1 rfl (Nat.le_of_ble_eq_true rfl) dX5_part_11 ⟨Nat.le_of_ble_eq_true rfl, Nat.le_of_ble_eq_true rfl⟩ (fun E g1 hq => ?_) (Nat.le_of_ble_eq_true rfl) (Nat.le_of_ble_eq_true rfl) (fun g1 H locs hq hG => ?_)
  · obtain ⟨rfl, hf⟩ := hq
    exact hpx E _ _ _ _ hf
  obtain ⟨rfl, hf⟩ := hq
  refine lv_iload_n hx hb dX5_part_14 rfl (lv_at hl 1 rfl) ?_
  refine lv_iload_n hx hb dX5_part_15 rfl (lv_at hl 2 rfl) ?_
  refine lv_icmp_ne (tgt := 23) hx hb dX5_part_16 (by decide) (fun c_1 => ?_) (fun c_1 => ?_)
  · replace hf := hf.1 c_1
    refine lv_aload_n hx hb dX5_part_23 rfl (lv_at hl 0 rfl) ?_
    refine gg_R_2 C hG inX5_part_wsX50 (hts _ (List.mem_of_getElem? (i := 1) rfl)) dX5_part_24 ?_
    refine lv_iload_n hx hb dX5_part_27 rfl (lv_at hl 1 rfl) ?_
    refine g_callSi0 (As := [.int x1]) C hG (kX5_nodeOf hf) (va_cwS 1 hts gX5_part_X5_nodeOf rfl rfl rfl hdsX5_nodeOf ⟨Nat.le_of_ble_eq_true rfl, Nat.le_of_ble_eq_true rfl⟩) rfl hl.1 rfl (Nat.le_of_ble_eq_true rfl) dX5_part_28 ⟨Nat.le_of_ble_eq_true rfl, Nat.le_of_ble_eq_true rfl⟩ (fun r_2 g1 H locs hq hG => ?_)
    obtain ⟨rfl, hf⟩ := hq
    refine lv_iload_n hx hb dX5_part_31 rfl (lv_at hl 2 rfl) ?_
    refine g_callSi0 (As := [.int x2]) C hG (kX5_nodeOf hf) (va_cwS 1 hts gX5_part_X5_nodeOf rfl rfl rfl hdsX5_nodeOf ⟨Nat.le_of_ble_eq_true rfl, Nat.le_of_ble_eq_true rfl⟩) rfl hl.1 rfl (Nat.le_of_ble_eq_true rfl) dX5_part_32 ⟨Nat.le_of_ble_eq_true rfl, Nat.le_of_ble_eq_true rfl⟩ (fun r_3 g1 H locs hq hG => ?_)
    obtain ⟨rfl, hf⟩ := hq
    refine lv_iload_n hx hb dX5_part_35 rfl (lv_at hl 3 rfl) ?_
    refine g_callVi0 (As := [.int r_2, .int r_3, .int x3]) C hG (kX0_size hf) (cwV 3 hts gX5_part_X0_size rfl rfl rfl hdvX0_size ⟨Nat.le_of_ble_eq_true rfl, Nat.le_of_ble_eq_true rfl⟩) (va_recv hK hG.1 (ci := 0) (q0 := 36) rfl rfl) rfl hl.1 rfl (Nat.le_of_ble_eq_true rfl) dX5_part_36 ⟨Nat.le_of_ble_eq_true rfl, Nat.le_of_ble_eq_true rfl⟩ (fun r_8 g1 H locs hq hG => ?_)
    obtain ⟨CU_4, CQ_5, CJ_6, CX_7, rfl, hf⟩ := hq
    exact gx_iret C hG (hpost _ _ _ _ _ hf) dX5_part_39 (Nat.le_of_ble_eq_true rfl) (Nat.le_of_ble_eq_true rfl)
  · replace hf := hf.2 c_1
    refine lv_iconst (v := (-1 : Int32)) hx hb dX5_part_19 (by decide) ?_
    refine lv_goto (tgt := 39) hx hb dX5_part_20 (by decide) ?_
    exact gx_iret C hG (hpost _ _ _ _ _ hf) dX5_part_39 (Nat.le_of_ble_eq_true rfl) (Nat.le_of_ble_eq_true rfl)
set_option maxRecDepth 100000 in
theorem kX5_part {l : Launch} {D : va_G} {B : Nat → Nat} {L : sL} {Y : sY} {M : sM} {O : sO} {SI : Nat → Int32} {SX : Nat → Nat → Int32} {Q : Int32 → (Int64) → (Int32) → (Nat → Nat → Int64) → (Nat → Nat → Int32) → Prop} {EX : String → (Int64) → (Int32) → (Nat → Nat → Int64) → (Nat → Nat → Int32) → Prop} {CU : Int64} {CQ : Int32} {CJ : Nat → Nat → Int64} {CX : Nat → Nat → Int32} {x1 : Int32} {x2 : Int32} {x3 : Int32} (hf : fX5_part SI SX Q EX CU CQ CJ CX x1 x2 x3) : gXi D B l yX5_part wsX5_part rX5_part 3 18 [.ref (B 1), .int x1, .int x2, .int x3] ((SI, SX), (CU, CQ, CJ, CX), L, Y, M, O) (fun r g1 => ∃ (CU1 : Int64) (CQ1 : Int32) (CJ1 : Nat → Nat → Int64) (CX1 : Nat → Nat → Int32), g1 = ((SI, SX), (CU1, CQ1, CJ1, CX1), L, Y, M, O) ∧ Q r CU1 CQ1 CJ1 CX1) (fun E g1 => ∃ (CU1 : Int64) (CQ1 : Int32) (CJ1 : Nat → Nat → Int64) (CX1 : Nat → Nat → Int32), g1 = ((SI, SX), (CU1, CQ1, CJ1, CX1), L, Y, M, O) ∧ EX E CU1 CQ1 CJ1 CX1) := by
  refine gXi_of (cc := cX5_part) (maxL := 4) (ret := some .int) (by decide +kernel) rfl (Nat.le_of_ble_eq_true rfl) ?_
  intro p e s m below meth c A hA0 C hE hT hG ls hl
  exact vX5_part_b0 C hE hT (fun v CU CQ CJ CX hq => ⟨CU, CQ, CJ, CX, rfl, hq⟩) (fun E CU CQ CJ CX hq => ⟨CU, CQ, CJ, CX, rfl, hq⟩) CU CQ CJ CX x1 x2 x3 _ _ _ hf hG hl
def rX5_steps : Room := { frames := 7, cells := 1, slots := 6, locals := 137 }
theorem hdvX5_steps : yX5_steps.cls = RX5 ∧ yX5_steps.cls ≠ "java/lang/invoke/MethodHandle" ∧ yX5_steps.cls ≠ "java/lang/invoke/VarHandle" ∧ (parseMethodDescriptor yX5_steps.desc).map (fun d => d.parameters.length) = some 1 := by decide +kernel
theorem inX5_steps_wsX20 : ∀ w ∈ wsX20, w ∈ wsX5_steps := (fun _ h => List.mem_cons_of_mem _ (List.mem_append_left _ (List.mem_append_left _ (List.mem_append_left _ (List.mem_append_left _ (List.mem_append_right _ h))))))
theorem inX5_steps_wsX50 : ∀ w ∈ wsX50, w ∈ wsX5_steps := (fun _ h => List.mem_cons_of_mem _ (List.mem_append_left _ (List.mem_append_left _ (List.mem_append_left _ (List.mem_append_left _ (List.mem_append_left _ (List.mem_append_right _ h)))))))
set_option maxHeartbeats 4000000 in
set_option maxRecDepth 100000 in
theorem vX5_steps_b0 {p : Program} {l : Launch} {e : Env} {s : State} {m : MethodId} {args : Array Value} {below : List Frame} {meth : Method} {c : Code} {D : va_G} {B : Nat → Nat} {A : Nat → Prop} {K : sK} {M : sM} {O : sO} {post : Int32 → sG → Prop} {px : String → sG → Prop} {SI : Nat → Int32} {SX : Nat → Nat → Int32} {nE : Nat} {la : Nat → Nat} {nW : Nat} {wd : Nat → Nat → Nat} {Q : Int32 → (Nat → Int32) → (Nat → Int64) → (Nat → Int32) → (Nat → Nat → Int32) → (Nat → Nat → Int32) → (Nat → Nat → Nat) → (Nat → Nat → Int32) → (Nat → Nat → Nat → Int32) → Prop} {EX : String → (Nat → Int32) → (Nat → Int64) → (Nat → Int32) → (Nat → Nat → Int32) → (Nat → Nat → Int32) → (Nat → Nat → Nat) → (Nat → Nat → Int32) → (Nat → Nat → Nat → Int32) → Prop} (C : gX p s m args meth c cX5_steps 2 (some .int) wsX5_steps RX5 D B A) (hE : gE l A s s.heap) (hT : ∀ x ∈ c.exceptionTable.toList, False) (hpost : ∀ (v : Int32) (MI : Nat → Int32) (TT : Nat → Int64) (AW : Nat → Int32) (LT : Nat → Nat → Int32) (WI : Nat → Nat → Int32) (WR : Nat → Nat → Nat) (WL : Nat → Nat → Int32) (WX : Nat → Nat → Nat → Int32), Q v MI TT AW LT WI WR WL WX → post v ((SI, SX), K, (MI, TT, AW, nE, LT, la), (nW, WI, WR, WL, WX, wd), M, O)) (hpx : ∀ (E : String) (MI : Nat → Int32) (TT : Nat → Int64) (AW : Nat → Int32) (LT : Nat → Nat → Int32) (WI : Nat → Nat → Int32) (WR : Nat → Nat → Nat) (WL : Nat → Nat → Int32) (WX : Nat → Nat → Nat → Int32), EX E MI TT AW LT WI WR WL WX → px E ((SI, SX), K, (MI, TT, AW, nE, LT, la), (nW, WI, WR, WL, WX, wd), M, O))  (MI : Nat → Int32) (TT : Nat → Int64) (AW : Nat → Int32) (LT : Nat → Nat → Int32) (WI : Nat → Nat → Int32) (WR : Nat → Nat → Nat) (WL : Nat → Nat → Int32) (WX : Nat → Nat → Nat → Int32) (x1 : Int32) (H : Heap) (locs : List Loc) (ls : Array Slot) (hf : fX5_steps SI SX nE la nW wd Q EX MI TT AW LT WI WR WL WX x1) (hG : GS D B A s.heap ((SI, SX), K, (MI, TT, AW, nE, LT, la), (nW, WI, WR, WL, WX, wd), M, O) H locs) (hl : lv_has ls 2 [(0, .ref (B 1)), (1, .int x1)]) : W p l e (headSpec wsX5_steps rX5_steps).room s m args below meth c H locs 0 0 (vx_MQ below (va_Qi post (gB D B A) A) (gQX D B A px) args s 1 6 A) (F0 m 0 ls []) := by
  obtain ⟨hx, hb, hml, hown, hts, hK, hr, hlk, hA, hN⟩ := id C
  unfold fX5_steps at hf
  refine lv_iload_n hx hb dX5_steps_0 rfl (lv_at hl 1 rfl) ?_
  refine lv_iconst (v := (0 : Int32)) hx hb dX5_steps_1 (by decide) ?_
  refine lv_bipush (v := (100 : Int32)) hx hb dX5_steps_2 (by decide) ?_
  refine gx_callSvo (As := [.int x1, .int (0 : Int32), .int (100 : Int32)]) (px0 := px) C hE hT hG (kX5_needBetween hf) (va_cwS 3 hts gX5_steps_X5_needBetween rfl rfl rfl hdsX5_needBetween ⟨Nat.le_of_ble_eq_true rfl, Nat.le_of_ble_eq_true rfl⟩) rfl hl.1 rfl (Nat.le_of_ble_eq_true rfl) dX5_steps_4 ⟨Nat.le_of_ble_eq_true rfl, Nat.le_of_ble_eq_true rfl⟩ (fun E g1 hq => ?_) (Nat.le_of_ble_eq_true rfl) (Nat.le_of_ble_eq_true rfl) (fun g1 H locs hq hG => ?_)
  · obtain ⟨rfl, hf⟩ := hq
    exact hpx E _ _ _ _ _ _ _ _ hf
  obtain ⟨rfl, hf⟩ := hq
  refine lv_aload_n hx hb dX5_steps_7 rfl (lv_at hl 0 rfl) ?_
  refine gg_R_3 C hG inX5_steps_wsX50 (hts _ (List.mem_of_getElem? (i := 1) rfl)) dX5_steps_8 ?_
  refine lv_iload_n hx hb dX5_steps_11 rfl (lv_at hl 1 rfl) ?_
  refine g_callVv0 (As := [.int x1]) C hG (kX2_run hf) (cwV 1 hts gX5_steps_X2_run rfl rfl rfl hdvX2_run ⟨Nat.le_of_ble_eq_true rfl, Nat.le_of_ble_eq_true rfl⟩) (va_recv hK hG.1 (ci := 2) (q0 := 43) rfl rfl) rfl hl.1 rfl (Nat.le_of_ble_eq_true rfl) dX5_steps_12 ⟨Nat.le_of_ble_eq_true rfl, Nat.le_of_ble_eq_true rfl⟩ (fun g1 H locs hq hG => ?_)
  obtain ⟨MI_1, TT_2, AW_3, LT_4, WI_5, WR_6, WL_7, WX_8, rfl, hf⟩ := hq
  refine lv_aload_n hx hb dX5_steps_15 rfl (lv_at hl 0 rfl) ?_
  refine gg_R_3 C hG inX5_steps_wsX50 (hts _ (List.mem_of_getElem? (i := 1) rfl)) dX5_steps_16 ?_
  refine gg_L_0 C hG inX5_steps_wsX20 (hts _ (List.mem_of_getElem? (i := 2) rfl)) dX5_steps_19 ?_
  exact gx_iret C hG (hpost _ _ _ _ _ _ _ _ _ hf) dX5_steps_22 (Nat.le_of_ble_eq_true rfl) (Nat.le_of_ble_eq_true rfl)
set_option maxRecDepth 100000 in
theorem kX5_steps {l : Launch} {D : va_G} {B : Nat → Nat} {K : sK} {M : sM} {O : sO} {SI : Nat → Int32} {SX : Nat → Nat → Int32} {nE : Nat} {la : Nat → Nat} {nW : Nat} {wd : Nat → Nat → Nat} {Q : Int32 → (Nat → Int32) → (Nat → Int64) → (Nat → Int32) → (Nat → Nat → Int32) → (Nat → Nat → Int32) → (Nat → Nat → Nat) → (Nat → Nat → Int32) → (Nat → Nat → Nat → Int32) → Prop} {EX : String → (Nat → Int32) → (Nat → Int64) → (Nat → Int32) → (Nat → Nat → Int32) → (Nat → Nat → Int32) → (Nat → Nat → Nat) → (Nat → Nat → Int32) → (Nat → Nat → Nat → Int32) → Prop} {MI : Nat → Int32} {TT : Nat → Int64} {AW : Nat → Int32} {LT : Nat → Nat → Int32} {WI : Nat → Nat → Int32} {WR : Nat → Nat → Nat} {WL : Nat → Nat → Int32} {WX : Nat → Nat → Nat → Int32} {x1 : Int32} (hf : fX5_steps SI SX nE la nW wd Q EX MI TT AW LT WI WR WL WX x1) : gXi D B l yX5_steps wsX5_steps rX5_steps 1 6 [.ref (B 1), .int x1] ((SI, SX), K, (MI, TT, AW, nE, LT, la), (nW, WI, WR, WL, WX, wd), M, O) (fun r g1 => ∃ (MI1 : Nat → Int32) (TT1 : Nat → Int64) (AW1 : Nat → Int32) (LT1 : Nat → Nat → Int32) (WI1 : Nat → Nat → Int32) (WR1 : Nat → Nat → Nat) (WL1 : Nat → Nat → Int32) (WX1 : Nat → Nat → Nat → Int32), g1 = ((SI, SX), K, (MI1, TT1, AW1, nE, LT1, la), (nW, WI1, WR1, WL1, WX1, wd), M, O) ∧ Q r MI1 TT1 AW1 LT1 WI1 WR1 WL1 WX1) (fun E g1 => ∃ (MI1 : Nat → Int32) (TT1 : Nat → Int64) (AW1 : Nat → Int32) (LT1 : Nat → Nat → Int32) (WI1 : Nat → Nat → Int32) (WR1 : Nat → Nat → Nat) (WL1 : Nat → Nat → Int32) (WX1 : Nat → Nat → Nat → Int32), g1 = ((SI, SX), K, (MI1, TT1, AW1, nE, LT1, la), (nW, WI1, WR1, WL1, WX1, wd), M, O) ∧ EX E MI1 TT1 AW1 LT1 WI1 WR1 WL1 WX1) := by
  refine gXi_of (cc := cX5_steps) (maxL := 2) (ret := some .int) (by decide +kernel) rfl (Nat.le_of_ble_eq_true rfl) ?_
  intro p e s m below meth c A hA0 C hE hT hG ls hl
  exact vX5_steps_b0 C hE hT (fun v MI TT AW LT WI WR WL WX hq => ⟨MI, TT, AW, LT, WI, WR, WL, WX, rfl, hq⟩) (fun E MI TT AW LT WI WR WL WX hq => ⟨MI, TT, AW, LT, WI, WR, WL, WX, rfl, hq⟩) MI TT AW LT WI WR WL WX x1 _ _ _ hf hG hl

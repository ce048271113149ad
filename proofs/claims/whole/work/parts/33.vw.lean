/-! the law's own calls: what the class throws is caught there -/
def gLi (D : va_G) (B : Nat → Nat) (l : Launch) (y : MethodName) (ws : List Cond) (rm : Room) (mc ms : Nat) (av : List Value) (g : sG) (post : Int32 → sG → Prop) : Prop := ∀ sz, Met l y ws rm (gPreX D B l sz av g) (va_Qi post (gB D B (gA B g sz)) (gA B g sz)) mc ms (gA B g sz)
theorem gLi_of {l : Launch} {D : va_G} {B : Nat → Nat} {y : MethodName} {ws ws' : List Cond} {rm : Room} {mc ms : Nat} {av : List Value} {g : sG} {post : Int32 → sG → Prop} {cc : ByteArray} {maxL : Nat} {ret : Option FieldType} {hh : List (Nat × Nat × Nat × Nat)} (hy : plainName y.cls = true) (hw : ws = Cond.codeWith y cc maxL ret hh :: ws') (hle : (lg_sl av).length ≤ maxL)
    (body : ∀ p e s m below meth c A, A = gA B g s.heap.size → gX p s m av.toArray meth c cc maxL ret ws y.cls D B A → gE l A s s.heap → c.exceptionTable.toList = tableOf hh → GS D B A s.heap g s.heap [] → ∀ ls, lv_has ls maxL (lv_args 0 av) → W p l e (headSpec ws rm).room s m av.toArray below meth c s.heap [] 0 0 (MQ below (va_Qi post (gB D B A) A) av.toArray s mc ms A) (F0 m 0 ls [])) : gLi D B l y ws rm mc ms av g post := by
  intro sz
  refine va_MetW (cc := cc) (maxL := maxL) (ret := ret) hy hw ?_
  intro p e s m args below meth c s₁ X hml hv
  obtain ⟨rfl, hsz, hP, ⟨hK, hN⟩, hD0, hE⟩ := hv
  subst hsz
  have hts := atoms_spec (ws := ws) X.pre
  have hown : s.vm.findClass y.cls = some m.cls := findClass_of_methodNamed X.named
  have hD := hD0.self (sz := s.heap.size)
  have hA : ∀ q : Nat, s.heap.size ≤ q → (gA B g s.heap.size) q := fun q h => Or.inr h
  have hl := lv_entry av (n := maxL) hle
  rw [lg_entry_eq]
  exact body p e s m below meth c _ rfl ⟨X.exec, X.bytes, hml, hown, hts, hK, X.returns, X.notSynchronized, hA, hN⟩ hE (vx_table (x := y) X (hts _ (by rw [hw]; exact List.mem_cons_self))) ⟨hP, hD, va_S.rf⟩ _ hl
def wsL_look9 : List Cond := .codeWith yL_look cL_look 5 (some .int) [(0, 10, 13, 26), (0, 10, 17, 62)] :: ((wsL_look_r1 ++ wsL_look_r2) ++ wsX50 ++ wsX20 ++ wsX10 ++ (vx_atS RX5 152 "java/lang/IndexOutOfBoundsException" ["java/lang/RuntimeException", "java/lang/Exception"]).filter goodWord ++ ((at13 RX5 182 "java/util/NoSuchElementException" "java/lang/RuntimeException" ["java/lang/Exception"]).filter vx_no).filter goodWord)
theorem ggL_look9_X5_look : GoodIn wsL_look9 wsX5_look9 := goodIn_ca (goodIn_ca (goodIn_r _ [7, 8, 9, 10, 11, 12, 13, 14, 15, 16, 17, 18, 19, 20, 21, 22, 23, 24, 25, 26, 27, 28, 6, 29, 30, 31, 32, 33, 34, 35, 36, 37, 38, 39, 40, 41, 42, 43, 44, 45, 46, 47, 48, 49, 50] (by decide +kernel) (by decide +kernel)) (goodIn_sub (fun _ h => List.mem_cons_of_mem _ (List.mem_append_left _ (List.mem_append_right _ h))) (by decide +kernel))) (goodIn_sub (fun _ h => List.mem_cons_of_mem _ (List.mem_append_right _ h)) (by decide +kernel))
theorem gL_look9_X5_look : GoodIn wsL_look9 (wsV RL 59 RX5 yX5_look wsX5_look9) := goodIn_app (goodIn_of _ (by decide +kernel)) ggL_look9_X5_look
def rL_plane : Room := { frames := 8, cells := 5, slots := 30, locals := 166 }
theorem hdsL_plane : yL_plane.cls ≠ "java/lang/invoke/MethodHandle" ∧ yL_plane.cls ≠ "java/lang/invoke/VarHandle" ∧ (parseMethodDescriptor yL_plane.desc).map (fun d => d.parameters.length) = some 5 := by decide +kernel
set_option maxHeartbeats 4000000 in
set_option maxRecDepth 100000 in
theorem vL_plane_b0 {p : Program} {l : Launch} {e : Env} {s : State} {m : MethodId} {args : Array Value} {below : List Frame} {meth : Method} {c : Code} {D : va_G} {B : Nat → Nat} {A : Nat → Prop} {K : sK} {Y : sY} {M : sM} {post : Int32 → sG → Prop} {MI : Nat → Int32} {TT : Nat → Int64} {AW : Nat → Int32} {nE : Nat} {LT : Nat → Nat → Int32} {la : Nat → Nat} {Q : Int32 → (Nat → Int32) → (Nat → Nat → Int32) → (Nat → Int64) → Prop} (C : gX p s m args meth c cL_plane 6 (some .int) wsL_plane RL D B A) (hE : gE l A s s.heap) (hTb : c.exceptionTable.toList = tableOf [(0, 12, 15, 13), (0, 12, 19, 15), (0, 12, 23, 17)]) (hpost : ∀ (v : Int32) (SI : Nat → Int32) (SX : Nat → Nat → Int32) (O : Nat → Int64), Q v SI SX O → post v ((SI, SX), K, (MI, TT, AW, nE, LT, la), Y, M, O))  (SI : Nat → Int32) (SX : Nat → Nat → Int32) (O : Nat → Int64) (x1 : Int32) (x2 : Int32) (x3 : Int32) (H : Heap) (locs : List Loc) (ls : Array Slot) (hf : fL_plane MI TT AW nE LT la Q SI SX O x1 x2 x3) (hG : GS D B A s.heap ((SI, SX), K, (MI, TT, AW, nE, LT, la), Y, M, O) H locs) (hl : lv_has ls 6 [(0, .ref (B 1)), (1, .int x1), (2, .int x2), (3, .int x3), (4, .ref (B 9))]) : W p l e (headSpec wsL_plane rL_plane).room s m args below meth c H locs 0 0 (MQ below (va_Qi post (gB D B A) A) args s 5 30 A) (F0 m 0 ls []) := by
  obtain ⟨hx, hb, hml, hown, hts, hK, hr, hlk, hA, hN⟩ := id C
  unfold fL_plane at hf
  refine lv_aload hx hb dL_plane_0 (lv_at hl 4 rfl) ?_
  refine lv_iconst (v := (0 : Int32)) hx hb dL_plane_2 (by decide) ?_
  refine lv_aload_n hx hb dL_plane_3 rfl (lv_at hl 0 rfl) ?_
  refine lv_iload_n hx hb dL_plane_4 rfl (lv_at hl 1 rfl) ?_
  refine lv_iload_n hx hb dL_plane_5 rfl (lv_at hl 2 rfl) ?_
  refine lv_iload_n hx hb dL_plane_6 rfl (lv_at hl 3 rfl) ?_
  refine gx_callVi (As := [.int x1, .int x2, .int x3]) C hE hG (kX5_plane hf) (cwV 3 hts gL_plane_X5_plane rfl rfl rfl hdvX5_plane ⟨Nat.le_of_ble_eq_true rfl, Nat.le_of_ble_eq_true rfl⟩) (va_recv hK hG.1 (ci := 5) (q0 := 41) rfl rfl) rfl hl.1 rfl (Nat.le_of_ble_eq_true rfl) dL_plane_7 ⟨Nat.le_of_ble_eq_true rfl, Nat.le_of_ble_eq_true rfl⟩ (fun E g1 H locs q9 ce hq hG hce hcv hcl => ?_) (fun r_3 g1 H locs hq hG => ?_)
  · obtain ⟨SI_1, SX_2, rfl, hf⟩ := hq
    rcases hf with ⟨rfl, hf⟩ | ⟨rfl, hf⟩ | ⟨rfl, hf⟩
    · refine vx_catch (E := "java/lang/IllegalStateException") (name := "java/lang/IllegalStateException") hown [] (⟨0, 12, 15, 13⟩ : ExceptionTableEntry) [(⟨0, 12, 19, 15⟩ : ExceptionTableEntry), (⟨0, 12, 23, 17⟩ : ExceptionTableEntry)] (hTb.trans rfl) (fun z hz => by cases hz) (by decide) (by decide) (hts _ (List.mem_of_getElem? (i := 1) rfl)) (va_any rfl (hE.2.1 _ (List.mem_of_getElem? (i := 3) rfl))) hce hcv hcl ?_
      refine lv_astore (lv' := [(5, .ref (q9)), (0, .ref (B 1)), (1, .int x1), (2, .int x2), (3, .int x3), (4, .ref (B 9))]) hx hb dL_plane_15 hl (by decide) rfl (fun ls hl => ?_)
      refine lv_iconst (v := (1 : Int32)) hx hb dL_plane_17 (by decide) ?_
      exact g_iret C hG (hpost _ _ _ _ hf) dL_plane_18
    · refine vx_catch (E := "java/lang/IllegalArgumentException") (name := "java/lang/IllegalArgumentException") hown [(⟨0, 12, 15, 13⟩ : ExceptionTableEntry)] (⟨0, 12, 19, 15⟩ : ExceptionTableEntry) [(⟨0, 12, 23, 17⟩ : ExceptionTableEntry)] (hTb.trans rfl) (fun z hz => by
        simp only [List.mem_cons, List.not_mem_nil, or_false] at hz
        rcases hz with rfl
        · exact Or.inr ⟨by decide, "java/lang/IllegalStateException", hts _ (List.mem_of_getElem? (i := 1) rfl), hE.2.2.2.1 _ (List.mem_of_getElem? (i := 4) rfl)⟩) (by decide) (by decide) (hts _ (List.mem_of_getElem? (i := 2) rfl)) (va_any rfl (hE.2.1 _ (List.mem_of_getElem? (i := 4) rfl))) hce hcv hcl ?_
      refine lv_astore (lv' := [(5, .ref (q9)), (0, .ref (B 1)), (1, .int x1), (2, .int x2), (3, .int x3), (4, .ref (B 9))]) hx hb dL_plane_19 hl (by decide) rfl (fun ls hl => ?_)
      refine lv_iconst (v := (2 : Int32)) hx hb dL_plane_21 (by decide) ?_
      exact g_iret C hG (hpost _ _ _ _ hf) dL_plane_22
    · refine vx_catch (E := "java/lang/UnsupportedOperationException") (name := "java/lang/UnsupportedOperationException") hown [(⟨0, 12, 15, 13⟩ : ExceptionTableEntry), (⟨0, 12, 19, 15⟩ : ExceptionTableEntry)] (⟨0, 12, 23, 17⟩ : ExceptionTableEntry) [] (hTb.trans rfl) (fun z hz => by
        simp only [List.mem_cons, List.not_mem_nil, or_false] at hz
        rcases hz with rfl | rfl
        · exact Or.inr ⟨by decide, "java/lang/IllegalStateException", hts _ (List.mem_of_getElem? (i := 1) rfl), hE.2.2.2.1 _ (List.mem_of_getElem? (i := 8) rfl)⟩
        · exact Or.inr ⟨by decide, "java/lang/IllegalArgumentException", hts _ (List.mem_of_getElem? (i := 2) rfl), hE.2.2.2.1 _ (List.mem_of_getElem? (i := 9) rfl)⟩) (by decide) (by decide) (hts _ (List.mem_of_getElem? (i := 3) rfl)) (va_any rfl (hE.2.1 _ (List.mem_of_getElem? (i := 5) rfl))) hce hcv hcl ?_
      refine lv_astore (lv' := [(5, .ref (q9)), (0, .ref (B 1)), (1, .int x1), (2, .int x2), (3, .int x3), (4, .ref (B 9))]) hx hb dL_plane_23 hl (by decide) rfl (fun ls hl => ?_)
      refine lv_iconst (v := (3 : Int32)) hx hb dL_plane_25 (by decide) ?_
      exact g_iret C hG (hpost _ _ _ _ hf) dL_plane_26
  · obtain ⟨SI_1, SX_2, rfl, hf⟩ := hq
    refine lv_i2l hx hb dL_plane_10 rfl ?_
    obtain ⟨h_4, hf⟩ := hf
    refine gs_O C hG h_4 dL_plane_11 (fun O_5 H locs eO_5 hG => ?_)
    replace hf := hf O_5 eO_5
    refine lv_goto (tgt := 27) hx hb dL_plane_12 (by decide) ?_
    refine lv_iconst (v := (0 : Int32)) hx hb dL_plane_27 (by decide) ?_
    exact g_iret C hG (hpost _ _ _ _ hf) dL_plane_28
set_option maxRecDepth 100000 in
theorem kL_plane {l : Launch} {D : va_G} {B : Nat → Nat} {K : sK} {Y : sY} {M : sM} {MI : Nat → Int32} {TT : Nat → Int64} {AW : Nat → Int32} {nE : Nat} {LT : Nat → Nat → Int32} {la : Nat → Nat} {Q : Int32 → (Nat → Int32) → (Nat → Nat → Int32) → (Nat → Int64) → Prop} {SI : Nat → Int32} {SX : Nat → Nat → Int32} {O : Nat → Int64} {x1 : Int32} {x2 : Int32} {x3 : Int32} (hf : fL_plane MI TT AW nE LT la Q SI SX O x1 x2 x3) : gLi D B l yL_plane wsL_plane rL_plane 5 30 [.ref (B 1), .int x1, .int x2, .int x3, .ref (B 9)] ((SI, SX), K, (MI, TT, AW, nE, LT, la), Y, M, O) (fun r g1 => ∃ (SI1 : Nat → Int32) (SX1 : Nat → Nat → Int32) (O1 : Nat → Int64), g1 = ((SI1, SX1), K, (MI, TT, AW, nE, LT, la), Y, M, O1) ∧ Q r SI1 SX1 O1) := by
  refine gLi_of (cc := cL_plane) (maxL := 6) (ret := some .int) (by decide +kernel) rfl (Nat.le_of_ble_eq_true rfl) ?_
  intro p e s m below meth c A hA0 C hE hTb hG ls hl
  exact vL_plane_b0 C hE hTb (fun v SI SX O hq => ⟨SI, SX, O, rfl, hq⟩) SI SX O x1 x2 x3 _ _ _ hf hG hl
def rL_post : Room := { frames := 8, cells := 9, slots := 1991, locals := 144 }
theorem hdsL_post : yL_post.cls ≠ "java/lang/invoke/MethodHandle" ∧ yL_post.cls ≠ "java/lang/invoke/VarHandle" ∧ (parseMethodDescriptor yL_post.desc).map (fun d => d.parameters.length) = some 5 := by decide +kernel
set_option maxHeartbeats 4000000 in
set_option maxRecDepth 100000 in
theorem vL_post_b0 {p : Program} {l : Launch} {e : Env} {s : State} {m : MethodId} {args : Array Value} {below : List Frame} {meth : Method} {c : Code} {D : va_G} {B : Nat → Nat} {A : Nat → Prop} {K : sK} {M : sM} {post : Int32 → sG → Prop} {MI : Nat → Int32} {TT : Nat → Int64} {AW : Nat → Int32} {nE : Nat} {LT : Nat → Nat → Int32} {la : Nat → Nat} {Q : Int32 → (Nat → Int32) → (Nat → Nat → Int32) → (Nat) → (Nat → Nat → Int32) → (Nat → Nat → Nat) → (Nat → Nat → Int32) → (Nat → Nat → Nat → Int32) → (Nat → Nat → Nat) → (Nat → Int64) → Prop} (C : gX p s m args meth c cL_post 6 (some .int) wsL_post RL D B A) (hE : gE l A s s.heap) (hTb : c.exceptionTable.toList = tableOf [(0, 12, 15, 13), (0, 12, 19, 15), (0, 12, 23, 17)]) (hpost : ∀ (v : Int32) (SI : Nat → Int32) (SX : Nat → Nat → Int32) (nW : Nat) (WI : Nat → Nat → Int32) (WR : Nat → Nat → Nat) (WL : Nat → Nat → Int32) (WX : Nat → Nat → Nat → Int32) (wd : Nat → Nat → Nat) (O : Nat → Int64), Q v SI SX nW WI WR WL WX wd O → post v ((SI, SX), K, (MI, TT, AW, nE, LT, la), (nW, WI, WR, WL, WX, wd), M, O))  (SI : Nat → Int32) (SX : Nat → Nat → Int32) (nW : Nat) (WI : Nat → Nat → Int32) (WR : Nat → Nat → Nat) (WL : Nat → Nat → Int32) (WX : Nat → Nat → Nat → Int32) (wd : Nat → Nat → Nat) (O : Nat → Int64) (x1 : Int32) (x2 : Int32) (x3 : Int32) (H : Heap) (locs : List Loc) (ls : Array Slot) (hf : fL_post MI TT AW nE LT la Q SI SX nW WI WR WL WX wd O x1 x2 x3) (hG : GS D B A s.heap ((SI, SX), K, (MI, TT, AW, nE, LT, la), (nW, WI, WR, WL, WX, wd), M, O) H locs) (hl : lv_has ls 6 [(0, .ref (B 1)), (1, .int x1), (2, .int x2), (3, .int x3), (4, .ref (B 9))]) : W p l e (headSpec wsL_post rL_post).room s m args below meth c H locs 0 0 (MQ below (va_Qi post (gB D B A) A) args s 9 1991 A) (F0 m 0 ls []) := by
  obtain ⟨hx, hb, hml, hown, hts, hK, hr, hlk, hA, hN⟩ := id C
  unfold fL_post at hf
  refine lv_aload hx hb dL_post_0 (lv_at hl 4 rfl) ?_
  refine lv_iconst (v := (0 : Int32)) hx hb dL_post_2 (by decide) ?_
  refine lv_aload_n hx hb dL_post_3 rfl (lv_at hl 0 rfl) ?_
  refine lv_iload_n hx hb dL_post_4 rfl (lv_at hl 1 rfl) ?_
  refine lv_iload_n hx hb dL_post_5 rfl (lv_at hl 2 rfl) ?_
  refine lv_iload_n hx hb dL_post_6 rfl (lv_at hl 3 rfl) ?_
  refine gx_callVi (As := [.int x1, .int x2, .int x3]) C hE hG (kX5_post hf) (cwV 3 hts gL_post_X5_post rfl rfl rfl hdvX5_post ⟨Nat.le_of_ble_eq_true rfl, Nat.le_of_ble_eq_true rfl⟩) (va_recv hK hG.1 (ci := 5) (q0 := 41) rfl rfl) rfl hl.1 rfl (Nat.le_of_ble_eq_true rfl) dL_post_7 ⟨Nat.le_of_ble_eq_true rfl, Nat.le_of_ble_eq_true rfl⟩ (fun E g1 H locs q9 ce hq hG hce hcv hcl => ?_) (fun r_9 g1 H locs hq hG => ?_)
  · obtain ⟨SI_1, SX_2, nW_3, WI_4, WR_5, WL_6, WX_7, wd_8, rfl, hf⟩ := hq
    rcases hf with ⟨rfl, hf⟩ | ⟨rfl, hf⟩ | ⟨rfl, hf⟩
    · refine vx_catch (E := "java/lang/IllegalStateException") (name := "java/lang/IllegalStateException") hown [] (⟨0, 12, 15, 13⟩ : ExceptionTableEntry) [(⟨0, 12, 19, 15⟩ : ExceptionTableEntry), (⟨0, 12, 23, 17⟩ : ExceptionTableEntry)] (hTb.trans rfl) (fun z hz => by cases hz) (by decide) (by decide) (hts _ (List.mem_of_getElem? (i := 1) rfl)) (va_any rfl (hE.2.1 _ (List.mem_of_getElem? (i := 3) rfl))) hce hcv hcl ?_
      refine lv_astore (lv' := [(5, .ref (q9)), (0, .ref (B 1)), (1, .int x1), (2, .int x2), (3, .int x3), (4, .ref (B 9))]) hx hb dL_post_15 hl (by decide) rfl (fun ls hl => ?_)
      refine lv_iconst (v := (1 : Int32)) hx hb dL_post_17 (by decide) ?_
      exact g_iret C hG (hpost _ _ _ _ _ _ _ _ _ _ hf) dL_post_18
    · refine vx_catch (E := "java/lang/IllegalArgumentException") (name := "java/lang/IllegalArgumentException") hown [(⟨0, 12, 15, 13⟩ : ExceptionTableEntry)] (⟨0, 12, 19, 15⟩ : ExceptionTableEntry) [(⟨0, 12, 23, 17⟩ : ExceptionTableEntry)] (hTb.trans rfl) (fun z hz => by
        simp only [List.mem_cons, List.not_mem_nil, or_false] at hz
        rcases hz with rfl
        · exact Or.inr ⟨by decide, "java/lang/IllegalStateException", hts _ (List.mem_of_getElem? (i := 1) rfl), hE.2.2.2.1 _ (List.mem_of_getElem? (i := 4) rfl)⟩) (by decide) (by decide) (hts _ (List.mem_of_getElem? (i := 2) rfl)) (va_any rfl (hE.2.1 _ (List.mem_of_getElem? (i := 4) rfl))) hce hcv hcl ?_
      refine lv_astore (lv' := [(5, .ref (q9)), (0, .ref (B 1)), (1, .int x1), (2, .int x2), (3, .int x3), (4, .ref (B 9))]) hx hb dL_post_19 hl (by decide) rfl (fun ls hl => ?_)
      refine lv_iconst (v := (2 : Int32)) hx hb dL_post_21 (by decide) ?_
      exact g_iret C hG (hpost _ _ _ _ _ _ _ _ _ _ hf) dL_post_22
    · refine vx_catch (E := "java/lang/UnsupportedOperationException") (name := "java/lang/UnsupportedOperationException") hown [(⟨0, 12, 15, 13⟩ : ExceptionTableEntry), (⟨0, 12, 19, 15⟩ : ExceptionTableEntry)] (⟨0, 12, 23, 17⟩ : ExceptionTableEntry) [] (hTb.trans rfl) (fun z hz => by
        simp only [List.mem_cons, List.not_mem_nil, or_false] at hz
        rcases hz with rfl | rfl
        · exact Or.inr ⟨by decide, "java/lang/IllegalStateException", hts _ (List.mem_of_getElem? (i := 1) rfl), hE.2.2.2.1 _ (List.mem_of_getElem? (i := 8) rfl)⟩
        · exact Or.inr ⟨by decide, "java/lang/IllegalArgumentException", hts _ (List.mem_of_getElem? (i := 2) rfl), hE.2.2.2.1 _ (List.mem_of_getElem? (i := 9) rfl)⟩) (by decide) (by decide) (hts _ (List.mem_of_getElem? (i := 3) rfl)) (va_any rfl (hE.2.1 _ (List.mem_of_getElem? (i := 5) rfl))) hce hcv hcl ?_
      refine lv_astore (lv' := [(5, .ref (q9)), (0, .ref (B 1)), (1, .int x1), (2, .int x2), (3, .int x3), (4, .ref (B 9))]) hx hb dL_post_23 hl (by decide) rfl (fun ls hl => ?_)
      refine lv_iconst (v := (3 : Int32)) hx hb dL_post_25 (by decide) ?_
      exact g_iret C hG (hpost _ _ _ _ _ _ _ _ _ _ hf) dL_post_26
  · obtain ⟨SI_1, SX_2, nW_3, WI_4, WR_5, WL_6, WX_7, wd_8, rfl, hf⟩ := hq
    refine lv_i2l hx hb dL_post_10 rfl ?_
    obtain ⟨h_10, hf⟩ := hf
    refine gs_O C hG h_10 dL_post_11 (fun O_11 H locs eO_11 hG => ?_)
    replace hf := hf O_11 eO_11
    refine lv_goto (tgt := 27) hx hb dL_post_12 (by decide) ?_
    refine lv_iconst (v := (0 : Int32)) hx hb dL_post_27 (by decide) ?_
    exact g_iret C hG (hpost _ _ _ _ _ _ _ _ _ _ hf) dL_post_28
set_option maxRecDepth 100000 in
theorem kL_post {l : Launch} {D : va_G} {B : Nat → Nat} {K : sK} {M : sM} {MI : Nat → Int32} {TT : Nat → Int64} {AW : Nat → Int32} {nE : Nat} {LT : Nat → Nat → Int32} {la : Nat → Nat} {Q : Int32 → (Nat → Int32) → (Nat → Nat → Int32) → (Nat) → (Nat → Nat → Int32) → (Nat → Nat → Nat) → (Nat → Nat → Int32) → (Nat → Nat → Nat → Int32) → (Nat → Nat → Nat) → (Nat → Int64) → Prop} {SI : Nat → Int32} {SX : Nat → Nat → Int32} {nW : Nat} {WI : Nat → Nat → Int32} {WR : Nat → Nat → Nat} {WL : Nat → Nat → Int32} {WX : Nat → Nat → Nat → Int32} {wd : Nat → Nat → Nat} {O : Nat → Int64} {x1 : Int32} {x2 : Int32} {x3 : Int32} (hf : fL_post MI TT AW nE LT la Q SI SX nW WI WR WL WX wd O x1 x2 x3) : gLi D B l yL_post wsL_post rL_post 9 1991 [.ref (B 1), .int x1, .int x2, .int x3, .ref (B 9)] ((SI, SX), K, (MI, TT, AW, nE, LT, la), (nW, WI, WR, WL, WX, wd), M, O) (fun r g1 => ∃ (SI1 : Nat → Int32) (SX1 : Nat → Nat → Int32) (nW1 : Nat) (WI1 : Nat → Nat → Int32) (WR1 : Nat → Nat → Nat) (WL1 : Nat → Nat → Int32) (WX1 : Nat → Nat → Nat → Int32) (wd1 : Nat → Nat → Nat) (O1 : Nat → Int64), g1 = ((SI1, SX1), K, (MI, TT, AW, nE, LT, la), (nW1, WI1, WR1, WL1, WX1, wd1), M, O1) ∧ Q r SI1 SX1 nW1 WI1 WR1 WL1 WX1 wd1 O1) := by
  refine gLi_of (cc := cL_post) (maxL := 6) (ret := some .int) (by decide +kernel) rfl (Nat.le_of_ble_eq_true rfl) ?_
  intro p e s m below meth c A hA0 C hE hTb hG ls hl
  exact vL_post_b0 C hE hTb (fun v SI SX nW WI WR WL WX wd O hq => ⟨SI, SX, nW, WI, WR, WL, WX, wd, O, rfl, hq⟩) SI SX nW WI WR WL WX wd O x1 x2 x3 _ _ _ hf hG hl
def rL_over : Room := { frames := 9, cells := 2, slots := 12, locals := 154 }
theorem hdsL_over : yL_over.cls ≠ "java/lang/invoke/MethodHandle" ∧ yL_over.cls ≠ "java/lang/invoke/VarHandle" ∧ (parseMethodDescriptor yL_over.desc).map (fun d => d.parameters.length) = some 4 := by decide +kernel
set_option maxHeartbeats 4000000 in
set_option maxRecDepth 100000 in
theorem vL_over_b0 {p : Program} {l : Launch} {e : Env} {s : State} {m : MethodId} {args : Array Value} {below : List Frame} {meth : Method} {c : Code} {D : va_G} {B : Nat → Nat} {A : Nat → Prop} {K : sK} {L : sL} {Y : sY} {M : sM} {post : Int32 → sG → Prop} {SI : Nat → Int32} {SX : Nat → Nat → Int32} {Q : Int32 → (Nat → Int64) → Prop} (C : gX p s m args meth c cL_over 5 (some .int) wsL_over RL D B A) (hE : gE l A s s.heap) (hTb : c.exceptionTable.toList = tableOf [(0, 10, 13, 26), (0, 10, 17, 15)]) (hpost : ∀ (v : Int32) (O : Nat → Int64), Q v O → post v ((SI, SX), K, L, Y, M, O))  (O : Nat → Int64) (x1 : Int32) (x2 : Int32) (H : Heap) (locs : List Loc) (ls : Array Slot) (hf : fL_over SI SX Q O x1 x2) (hG : GS D B A s.heap ((SI, SX), K, L, Y, M, O) H locs) (hl : lv_has ls 5 [(0, .ref (B 1)), (1, .int x1), (2, .int x2), (3, .ref (B 9))]) : W p l e (headSpec wsL_over rL_over).room s m args below meth c H locs 0 0 (MQ below (va_Qi post (gB D B A) A) args s 2 12 A) (F0 m 0 ls []) := by
  obtain ⟨hx, hb, hml, hown, hts, hK, hr, hlk, hA, hN⟩ := id C
  unfold fL_over at hf
  refine lv_aload_n hx hb dL_over_0 rfl (lv_at hl 3 rfl) ?_
  refine lv_iconst (v := (0 : Int32)) hx hb dL_over_1 (by decide) ?_
  refine lv_aload_n hx hb dL_over_2 rfl (lv_at hl 0 rfl) ?_
  refine lv_iload_n hx hb dL_over_3 rfl (lv_at hl 1 rfl) ?_
  refine lv_iload_n hx hb dL_over_4 rfl (lv_at hl 2 rfl) ?_
  refine gx_callVi (As := [.int x1, .int x2]) C hE hG (kX5_over hf) (cwV 2 hts gL_over_X5_over rfl rfl rfl hdvX5_over ⟨Nat.le_of_ble_eq_true rfl, Nat.le_of_ble_eq_true rfl⟩) (va_recv hK hG.1 (ci := 5) (q0 := 41) rfl rfl) rfl hl.1 rfl (Nat.le_of_ble_eq_true rfl) dL_over_5 ⟨Nat.le_of_ble_eq_true rfl, Nat.le_of_ble_eq_true rfl⟩ (fun E g1 H locs q9 ce hq hG hce hcv hcl => ?_) (fun r_1 g1 H locs hq hG => ?_)
  · obtain ⟨rfl, hf⟩ := hq
    rcases hf with ⟨rfl, hf⟩ | ⟨rfl, hf⟩
    · refine vx_catch (E := "java/lang/IndexOutOfBoundsException") (name := "java/lang/IndexOutOfBoundsException") hown [] (⟨0, 10, 13, 26⟩ : ExceptionTableEntry) [(⟨0, 10, 17, 15⟩ : ExceptionTableEntry)] (hTb.trans rfl) (fun z hz => by cases hz) (by decide) (by decide) (hts _ (List.mem_of_getElem? (i := 1) rfl)) (va_any rfl (hE.2.1 _ (List.mem_of_getElem? (i := 6) rfl))) hce hcv hcl ?_
      refine lv_astore (lv' := [(4, .ref (q9)), (0, .ref (B 1)), (1, .int x1), (2, .int x2), (3, .ref (B 9))]) hx hb dL_over_13 hl (by decide) rfl (fun ls hl => ?_)
      refine lv_iconst (v := (1 : Int32)) hx hb dL_over_15 (by decide) ?_
      exact g_iret C hG (hpost _ _ hf) dL_over_16
    · refine vx_catch (E := "java/lang/IllegalArgumentException") (name := "java/lang/IllegalArgumentException") hown [(⟨0, 10, 13, 26⟩ : ExceptionTableEntry)] (⟨0, 10, 17, 15⟩ : ExceptionTableEntry) [] (hTb.trans rfl) (fun z hz => by
        simp only [List.mem_cons, List.not_mem_nil, or_false] at hz
        rcases hz with rfl
        · exact Or.inr ⟨by decide, "java/lang/IndexOutOfBoundsException", hts _ (List.mem_of_getElem? (i := 1) rfl), hE.2.2.2.1 _ (List.mem_of_getElem? (i := 6) rfl)⟩) (by decide) (by decide) (hts _ (List.mem_of_getElem? (i := 2) rfl)) (va_any rfl (hE.2.1 _ (List.mem_of_getElem? (i := 4) rfl))) hce hcv hcl ?_
      refine lv_astore (lv' := [(4, .ref (q9)), (0, .ref (B 1)), (1, .int x1), (2, .int x2), (3, .ref (B 9))]) hx hb dL_over_17 hl (by decide) rfl (fun ls hl => ?_)
      refine lv_iconst (v := (2 : Int32)) hx hb dL_over_19 (by decide) ?_
      exact g_iret C hG (hpost _ _ hf) dL_over_20
  · obtain ⟨rfl, hf⟩ := hq
    refine lv_i2l hx hb dL_over_8 rfl ?_
    obtain ⟨h_2, hf⟩ := hf
    refine gs_O C hG h_2 dL_over_9 (fun O_3 H locs eO_3 hG => ?_)
    replace hf := hf O_3 eO_3
    refine lv_goto (tgt := 21) hx hb dL_over_10 (by decide) ?_
    refine lv_iconst (v := (0 : Int32)) hx hb dL_over_21 (by decide) ?_
    exact g_iret C hG (hpost _ _ hf) dL_over_22
set_option maxRecDepth 100000 in
theorem kL_over {l : Launch} {D : va_G} {B : Nat → Nat} {K : sK} {L : sL} {Y : sY} {M : sM} {SI : Nat → Int32} {SX : Nat → Nat → Int32} {Q : Int32 → (Nat → Int64) → Prop} {O : Nat → Int64} {x1 : Int32} {x2 : Int32} (hf : fL_over SI SX Q O x1 x2) : gLi D B l yL_over wsL_over rL_over 2 12 [.ref (B 1), .int x1, .int x2, .ref (B 9)] ((SI, SX), K, L, Y, M, O) (fun r g1 => ∃ (O1 : Nat → Int64), g1 = ((SI, SX), K, L, Y, M, O1) ∧ Q r O1) := by
  refine gLi_of (cc := cL_over) (maxL := 5) (ret := some .int) (by decide +kernel) rfl (Nat.le_of_ble_eq_true rfl) ?_
  intro p e s m below meth c A hA0 C hE hTb hG ls hl
  exact vL_over_b0 C hE hTb (fun v O hq => ⟨O, rfl, hq⟩) O x1 x2 _ _ _ hf hG hl
def rL_dead : Room := { frames := 8, cells := 1, slots := 6, locals := 134 }
theorem hdsL_dead : yL_dead.cls ≠ "java/lang/invoke/MethodHandle" ∧ yL_dead.cls ≠ "java/lang/invoke/VarHandle" ∧ (parseMethodDescriptor yL_dead.desc).map (fun d => d.parameters.length) = some 4 := by decide +kernel
set_option maxHeartbeats 4000000 in
set_option maxRecDepth 100000 in
theorem vL_dead_b16 {p : Program} {l : Launch} {e : Env} {s : State} {m : MethodId} {args : Array Value} {below : List Frame} {meth : Method} {c : Code} {D : va_G} {B : Nat → Nat} {A : Nat → Prop} {K : sK} {Y : sY} {M : sM} {post : Int32 → sG → Prop} {nE : Nat} {la : Nat → Nat} {Q : Int32 → (Nat → Int32) → (Nat → Nat → Int32) → (Nat → Int32) → (Nat → Int64) → (Nat → Int32) → (Nat → Nat → Int32) → (Nat → Int64) → Prop} (C : gX p s m args meth c cL_dead 5 (some .int) wsL_dead RL D B A) (hE : gE l A s s.heap) (hTb : c.exceptionTable.toList = tableOf [(0, 17, 20, 26)]) (hpost : ∀ (v : Int32) (SI : Nat → Int32) (SX : Nat → Nat → Int32) (MI : Nat → Int32) (TT : Nat → Int64) (AW : Nat → Int32) (LT : Nat → Nat → Int32) (O : Nat → Int64), Q v SI SX MI TT AW LT O → post v ((SI, SX), K, (MI, TT, AW, nE, LT, la), Y, M, O))  (SI : Nat → Int32) (SX : Nat → Nat → Int32) (MI : Nat → Int32) (TT : Nat → Int64) (AW : Nat → Int32) (LT : Nat → Nat → Int32) (O : Nat → Int64) (t0 : Int64) (t1 : Int32) (H : Heap) (locs : List Loc) (ls : Array Slot) (hf : fL_dead_b16 nE la Q SI SX MI TT AW LT O t0 t1) (hG : GS D B A s.heap ((SI, SX), K, (MI, TT, AW, nE, LT, la), Y, M, O) H locs) (hl : lv_has ls 5 []) : W p l e (headSpec wsL_dead rL_dead).room s m args below meth c H locs 1 6 (MQ below (va_Qi post (gB D B A) A) args s 1 6 A) (F0 m 16 ls [.long t0, .int t1, .ref (B 9)]) := by
  obtain ⟨hx, hb, hml, hown, hts, hK, hr, hlk, hA, hN⟩ := id C
  unfold fL_dead_b16 at hf
  obtain ⟨h_9, hf⟩ := hf
  refine gs_O C hG h_9 dL_dead_16 (fun O_10 H locs eO_10 hG => ?_)
  replace hf := hf O_10 eO_10
  refine lv_goto (tgt := 24) hx hb dL_dead_17 (by decide) ?_
  refine lv_iconst (v := (0 : Int32)) hx hb dL_dead_24 (by decide) ?_
  exact g_iret C hG (hpost _ _ _ _ _ _ _ _ hf) dL_dead_25
set_option maxHeartbeats 4000000 in
set_option maxRecDepth 100000 in
theorem vL_dead_b0 {p : Program} {l : Launch} {e : Env} {s : State} {m : MethodId} {args : Array Value} {below : List Frame} {meth : Method} {c : Code} {D : va_G} {B : Nat → Nat} {A : Nat → Prop} {K : sK} {Y : sY} {M : sM} {post : Int32 → sG → Prop} {nE : Nat} {la : Nat → Nat} {Q : Int32 → (Nat → Int32) → (Nat → Nat → Int32) → (Nat → Int32) → (Nat → Int64) → (Nat → Int32) → (Nat → Nat → Int32) → (Nat → Int64) → Prop} (C : gX p s m args meth c cL_dead 5 (some .int) wsL_dead RL D B A) (hE : gE l A s s.heap) (hTb : c.exceptionTable.toList = tableOf [(0, 17, 20, 26)]) (hpost : ∀ (v : Int32) (SI : Nat → Int32) (SX : Nat → Nat → Int32) (MI : Nat → Int32) (TT : Nat → Int64) (AW : Nat → Int32) (LT : Nat → Nat → Int32) (O : Nat → Int64), Q v SI SX MI TT AW LT O → post v ((SI, SX), K, (MI, TT, AW, nE, LT, la), Y, M, O))  (SI : Nat → Int32) (SX : Nat → Nat → Int32) (MI : Nat → Int32) (TT : Nat → Int64) (AW : Nat → Int32) (LT : Nat → Nat → Int32) (O : Nat → Int64) (x1 : Int32) (x2 : Int32) (H : Heap) (locs : List Loc) (ls : Array Slot) (hf : fL_dead nE la Q SI SX MI TT AW LT O x1 x2) (hG : GS D B A s.heap ((SI, SX), K, (MI, TT, AW, nE, LT, la), Y, M, O) H locs) (hl : lv_has ls 5 [(0, .ref (B 1)), (1, .int x1), (2, .int x2), (3, .ref (B 9))]) : W p l e (headSpec wsL_dead rL_dead).room s m args below meth c H locs 0 0 (MQ below (va_Qi post (gB D B A) A) args s 1 6 A) (F0 m 0 ls []) := by
  obtain ⟨hx, hb, hml, hown, hts, hK, hr, hlk, hA, hN⟩ := id C
  unfold fL_dead at hf
  refine lv_aload_n hx hb dL_dead_0 rfl (lv_at hl 3 rfl) ?_
  refine lv_iconst (v := (0 : Int32)) hx hb dL_dead_1 (by decide) ?_
  refine lv_aload_n hx hb dL_dead_2 rfl (lv_at hl 0 rfl) ?_
  refine lv_iload_n hx hb dL_dead_3 rfl (lv_at hl 1 rfl) ?_
  refine lv_iload_n hx hb dL_dead_4 rfl (lv_at hl 2 rfl) ?_
  refine gx_callVi (As := [.int x1, .int x2]) C hE hG (kX5_dead hf) (cwV 2 hts gL_dead_X5_dead rfl rfl rfl hdvX5_dead ⟨Nat.le_of_ble_eq_true rfl, Nat.le_of_ble_eq_true rfl⟩) (va_recv hK hG.1 (ci := 5) (q0 := 41) rfl rfl) rfl hl.1 rfl (Nat.le_of_ble_eq_true rfl) dL_dead_5 ⟨Nat.le_of_ble_eq_true rfl, Nat.le_of_ble_eq_true rfl⟩ (fun E g1 H locs q9 ce hq hG hce hcv hcl => ?_) (fun r_7 g1 H locs hq hG => ?_)
  · obtain ⟨SI_1, SX_2, MI_3, TT_4, AW_5, LT_6, rfl, hf⟩ := hq
    rcases hf with ⟨rfl, hf⟩
    · refine vx_catch (E := "java/lang/IndexOutOfBoundsException") (name := "java/lang/IndexOutOfBoundsException") hown [] (⟨0, 17, 20, 26⟩ : ExceptionTableEntry) [] (hTb.trans rfl) (fun z hz => by cases hz) (by decide) (by decide) (hts _ (List.mem_of_getElem? (i := 1) rfl)) (va_any rfl (hE.2.1 _ (List.mem_of_getElem? (i := 6) rfl))) hce hcv hcl ?_
      refine lv_astore (lv' := [(4, .ref (q9)), (0, .ref (B 1)), (1, .int x1), (2, .int x2), (3, .ref (B 9))]) hx hb dL_dead_20 hl (by decide) rfl (fun ls hl => ?_)
      refine lv_iconst (v := (1 : Int32)) hx hb dL_dead_22 (by decide) ?_
      exact g_iret C hG (hpost _ _ _ _ _ _ _ _ hf) dL_dead_23
  · obtain ⟨SI_1, SX_2, MI_3, TT_4, AW_5, LT_6, rfl, hf⟩ := hq
    refine lv_if_eq (tgt := 15) hx hb dL_dead_8 (by decide) (fun c_8 => ?_) (fun c_8 => ?_)
    · replace hf := hf.1 c_8
      refine lv_lconst (v := (0 : Int64)) hx hb dL_dead_15 (by decide) ?_
      exact vL_dead_b16 C hE hTb hpost  SI_1 SX_2 MI_3 TT_4 AW_5 LT_6 O (0 : Int64) (0 : Int32) _ _ _ hf hG (lv_sub hl [] rfl)
    · replace hf := hf.2 c_8
      refine lv_lconst (v := (1 : Int64)) hx hb dL_dead_11 (by decide) ?_
      refine lv_goto (tgt := 16) hx hb dL_dead_12 (by decide) ?_
      exact vL_dead_b16 C hE hTb hpost  SI_1 SX_2 MI_3 TT_4 AW_5 LT_6 O (1 : Int64) (0 : Int32) _ _ _ hf hG (lv_sub hl [] rfl)
set_option maxRecDepth 100000 in
theorem kL_dead {l : Launch} {D : va_G} {B : Nat → Nat} {K : sK} {Y : sY} {M : sM} {nE : Nat} {la : Nat → Nat} {Q : Int32 → (Nat → Int32) → (Nat → Nat → Int32) → (Nat → Int32) → (Nat → Int64) → (Nat → Int32) → (Nat → Nat → Int32) → (Nat → Int64) → Prop} {SI : Nat → Int32} {SX : Nat → Nat → Int32} {MI : Nat → Int32} {TT : Nat → Int64} {AW : Nat → Int32} {LT : Nat → Nat → Int32} {O : Nat → Int64} {x1 : Int32} {x2 : Int32} (hf : fL_dead nE la Q SI SX MI TT AW LT O x1 x2) : gLi D B l yL_dead wsL_dead rL_dead 1 6 [.ref (B 1), .int x1, .int x2, .ref (B 9)] ((SI, SX), K, (MI, TT, AW, nE, LT, la), Y, M, O) (fun r g1 => ∃ (SI1 : Nat → Int32) (SX1 : Nat → Nat → Int32) (MI1 : Nat → Int32) (TT1 : Nat → Int64) (AW1 : Nat → Int32) (LT1 : Nat → Nat → Int32) (O1 : Nat → Int64), g1 = ((SI1, SX1), K, (MI1, TT1, AW1, nE, LT1, la), Y, M, O1) ∧ Q r SI1 SX1 MI1 TT1 AW1 LT1 O1) := by
  refine gLi_of (cc := cL_dead) (maxL := 5) (ret := some .int) (by decide +kernel) rfl (Nat.le_of_ble_eq_true rfl) ?_
  intro p e s m below meth c A hA0 C hE hTb hG ls hl
  exact vL_dead_b0 C hE hTb (fun v SI SX MI TT AW LT O hq => ⟨SI, SX, MI, TT, AW, LT, O, rfl, hq⟩) SI SX MI TT AW LT O x1 x2 _ _ _ hf hG hl
def rL_link : Room := { frames := 9, cells := 3, slots := 18, locals := 155 }
theorem hdsL_link : yL_link.cls ≠ "java/lang/invoke/MethodHandle" ∧ yL_link.cls ≠ "java/lang/invoke/VarHandle" ∧ (parseMethodDescriptor yL_link.desc).map (fun d => d.parameters.length) = some 5 := by decide +kernel
set_option maxHeartbeats 4000000 in
set_option maxRecDepth 100000 in
theorem vL_link_b0 {p : Program} {l : Launch} {e : Env} {s : State} {m : MethodId} {args : Array Value} {below : List Frame} {meth : Method} {c : Code} {D : va_G} {B : Nat → Nat} {A : Nat → Prop} {K : sK} {L : sL} {Y : sY} {M : sM} {post : Int32 → sG → Prop} {SI : Nat → Int32} {SX : Nat → Nat → Int32} {Q : Int32 → (Nat → Int64) → Prop} (C : gX p s m args meth c cL_link 6 (some .int) wsL_link RL D B A) (hE : gE l A s s.heap) (hTb : c.exceptionTable.toList = tableOf [(0, 12, 15, 26), (0, 12, 19, 15)]) (hpost : ∀ (v : Int32) (O : Nat → Int64), Q v O → post v ((SI, SX), K, L, Y, M, O))  (O : Nat → Int64) (x1 : Int32) (x2 : Int32) (x3 : Int32) (H : Heap) (locs : List Loc) (ls : Array Slot) (hf : fL_link SI SX Q O x1 x2 x3) (hG : GS D B A s.heap ((SI, SX), K, L, Y, M, O) H locs) (hl : lv_has ls 6 [(0, .ref (B 1)), (1, .int x1), (2, .int x2), (3, .int x3), (4, .ref (B 9))]) : W p l e (headSpec wsL_link rL_link).room s m args below meth c H locs 0 0 (MQ below (va_Qi post (gB D B A) A) args s 3 18 A) (F0 m 0 ls []) := by
  obtain ⟨hx, hb, hml, hown, hts, hK, hr, hlk, hA, hN⟩ := id C
  unfold fL_link at hf
  refine lv_aload hx hb dL_link_0 (lv_at hl 4 rfl) ?_
  refine lv_iconst (v := (0 : Int32)) hx hb dL_link_2 (by decide) ?_
  refine lv_aload_n hx hb dL_link_3 rfl (lv_at hl 0 rfl) ?_
  refine lv_iload_n hx hb dL_link_4 rfl (lv_at hl 1 rfl) ?_
  refine lv_iload_n hx hb dL_link_5 rfl (lv_at hl 2 rfl) ?_
  refine lv_iload_n hx hb dL_link_6 rfl (lv_at hl 3 rfl) ?_
  refine gx_callVi (As := [.int x1, .int x2, .int x3]) C hE hG (kX5_link hf) (cwV 3 hts gL_link_X5_link rfl rfl rfl hdvX5_link ⟨Nat.le_of_ble_eq_true rfl, Nat.le_of_ble_eq_true rfl⟩) (va_recv hK hG.1 (ci := 5) (q0 := 41) rfl rfl) rfl hl.1 rfl (Nat.le_of_ble_eq_true rfl) dL_link_7 ⟨Nat.le_of_ble_eq_true rfl, Nat.le_of_ble_eq_true rfl⟩ (fun E g1 H locs q9 ce hq hG hce hcv hcl => ?_) (fun r_1 g1 H locs hq hG => ?_)
  · obtain ⟨rfl, hf⟩ := hq
    rcases hf with ⟨rfl, hf⟩ | ⟨rfl, hf⟩
    · refine vx_catch (E := "java/lang/IndexOutOfBoundsException") (name := "java/lang/IndexOutOfBoundsException") hown [] (⟨0, 12, 15, 26⟩ : ExceptionTableEntry) [(⟨0, 12, 19, 15⟩ : ExceptionTableEntry)] (hTb.trans rfl) (fun z hz => by cases hz) (by decide) (by decide) (hts _ (List.mem_of_getElem? (i := 1) rfl)) (va_any rfl (hE.2.1 _ (List.mem_of_getElem? (i := 6) rfl))) hce hcv hcl ?_
      refine lv_astore (lv' := [(5, .ref (q9)), (0, .ref (B 1)), (1, .int x1), (2, .int x2), (3, .int x3), (4, .ref (B 9))]) hx hb dL_link_15 hl (by decide) rfl (fun ls hl => ?_)
      refine lv_iconst (v := (1 : Int32)) hx hb dL_link_17 (by decide) ?_
      exact g_iret C hG (hpost _ _ hf) dL_link_18
    · refine vx_catch (E := "java/lang/IllegalArgumentException") (name := "java/lang/IllegalArgumentException") hown [(⟨0, 12, 15, 26⟩ : ExceptionTableEntry)] (⟨0, 12, 19, 15⟩ : ExceptionTableEntry) [] (hTb.trans rfl) (fun z hz => by
        simp only [List.mem_cons, List.not_mem_nil, or_false] at hz
        rcases hz with rfl
        · exact Or.inr ⟨by decide, "java/lang/IndexOutOfBoundsException", hts _ (List.mem_of_getElem? (i := 1) rfl), hE.2.2.2.1 _ (List.mem_of_getElem? (i := 6) rfl)⟩) (by decide) (by decide) (hts _ (List.mem_of_getElem? (i := 2) rfl)) (va_any rfl (hE.2.1 _ (List.mem_of_getElem? (i := 4) rfl))) hce hcv hcl ?_
      refine lv_astore (lv' := [(5, .ref (q9)), (0, .ref (B 1)), (1, .int x1), (2, .int x2), (3, .int x3), (4, .ref (B 9))]) hx hb dL_link_19 hl (by decide) rfl (fun ls hl => ?_)
      refine lv_iconst (v := (2 : Int32)) hx hb dL_link_21 (by decide) ?_
      exact g_iret C hG (hpost _ _ hf) dL_link_22
  · obtain ⟨rfl, hf⟩ := hq
    refine lv_i2l hx hb dL_link_10 rfl ?_
    obtain ⟨h_2, hf⟩ := hf
    refine gs_O C hG h_2 dL_link_11 (fun O_3 H locs eO_3 hG => ?_)
    replace hf := hf O_3 eO_3
    refine lv_goto (tgt := 23) hx hb dL_link_12 (by decide) ?_
    refine lv_iconst (v := (0 : Int32)) hx hb dL_link_23 (by decide) ?_
    exact g_iret C hG (hpost _ _ hf) dL_link_24
set_option maxRecDepth 100000 in
theorem kL_link {l : Launch} {D : va_G} {B : Nat → Nat} {K : sK} {L : sL} {Y : sY} {M : sM} {SI : Nat → Int32} {SX : Nat → Nat → Int32} {Q : Int32 → (Nat → Int64) → Prop} {O : Nat → Int64} {x1 : Int32} {x2 : Int32} {x3 : Int32} (hf : fL_link SI SX Q O x1 x2 x3) : gLi D B l yL_link wsL_link rL_link 3 18 [.ref (B 1), .int x1, .int x2, .int x3, .ref (B 9)] ((SI, SX), K, L, Y, M, O) (fun r g1 => ∃ (O1 : Nat → Int64), g1 = ((SI, SX), K, L, Y, M, O1) ∧ Q r O1) := by
  refine gLi_of (cc := cL_link) (maxL := 6) (ret := some .int) (by decide +kernel) rfl (Nat.le_of_ble_eq_true rfl) ?_
  intro p e s m below meth c A hA0 C hE hTb hG ls hl
  exact vL_link_b0 C hE hTb (fun v O hq => ⟨O, rfl, hq⟩) O x1 x2 x3 _ _ _ hf hG hl
def rL_sees : Room := { frames := 9, cells := 3, slots := 18, locals := 155 }
theorem hdsL_sees : yL_sees.cls ≠ "java/lang/invoke/MethodHandle" ∧ yL_sees.cls ≠ "java/lang/invoke/VarHandle" ∧ (parseMethodDescriptor yL_sees.desc).map (fun d => d.parameters.length) = some 5 := by decide +kernel
set_option maxHeartbeats 4000000 in
set_option maxRecDepth 100000 in
theorem vL_sees_b18 {p : Program} {l : Launch} {e : Env} {s : State} {m : MethodId} {args : Array Value} {below : List Frame} {meth : Method} {c : Code} {D : va_G} {B : Nat → Nat} {A : Nat → Prop} {K : sK} {L : sL} {Y : sY} {M : sM} {post : Int32 → sG → Prop} {SI : Nat → Int32} {SX : Nat → Nat → Int32} {Q : Int32 → (Nat → Int64) → Prop} (C : gX p s m args meth c cL_sees 6 (some .int) wsL_sees RL D B A) (hE : gE l A s s.heap) (hTb : c.exceptionTable.toList = tableOf [(0, 19, 22, 26), (0, 19, 26, 15)]) (hpost : ∀ (v : Int32) (O : Nat → Int64), Q v O → post v ((SI, SX), K, L, Y, M, O))  (O : Nat → Int64) (t0 : Int64) (t1 : Int32) (H : Heap) (locs : List Loc) (ls : Array Slot) (hf : fL_sees_b18 SI SX Q O t0 t1) (hG : GS D B A s.heap ((SI, SX), K, L, Y, M, O) H locs) (hl : lv_has ls 6 []) : W p l e (headSpec wsL_sees rL_sees).room s m args below meth c H locs 3 18 (MQ below (va_Qi post (gB D B A) A) args s 3 18 A) (F0 m 18 ls [.long t0, .int t1, .ref (B 9)]) := by
  obtain ⟨hx, hb, hml, hown, hts, hK, hr, hlk, hA, hN⟩ := id C
  unfold fL_sees_b18 at hf
  obtain ⟨h_3, hf⟩ := hf
  refine gs_O C hG h_3 dL_sees_18 (fun O_4 H locs eO_4 hG => ?_)
  replace hf := hf O_4 eO_4
  refine lv_goto (tgt := 30) hx hb dL_sees_19 (by decide) ?_
  refine lv_iconst (v := (0 : Int32)) hx hb dL_sees_30 (by decide) ?_
  exact g_iret C hG (hpost _ _ hf) dL_sees_31
set_option maxHeartbeats 4000000 in
set_option maxRecDepth 100000 in
theorem vL_sees_b0 {p : Program} {l : Launch} {e : Env} {s : State} {m : MethodId} {args : Array Value} {below : List Frame} {meth : Method} {c : Code} {D : va_G} {B : Nat → Nat} {A : Nat → Prop} {K : sK} {L : sL} {Y : sY} {M : sM} {post : Int32 → sG → Prop} {SI : Nat → Int32} {SX : Nat → Nat → Int32} {Q : Int32 → (Nat → Int64) → Prop} (C : gX p s m args meth c cL_sees 6 (some .int) wsL_sees RL D B A) (hE : gE l A s s.heap) (hTb : c.exceptionTable.toList = tableOf [(0, 19, 22, 26), (0, 19, 26, 15)]) (hpost : ∀ (v : Int32) (O : Nat → Int64), Q v O → post v ((SI, SX), K, L, Y, M, O))  (O : Nat → Int64) (x1 : Int32) (x2 : Int32) (x3 : Int32) (H : Heap) (locs : List Loc) (ls : Array Slot) (hf : fL_sees SI SX Q O x1 x2 x3) (hG : GS D B A s.heap ((SI, SX), K, L, Y, M, O) H locs) (hl : lv_has ls 6 [(0, .ref (B 1)), (1, .int x1), (2, .int x2), (3, .int x3), (4, .ref (B 9))]) : W p l e (headSpec wsL_sees rL_sees).room s m args below meth c H locs 0 0 (MQ below (va_Qi post (gB D B A) A) args s 3 18 A) (F0 m 0 ls []) := by
  obtain ⟨hx, hb, hml, hown, hts, hK, hr, hlk, hA, hN⟩ := id C
  unfold fL_sees at hf
  refine lv_aload hx hb dL_sees_0 (lv_at hl 4 rfl) ?_
  refine lv_iconst (v := (0 : Int32)) hx hb dL_sees_2 (by decide) ?_
  refine lv_aload_n hx hb dL_sees_3 rfl (lv_at hl 0 rfl) ?_
  refine lv_iload_n hx hb dL_sees_4 rfl (lv_at hl 1 rfl) ?_
  refine lv_iload_n hx hb dL_sees_5 rfl (lv_at hl 2 rfl) ?_
  refine lv_iload_n hx hb dL_sees_6 rfl (lv_at hl 3 rfl) ?_
  refine gx_callVi (As := [.int x1, .int x2, .int x3]) C hE hG (kX5_sees hf) (cwV 3 hts gL_sees_X5_sees rfl rfl rfl hdvX5_sees ⟨Nat.le_of_ble_eq_true rfl, Nat.le_of_ble_eq_true rfl⟩) (va_recv hK hG.1 (ci := 5) (q0 := 41) rfl rfl) rfl hl.1 rfl (Nat.le_of_ble_eq_true rfl) dL_sees_7 ⟨Nat.le_of_ble_eq_true rfl, Nat.le_of_ble_eq_true rfl⟩ (fun E g1 H locs q9 ce hq hG hce hcv hcl => ?_) (fun r_1 g1 H locs hq hG => ?_)
  · obtain ⟨rfl, hf⟩ := hq
    rcases hf with ⟨rfl, hf⟩ | ⟨rfl, hf⟩
    · refine vx_catch (E := "java/lang/IndexOutOfBoundsException") (name := "java/lang/IndexOutOfBoundsException") hown [] (⟨0, 19, 22, 26⟩ : ExceptionTableEntry) [(⟨0, 19, 26, 15⟩ : ExceptionTableEntry)] (hTb.trans rfl) (fun z hz => by cases hz) (by decide) (by decide) (hts _ (List.mem_of_getElem? (i := 1) rfl)) (va_any rfl (hE.2.1 _ (List.mem_of_getElem? (i := 6) rfl))) hce hcv hcl ?_
      refine lv_astore (lv' := [(5, .ref (q9)), (0, .ref (B 1)), (1, .int x1), (2, .int x2), (3, .int x3), (4, .ref (B 9))]) hx hb dL_sees_22 hl (by decide) rfl (fun ls hl => ?_)
      refine lv_iconst (v := (1 : Int32)) hx hb dL_sees_24 (by decide) ?_
      exact g_iret C hG (hpost _ _ hf) dL_sees_25
    · refine vx_catch (E := "java/lang/IllegalArgumentException") (name := "java/lang/IllegalArgumentException") hown [(⟨0, 19, 22, 26⟩ : ExceptionTableEntry)] (⟨0, 19, 26, 15⟩ : ExceptionTableEntry) [] (hTb.trans rfl) (fun z hz => by
        simp only [List.mem_cons, List.not_mem_nil, or_false] at hz
        rcases hz with rfl
        · exact Or.inr ⟨by decide, "java/lang/IndexOutOfBoundsException", hts _ (List.mem_of_getElem? (i := 1) rfl), hE.2.2.2.1 _ (List.mem_of_getElem? (i := 6) rfl)⟩) (by decide) (by decide) (hts _ (List.mem_of_getElem? (i := 2) rfl)) (va_any rfl (hE.2.1 _ (List.mem_of_getElem? (i := 4) rfl))) hce hcv hcl ?_
      refine lv_astore (lv' := [(5, .ref (q9)), (0, .ref (B 1)), (1, .int x1), (2, .int x2), (3, .int x3), (4, .ref (B 9))]) hx hb dL_sees_26 hl (by decide) rfl (fun ls hl => ?_)
      refine lv_iconst (v := (2 : Int32)) hx hb dL_sees_28 (by decide) ?_
      exact g_iret C hG (hpost _ _ hf) dL_sees_29
  · obtain ⟨rfl, hf⟩ := hq
    refine lv_if_eq (tgt := 17) hx hb dL_sees_10 (by decide) (fun c_2 => ?_) (fun c_2 => ?_)
    · replace hf := hf.1 c_2
      refine lv_lconst (v := (0 : Int64)) hx hb dL_sees_17 (by decide) ?_
      exact vL_sees_b18 C hE hTb hpost  O (0 : Int64) (0 : Int32) _ _ _ hf hG (lv_sub hl [] rfl)
    · replace hf := hf.2 c_2
      refine lv_lconst (v := (1 : Int64)) hx hb dL_sees_13 (by decide) ?_
      refine lv_goto (tgt := 18) hx hb dL_sees_14 (by decide) ?_
      exact vL_sees_b18 C hE hTb hpost  O (1 : Int64) (0 : Int32) _ _ _ hf hG (lv_sub hl [] rfl)
set_option maxRecDepth 100000 in
theorem kL_sees {l : Launch} {D : va_G} {B : Nat → Nat} {K : sK} {L : sL} {Y : sY} {M : sM} {SI : Nat → Int32} {SX : Nat → Nat → Int32} {Q : Int32 → (Nat → Int64) → Prop} {O : Nat → Int64} {x1 : Int32} {x2 : Int32} {x3 : Int32} (hf : fL_sees SI SX Q O x1 x2 x3) : gLi D B l yL_sees wsL_sees rL_sees 3 18 [.ref (B 1), .int x1, .int x2, .int x3, .ref (B 9)] ((SI, SX), K, L, Y, M, O) (fun r g1 => ∃ (O1 : Nat → Int64), g1 = ((SI, SX), K, L, Y, M, O1) ∧ Q r O1) := by
  refine gLi_of (cc := cL_sees) (maxL := 6) (ret := some .int) (by decide +kernel) rfl (Nat.le_of_ble_eq_true rfl) ?_
  intro p e s m below meth c A hA0 C hE hTb hG ls hl
  exact vL_sees_b0 C hE hTb (fun v O hq => ⟨O, rfl, hq⟩) O x1 x2 x3 _ _ _ hf hG hl
def rL_earliest : Room := { frames := 9, cells := 3, slots := 18, locals := 156 }
theorem hdsL_earliest : yL_earliest.cls ≠ "java/lang/invoke/MethodHandle" ∧ yL_earliest.cls ≠ "java/lang/invoke/VarHandle" ∧ (parseMethodDescriptor yL_earliest.desc).map (fun d => d.parameters.length) = some 5 := by decide +kernel
set_option maxHeartbeats 4000000 in
set_option maxRecDepth 100000 in
theorem vL_earliest_b0 {p : Program} {l : Launch} {e : Env} {s : State} {m : MethodId} {args : Array Value} {below : List Frame} {meth : Method} {c : Code} {D : va_G} {B : Nat → Nat} {A : Nat → Prop} {K : sK} {L : sL} {M : sM} {post : Int32 → sG → Prop} {SI : Nat → Int32} {SX : Nat → Nat → Int32} {nW : Nat} {wd : Nat → Nat → Nat} {Q : Int32 → (Nat → Nat → Int32) → (Nat → Nat → Nat) → (Nat → Nat → Int32) → (Nat → Nat → Nat → Int32) → (Nat → Int64) → Prop} (C : gX p s m args meth c cL_earliest 6 (some .int) wsL_earliest RL D B A) (hE : gE l A s s.heap) (hTb : c.exceptionTable.toList = tableOf [(0, 12, 15, 26), (0, 12, 19, 15)]) (hpost : ∀ (v : Int32) (WI : Nat → Nat → Int32) (WR : Nat → Nat → Nat) (WL : Nat → Nat → Int32) (WX : Nat → Nat → Nat → Int32) (O : Nat → Int64), Q v WI WR WL WX O → post v ((SI, SX), K, L, (nW, WI, WR, WL, WX, wd), M, O))  (WI : Nat → Nat → Int32) (WR : Nat → Nat → Nat) (WL : Nat → Nat → Int32) (WX : Nat → Nat → Nat → Int32) (O : Nat → Int64) (x1 : Int32) (x2 : Int32) (x3 : Int32) (H : Heap) (locs : List Loc) (ls : Array Slot) (hf : fL_earliest SI SX nW wd Q WI WR WL WX O x1 x2 x3) (hG : GS D B A s.heap ((SI, SX), K, L, (nW, WI, WR, WL, WX, wd), M, O) H locs) (hl : lv_has ls 6 [(0, .ref (B 1)), (1, .int x1), (2, .int x2), (3, .int x3), (4, .ref (B 9))]) : W p l e (headSpec wsL_earliest rL_earliest).room s m args below meth c H locs 0 0 (MQ below (va_Qi post (gB D B A) A) args s 3 18 A) (F0 m 0 ls []) := by
  obtain ⟨hx, hb, hml, hown, hts, hK, hr, hlk, hA, hN⟩ := id C
  unfold fL_earliest at hf
  refine lv_aload hx hb dL_earliest_0 (lv_at hl 4 rfl) ?_
  refine lv_iconst (v := (0 : Int32)) hx hb dL_earliest_2 (by decide) ?_
  refine lv_aload_n hx hb dL_earliest_3 rfl (lv_at hl 0 rfl) ?_
  refine lv_iload_n hx hb dL_earliest_4 rfl (lv_at hl 1 rfl) ?_
  refine lv_iload_n hx hb dL_earliest_5 rfl (lv_at hl 2 rfl) ?_
  refine lv_iload_n hx hb dL_earliest_6 rfl (lv_at hl 3 rfl) ?_
  refine gx_callVi (As := [.int x1, .int x2, .int x3]) C hE hG (kX5_earliest hf) (cwV 3 hts gL_earliest_X5_earliest rfl rfl rfl hdvX5_earliest ⟨Nat.le_of_ble_eq_true rfl, Nat.le_of_ble_eq_true rfl⟩) (va_recv hK hG.1 (ci := 5) (q0 := 41) rfl rfl) rfl hl.1 rfl (Nat.le_of_ble_eq_true rfl) dL_earliest_7 ⟨Nat.le_of_ble_eq_true rfl, Nat.le_of_ble_eq_true rfl⟩ (fun E g1 H locs q9 ce hq hG hce hcv hcl => ?_) (fun r_5 g1 H locs hq hG => ?_)
  · obtain ⟨WI_1, WR_2, WL_3, WX_4, rfl, hf⟩ := hq
    rcases hf with ⟨rfl, hf⟩ | ⟨rfl, hf⟩
    · refine vx_catch (E := "java/lang/IndexOutOfBoundsException") (name := "java/lang/IndexOutOfBoundsException") hown [] (⟨0, 12, 15, 26⟩ : ExceptionTableEntry) [(⟨0, 12, 19, 15⟩ : ExceptionTableEntry)] (hTb.trans rfl) (fun z hz => by cases hz) (by decide) (by decide) (hts _ (List.mem_of_getElem? (i := 1) rfl)) (va_any rfl (hE.2.1 _ (List.mem_of_getElem? (i := 6) rfl))) hce hcv hcl ?_
      refine lv_astore (lv' := [(5, .ref (q9)), (0, .ref (B 1)), (1, .int x1), (2, .int x2), (3, .int x3), (4, .ref (B 9))]) hx hb dL_earliest_15 hl (by decide) rfl (fun ls hl => ?_)
      refine lv_iconst (v := (1 : Int32)) hx hb dL_earliest_17 (by decide) ?_
      exact g_iret C hG (hpost _ _ _ _ _ _ hf) dL_earliest_18
    · refine vx_catch (E := "java/lang/IllegalArgumentException") (name := "java/lang/IllegalArgumentException") hown [(⟨0, 12, 15, 26⟩ : ExceptionTableEntry)] (⟨0, 12, 19, 15⟩ : ExceptionTableEntry) [] (hTb.trans rfl) (fun z hz => by
        simp only [List.mem_cons, List.not_mem_nil, or_false] at hz
        rcases hz with rfl
        · exact Or.inr ⟨by decide, "java/lang/IndexOutOfBoundsException", hts _ (List.mem_of_getElem? (i := 1) rfl), hE.2.2.2.1 _ (List.mem_of_getElem? (i := 6) rfl)⟩) (by decide) (by decide) (hts _ (List.mem_of_getElem? (i := 2) rfl)) (va_any rfl (hE.2.1 _ (List.mem_of_getElem? (i := 4) rfl))) hce hcv hcl ?_
      refine lv_astore (lv' := [(5, .ref (q9)), (0, .ref (B 1)), (1, .int x1), (2, .int x2), (3, .int x3), (4, .ref (B 9))]) hx hb dL_earliest_19 hl (by decide) rfl (fun ls hl => ?_)
      refine lv_iconst (v := (2 : Int32)) hx hb dL_earliest_21 (by decide) ?_
      exact g_iret C hG (hpost _ _ _ _ _ _ hf) dL_earliest_22
  · obtain ⟨WI_1, WR_2, WL_3, WX_4, rfl, hf⟩ := hq
    refine lv_i2l hx hb dL_earliest_10 rfl ?_
    obtain ⟨h_6, hf⟩ := hf
    refine gs_O C hG h_6 dL_earliest_11 (fun O_7 H locs eO_7 hG => ?_)
    replace hf := hf O_7 eO_7
    refine lv_goto (tgt := 23) hx hb dL_earliest_12 (by decide) ?_
    refine lv_iconst (v := (0 : Int32)) hx hb dL_earliest_23 (by decide) ?_
    exact g_iret C hG (hpost _ _ _ _ _ _ hf) dL_earliest_24
set_option maxRecDepth 100000 in
theorem kL_earliest {l : Launch} {D : va_G} {B : Nat → Nat} {K : sK} {L : sL} {M : sM} {SI : Nat → Int32} {SX : Nat → Nat → Int32} {nW : Nat} {wd : Nat → Nat → Nat} {Q : Int32 → (Nat → Nat → Int32) → (Nat → Nat → Nat) → (Nat → Nat → Int32) → (Nat → Nat → Nat → Int32) → (Nat → Int64) → Prop} {WI : Nat → Nat → Int32} {WR : Nat → Nat → Nat} {WL : Nat → Nat → Int32} {WX : Nat → Nat → Nat → Int32} {O : Nat → Int64} {x1 : Int32} {x2 : Int32} {x3 : Int32} (hf : fL_earliest SI SX nW wd Q WI WR WL WX O x1 x2 x3) : gLi D B l yL_earliest wsL_earliest rL_earliest 3 18 [.ref (B 1), .int x1, .int x2, .int x3, .ref (B 9)] ((SI, SX), K, L, (nW, WI, WR, WL, WX, wd), M, O) (fun r g1 => ∃ (WI1 : Nat → Nat → Int32) (WR1 : Nat → Nat → Nat) (WL1 : Nat → Nat → Int32) (WX1 : Nat → Nat → Nat → Int32) (O1 : Nat → Int64), g1 = ((SI, SX), K, L, (nW, WI1, WR1, WL1, WX1, wd), M, O1) ∧ Q r WI1 WR1 WL1 WX1 O1) := by
  refine gLi_of (cc := cL_earliest) (maxL := 6) (ret := some .int) (by decide +kernel) rfl (Nat.le_of_ble_eq_true rfl) ?_
  intro p e s m below meth c A hA0 C hE hTb hG ls hl
  exact vL_earliest_b0 C hE hTb (fun v WI WR WL WX O hq => ⟨WI, WR, WL, WX, O, rfl, hq⟩) WI WR WL WX O x1 x2 x3 _ _ _ hf hG hl
def rL_late : Room := { frames := 8, cells := 2, slots := 12, locals := 138 }
theorem hdsL_late : yL_late.cls ≠ "java/lang/invoke/MethodHandle" ∧ yL_late.cls ≠ "java/lang/invoke/VarHandle" ∧ (parseMethodDescriptor yL_late.desc).map (fun d => d.parameters.length) = some 5 := by decide +kernel
set_option maxHeartbeats 4000000 in
set_option maxRecDepth 100000 in
theorem vL_late_b0 {p : Program} {l : Launch} {e : Env} {s : State} {m : MethodId} {args : Array Value} {below : List Frame} {meth : Method} {c : Code} {D : va_G} {B : Nat → Nat} {A : Nat → Prop} {K : sK} {L : sL} {M : sM} {post : Int32 → sG → Prop} {SI : Nat → Int32} {SX : Nat → Nat → Int32} {nW : Nat} {wd : Nat → Nat → Nat} {Q : Int32 → (Nat → Nat → Int32) → (Nat → Nat → Nat) → (Nat → Nat → Int32) → (Nat → Nat → Nat → Int32) → (Nat → Int64) → Prop} (C : gX p s m args meth c cL_late 6 (some .int) wsL_late RL D B A) (hE : gE l A s s.heap) (hTb : c.exceptionTable.toList = tableOf [(0, 12, 15, 26)]) (hpost : ∀ (v : Int32) (WI : Nat → Nat → Int32) (WR : Nat → Nat → Nat) (WL : Nat → Nat → Int32) (WX : Nat → Nat → Nat → Int32) (O : Nat → Int64), Q v WI WR WL WX O → post v ((SI, SX), K, L, (nW, WI, WR, WL, WX, wd), M, O))  (WI : Nat → Nat → Int32) (WR : Nat → Nat → Nat) (WL : Nat → Nat → Int32) (WX : Nat → Nat → Nat → Int32) (O : Nat → Int64) (x1 : Int32) (x2 : Int32) (x3 : Int32) (H : Heap) (locs : List Loc) (ls : Array Slot) (hf : fL_late SI SX nW wd Q WI WR WL WX O x1 x2 x3) (hG : GS D B A s.heap ((SI, SX), K, L, (nW, WI, WR, WL, WX, wd), M, O) H locs) (hl : lv_has ls 6 [(0, .ref (B 1)), (1, .int x1), (2, .int x2), (3, .int x3), (4, .ref (B 9))]) : W p l e (headSpec wsL_late rL_late).room s m args below meth c H locs 0 0 (MQ below (va_Qi post (gB D B A) A) args s 2 12 A) (F0 m 0 ls []) := by
  obtain ⟨hx, hb, hml, hown, hts, hK, hr, hlk, hA, hN⟩ := id C
  unfold fL_late at hf
  refine lv_aload hx hb dL_late_0 (lv_at hl 4 rfl) ?_
  refine lv_iconst (v := (0 : Int32)) hx hb dL_late_2 (by decide) ?_
  refine lv_aload_n hx hb dL_late_3 rfl (lv_at hl 0 rfl) ?_
  refine lv_iload_n hx hb dL_late_4 rfl (lv_at hl 1 rfl) ?_
  refine lv_iload_n hx hb dL_late_5 rfl (lv_at hl 2 rfl) ?_
  refine lv_iload_n hx hb dL_late_6 rfl (lv_at hl 3 rfl) ?_
  refine gx_callVi (As := [.int x1, .int x2, .int x3]) C hE hG (kX5_late hf) (cwV 3 hts gL_late_X5_late rfl rfl rfl hdvX5_late ⟨Nat.le_of_ble_eq_true rfl, Nat.le_of_ble_eq_true rfl⟩) (va_recv hK hG.1 (ci := 5) (q0 := 41) rfl rfl) rfl hl.1 rfl (Nat.le_of_ble_eq_true rfl) dL_late_7 ⟨Nat.le_of_ble_eq_true rfl, Nat.le_of_ble_eq_true rfl⟩ (fun E g1 H locs q9 ce hq hG hce hcv hcl => ?_) (fun r_5 g1 H locs hq hG => ?_)
  · obtain ⟨WI_1, WR_2, WL_3, WX_4, rfl, hf⟩ := hq
    rcases hf with ⟨rfl, hf⟩
    · refine vx_catch (E := "java/lang/IndexOutOfBoundsException") (name := "java/lang/IndexOutOfBoundsException") hown [] (⟨0, 12, 15, 26⟩ : ExceptionTableEntry) [] (hTb.trans rfl) (fun z hz => by cases hz) (by decide) (by decide) (hts _ (List.mem_of_getElem? (i := 1) rfl)) (va_any rfl (hE.2.1 _ (List.mem_of_getElem? (i := 6) rfl))) hce hcv hcl ?_
      refine lv_astore (lv' := [(5, .ref (q9)), (0, .ref (B 1)), (1, .int x1), (2, .int x2), (3, .int x3), (4, .ref (B 9))]) hx hb dL_late_15 hl (by decide) rfl (fun ls hl => ?_)
      refine lv_iconst (v := (1 : Int32)) hx hb dL_late_17 (by decide) ?_
      exact g_iret C hG (hpost _ _ _ _ _ _ hf) dL_late_18
  · obtain ⟨WI_1, WR_2, WL_3, WX_4, rfl, hf⟩ := hq
    refine lv_i2l hx hb dL_late_10 rfl ?_
    obtain ⟨h_6, hf⟩ := hf
    refine gs_O C hG h_6 dL_late_11 (fun O_7 H locs eO_7 hG => ?_)
    replace hf := hf O_7 eO_7
    refine lv_goto (tgt := 19) hx hb dL_late_12 (by decide) ?_
    refine lv_iconst (v := (0 : Int32)) hx hb dL_late_19 (by decide) ?_
    exact g_iret C hG (hpost _ _ _ _ _ _ hf) dL_late_20
set_option maxRecDepth 100000 in
theorem kL_late {l : Launch} {D : va_G} {B : Nat → Nat} {K : sK} {L : sL} {M : sM} {SI : Nat → Int32} {SX : Nat → Nat → Int32} {nW : Nat} {wd : Nat → Nat → Nat} {Q : Int32 → (Nat → Nat → Int32) → (Nat → Nat → Nat) → (Nat → Nat → Int32) → (Nat → Nat → Nat → Int32) → (Nat → Int64) → Prop} {WI : Nat → Nat → Int32} {WR : Nat → Nat → Nat} {WL : Nat → Nat → Int32} {WX : Nat → Nat → Nat → Int32} {O : Nat → Int64} {x1 : Int32} {x2 : Int32} {x3 : Int32} (hf : fL_late SI SX nW wd Q WI WR WL WX O x1 x2 x3) : gLi D B l yL_late wsL_late rL_late 2 12 [.ref (B 1), .int x1, .int x2, .int x3, .ref (B 9)] ((SI, SX), K, L, (nW, WI, WR, WL, WX, wd), M, O) (fun r g1 => ∃ (WI1 : Nat → Nat → Int32) (WR1 : Nat → Nat → Nat) (WL1 : Nat → Nat → Int32) (WX1 : Nat → Nat → Nat → Int32) (O1 : Nat → Int64), g1 = ((SI, SX), K, L, (nW, WI1, WR1, WL1, WX1, wd), M, O1) ∧ Q r WI1 WR1 WL1 WX1 O1) := by
  refine gLi_of (cc := cL_late) (maxL := 6) (ret := some .int) (by decide +kernel) rfl (Nat.le_of_ble_eq_true rfl) ?_
  intro p e s m below meth c A hA0 C hE hTb hG ls hl
  exact vL_late_b0 C hE hTb (fun v WI WR WL WX O hq => ⟨WI, WR, WL, WX, O, rfl, hq⟩) WI WR WL WX O x1 x2 x3 _ _ _ hf hG hl
def rL_meets : Room := { frames := 8, cells := 1, slots := 6, locals := 134 }
theorem hdsL_meets : yL_meets.cls ≠ "java/lang/invoke/MethodHandle" ∧ yL_meets.cls ≠ "java/lang/invoke/VarHandle" ∧ (parseMethodDescriptor yL_meets.desc).map (fun d => d.parameters.length) = some 3 := by decide +kernel
set_option maxHeartbeats 4000000 in
set_option maxRecDepth 100000 in
theorem vL_meets_b0 {p : Program} {l : Launch} {e : Env} {s : State} {m : MethodId} {args : Array Value} {below : List Frame} {meth : Method} {c : Code} {D : va_G} {B : Nat → Nat} {A : Nat → Prop} {K : sK} {L : sL} {Y : sY} {M : sM} {post : Int32 → sG → Prop} {SI : Nat → Int32} {SX : Nat → Nat → Int32} {Q : Int32 → (Nat → Int64) → Prop} (C : gX p s m args meth c cL_meets 4 (some .int) wsL_meets RL D B A) (hE : gE l A s s.heap) (hTb : c.exceptionTable.toList = tableOf [(0, 9, 12, 26)]) (hpost : ∀ (v : Int32) (O : Nat → Int64), Q v O → post v ((SI, SX), K, L, Y, M, O))  (O : Nat → Int64) (x1 : Int32) (H : Heap) (locs : List Loc) (ls : Array Slot) (hf : fL_meets SI SX Q O x1) (hG : GS D B A s.heap ((SI, SX), K, L, Y, M, O) H locs) (hl : lv_has ls 4 [(0, .ref (B 1)), (1, .int x1), (2, .ref (B 9))]) : W p l e (headSpec wsL_meets rL_meets).room s m args below meth c H locs 0 0 (MQ below (va_Qi post (gB D B A) A) args s 1 6 A) (F0 m 0 ls []) := by
  obtain ⟨hx, hb, hml, hown, hts, hK, hr, hlk, hA, hN⟩ := id C
  unfold fL_meets at hf
  refine lv_aload_n hx hb dL_meets_0 rfl (lv_at hl 2 rfl) ?_
  refine lv_iconst (v := (0 : Int32)) hx hb dL_meets_1 (by decide) ?_
  refine lv_aload_n hx hb dL_meets_2 rfl (lv_at hl 0 rfl) ?_
  refine lv_iload_n hx hb dL_meets_3 rfl (lv_at hl 1 rfl) ?_
  refine gx_callVi (As := [.int x1]) C hE hG (kX5_meets hf) (cwV 1 hts gL_meets_X5_meets rfl rfl rfl hdvX5_meets ⟨Nat.le_of_ble_eq_true rfl, Nat.le_of_ble_eq_true rfl⟩) (va_recv hK hG.1 (ci := 5) (q0 := 41) rfl rfl) rfl hl.1 rfl (Nat.le_of_ble_eq_true rfl) dL_meets_4 ⟨Nat.le_of_ble_eq_true rfl, Nat.le_of_ble_eq_true rfl⟩ (fun E g1 H locs q9 ce hq hG hce hcv hcl => ?_) (fun r_1 g1 H locs hq hG => ?_)
  · obtain ⟨rfl, hf⟩ := hq
    rcases hf with ⟨rfl, hf⟩
    · refine vx_catch (E := "java/lang/IndexOutOfBoundsException") (name := "java/lang/IndexOutOfBoundsException") hown [] (⟨0, 9, 12, 26⟩ : ExceptionTableEntry) [] (hTb.trans rfl) (fun z hz => by cases hz) (by decide) (by decide) (hts _ (List.mem_of_getElem? (i := 1) rfl)) (va_any rfl (hE.2.1 _ (List.mem_of_getElem? (i := 6) rfl))) hce hcv hcl ?_
      refine lv_astore_n (lv' := [(3, .ref (q9)), (0, .ref (B 1)), (1, .int x1), (2, .ref (B 9))]) hx hb dL_meets_12 rfl hl (by decide) rfl (fun ls hl => ?_)
      refine lv_iconst (v := (1 : Int32)) hx hb dL_meets_13 (by decide) ?_
      exact g_iret C hG (hpost _ _ hf) dL_meets_14
  · obtain ⟨rfl, hf⟩ := hq
    refine lv_i2l hx hb dL_meets_7 rfl ?_
    obtain ⟨h_2, hf⟩ := hf
    refine gs_O C hG h_2 dL_meets_8 (fun O_3 H locs eO_3 hG => ?_)
    replace hf := hf O_3 eO_3
    refine lv_goto (tgt := 15) hx hb dL_meets_9 (by decide) ?_
    refine lv_iconst (v := (0 : Int32)) hx hb dL_meets_15 (by decide) ?_
    exact g_iret C hG (hpost _ _ hf) dL_meets_16
set_option maxRecDepth 100000 in
theorem kL_meets {l : Launch} {D : va_G} {B : Nat → Nat} {K : sK} {L : sL} {Y : sY} {M : sM} {SI : Nat → Int32} {SX : Nat → Nat → Int32} {Q : Int32 → (Nat → Int64) → Prop} {O : Nat → Int64} {x1 : Int32} (hf : fL_meets SI SX Q O x1) : gLi D B l yL_meets wsL_meets rL_meets 1 6 [.ref (B 1), .int x1, .ref (B 9)] ((SI, SX), K, L, Y, M, O) (fun r g1 => ∃ (O1 : Nat → Int64), g1 = ((SI, SX), K, L, Y, M, O1) ∧ Q r O1) := by
  refine gLi_of (cc := cL_meets) (maxL := 4) (ret := some .int) (by decide +kernel) rfl (Nat.le_of_ble_eq_true rfl) ?_
  intro p e s m below meth c A hA0 C hE hTb hG ls hl
  exact vL_meets_b0 C hE hTb (fun v O hq => ⟨O, rfl, hq⟩) O x1 _ _ _ hf hG hl
def rL_part : Room := { frames := 9, cells := 3, slots := 18, locals := 155 }
theorem hdsL_part : yL_part.cls ≠ "java/lang/invoke/MethodHandle" ∧ yL_part.cls ≠ "java/lang/invoke/VarHandle" ∧ (parseMethodDescriptor yL_part.desc).map (fun d => d.parameters.length) = some 5 := by decide +kernel
set_option maxHeartbeats 4000000 in
set_option maxRecDepth 100000 in
theorem vL_part_b0 {p : Program} {l : Launch} {e : Env} {s : State} {m : MethodId} {args : Array Value} {below : List Frame} {meth : Method} {c : Code} {D : va_G} {B : Nat → Nat} {A : Nat → Prop} {L : sL} {Y : sY} {M : sM} {post : Int32 → sG → Prop} {SI : Nat → Int32} {SX : Nat → Nat → Int32} {Q : Int32 → (Int64) → (Int32) → (Nat → Nat → Int64) → (Nat → Nat → Int32) → (Nat → Int64) → Prop} (C : gX p s m args meth c cL_part 6 (some .int) wsL_part RL D B A) (hE : gE l A s s.heap) (hTb : c.exceptionTable.toList = tableOf [(0, 12, 15, 26), (0, 12, 19, 15)]) (hpost : ∀ (v : Int32) (CU : Int64) (CQ : Int32) (CJ : Nat → Nat → Int64) (CX : Nat → Nat → Int32) (O : Nat → Int64), Q v CU CQ CJ CX O → post v ((SI, SX), (CU, CQ, CJ, CX), L, Y, M, O))  (CU : Int64) (CQ : Int32) (CJ : Nat → Nat → Int64) (CX : Nat → Nat → Int32) (O : Nat → Int64) (x1 : Int32) (x2 : Int32) (x3 : Int32) (H : Heap) (locs : List Loc) (ls : Array Slot) (hf : fL_part SI SX Q CU CQ CJ CX O x1 x2 x3) (hG : GS D B A s.heap ((SI, SX), (CU, CQ, CJ, CX), L, Y, M, O) H locs) (hl : lv_has ls 6 [(0, .ref (B 1)), (1, .int x1), (2, .int x2), (3, .int x3), (4, .ref (B 9))]) : W p l e (headSpec wsL_part rL_part).room s m args below meth c H locs 0 0 (MQ below (va_Qi post (gB D B A) A) args s 3 18 A) (F0 m 0 ls []) := by
  obtain ⟨hx, hb, hml, hown, hts, hK, hr, hlk, hA, hN⟩ := id C
  unfold fL_part at hf
  refine lv_aload hx hb dL_part_0 (lv_at hl 4 rfl) ?_
  refine lv_iconst (v := (0 : Int32)) hx hb dL_part_2 (by decide) ?_
  refine lv_aload_n hx hb dL_part_3 rfl (lv_at hl 0 rfl) ?_
  refine lv_iload_n hx hb dL_part_4 rfl (lv_at hl 1 rfl) ?_
  refine lv_iload_n hx hb dL_part_5 rfl (lv_at hl 2 rfl) ?_
  refine lv_iload_n hx hb dL_part_6 rfl (lv_at hl 3 rfl) ?_
  refine gx_callVi (As := [.int x1, .int x2, .int x3]) C hE hG (kX5_part hf) (cwV 3 hts gL_part_X5_part rfl rfl rfl hdvX5_part ⟨Nat.le_of_ble_eq_true rfl, Nat.le_of_ble_eq_true rfl⟩) (va_recv hK hG.1 (ci := 5) (q0 := 41) rfl rfl) rfl hl.1 rfl (Nat.le_of_ble_eq_true rfl) dL_part_7 ⟨Nat.le_of_ble_eq_true rfl, Nat.le_of_ble_eq_true rfl⟩ (fun E g1 H locs q9 ce hq hG hce hcv hcl => ?_) (fun r_5 g1 H locs hq hG => ?_)
  · obtain ⟨CU_1, CQ_2, CJ_3, CX_4, rfl, hf⟩ := hq
    rcases hf with ⟨rfl, hf⟩ | ⟨rfl, hf⟩
    · refine vx_catch (E := "java/lang/IndexOutOfBoundsException") (name := "java/lang/IndexOutOfBoundsException") hown [] (⟨0, 12, 15, 26⟩ : ExceptionTableEntry) [(⟨0, 12, 19, 15⟩ : ExceptionTableEntry)] (hTb.trans rfl) (fun z hz => by cases hz) (by decide) (by decide) (hts _ (List.mem_of_getElem? (i := 1) rfl)) (va_any rfl (hE.2.1 _ (List.mem_of_getElem? (i := 6) rfl))) hce hcv hcl ?_
      refine lv_astore (lv' := [(5, .ref (q9)), (0, .ref (B 1)), (1, .int x1), (2, .int x2), (3, .int x3), (4, .ref (B 9))]) hx hb dL_part_15 hl (by decide) rfl (fun ls hl => ?_)
      refine lv_iconst (v := (1 : Int32)) hx hb dL_part_17 (by decide) ?_
      exact g_iret C hG (hpost _ _ _ _ _ _ hf) dL_part_18
    · refine vx_catch (E := "java/lang/IllegalArgumentException") (name := "java/lang/IllegalArgumentException") hown [(⟨0, 12, 15, 26⟩ : ExceptionTableEntry)] (⟨0, 12, 19, 15⟩ : ExceptionTableEntry) [] (hTb.trans rfl) (fun z hz => by
        simp only [List.mem_cons, List.not_mem_nil, or_false] at hz
        rcases hz with rfl
        · exact Or.inr ⟨by decide, "java/lang/IndexOutOfBoundsException", hts _ (List.mem_of_getElem? (i := 1) rfl), hE.2.2.2.1 _ (List.mem_of_getElem? (i := 6) rfl)⟩) (by decide) (by decide) (hts _ (List.mem_of_getElem? (i := 2) rfl)) (va_any rfl (hE.2.1 _ (List.mem_of_getElem? (i := 4) rfl))) hce hcv hcl ?_
      refine lv_astore (lv' := [(5, .ref (q9)), (0, .ref (B 1)), (1, .int x1), (2, .int x2), (3, .int x3), (4, .ref (B 9))]) hx hb dL_part_19 hl (by decide) rfl (fun ls hl => ?_)
      refine lv_iconst (v := (2 : Int32)) hx hb dL_part_21 (by decide) ?_
      exact g_iret C hG (hpost _ _ _ _ _ _ hf) dL_part_22
  · obtain ⟨CU_1, CQ_2, CJ_3, CX_4, rfl, hf⟩ := hq
    refine lv_i2l hx hb dL_part_10 rfl ?_
    obtain ⟨h_6, hf⟩ := hf
    refine gs_O C hG h_6 dL_part_11 (fun O_7 H locs eO_7 hG => ?_)
    replace hf := hf O_7 eO_7
    refine lv_goto (tgt := 23) hx hb dL_part_12 (by decide) ?_
    refine lv_iconst (v := (0 : Int32)) hx hb dL_part_23 (by decide) ?_
    exact g_iret C hG (hpost _ _ _ _ _ _ hf) dL_part_24
set_option maxRecDepth 100000 in
theorem kL_part {l : Launch} {D : va_G} {B : Nat → Nat} {L : sL} {Y : sY} {M : sM} {SI : Nat → Int32} {SX : Nat → Nat → Int32} {Q : Int32 → (Int64) → (Int32) → (Nat → Nat → Int64) → (Nat → Nat → Int32) → (Nat → Int64) → Prop} {CU : Int64} {CQ : Int32} {CJ : Nat → Nat → Int64} {CX : Nat → Nat → Int32} {O : Nat → Int64} {x1 : Int32} {x2 : Int32} {x3 : Int32} (hf : fL_part SI SX Q CU CQ CJ CX O x1 x2 x3) : gLi D B l yL_part wsL_part rL_part 3 18 [.ref (B 1), .int x1, .int x2, .int x3, .ref (B 9)] ((SI, SX), (CU, CQ, CJ, CX), L, Y, M, O) (fun r g1 => ∃ (CU1 : Int64) (CQ1 : Int32) (CJ1 : Nat → Nat → Int64) (CX1 : Nat → Nat → Int32) (O1 : Nat → Int64), g1 = ((SI, SX), (CU1, CQ1, CJ1, CX1), L, Y, M, O1) ∧ Q r CU1 CQ1 CJ1 CX1 O1) := by
  refine gLi_of (cc := cL_part) (maxL := 6) (ret := some .int) (by decide +kernel) rfl (Nat.le_of_ble_eq_true rfl) ?_
  intro p e s m below meth c A hA0 C hE hTb hG ls hl
  exact vL_part_b0 C hE hTb (fun v CU CQ CJ CX O hq => ⟨CU, CQ, CJ, CX, O, rfl, hq⟩) CU CQ CJ CX O x1 x2 x3 _ _ _ hf hG hl
def rL_send : Room := { frames := 8, cells := 3, slots := 22, locals := 133 }
theorem hdsL_send : yL_send.cls ≠ "java/lang/invoke/MethodHandle" ∧ yL_send.cls ≠ "java/lang/invoke/VarHandle" ∧ (parseMethodDescriptor yL_send.desc).map (fun d => d.parameters.length) = some 4 := by decide +kernel
set_option maxHeartbeats 4000000 in
set_option maxRecDepth 100000 in
theorem vL_send_b0 {p : Program} {l : Launch} {e : Env} {s : State} {m : MethodId} {args : Array Value} {below : List Frame} {meth : Method} {c : Code} {D : va_G} {B : Nat → Nat} {A : Nat → Prop} {K : sK} {Y : sY} {M : sM} {post : Int32 → sG → Prop} {SI : Nat → Int32} {SX : Nat → Nat → Int32} {Q : Int32 → (Nat → Int32) → (Nat → Int64) → (Nat → Int32) → (Nat) → (Nat → Nat → Int32) → (Nat → Nat) → (Nat → Int64) → Prop} (C : gX p s m args meth c cL_send 5 (some .int) wsL_send RL D B A) (hE : gE l A s s.heap) (hTb : c.exceptionTable.toList = tableOf [(0, 10, 13, 26), (0, 10, 17, 15), (0, 10, 21, 17)]) (hpost : ∀ (v : Int32) (MI : Nat → Int32) (TT : Nat → Int64) (AW : Nat → Int32) (nE : Nat) (LT : Nat → Nat → Int32) (la : Nat → Nat) (O : Nat → Int64), Q v MI TT AW nE LT la O → post v ((SI, SX), K, (MI, TT, AW, nE, LT, la), Y, M, O))  (MI : Nat → Int32) (TT : Nat → Int64) (AW : Nat → Int32) (nE : Nat) (LT : Nat → Nat → Int32) (la : Nat → Nat) (O : Nat → Int64) (x1 : Int32) (x2 : Int32) (H : Heap) (locs : List Loc) (ls : Array Slot) (hf : fL_send SI SX Q MI TT AW nE LT la O x1 x2) (hG : GS D B A s.heap ((SI, SX), K, (MI, TT, AW, nE, LT, la), Y, M, O) H locs) (hl : lv_has ls 5 [(0, .ref (B 1)), (1, .int x1), (2, .int x2), (3, .ref (B 9))]) : W p l e (headSpec wsL_send rL_send).room s m args below meth c H locs 0 0 (MQ below (va_Qi post (gB D B A) A) args s 3 22 A) (F0 m 0 ls []) := by
  obtain ⟨hx, hb, hml, hown, hts, hK, hr, hlk, hA, hN⟩ := id C
  unfold fL_send at hf
  refine lv_aload_n hx hb dL_send_0 rfl (lv_at hl 3 rfl) ?_
  refine lv_iconst (v := (0 : Int32)) hx hb dL_send_1 (by decide) ?_
  refine lv_aload_n hx hb dL_send_2 rfl (lv_at hl 0 rfl) ?_
  refine lv_iload_n hx hb dL_send_3 rfl (lv_at hl 1 rfl) ?_
  refine lv_iload_n hx hb dL_send_4 rfl (lv_at hl 2 rfl) ?_
  refine gx_callVi (As := [.int x1, .int x2]) C hE hG (kX5_send hf) (cwV 2 hts gL_send_X5_send rfl rfl rfl hdvX5_send ⟨Nat.le_of_ble_eq_true rfl, Nat.le_of_ble_eq_true rfl⟩) (va_recv hK hG.1 (ci := 5) (q0 := 41) rfl rfl) rfl hl.1 rfl (Nat.le_of_ble_eq_true rfl) dL_send_5 ⟨Nat.le_of_ble_eq_true rfl, Nat.le_of_ble_eq_true rfl⟩ (fun E g1 H locs q9 ce hq hG hce hcv hcl => ?_) (fun r_7 g1 H locs hq hG => ?_)
  · obtain ⟨MI_1, TT_2, AW_3, nE_4, LT_5, la_6, rfl, hf⟩ := hq
    rcases hf with ⟨rfl, hf⟩ | ⟨rfl, hf⟩ | ⟨rfl, hf⟩
    · refine vx_catch (E := "java/lang/IndexOutOfBoundsException") (name := "java/lang/IndexOutOfBoundsException") hown [] (⟨0, 10, 13, 26⟩ : ExceptionTableEntry) [(⟨0, 10, 17, 15⟩ : ExceptionTableEntry), (⟨0, 10, 21, 17⟩ : ExceptionTableEntry)] (hTb.trans rfl) (fun z hz => by cases hz) (by decide) (by decide) (hts _ (List.mem_of_getElem? (i := 1) rfl)) (va_any rfl (hE.2.1 _ (List.mem_of_getElem? (i := 6) rfl))) hce hcv hcl ?_
      refine lv_astore (lv' := [(4, .ref (q9)), (0, .ref (B 1)), (1, .int x1), (2, .int x2), (3, .ref (B 9))]) hx hb dL_send_13 hl (by decide) rfl (fun ls hl => ?_)
      refine lv_iconst (v := (1 : Int32)) hx hb dL_send_15 (by decide) ?_
      exact g_iret C hG (hpost _ _ _ _ _ _ _ _ hf) dL_send_16
    · refine vx_catch (E := "java/lang/IllegalArgumentException") (name := "java/lang/IllegalArgumentException") hown [(⟨0, 10, 13, 26⟩ : ExceptionTableEntry)] (⟨0, 10, 17, 15⟩ : ExceptionTableEntry) [(⟨0, 10, 21, 17⟩ : ExceptionTableEntry)] (hTb.trans rfl) (fun z hz => by
        simp only [List.mem_cons, List.not_mem_nil, or_false] at hz
        rcases hz with rfl
        · exact Or.inr ⟨by decide, "java/lang/IndexOutOfBoundsException", hts _ (List.mem_of_getElem? (i := 1) rfl), hE.2.2.2.1 _ (List.mem_of_getElem? (i := 6) rfl)⟩) (by decide) (by decide) (hts _ (List.mem_of_getElem? (i := 2) rfl)) (va_any rfl (hE.2.1 _ (List.mem_of_getElem? (i := 4) rfl))) hce hcv hcl ?_
      refine lv_astore (lv' := [(4, .ref (q9)), (0, .ref (B 1)), (1, .int x1), (2, .int x2), (3, .ref (B 9))]) hx hb dL_send_17 hl (by decide) rfl (fun ls hl => ?_)
      refine lv_iconst (v := (2 : Int32)) hx hb dL_send_19 (by decide) ?_
      exact g_iret C hG (hpost _ _ _ _ _ _ _ _ hf) dL_send_20
    · refine vx_catch (E := "java/lang/UnsupportedOperationException") (name := "java/lang/UnsupportedOperationException") hown [(⟨0, 10, 13, 26⟩ : ExceptionTableEntry), (⟨0, 10, 17, 15⟩ : ExceptionTableEntry)] (⟨0, 10, 21, 17⟩ : ExceptionTableEntry) [] (hTb.trans rfl) (fun z hz => by
        simp only [List.mem_cons, List.not_mem_nil, or_false] at hz
        rcases hz with rfl | rfl
        · exact Or.inr ⟨by decide, "java/lang/IndexOutOfBoundsException", hts _ (List.mem_of_getElem? (i := 1) rfl), hE.2.2.2.1 _ (List.mem_of_getElem? (i := 10) rfl)⟩
        · exact Or.inr ⟨by decide, "java/lang/IllegalArgumentException", hts _ (List.mem_of_getElem? (i := 2) rfl), hE.2.2.2.1 _ (List.mem_of_getElem? (i := 9) rfl)⟩) (by decide) (by decide) (hts _ (List.mem_of_getElem? (i := 3) rfl)) (va_any rfl (hE.2.1 _ (List.mem_of_getElem? (i := 5) rfl))) hce hcv hcl ?_
      refine lv_astore (lv' := [(4, .ref (q9)), (0, .ref (B 1)), (1, .int x1), (2, .int x2), (3, .ref (B 9))]) hx hb dL_send_21 hl (by decide) rfl (fun ls hl => ?_)
      refine lv_iconst (v := (3 : Int32)) hx hb dL_send_23 (by decide) ?_
      exact g_iret C hG (hpost _ _ _ _ _ _ _ _ hf) dL_send_24
  · obtain ⟨MI_1, TT_2, AW_3, nE_4, LT_5, la_6, rfl, hf⟩ := hq
    refine lv_i2l hx hb dL_send_8 rfl ?_
    obtain ⟨h_8, hf⟩ := hf
    refine gs_O C hG h_8 dL_send_9 (fun O_9 H locs eO_9 hG => ?_)
    replace hf := hf O_9 eO_9
    refine lv_goto (tgt := 25) hx hb dL_send_10 (by decide) ?_
    refine lv_iconst (v := (0 : Int32)) hx hb dL_send_25 (by decide) ?_
    exact g_iret C hG (hpost _ _ _ _ _ _ _ _ hf) dL_send_26
set_option maxRecDepth 100000 in
theorem kL_send {l : Launch} {D : va_G} {B : Nat → Nat} {K : sK} {Y : sY} {M : sM} {SI : Nat → Int32} {SX : Nat → Nat → Int32} {Q : Int32 → (Nat → Int32) → (Nat → Int64) → (Nat → Int32) → (Nat) → (Nat → Nat → Int32) → (Nat → Nat) → (Nat → Int64) → Prop} {MI : Nat → Int32} {TT : Nat → Int64} {AW : Nat → Int32} {nE : Nat} {LT : Nat → Nat → Int32} {la : Nat → Nat} {O : Nat → Int64} {x1 : Int32} {x2 : Int32} (hf : fL_send SI SX Q MI TT AW nE LT la O x1 x2) : gLi D B l yL_send wsL_send rL_send 3 22 [.ref (B 1), .int x1, .int x2, .ref (B 9)] ((SI, SX), K, (MI, TT, AW, nE, LT, la), Y, M, O) (fun r g1 => ∃ (MI1 : Nat → Int32) (TT1 : Nat → Int64) (AW1 : Nat → Int32) (nE1 : Nat) (LT1 : Nat → Nat → Int32) (la1 : Nat → Nat) (O1 : Nat → Int64), g1 = ((SI, SX), K, (MI1, TT1, AW1, nE1, LT1, la1), Y, M, O1) ∧ Q r MI1 TT1 AW1 nE1 LT1 la1 O1) := by
  refine gLi_of (cc := cL_send) (maxL := 5) (ret := some .int) (by decide +kernel) rfl (Nat.le_of_ble_eq_true rfl) ?_
  intro p e s m below meth c A hA0 C hE hTb hG ls hl
  exact vL_send_b0 C hE hTb (fun v MI TT AW nE LT la O hq => ⟨MI, TT, AW, nE, LT, la, O, rfl, hq⟩) MI TT AW nE LT la O x1 x2 _ _ _ hf hG hl
def rL_steps : Room := { frames := 8, cells := 1, slots := 6, locals := 158 }
theorem hdsL_steps : yL_steps.cls ≠ "java/lang/invoke/MethodHandle" ∧ yL_steps.cls ≠ "java/lang/invoke/VarHandle" ∧ (parseMethodDescriptor yL_steps.desc).map (fun d => d.parameters.length) = some 3 := by decide +kernel
set_option maxHeartbeats 4000000 in
set_option maxRecDepth 100000 in
theorem vL_steps_b0 {p : Program} {l : Launch} {e : Env} {s : State} {m : MethodId} {args : Array Value} {below : List Frame} {meth : Method} {c : Code} {D : va_G} {B : Nat → Nat} {A : Nat → Prop} {K : sK} {M : sM} {post : Int32 → sG → Prop} {SI : Nat → Int32} {SX : Nat → Nat → Int32} {nE : Nat} {la : Nat → Nat} {nW : Nat} {wd : Nat → Nat → Nat} {Q : Int32 → (Nat → Int32) → (Nat → Int64) → (Nat → Int32) → (Nat → Nat → Int32) → (Nat → Nat → Int32) → (Nat → Nat → Nat) → (Nat → Nat → Int32) → (Nat → Nat → Nat → Int32) → (Nat → Int64) → Prop} (C : gX p s m args meth c cL_steps 4 (some .int) wsL_steps RL D B A) (hE : gE l A s s.heap) (hTb : c.exceptionTable.toList = tableOf [(0, 9, 12, 15)]) (hpost : ∀ (v : Int32) (MI : Nat → Int32) (TT : Nat → Int64) (AW : Nat → Int32) (LT : Nat → Nat → Int32) (WI : Nat → Nat → Int32) (WR : Nat → Nat → Nat) (WL : Nat → Nat → Int32) (WX : Nat → Nat → Nat → Int32) (O : Nat → Int64), Q v MI TT AW LT WI WR WL WX O → post v ((SI, SX), K, (MI, TT, AW, nE, LT, la), (nW, WI, WR, WL, WX, wd), M, O))  (MI : Nat → Int32) (TT : Nat → Int64) (AW : Nat → Int32) (LT : Nat → Nat → Int32) (WI : Nat → Nat → Int32) (WR : Nat → Nat → Nat) (WL : Nat → Nat → Int32) (WX : Nat → Nat → Nat → Int32) (O : Nat → Int64) (x1 : Int32) (H : Heap) (locs : List Loc) (ls : Array Slot) (hf : fL_steps SI SX nE la nW wd Q MI TT AW LT WI WR WL WX O x1) (hG : GS D B A s.heap ((SI, SX), K, (MI, TT, AW, nE, LT, la), (nW, WI, WR, WL, WX, wd), M, O) H locs) (hl : lv_has ls 4 [(0, .ref (B 1)), (1, .int x1), (2, .ref (B 9))]) : W p l e (headSpec wsL_steps rL_steps).room s m args below meth c H locs 0 0 (MQ below (va_Qi post (gB D B A) A) args s 1 6 A) (F0 m 0 ls []) := by
  obtain ⟨hx, hb, hml, hown, hts, hK, hr, hlk, hA, hN⟩ := id C
  unfold fL_steps at hf
  refine lv_aload_n hx hb dL_steps_0 rfl (lv_at hl 2 rfl) ?_
  refine lv_iconst (v := (0 : Int32)) hx hb dL_steps_1 (by decide) ?_
  refine lv_aload_n hx hb dL_steps_2 rfl (lv_at hl 0 rfl) ?_
  refine lv_iload_n hx hb dL_steps_3 rfl (lv_at hl 1 rfl) ?_
  refine gx_callVi (As := [.int x1]) C hE hG (kX5_steps hf) (cwV 1 hts gL_steps_X5_steps rfl rfl rfl hdvX5_steps ⟨Nat.le_of_ble_eq_true rfl, Nat.le_of_ble_eq_true rfl⟩) (va_recv hK hG.1 (ci := 5) (q0 := 41) rfl rfl) rfl hl.1 rfl (Nat.le_of_ble_eq_true rfl) dL_steps_4 ⟨Nat.le_of_ble_eq_true rfl, Nat.le_of_ble_eq_true rfl⟩ (fun E g1 H locs q9 ce hq hG hce hcv hcl => ?_) (fun r_9 g1 H locs hq hG => ?_)
  · obtain ⟨MI_1, TT_2, AW_3, LT_4, WI_5, WR_6, WL_7, WX_8, rfl, hf⟩ := hq
    rcases hf with ⟨rfl, hf⟩
    · refine vx_catch (E := "java/lang/IllegalArgumentException") (name := "java/lang/IllegalArgumentException") hown [] (⟨0, 9, 12, 15⟩ : ExceptionTableEntry) [] (hTb.trans rfl) (fun z hz => by cases hz) (by decide) (by decide) (hts _ (List.mem_of_getElem? (i := 1) rfl)) (va_any rfl (hE.2.1 _ (List.mem_of_getElem? (i := 4) rfl))) hce hcv hcl ?_
      refine lv_astore_n (lv' := [(3, .ref (q9)), (0, .ref (B 1)), (1, .int x1), (2, .ref (B 9))]) hx hb dL_steps_12 rfl hl (by decide) rfl (fun ls hl => ?_)
      refine lv_iconst (v := (1 : Int32)) hx hb dL_steps_13 (by decide) ?_
      exact g_iret C hG (hpost _ _ _ _ _ _ _ _ _ _ hf) dL_steps_14
  · obtain ⟨MI_1, TT_2, AW_3, LT_4, WI_5, WR_6, WL_7, WX_8, rfl, hf⟩ := hq
    refine lv_i2l hx hb dL_steps_7 rfl ?_
    obtain ⟨h_10, hf⟩ := hf
    refine gs_O C hG h_10 dL_steps_8 (fun O_11 H locs eO_11 hG => ?_)
    replace hf := hf O_11 eO_11
    refine lv_goto (tgt := 15) hx hb dL_steps_9 (by decide) ?_
    refine lv_iconst (v := (0 : Int32)) hx hb dL_steps_15 (by decide) ?_
    exact g_iret C hG (hpost _ _ _ _ _ _ _ _ _ _ hf) dL_steps_16
set_option maxRecDepth 100000 in
theorem kL_steps {l : Launch} {D : va_G} {B : Nat → Nat} {K : sK} {M : sM} {SI : Nat → Int32} {SX : Nat → Nat → Int32} {nE : Nat} {la : Nat → Nat} {nW : Nat} {wd : Nat → Nat → Nat} {Q : Int32 → (Nat → Int32) → (Nat → Int64) → (Nat → Int32) → (Nat → Nat → Int32) → (Nat → Nat → Int32) → (Nat → Nat → Nat) → (Nat → Nat → Int32) → (Nat → Nat → Nat → Int32) → (Nat → Int64) → Prop} {MI : Nat → Int32} {TT : Nat → Int64} {AW : Nat → Int32} {LT : Nat → Nat → Int32} {WI : Nat → Nat → Int32} {WR : Nat → Nat → Nat} {WL : Nat → Nat → Int32} {WX : Nat → Nat → Nat → Int32} {O : Nat → Int64} {x1 : Int32} (hf : fL_steps SI SX nE la nW wd Q MI TT AW LT WI WR WL WX O x1) : gLi D B l yL_steps wsL_steps rL_steps 1 6 [.ref (B 1), .int x1, .ref (B 9)] ((SI, SX), K, (MI, TT, AW, nE, LT, la), (nW, WI, WR, WL, WX, wd), M, O) (fun r g1 => ∃ (MI1 : Nat → Int32) (TT1 : Nat → Int64) (AW1 : Nat → Int32) (LT1 : Nat → Nat → Int32) (WI1 : Nat → Nat → Int32) (WR1 : Nat → Nat → Nat) (WL1 : Nat → Nat → Int32) (WX1 : Nat → Nat → Nat → Int32) (O1 : Nat → Int64), g1 = ((SI, SX), K, (MI1, TT1, AW1, nE, LT1, la), (nW, WI1, WR1, WL1, WX1, wd), M, O1) ∧ Q r MI1 TT1 AW1 LT1 WI1 WR1 WL1 WX1 O1) := by
  refine gLi_of (cc := cL_steps) (maxL := 4) (ret := some .int) (by decide +kernel) rfl (Nat.le_of_ble_eq_true rfl) ?_
  intro p e s m below meth c A hA0 C hE hTb hG ls hl
  exact vL_steps_b0 C hE hTb (fun v MI TT AW LT WI WR WL WX O hq => ⟨MI, TT, AW, LT, WI, WR, WL, WX, O, rfl, hq⟩) MI TT AW LT WI WR WL WX O x1 _ _ _ hf hG hl
def rL_look : Room := { frames := 7, cells := 1, slots := 6, locals := 113 }
theorem hdsL_look : yL_look.cls ≠ "java/lang/invoke/MethodHandle" ∧ yL_look.cls ≠ "java/lang/invoke/VarHandle" ∧ (parseMethodDescriptor yL_look.desc).map (fun d => d.parameters.length) = some 4 := by decide +kernel
set_option maxHeartbeats 4000000 in
set_option maxRecDepth 100000 in
theorem vL_look_b0 {p : Program} {l : Launch} {e : Env} {s : State} {m : MethodId} {args : Array Value} {below : List Frame} {meth : Method} {c : Code} {D : va_G} {B : Nat → Nat} {A : Nat → Prop} {S : sS} {K : sK} {Y : sY} {M : sM} {post : Int32 → sG → Prop} {MI : Nat → Int32} {TT : Nat → Int64} {AW : Nat → Int32} {nE : Nat} {LT : Nat → Nat → Int32} {la : Nat → Nat} {Q : Int32 → (Nat → Int64) → Prop} (C : gX p s m args meth c cL_look 5 (some .int) wsL_look9 RL D B A) (hE : gE l A s s.heap) (hTb : c.exceptionTable.toList = tableOf [(0, 10, 13, 26), (0, 10, 17, 62)]) (hpost : ∀ (v : Int32) (O : Nat → Int64), Q v O → post v (S, K, (MI, TT, AW, nE, LT, la), Y, M, O))  (O : Nat → Int64) (x1 : Int32) (x2 : Int32) (H : Heap) (locs : List Loc) (ls : Array Slot) (hf : fL_look MI TT AW nE LT la Q O x1 x2) (hG : GS D B A s.heap (S, K, (MI, TT, AW, nE, LT, la), Y, M, O) H locs) (hl : lv_has ls 5 [(0, .ref (B 1)), (1, .int x1), (2, .int x2), (3, .ref (B 9))]) : W p l e (headSpec wsL_look9 rL_look).room s m args below meth c H locs 0 0 (MQ below (va_Qi post (gB D B A) A) args s 1 6 A) (F0 m 0 ls []) := by
  obtain ⟨hx, hb, hml, hown, hts, hK, hr, hlk, hA, hN⟩ := id C
  unfold fL_look at hf
  refine lv_aload_n hx hb dL_look_0 rfl (lv_at hl 3 rfl) ?_
  refine lv_iconst (v := (0 : Int32)) hx hb dL_look_1 (by decide) ?_
  refine lv_aload_n hx hb dL_look_2 rfl (lv_at hl 0 rfl) ?_
  refine lv_iload_n hx hb dL_look_3 rfl (lv_at hl 1 rfl) ?_
  refine lv_iload_n hx hb dL_look_4 rfl (lv_at hl 2 rfl) ?_
  refine gx_callVi (As := [.int x1, .int x2]) C hE hG (kX5_look hf) (cwV 2 hts gL_look9_X5_look rfl rfl rfl hdvX5_look ⟨Nat.le_of_ble_eq_true rfl, Nat.le_of_ble_eq_true rfl⟩) (va_recv hK hG.1 (ci := 5) (q0 := 41) rfl rfl) rfl hl.1 rfl (Nat.le_of_ble_eq_true rfl) dL_look_5 ⟨Nat.le_of_ble_eq_true rfl, Nat.le_of_ble_eq_true rfl⟩ (fun E g1 H locs q9 ce hq hG hce hcv hcl => ?_) (fun r_1 g1 H locs hq hG => ?_)
  · obtain ⟨rfl, hf⟩ := hq
    rcases hf with ⟨rfl, hf⟩ | ⟨rfl, hf⟩
    · refine vx_catch (E := "java/lang/IndexOutOfBoundsException") (name := "java/lang/IndexOutOfBoundsException") hown [] (⟨0, 10, 13, 26⟩ : ExceptionTableEntry) [(⟨0, 10, 17, 62⟩ : ExceptionTableEntry)] (hTb.trans rfl) (fun z hz => by cases hz) (by decide) (by decide) (hts _ (List.mem_of_getElem? (i := 1) rfl)) (va_any rfl (hE.2.1 _ (List.mem_of_getElem? (i := 6) rfl))) hce hcv hcl ?_
      refine lv_astore (lv' := [(4, .ref (q9)), (0, .ref (B 1)), (1, .int x1), (2, .int x2), (3, .ref (B 9))]) hx hb dL_look_13 hl (by decide) rfl (fun ls hl => ?_)
      refine lv_iconst (v := (1 : Int32)) hx hb dL_look_15 (by decide) ?_
      exact g_iret C hG (hpost _ _ hf) dL_look_16
    · refine vx_catch (E := "java/util/NoSuchElementException") (name := "java/util/NoSuchElementException") hown [(⟨0, 10, 13, 26⟩ : ExceptionTableEntry)] (⟨0, 10, 17, 62⟩ : ExceptionTableEntry) [] (hTb.trans rfl) (fun z hz => by
        simp only [List.mem_cons, List.not_mem_nil, or_false] at hz
        rcases hz with rfl
        · exact Or.inr ⟨by decide, "java/lang/IndexOutOfBoundsException", hts _ (List.mem_of_getElem? (i := 1) rfl), hE.2.2.2.1 _ (List.mem_of_getElem? (i := 19) rfl)⟩) (by decide) (by decide) (hts _ (List.mem_of_getElem? (i := 2) rfl)) (va_any rfl (hE.2.1 _ (List.mem_of_getElem? (i := 7) rfl))) hce hcv hcl ?_
      refine lv_astore (lv' := [(4, .ref (q9)), (0, .ref (B 1)), (1, .int x1), (2, .int x2), (3, .ref (B 9))]) hx hb dL_look_17 hl (by decide) rfl (fun ls hl => ?_)
      refine lv_iconst (v := (2 : Int32)) hx hb dL_look_19 (by decide) ?_
      exact g_iret C hG (hpost _ _ hf) dL_look_20
  · obtain ⟨rfl, hf⟩ := hq
    refine lv_i2l hx hb dL_look_8 rfl ?_
    obtain ⟨h_2, hf⟩ := hf
    refine gs_O C hG h_2 dL_look_9 (fun O_3 H locs eO_3 hG => ?_)
    replace hf := hf O_3 eO_3
    refine lv_goto (tgt := 21) hx hb dL_look_10 (by decide) ?_
    refine lv_iconst (v := (0 : Int32)) hx hb dL_look_21 (by decide) ?_
    exact g_iret C hG (hpost _ _ hf) dL_look_22
set_option maxRecDepth 100000 in
theorem kL_look {l : Launch} {D : va_G} {B : Nat → Nat} {S : sS} {K : sK} {Y : sY} {M : sM} {MI : Nat → Int32} {TT : Nat → Int64} {AW : Nat → Int32} {nE : Nat} {LT : Nat → Nat → Int32} {la : Nat → Nat} {Q : Int32 → (Nat → Int64) → Prop} {O : Nat → Int64} {x1 : Int32} {x2 : Int32} (hf : fL_look MI TT AW nE LT la Q O x1 x2) : gLi D B l yL_look wsL_look9 rL_look 1 6 [.ref (B 1), .int x1, .int x2, .ref (B 9)] (S, K, (MI, TT, AW, nE, LT, la), Y, M, O) (fun r g1 => ∃ (O1 : Nat → Int64), g1 = (S, K, (MI, TT, AW, nE, LT, la), Y, M, O1) ∧ Q r O1) := by
  refine gLi_of (cc := cL_look) (maxL := 5) (ret := some .int) (by decide +kernel) rfl (Nat.le_of_ble_eq_true rfl) ?_
  intro p e s m below meth c A hA0 C hE hTb hG ls hl
  exact vL_look_b0 C hE hTb (fun v O hq => ⟨O, rfl, hq⟩) O x1 x2 _ _ _ hf hG hl

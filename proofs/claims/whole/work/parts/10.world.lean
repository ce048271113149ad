/-! the state in our words: S sky, K cut, L mail and letters, Y ways, M the reference, O the law's own row -/
abbrev sS : Type := (Nat → Int32) × (Nat → Nat → Int32)
abbrev sK : Type := Int64 × Int32 × (Nat → Nat → Int64) × (Nat → Nat → Int32)
abbrev sL : Type := (Nat → Int32) × (Nat → Int64) × (Nat → Int32) × Nat × (Nat → Nat → Int32) × (Nat → Nat)
abbrev sY : Type := Nat × (Nat → Nat → Int32) × (Nat → Nat → Nat) × (Nat → Nat → Int32) × (Nat → Nat → Nat → Int32) × (Nat → Nat → Nat)
abbrev sM : Type := (Nat → Int32) × (Nat → Nat → Int32)
abbrev sO : Type := Nat → Int64
abbrev sG : Type := sS × sK × sL × sY × sM × sO
def gq (n : Nat) (a : Nat → Nat) : Nat → Option Nat := fun i => if i < n then some (a i) else none
def gF (B : Nat → Nat) (g : sG) : va_W := [
(B 0, .inr (6, [.int (g.2.2.2.2.1.1 0), .int (g.2.2.2.2.1.1 1), .ref (B 62), .ref (B 63), .ref (B 64), .ref (B 65), .int (g.2.2.2.2.1.1 6), .ref (B 67), .ref (B 68), .int (g.2.2.2.2.1.1 9), .ref (B 70), .ref (B 71), .ref (B 72), .int (g.2.2.2.2.1.1 13), .ref (B 74), .ref (B 75), .ref (B 76), .ref (B 77), .ref (B 78), .ref (B 79), .ref (B 80), .ref (B 81), .ref (B 82), .ref (B 83), .ref (B 84), .ref (B 85), .ref (B 86), .ref (B 87), .ref (B 88), .ref (B 89), .ref (B 90), .int (g.2.2.2.2.1.1 31), .int (g.2.2.2.2.1.1 32)])),
  (B 62, .inl (B 100, 6, .inl (g.2.2.2.2.1.2 2))),
  (B 63, .inl (B 100, 6, .inl (g.2.2.2.2.1.2 3))),
  (B 64, .inl (B 100, 6, .inl (g.2.2.2.2.1.2 4))),
  (B 65, .inl (B 100, 6, .inl (g.2.2.2.2.1.2 5))),
  (B 67, .inl (B 100, 48, .inl (g.2.2.2.2.1.2 7))),
  (B 68, .inl (B 102, 48, .inl (g.2.2.2.2.1.2 8))),
  (B 70, .inl (B 100, 8, .inl (g.2.2.2.2.1.2 10))),
  (B 71, .inl (B 100, 8, .inl (g.2.2.2.2.1.2 11))),
  (B 72, .inl (B 100, 8, .inl (g.2.2.2.2.1.2 12))),
  (B 74, .inl (B 100, 12288, .inl (g.2.2.2.2.1.2 14))),
  (B 75, .inl (B 102, 8, .inl (g.2.2.2.2.1.2 15))),
  (B 76, .inl (B 102, 9604, .inl (g.2.2.2.2.1.2 16))),
  (B 77, .inl (B 100, 98, .inl (g.2.2.2.2.1.2 17))),
  (B 78, .inl (B 100, 98, .inl (g.2.2.2.2.1.2 18))),
  (B 79, .inl (B 100, 60, .inl (g.2.2.2.2.1.2 19))),
  (B 80, .inl (B 100, 60, .inl (g.2.2.2.2.1.2 20))),
  (B 81, .inl (B 100, 60, .inl (g.2.2.2.2.1.2 21))),
  (B 82, .inl (B 100, 60, .inl (g.2.2.2.2.1.2 22))),
  (B 83, .inl (B 100, 60, .inl (g.2.2.2.2.1.2 23))),
  (B 84, .inl (B 100, 60, .inl (g.2.2.2.2.1.2 24))),
  (B 85, .inl (B 100, 60, .inl (g.2.2.2.2.1.2 25))),
  (B 86, .inl (B 100, 60, .inl (g.2.2.2.2.1.2 26))),
  (B 87, .inl (B 100, 60, .inl (g.2.2.2.2.1.2 27))),
  (B 88, .inl (B 100, 60, .inl (g.2.2.2.2.1.2 28))),
  (B 89, .inl (B 100, 60, .inl (g.2.2.2.2.1.2 29))),
  (B 90, .inl (B 100, 60, .inl (g.2.2.2.2.1.2 30))),
  (B 2, .inr (3, [.int (g.1.1 0), .int (g.1.1 1), .int (g.1.1 2), .int (g.1.1 3), .ref (B 24), .ref (B 25), .ref (B 26), .ref (B 27), .ref (B 28), .ref (B 29), .ref (B 30), .ref (B 31)])),
  (B 24, .inl (B 102, 56, .inl (g.1.2 4))),
  (B 25, .inl (B 100, 7, .inl (g.1.2 5))),
  (B 26, .inl (B 100, 56, .inl (g.1.2 6))),
  (B 27, .inl (B 100, 56, .inl (g.1.2 7))),
  (B 28, .inl (B 100, 56, .inl (g.1.2 8))),
  (B 29, .inl (B 100, 56, .inl (g.1.2 9))),
  (B 30, .inl (B 100, 2688, .inl (g.1.2 10))),
  (B 31, .inl (B 100, 2688, .inl (g.1.2 11))),
  (B 3, .inr (0, [.ref (B 2), .ref (B 41), .ref (B 42), .long g.2.1.1, .ref (B 44), .ref (B 45), .int g.2.1.2.1])),
  (B 41, .inl (B 101, 48, .inr (.inl (g.2.1.2.2.1 1)))),
  (B 42, .inl (B 101, 48, .inr (.inl (g.2.1.2.2.1 2)))),
  (B 44, .inl (B 100, 96, .inl (g.2.1.2.2.2 4))),
  (B 45, .inl (B 100, 96, .inl (g.2.1.2.2.2 5))),
  (B 1, .inr (5, [.ref (B 2), .ref (B 5), .ref (B 3), .ref (B 4)])),
  (B 5, .inl (B 104, 8, .inr (.inr (.inr (.inr (gq g.2.2.2.1.1 (g.2.2.2.1.2.2.2.2.2 0))))))),
  (B 4, .inr (2, [.int (g.2.2.1.1 0), .int (g.2.2.1.1 1), .ref (B 6), .ref (B 2), .ref (B 5), .ref (B 7), .ref (B 8)])),
  (B 6, .inl (B 103, 60, .inr (.inr (.inr (.inr (gq g.2.2.1.2.2.2.1 g.2.2.1.2.2.2.2.2)))))),
  (B 7, .inl (B 101, 56, .inr (.inl g.2.2.1.2.1))),
  (B 8, .inl (B 100, 8, .inl g.2.2.1.2.2.1)),
  (B 9, .inl (B 101, 1, .inr (.inl g.2.2.2.2.2)))]
def gVl (L : sL) : va_W := (List.range L.2.2.2.1).map (fun i => (L.2.2.2.2.2 i, .inr (1, [.int (L.2.2.2.2.1 i 0), .int (L.2.2.2.2.1 i 1), .int (L.2.2.2.2.1 i 2), .int (L.2.2.2.2.1 i 3), .int (L.2.2.2.2.1 i 4), .int (L.2.2.2.2.1 i 5), .int (L.2.2.2.2.1 i 6), .int (L.2.2.2.2.1 i 7), .int (L.2.2.2.2.1 i 8), .int (L.2.2.2.2.1 i 9)])))
def gVo (B : Nat → Nat) (Y : sY) : va_W := (List.range Y.1).map (fun i => (Y.2.2.2.2.2 0 i, .inr (4, [.ref (B 2), .int (Y.2.1 i 1), .ref (Y.2.2.2.2.2 1 i), .int (Y.2.1 i 3), .ref (Y.2.2.2.2.2 (Y.2.2.1 i 4) i), .ref (Y.2.2.2.2.2 (Y.2.2.1 i 5) i), .ref (Y.2.2.2.2.2 (Y.2.2.1 i 6) i)])))
def gVt (B : Nat → Nat) (Y : sY) : va_W := (List.range Y.1).map (fun i => (Y.2.2.2.2.2 1 i, .inl (B 100, 1792, .inl (Y.2.2.2.1 i))))
def gVa (B : Nat → Nat) (Y : sY) (k : Nat) : va_W := (List.range Y.1).map (fun i => (Y.2.2.2.2.2 k i, .inl (B 100, 56, .inl (Y.2.2.2.2.1 k i))))
def gV (B : Nat → Nat) (L : sL) (Y : sY) : va_W := gVl L ++ (gVo B Y ++ (gVt B Y ++ (gVa B Y 2 ++ (gVa B Y 3 ++ gVa B Y 4))))
def gW (B : Nat → Nat) (g : sG) : va_W := gF B g ++ gV B g.2.2.1 g.2.2.2.1
def gT (B : Nat → Nat) : List (ClassId × FieldType) := [(B 100, .int), (B 101, .long), (B 102, .boolean), (B 103, .object "MoonRelay$Letter"), (B 104, .object "MoonRelay$Ways")]
def gA (B : Nat → Nat) (g : sG) (sz : Nat) : Nat → Prop := va_A (gW B g) sz
def GS (D : va_G) (B : Nat → Nat) (A : Nat → Prop) (H0 : Heap) (g : sG) (H : Heap) (locs : List Loc) : Prop := va_P D vwCl (gW B g) H ∧ va_D A (gW B g) ∧ va_S A H0 H locs
def gNq : List (String × Nat × MethodName) := [(RX0, 62, yX5_bit), (RX1, 36, yX5_nodeOf), (RX1, 43, yX5_isRelay), (RX2, 91, yX5_bit), (RX2, 108, yX5_isRelay), (RX2, 112, yX5_nodeOf), (RX3, 61, yX5_nodeOf), (RX3, 73, yX5_ahead), (RX3, 79, yX5_isRelay), (RX4, 32, yX5_nodeOf), (RX4, 69, yX5_ahead), (RX4, 79, yX5_isRelay), (RX5, 11, yX3_init)]
def gN (U : State) : Prop := ∀ q ∈ gNq, va_Nw (.methodLinkNest q.1 q.2.1 q.2.2 "MoonRelay") U
theorem gN.warm {s U : State} (hW : s.WarmedH U.vm) (h : gN s) : gN U := fun q hq => va_Nw.warmM hW (h q hq)
theorem gN.same {u U : State} (e : u.vm = U.vm) (h : gN u) : gN U := fun q hq => va_Nw.same rfl e (h q hq)
def gPre (D : va_G) (B : Nat → Nat) (sz : Nat) (av : List Value) (g : sG) : Array Value → State → Prop := va_Pc av (fun U => U.heap.size = sz ∧ va_P D vwCl (gW B g) U.heap ∧ (va_K D vwCl (gT B) U ∧ gN U) ∧ va_D (fun _ => True) (gW B g))
def gB (D : va_G) (B : Nat → Nat) (A : Nat → Prop) : sG → State → Prop := fun u t => va_P D vwCl (gW B u) t.heap ∧ va_D A (gW B u)
def gMi (D : va_G) (B : Nat → Nat) (l : Launch) (y : MethodName) (ws : List Cond) (rm : Room) (mc ms : Nat) (av : List Value) (g : sG) (post : Int32 → sG → Prop) : Prop := ∀ sz, Met l y ws rm (gPre D B sz av g) (va_Qi post (gB D B (gA B g sz)) (gA B g sz)) mc ms (gA B g sz)
def gMl (D : va_G) (B : Nat → Nat) (l : Launch) (y : MethodName) (ws : List Cond) (rm : Room) (mc ms : Nat) (av : List Value) (g : sG) (post : Int64 → sG → Prop) : Prop := ∀ sz, Met l y ws rm (gPre D B sz av g) (va_Ql post (gB D B (gA B g sz)) (gA B g sz)) mc ms (gA B g sz)
def gMv (D : va_G) (B : Nat → Nat) (l : Launch) (y : MethodName) (ws : List Cond) (rm : Room) (mc ms : Nat) (av : List Value) (g : sG) (post : sG → Prop) : Prop := ∀ sz, Met l y ws rm (gPre D B sz av g) (va_Qv post (gB D B (gA B g sz)) (gA B g sz)) mc ms (gA B g sz)
/-- what a walk of a method knows of its start -/
def gX (p : Program) (s : State) (m : MethodId) (args : Array Value) (meth : Method) (c : Code) (cc : ByteArray) (nL : Nat) (ret : Option FieldType) (Ts : List Cond) (own : String) (D : va_G) (B : Nat → Nat) (A : Nat → Prop) : Prop :=
  p.tables.exec = Jvm.exec ∧ c.code = cc ∧ c.maxLocals = nL ∧ s.vm.findClass own = some m.cls ∧ (∀ w ∈ Ts, w.before args s = true) ∧ va_K D vwCl (gT B) s ∧ meth.sig.returnType = ret ∧ meth.locks = false ∧ (∀ q, s.heap.size ≤ q → A q) ∧ gN s
theorem gPre_blind {D : va_G} {B : Nat → Nat} {sz : Nat} {av : List Value} {g : sG} : FrameBlind (gPre D B sz av g) := by
  intro a U g2 mk q
  obtain ⟨q0, q1, qP, ⟨qK, qN⟩, qD⟩ := q
  exact ⟨q0, q1, qP, ⟨va_K.moved (u := U) (U := U.calling g2 mk a) (Vm.Alike.refl U.vm) qK, gN.same (u := U) rfl qN⟩, qD⟩
theorem gMi_of {l : Launch} {D : va_G} {B : Nat → Nat} {y : MethodName} {ws ws' : List Cond} {rm : Room} {mc ms : Nat} {av : List Value} {g : sG} {post : Int32 → sG → Prop} {cc : ByteArray} {maxL : Nat} {ret : Option FieldType} (hy : plainName y.cls = true) (hw : ws = Cond.code y cc maxL ret :: ws') (hle : (lg_sl av).length ≤ maxL)
    (body : ∀ p e s m below meth c A, A = gA B g s.heap.size → gX p s m av.toArray meth c cc maxL ret ws y.cls D B A → GS D B A s.heap g s.heap [] → ∀ ls, lv_has ls maxL (lv_args 0 av) → W p l e (headSpec ws rm).room s m av.toArray below meth c s.heap [] 0 0 (MQ below (va_Qi post (gB D B A) A) av.toArray s mc ms A) (F0 m 0 ls [])) : gMi D B l y ws rm mc ms av g post := by
  intro sz
  refine Met.ofW (cc := cc) (maxL := maxL) (ret := ret) hy hw ?_
  intro p e s m args below meth c s₁ X hml hv
  obtain ⟨rfl, hsz, hP, ⟨hK, hN⟩, hD0⟩ := hv
  subst hsz
  have hts := atoms_spec (ws := ws) X.pre
  have hown : s.vm.findClass y.cls = some m.cls := findClass_of_methodNamed X.named
  have hD := hD0.self (sz := s.heap.size)
  have hA : ∀ q : Nat, s.heap.size ≤ q → (gA B g s.heap.size) q := fun q h => Or.inr h
  have hl := lv_entry av (n := maxL) hle
  rw [lg_entry_eq]
  exact body p e s m below meth c _ rfl ⟨X.exec, X.bytes, hml, hown, hts, hK, X.returns, X.notSynchronized, hA, hN⟩ ⟨hP, hD, va_S.rf⟩ _ hl
theorem gMl_of {l : Launch} {D : va_G} {B : Nat → Nat} {y : MethodName} {ws ws' : List Cond} {rm : Room} {mc ms : Nat} {av : List Value} {g : sG} {post : Int64 → sG → Prop} {cc : ByteArray} {maxL : Nat} {ret : Option FieldType} (hy : plainName y.cls = true) (hw : ws = Cond.code y cc maxL ret :: ws') (hle : (lg_sl av).length ≤ maxL)
    (body : ∀ p e s m below meth c A, A = gA B g s.heap.size → gX p s m av.toArray meth c cc maxL ret ws y.cls D B A → GS D B A s.heap g s.heap [] → ∀ ls, lv_has ls maxL (lv_args 0 av) → W p l e (headSpec ws rm).room s m av.toArray below meth c s.heap [] 0 0 (MQ below (va_Ql post (gB D B A) A) av.toArray s mc ms A) (F0 m 0 ls [])) : gMl D B l y ws rm mc ms av g post := by
  intro sz
  refine Met.ofW (cc := cc) (maxL := maxL) (ret := ret) hy hw ?_
  intro p e s m args below meth c s₁ X hml hv
  obtain ⟨rfl, hsz, hP, ⟨hK, hN⟩, hD0⟩ := hv
  subst hsz
  have hts := atoms_spec (ws := ws) X.pre
  have hown : s.vm.findClass y.cls = some m.cls := findClass_of_methodNamed X.named
  have hD := hD0.self (sz := s.heap.size)
  have hA : ∀ q : Nat, s.heap.size ≤ q → (gA B g s.heap.size) q := fun q h => Or.inr h
  have hl := lv_entry av (n := maxL) hle
  rw [lg_entry_eq]
  exact body p e s m below meth c _ rfl ⟨X.exec, X.bytes, hml, hown, hts, hK, X.returns, X.notSynchronized, hA, hN⟩ ⟨hP, hD, va_S.rf⟩ _ hl
theorem gMv_of {l : Launch} {D : va_G} {B : Nat → Nat} {y : MethodName} {ws ws' : List Cond} {rm : Room} {mc ms : Nat} {av : List Value} {g : sG} {post : sG → Prop} {cc : ByteArray} {maxL : Nat} {ret : Option FieldType} (hy : plainName y.cls = true) (hw : ws = Cond.code y cc maxL ret :: ws') (hle : (lg_sl av).length ≤ maxL)
    (body : ∀ p e s m below meth c A, A = gA B g s.heap.size → gX p s m av.toArray meth c cc maxL ret ws y.cls D B A → GS D B A s.heap g s.heap [] → ∀ ls, lv_has ls maxL (lv_args 0 av) → W p l e (headSpec ws rm).room s m av.toArray below meth c s.heap [] 0 0 (MQ below (va_Qv post (gB D B A) A) av.toArray s mc ms A) (F0 m 0 ls [])) : gMv D B l y ws rm mc ms av g post := by
  intro sz
  refine Met.ofW (cc := cc) (maxL := maxL) (ret := ret) hy hw ?_
  intro p e s m args below meth c s₁ X hml hv
  obtain ⟨rfl, hsz, hP, ⟨hK, hN⟩, hD0⟩ := hv
  subst hsz
  have hts := atoms_spec (ws := ws) X.pre
  have hown : s.vm.findClass y.cls = some m.cls := findClass_of_methodNamed X.named
  have hD := hD0.self (sz := s.heap.size)
  have hA : ∀ q : Nat, s.heap.size ≤ q → (gA B g s.heap.size) q := fun q h => Or.inr h
  have hl := lv_entry av (n := maxL) hle
  rw [lg_entry_eq]
  exact body p e s m below meth c _ rfl ⟨X.exec, X.bytes, hml, hown, hts, hK, X.returns, X.notSynchronized, hA, hN⟩ ⟨hP, hD, va_S.rf⟩ _ hl
theorem g_iret {p : Program} {l : Launch} {e : Env} {R : Room} {s : State} {m : MethodId} {args : Array Value} {below : List Frame} {meth : Method} {c : Code} {cc : ByteArray} {nL : Nat} {Ts : List Cond} {own : String} {D : va_G} {B : Nat → Nat} {A : Nat → Prop} {H : Heap} {locs : List Loc} {cells slots : Nat} {pc : Nat} {ls : Array Slot} {post : Int32 → sG → Prop} {g : sG} {v : Int32} (C : gX p s m args meth c cc nL (some .int) Ts own D B A) (hG : GS D B A s.heap g H locs) (hq : post v g) (hdg : decode cc pc = .ok (.ireturn, 1)) : W p l e R s m args below meth c H locs cells slots (MQ below (va_Qi post (gB D B A) A) args s cells slots A) (F0 m pc ls [.int v]) := by
  obtain ⟨hx, hb, hml, hown, hts, hK, hr, hlocks, hA, hN⟩ := C
  exact W.iret (v := v) hx hb hr (fun t ht hW => ⟨⟨v, g, rfl, hq, by rw [ht]; exact hG.1, hG.2.1⟩, hG.2.2.F ht⟩) hG.2.2.2.2 hdg
theorem g_zret {p : Program} {l : Launch} {e : Env} {R : Room} {s : State} {m : MethodId} {args : Array Value} {below : List Frame} {meth : Method} {c : Code} {cc : ByteArray} {nL : Nat} {Ts : List Cond} {own : String} {D : va_G} {B : Nat → Nat} {A : Nat → Prop} {H : Heap} {locs : List Loc} {cells slots : Nat} {pc : Nat} {ls : Array Slot} {post : Int32 → sG → Prop} {g : sG} {v : Int32} (C : gX p s m args meth c cc nL (some .boolean) Ts own D B A) (hG : GS D B A s.heap g H locs) (hn : narrow .boolean (.int v) = .int v) (hq : post v g) (hdg : decode cc pc = .ok (.ireturn, 1)) : W p l e R s m args below meth c H locs cells slots (MQ below (va_Qi post (gB D B A) A) args s cells slots A) (F0 m pc ls [.int v]) := by
  obtain ⟨hx, hb, hml, hown, hts, hK, hr, hlocks, hA, hN⟩ := C
  exact W.zret (v := v) hx hb hr hn (fun t ht hW => ⟨⟨v, g, rfl, hq, by rw [ht]; exact hG.1, hG.2.1⟩, hG.2.2.F ht⟩) hG.2.2.2.2 hdg
theorem g_lret {p : Program} {l : Launch} {e : Env} {R : Room} {s : State} {m : MethodId} {args : Array Value} {below : List Frame} {meth : Method} {c : Code} {cc : ByteArray} {nL : Nat} {Ts : List Cond} {own : String} {D : va_G} {B : Nat → Nat} {A : Nat → Prop} {H : Heap} {locs : List Loc} {cells slots : Nat} {pc : Nat} {ls : Array Slot} {post : Int64 → sG → Prop} {g : sG} {v : Int64} (C : gX p s m args meth c cc nL (some .long) Ts own D B A) (hG : GS D B A s.heap g H locs) (hq : post v g) (hdg : decode cc pc = .ok (.lreturn, 1)) : W p l e R s m args below meth c H locs cells slots (MQ below (va_Ql post (gB D B A) A) args s cells slots A) (F0 m pc ls [.long v]) := by
  obtain ⟨hx, hb, hml, hown, hts, hK, hr, hlocks, hA, hN⟩ := C
  exact W.lret (v := v) hx hb hr (fun t ht hW => ⟨⟨v, g, rfl, hq, by rw [ht]; exact hG.1, hG.2.1⟩, hG.2.2.F ht⟩) hG.2.2.2.2 hdg
theorem g_vret {p : Program} {l : Launch} {e : Env} {R : Room} {s : State} {m : MethodId} {args : Array Value} {below : List Frame} {meth : Method} {c : Code} {cc : ByteArray} {nL : Nat} {Ts : List Cond} {own : String} {D : va_G} {B : Nat → Nat} {A : Nat → Prop} {H : Heap} {locs : List Loc} {cells slots : Nat} {pc : Nat} {ls : Array Slot} {post : sG → Prop} {g : sG} (C : gX p s m args meth c cc nL none Ts own D B A) (hG : GS D B A s.heap g H locs) (hq : post g) (hdg : decode cc pc = .ok (.return_, 1)) : W p l e R s m args below meth c H locs cells slots (MQ below (va_Qv post (gB D B A) A) args s cells slots A) (F0 m pc ls []) := by
  obtain ⟨hx, hb, hml, hown, hts, hK, hr, hlocks, hA, hN⟩ := C
  exact W.vret hx hb hr (fun t ht hW => ⟨⟨g, rfl, hq, by rw [ht]; exact hG.1, hG.2.1⟩, hG.2.2.F ht⟩) hG.2.2.2.2 hdg
theorem gA_in {D : va_G} {B : Nat → Nat} {A : Nat → Prop} {H0 H : Heap} {g : sG} {locs : List Loc} (hG : GS D B A H0 g H locs) (hA : ∀ q, H0.size ≤ q → A q) : ∀ q, gA B g H.size q → A q := by
  intro q h
  rcases h with ⟨k, e, h⟩ | h
  · exact hG.2.1.2 k (q, e) h
  · exact hA q (Nat.le_trans hG.2.2.1 h)
theorem g_callVi {p : Program} {l : Launch} {e : Env} {R : Room} {s : State} {m : MethodId} {args : Array Value} {below : List Frame} {meth : Method} {c : Code} {cc : ByteArray} {nL : Nat} {ret : Option FieldType} {Ts : List Cond} {own : String} {D : va_G} {B : Nat → Nat} {A : Nat → Prop} {H : Heap} {locs : List Loc} {cells slots : Nat} {Q : State → Prop} {pc : Nat} {ls : Array Slot} {rest : List Value} {y : MethodName} {ws : List Cond} {rm : Room} {mc ms index maxL n : Nat} {bytes : ByteArray} {rt : Option FieldType} {As st : List Value} {b : Nat} {g : sG} {post : Int32 → sG → Prop} (C : gX p s m args meth c cc nL ret Ts own D B A) (hG : GS D B A s.heap g H locs) (hM : gMi D B l y ws rm mc ms (.ref b :: As) g post) {Cc : String} (cw : CallW R s args own Cc index y bytes maxL rt ws rm mc ms n) (hrc : ∃ cell : Cell, H[b]? = some cell ∧ cell.vm.isStatics = false ∧ s.vm.findClass Cc = some cell.cls) (hn : As.length = n) (hsz : ls.size = nL) (hst : st = (As.reverse ++ .ref b :: rest)) (hro : (rest.map fun v => v.category).sum ≤ 8) (hdg : decode cc pc = .ok (.invokevirtual index, 3)) (hf : cells + mc ≤ R.cells ∧ slots + ms ≤ R.slots)
    (kk : ∀ (r : Int32) (g1 : sG) (H : Heap) (locs : List Loc), post r g1 → GS D B A s.heap g1 H locs → W p l e R s m args below meth c H locs (cells + mc) (slots + ms) Q (F0 m (pc + 3) ls (.int r :: rest))) : W p l e R s m args below meth c H locs cells slots Q (F0 m pc ls st) := by
  have hFc := gA_in hG C.2.2.2.2.2.2.2.2.1
  obtain ⟨hx, hb, hml, hown, hts, hK, hr, hlocks, hA, hN⟩ := C
  refine va_calli (va_runV (As := As) (rest := rest) ⟨hx, hb, hml, hown, hts⟩ (hM H.size) cw ⟨gPre_blind, hrc, fun U hU hW => ⟨rfl, by rw [hU], by rw [hU]; exact hG.1, ⟨va_K.moved hW.alike hK, hN.warm hW⟩, hG.2.1.weaken (fun _ _ _ _ => trivial)⟩⟩ rfl hn hsz hst (lv_room hro) hdg hf) hG.2.2 (fun q _ h => hFc q h) hFc (fun r u t H1 locs ht hvm hw hB hz1 hk1 hS => ?_)
  obtain ⟨hP1, hD1⟩ := hB
  rw [ht] at hP1
  exact kk r _ _ _ hw ⟨hP1, hD1.weaken (fun k q _ h => hFc q.1 h), hS⟩
theorem g_callVl {p : Program} {l : Launch} {e : Env} {R : Room} {s : State} {m : MethodId} {args : Array Value} {below : List Frame} {meth : Method} {c : Code} {cc : ByteArray} {nL : Nat} {ret : Option FieldType} {Ts : List Cond} {own : String} {D : va_G} {B : Nat → Nat} {A : Nat → Prop} {H : Heap} {locs : List Loc} {cells slots : Nat} {Q : State → Prop} {pc : Nat} {ls : Array Slot} {rest : List Value} {y : MethodName} {ws : List Cond} {rm : Room} {mc ms index maxL n : Nat} {bytes : ByteArray} {rt : Option FieldType} {As st : List Value} {b : Nat} {g : sG} {post : Int64 → sG → Prop} (C : gX p s m args meth c cc nL ret Ts own D B A) (hG : GS D B A s.heap g H locs) (hM : gMl D B l y ws rm mc ms (.ref b :: As) g post) {Cc : String} (cw : CallW R s args own Cc index y bytes maxL rt ws rm mc ms n) (hrc : ∃ cell : Cell, H[b]? = some cell ∧ cell.vm.isStatics = false ∧ s.vm.findClass Cc = some cell.cls) (hn : As.length = n) (hsz : ls.size = nL) (hst : st = (As.reverse ++ .ref b :: rest)) (hro : (rest.map fun v => v.category).sum ≤ 8) (hdg : decode cc pc = .ok (.invokevirtual index, 3)) (hf : cells + mc ≤ R.cells ∧ slots + ms ≤ R.slots)
    (kk : ∀ (r : Int64) (g1 : sG) (H : Heap) (locs : List Loc), post r g1 → GS D B A s.heap g1 H locs → W p l e R s m args below meth c H locs (cells + mc) (slots + ms) Q (F0 m (pc + 3) ls (.long r :: rest))) : W p l e R s m args below meth c H locs cells slots Q (F0 m pc ls st) := by
  have hFc := gA_in hG C.2.2.2.2.2.2.2.2.1
  obtain ⟨hx, hb, hml, hown, hts, hK, hr, hlocks, hA, hN⟩ := C
  refine va_calll (va_runV (As := As) (rest := rest) ⟨hx, hb, hml, hown, hts⟩ (hM H.size) cw ⟨gPre_blind, hrc, fun U hU hW => ⟨rfl, by rw [hU], by rw [hU]; exact hG.1, ⟨va_K.moved hW.alike hK, hN.warm hW⟩, hG.2.1.weaken (fun _ _ _ _ => trivial)⟩⟩ rfl hn hsz hst (lv_room hro) hdg hf) hG.2.2 (fun q _ h => hFc q h) hFc (fun r u t H1 locs ht hvm hw hB hz1 hk1 hS => ?_)
  obtain ⟨hP1, hD1⟩ := hB
  rw [ht] at hP1
  exact kk r _ _ _ hw ⟨hP1, hD1.weaken (fun k q _ h => hFc q.1 h), hS⟩
theorem g_callVv {p : Program} {l : Launch} {e : Env} {R : Room} {s : State} {m : MethodId} {args : Array Value} {below : List Frame} {meth : Method} {c : Code} {cc : ByteArray} {nL : Nat} {ret : Option FieldType} {Ts : List Cond} {own : String} {D : va_G} {B : Nat → Nat} {A : Nat → Prop} {H : Heap} {locs : List Loc} {cells slots : Nat} {Q : State → Prop} {pc : Nat} {ls : Array Slot} {rest : List Value} {y : MethodName} {ws : List Cond} {rm : Room} {mc ms index maxL n : Nat} {bytes : ByteArray} {rt : Option FieldType} {As st : List Value} {b : Nat} {g : sG} {post : sG → Prop} (C : gX p s m args meth c cc nL ret Ts own D B A) (hG : GS D B A s.heap g H locs) (hM : gMv D B l y ws rm mc ms (.ref b :: As) g post) {Cc : String} (cw : CallW R s args own Cc index y bytes maxL rt ws rm mc ms n) (hrc : ∃ cell : Cell, H[b]? = some cell ∧ cell.vm.isStatics = false ∧ s.vm.findClass Cc = some cell.cls) (hn : As.length = n) (hsz : ls.size = nL) (hst : st = (As.reverse ++ .ref b :: rest)) (hro : (rest.map fun v => v.category).sum ≤ 8) (hdg : decode cc pc = .ok (.invokevirtual index, 3)) (hf : cells + mc ≤ R.cells ∧ slots + ms ≤ R.slots)
    (kk : ∀ (g1 : sG) (H : Heap) (locs : List Loc), post g1 → GS D B A s.heap g1 H locs → W p l e R s m args below meth c H locs (cells + mc) (slots + ms) Q (F0 m (pc + 3) ls (rest))) : W p l e R s m args below meth c H locs cells slots Q (F0 m pc ls st) := by
  have hFc := gA_in hG C.2.2.2.2.2.2.2.2.1
  obtain ⟨hx, hb, hml, hown, hts, hK, hr, hlocks, hA, hN⟩ := C
  refine va_callv (va_runV (As := As) (rest := rest) ⟨hx, hb, hml, hown, hts⟩ (hM H.size) cw ⟨gPre_blind, hrc, fun U hU hW => ⟨rfl, by rw [hU], by rw [hU]; exact hG.1, ⟨va_K.moved hW.alike hK, hN.warm hW⟩, hG.2.1.weaken (fun _ _ _ _ => trivial)⟩⟩ rfl hn hsz hst (lv_room hro) hdg hf) hG.2.2 (fun q _ h => hFc q h) hFc (fun u t H1 locs ht hvm hw hB hz1 hk1 hS => ?_)
  obtain ⟨hP1, hD1⟩ := hB
  rw [ht] at hP1
  exact kk _ _ _ hw ⟨hP1, hD1.weaken (fun k q _ h => hFc q.1 h), hS⟩
theorem g_callSi {p : Program} {l : Launch} {e : Env} {R : Room} {s : State} {m : MethodId} {args : Array Value} {below : List Frame} {meth : Method} {c : Code} {cc : ByteArray} {nL : Nat} {ret : Option FieldType} {Ts : List Cond} {own : String} {D : va_G} {B : Nat → Nat} {A : Nat → Prop} {H : Heap} {locs : List Loc} {cells slots : Nat} {Q : State → Prop} {pc : Nat} {ls : Array Slot} {rest : List Value} {y : MethodName} {ws : List Cond} {rm : Room} {mc ms index maxL n : Nat} {bytes : ByteArray} {rt : Option FieldType} {As st : List Value} {g : sG} {post : Int32 → sG → Prop} (C : gX p s m args meth c cc nL ret Ts own D B A) (hG : GS D B A s.heap g H locs) (hM : gMi D B l y ws rm mc ms As g post) (cw : CallB R s args own index y bytes maxL rt ws rm mc ms n ∧ (Cond.static y).before args s = true) (hn : As.length = n) (hsz : ls.size = nL) (hst : st = (As.reverse ++ rest)) (hro : (rest.map fun v => v.category).sum ≤ 8) (hdg : decode cc pc = .ok (.invokestatic index, 3)) (hf : cells + mc ≤ R.cells ∧ slots + ms ≤ R.slots)
    (kk : ∀ (r : Int32) (g1 : sG) (H : Heap) (locs : List Loc), post r g1 → GS D B A s.heap g1 H locs → W p l e R s m args below meth c H locs (cells + mc) (slots + ms) Q (F0 m (pc + 3) ls (.int r :: rest))) : W p l e R s m args below meth c H locs cells slots Q (F0 m pc ls st) := by
  have hFc := gA_in hG C.2.2.2.2.2.2.2.2.1
  obtain ⟨hx, hb, hml, hown, hts, hK, hr, hlocks, hA, hN⟩ := C
  refine va_calli (va_runS (As := As) (rest := rest) ⟨hx, hb, hml, hown, hts⟩ (hM H.size) cw ⟨gPre_blind, fun U hU hW => ⟨rfl, by rw [hU], by rw [hU]; exact hG.1, ⟨va_K.moved hW.alike hK, hN.warm hW⟩, hG.2.1.weaken (fun _ _ _ _ => trivial)⟩⟩ rfl hn hsz hst (lv_room hro) hdg hf) hG.2.2 (fun q _ h => hFc q h) hFc (fun r u t H1 locs ht hvm hw hB hz1 hk1 hS => ?_)
  obtain ⟨hP1, hD1⟩ := hB
  rw [ht] at hP1
  exact kk r _ _ _ hw ⟨hP1, hD1.weaken (fun k q _ h => hFc q.1 h), hS⟩
theorem g_callSl {p : Program} {l : Launch} {e : Env} {R : Room} {s : State} {m : MethodId} {args : Array Value} {below : List Frame} {meth : Method} {c : Code} {cc : ByteArray} {nL : Nat} {ret : Option FieldType} {Ts : List Cond} {own : String} {D : va_G} {B : Nat → Nat} {A : Nat → Prop} {H : Heap} {locs : List Loc} {cells slots : Nat} {Q : State → Prop} {pc : Nat} {ls : Array Slot} {rest : List Value} {y : MethodName} {ws : List Cond} {rm : Room} {mc ms index maxL n : Nat} {bytes : ByteArray} {rt : Option FieldType} {As st : List Value} {g : sG} {post : Int64 → sG → Prop} (C : gX p s m args meth c cc nL ret Ts own D B A) (hG : GS D B A s.heap g H locs) (hM : gMl D B l y ws rm mc ms As g post) (cw : CallB R s args own index y bytes maxL rt ws rm mc ms n ∧ (Cond.static y).before args s = true) (hn : As.length = n) (hsz : ls.size = nL) (hst : st = (As.reverse ++ rest)) (hro : (rest.map fun v => v.category).sum ≤ 8) (hdg : decode cc pc = .ok (.invokestatic index, 3)) (hf : cells + mc ≤ R.cells ∧ slots + ms ≤ R.slots)
    (kk : ∀ (r : Int64) (g1 : sG) (H : Heap) (locs : List Loc), post r g1 → GS D B A s.heap g1 H locs → W p l e R s m args below meth c H locs (cells + mc) (slots + ms) Q (F0 m (pc + 3) ls (.long r :: rest))) : W p l e R s m args below meth c H locs cells slots Q (F0 m pc ls st) := by
  have hFc := gA_in hG C.2.2.2.2.2.2.2.2.1
  obtain ⟨hx, hb, hml, hown, hts, hK, hr, hlocks, hA, hN⟩ := C
  refine va_calll (va_runS (As := As) (rest := rest) ⟨hx, hb, hml, hown, hts⟩ (hM H.size) cw ⟨gPre_blind, fun U hU hW => ⟨rfl, by rw [hU], by rw [hU]; exact hG.1, ⟨va_K.moved hW.alike hK, hN.warm hW⟩, hG.2.1.weaken (fun _ _ _ _ => trivial)⟩⟩ rfl hn hsz hst (lv_room hro) hdg hf) hG.2.2 (fun q _ h => hFc q h) hFc (fun r u t H1 locs ht hvm hw hB hz1 hk1 hS => ?_)
  obtain ⟨hP1, hD1⟩ := hB
  rw [ht] at hP1
  exact kk r _ _ _ hw ⟨hP1, hD1.weaken (fun k q _ h => hFc q.1 h), hS⟩
theorem g_callSv {p : Program} {l : Launch} {e : Env} {R : Room} {s : State} {m : MethodId} {args : Array Value} {below : List Frame} {meth : Method} {c : Code} {cc : ByteArray} {nL : Nat} {ret : Option FieldType} {Ts : List Cond} {own : String} {D : va_G} {B : Nat → Nat} {A : Nat → Prop} {H : Heap} {locs : List Loc} {cells slots : Nat} {Q : State → Prop} {pc : Nat} {ls : Array Slot} {rest : List Value} {y : MethodName} {ws : List Cond} {rm : Room} {mc ms index maxL n : Nat} {bytes : ByteArray} {rt : Option FieldType} {As st : List Value} {g : sG} {post : sG → Prop} (C : gX p s m args meth c cc nL ret Ts own D B A) (hG : GS D B A s.heap g H locs) (hM : gMv D B l y ws rm mc ms As g post) (cw : CallB R s args own index y bytes maxL rt ws rm mc ms n ∧ (Cond.static y).before args s = true) (hn : As.length = n) (hsz : ls.size = nL) (hst : st = (As.reverse ++ rest)) (hro : (rest.map fun v => v.category).sum ≤ 8) (hdg : decode cc pc = .ok (.invokestatic index, 3)) (hf : cells + mc ≤ R.cells ∧ slots + ms ≤ R.slots)
    (kk : ∀ (g1 : sG) (H : Heap) (locs : List Loc), post g1 → GS D B A s.heap g1 H locs → W p l e R s m args below meth c H locs (cells + mc) (slots + ms) Q (F0 m (pc + 3) ls (rest))) : W p l e R s m args below meth c H locs cells slots Q (F0 m pc ls st) := by
  have hFc := gA_in hG C.2.2.2.2.2.2.2.2.1
  obtain ⟨hx, hb, hml, hown, hts, hK, hr, hlocks, hA, hN⟩ := C
  refine va_callv (va_runS (As := As) (rest := rest) ⟨hx, hb, hml, hown, hts⟩ (hM H.size) cw ⟨gPre_blind, fun U hU hW => ⟨rfl, by rw [hU], by rw [hU]; exact hG.1, ⟨va_K.moved hW.alike hK, hN.warm hW⟩, hG.2.1.weaken (fun _ _ _ _ => trivial)⟩⟩ rfl hn hsz hst (lv_room hro) hdg hf) hG.2.2 (fun q _ h => hFc q h) hFc (fun u t H1 locs ht hvm hw hB hz1 hk1 hS => ?_)
  obtain ⟨hP1, hD1⟩ := hB
  rw [ht] at hP1
  exact kk _ _ _ hw ⟨hP1, hD1.weaken (fun k q _ h => hFc q.1 h), hS⟩
theorem g_callNi {p : Program} {l : Launch} {e : Env} {R : Room} {s : State} {m : MethodId} {args : Array Value} {below : List Frame} {meth : Method} {c : Code} {cc : ByteArray} {nL : Nat} {ret : Option FieldType} {Ts : List Cond} {own : String} {D : va_G} {B : Nat → Nat} {A : Nat → Prop} {H : Heap} {locs : List Loc} {cells slots : Nat} {Q : State → Prop} {pc : Nat} {ls : Array Slot} {rest : List Value} {y : MethodName} {ws : List Cond} {rm : Room} {mc ms index maxL n : Nat} {bytes : ByteArray} {rt : Option FieldType} {As st : List Value} {g : sG} {post : Int32 → sG → Prop} (C : gX p s m args meth c cc nL ret Ts own D B A) (hG : GS D B A s.heap g H locs) (hM : gMi D B l y ws rm mc ms As g post) {host : String} (cw : va_CN R s args own index y host bytes maxL rt ws rm mc ms n ∧ (Cond.static y).before args s = true ∧ True) (hn : As.length = n) (hsz : ls.size = nL) (hst : st = (As.reverse ++ rest)) (hro : (rest.map fun v => v.category).sum ≤ 8) (hdg : decode cc pc = .ok (.invokestatic index, 3)) (hf : cells + mc ≤ R.cells ∧ slots + ms ≤ R.slots)
    (kk : ∀ (r : Int32) (g1 : sG) (H : Heap) (locs : List Loc), post r g1 → GS D B A s.heap g1 H locs → W p l e R s m args below meth c H locs (cells + mc) (slots + ms) Q (F0 m (pc + 3) ls (.int r :: rest))) : W p l e R s m args below meth c H locs cells slots Q (F0 m pc ls st) := by
  have hFc := gA_in hG C.2.2.2.2.2.2.2.2.1
  obtain ⟨hx, hb, hml, hown, hts, hK, hr, hlocks, hA, hN⟩ := C
  refine va_calli (va_runSN (As := As) (rest := rest) ⟨hx, hb, hml, hown, hts⟩ (hM H.size) cw ⟨gPre_blind, fun U hU hW => ⟨rfl, by rw [hU], by rw [hU]; exact hG.1, ⟨va_K.moved hW.alike hK, hN.warm hW⟩, hG.2.1.weaken (fun _ _ _ _ => trivial)⟩⟩ rfl hn hsz hst (lv_room hro) hdg hf) hG.2.2 (fun q _ h => hFc q h) hFc (fun r u t H1 locs ht hvm hw hB hz1 hk1 hS => ?_)
  obtain ⟨hP1, hD1⟩ := hB
  rw [ht] at hP1
  exact kk r _ _ _ hw ⟨hP1, hD1.weaken (fun k q _ h => hFc q.1 h), hS⟩
theorem g_callNl {p : Program} {l : Launch} {e : Env} {R : Room} {s : State} {m : MethodId} {args : Array Value} {below : List Frame} {meth : Method} {c : Code} {cc : ByteArray} {nL : Nat} {ret : Option FieldType} {Ts : List Cond} {own : String} {D : va_G} {B : Nat → Nat} {A : Nat → Prop} {H : Heap} {locs : List Loc} {cells slots : Nat} {Q : State → Prop} {pc : Nat} {ls : Array Slot} {rest : List Value} {y : MethodName} {ws : List Cond} {rm : Room} {mc ms index maxL n : Nat} {bytes : ByteArray} {rt : Option FieldType} {As st : List Value} {g : sG} {post : Int64 → sG → Prop} (C : gX p s m args meth c cc nL ret Ts own D B A) (hG : GS D B A s.heap g H locs) (hM : gMl D B l y ws rm mc ms As g post) {host : String} (cw : va_CN R s args own index y host bytes maxL rt ws rm mc ms n ∧ (Cond.static y).before args s = true ∧ True) (hn : As.length = n) (hsz : ls.size = nL) (hst : st = (As.reverse ++ rest)) (hro : (rest.map fun v => v.category).sum ≤ 8) (hdg : decode cc pc = .ok (.invokestatic index, 3)) (hf : cells + mc ≤ R.cells ∧ slots + ms ≤ R.slots)
    (kk : ∀ (r : Int64) (g1 : sG) (H : Heap) (locs : List Loc), post r g1 → GS D B A s.heap g1 H locs → W p l e R s m args below meth c H locs (cells + mc) (slots + ms) Q (F0 m (pc + 3) ls (.long r :: rest))) : W p l e R s m args below meth c H locs cells slots Q (F0 m pc ls st) := by
  have hFc := gA_in hG C.2.2.2.2.2.2.2.2.1
  obtain ⟨hx, hb, hml, hown, hts, hK, hr, hlocks, hA, hN⟩ := C
  refine va_calll (va_runSN (As := As) (rest := rest) ⟨hx, hb, hml, hown, hts⟩ (hM H.size) cw ⟨gPre_blind, fun U hU hW => ⟨rfl, by rw [hU], by rw [hU]; exact hG.1, ⟨va_K.moved hW.alike hK, hN.warm hW⟩, hG.2.1.weaken (fun _ _ _ _ => trivial)⟩⟩ rfl hn hsz hst (lv_room hro) hdg hf) hG.2.2 (fun q _ h => hFc q h) hFc (fun r u t H1 locs ht hvm hw hB hz1 hk1 hS => ?_)
  obtain ⟨hP1, hD1⟩ := hB
  rw [ht] at hP1
  exact kk r _ _ _ hw ⟨hP1, hD1.weaken (fun k q _ h => hFc q.1 h), hS⟩
theorem g_callNv {p : Program} {l : Launch} {e : Env} {R : Room} {s : State} {m : MethodId} {args : Array Value} {below : List Frame} {meth : Method} {c : Code} {cc : ByteArray} {nL : Nat} {ret : Option FieldType} {Ts : List Cond} {own : String} {D : va_G} {B : Nat → Nat} {A : Nat → Prop} {H : Heap} {locs : List Loc} {cells slots : Nat} {Q : State → Prop} {pc : Nat} {ls : Array Slot} {rest : List Value} {y : MethodName} {ws : List Cond} {rm : Room} {mc ms index maxL n : Nat} {bytes : ByteArray} {rt : Option FieldType} {As st : List Value} {g : sG} {post : sG → Prop} (C : gX p s m args meth c cc nL ret Ts own D B A) (hG : GS D B A s.heap g H locs) (hM : gMv D B l y ws rm mc ms As g post) {host : String} (cw : va_CN R s args own index y host bytes maxL rt ws rm mc ms n ∧ (Cond.static y).before args s = true ∧ True) (hn : As.length = n) (hsz : ls.size = nL) (hst : st = (As.reverse ++ rest)) (hro : (rest.map fun v => v.category).sum ≤ 8) (hdg : decode cc pc = .ok (.invokestatic index, 3)) (hf : cells + mc ≤ R.cells ∧ slots + ms ≤ R.slots)
    (kk : ∀ (g1 : sG) (H : Heap) (locs : List Loc), post g1 → GS D B A s.heap g1 H locs → W p l e R s m args below meth c H locs (cells + mc) (slots + ms) Q (F0 m (pc + 3) ls (rest))) : W p l e R s m args below meth c H locs cells slots Q (F0 m pc ls st) := by
  have hFc := gA_in hG C.2.2.2.2.2.2.2.2.1
  obtain ⟨hx, hb, hml, hown, hts, hK, hr, hlocks, hA, hN⟩ := C
  refine va_callv (va_runSN (As := As) (rest := rest) ⟨hx, hb, hml, hown, hts⟩ (hM H.size) cw ⟨gPre_blind, fun U hU hW => ⟨rfl, by rw [hU], by rw [hU]; exact hG.1, ⟨va_K.moved hW.alike hK, hN.warm hW⟩, hG.2.1.weaken (fun _ _ _ _ => trivial)⟩⟩ rfl hn hsz hst (lv_room hro) hdg hf) hG.2.2 (fun q _ h => hFc q h) hFc (fun u t H1 locs ht hvm hw hB hz1 hk1 hS => ?_)
  obtain ⟨hP1, hD1⟩ := hB
  rw [ht] at hP1
  exact kk _ _ _ hw ⟨hP1, hD1.weaken (fun k q _ h => hFc q.1 h), hS⟩
theorem g_callVi0 {p : Program} {l : Launch} {e : Env} {R : Room} {s : State} {m : MethodId} {args : Array Value} {below : List Frame} {meth : Method} {c : Code} {cc : ByteArray} {nL : Nat} {ret : Option FieldType} {Ts : List Cond} {own : String} {D : va_G} {B : Nat → Nat} {A : Nat → Prop} {H : Heap} {locs : List Loc} {cells slots : Nat} {Q : State → Prop} {pc : Nat} {ls : Array Slot} {rest : List Value} {y : MethodName} {ws : List Cond} {rm : Room} {index maxL n : Nat} {bytes : ByteArray} {rt : Option FieldType} {As st : List Value} {b : Nat} {g : sG} {post : Int32 → sG → Prop} (C : gX p s m args meth c cc nL ret Ts own D B A) (hG : GS D B A s.heap g H locs) (hM : gMi D B l y ws rm 0 0 (.ref b :: As) g post) {Cc : String} (cw : CallW R s args own Cc index y bytes maxL rt ws rm 0 0 n) (hrc : ∃ cell : Cell, H[b]? = some cell ∧ cell.vm.isStatics = false ∧ s.vm.findClass Cc = some cell.cls) (hn : As.length = n) (hsz : ls.size = nL) (hst : st = (As.reverse ++ .ref b :: rest)) (hro : (rest.map fun v => v.category).sum ≤ 8) (hdg : decode cc pc = .ok (.invokevirtual index, 3)) (hf : cells ≤ R.cells ∧ slots ≤ R.slots)
    (kk : ∀ (r : Int32) (g1 : sG) (H : Heap) (locs : List Loc), post r g1 → GS D B A s.heap g1 H locs → W p l e R s m args below meth c H locs cells slots Q (F0 m (pc + 3) ls (.int r :: rest))) : W p l e R s m args below meth c H locs cells slots Q (F0 m pc ls st) :=
  g_callVi (mc := 0) (ms := 0) C hG hM cw hrc hn hsz hst hro hdg hf kk
theorem g_callVl0 {p : Program} {l : Launch} {e : Env} {R : Room} {s : State} {m : MethodId} {args : Array Value} {below : List Frame} {meth : Method} {c : Code} {cc : ByteArray} {nL : Nat} {ret : Option FieldType} {Ts : List Cond} {own : String} {D : va_G} {B : Nat → Nat} {A : Nat → Prop} {H : Heap} {locs : List Loc} {cells slots : Nat} {Q : State → Prop} {pc : Nat} {ls : Array Slot} {rest : List Value} {y : MethodName} {ws : List Cond} {rm : Room} {index maxL n : Nat} {bytes : ByteArray} {rt : Option FieldType} {As st : List Value} {b : Nat} {g : sG} {post : Int64 → sG → Prop} (C : gX p s m args meth c cc nL ret Ts own D B A) (hG : GS D B A s.heap g H locs) (hM : gMl D B l y ws rm 0 0 (.ref b :: As) g post) {Cc : String} (cw : CallW R s args own Cc index y bytes maxL rt ws rm 0 0 n) (hrc : ∃ cell : Cell, H[b]? = some cell ∧ cell.vm.isStatics = false ∧ s.vm.findClass Cc = some cell.cls) (hn : As.length = n) (hsz : ls.size = nL) (hst : st = (As.reverse ++ .ref b :: rest)) (hro : (rest.map fun v => v.category).sum ≤ 8) (hdg : decode cc pc = .ok (.invokevirtual index, 3)) (hf : cells ≤ R.cells ∧ slots ≤ R.slots)
    (kk : ∀ (r : Int64) (g1 : sG) (H : Heap) (locs : List Loc), post r g1 → GS D B A s.heap g1 H locs → W p l e R s m args below meth c H locs cells slots Q (F0 m (pc + 3) ls (.long r :: rest))) : W p l e R s m args below meth c H locs cells slots Q (F0 m pc ls st) :=
  g_callVl (mc := 0) (ms := 0) C hG hM cw hrc hn hsz hst hro hdg hf kk
theorem g_callVv0 {p : Program} {l : Launch} {e : Env} {R : Room} {s : State} {m : MethodId} {args : Array Value} {below : List Frame} {meth : Method} {c : Code} {cc : ByteArray} {nL : Nat} {ret : Option FieldType} {Ts : List Cond} {own : String} {D : va_G} {B : Nat → Nat} {A : Nat → Prop} {H : Heap} {locs : List Loc} {cells slots : Nat} {Q : State → Prop} {pc : Nat} {ls : Array Slot} {rest : List Value} {y : MethodName} {ws : List Cond} {rm : Room} {index maxL n : Nat} {bytes : ByteArray} {rt : Option FieldType} {As st : List Value} {b : Nat} {g : sG} {post : sG → Prop} (C : gX p s m args meth c cc nL ret Ts own D B A) (hG : GS D B A s.heap g H locs) (hM : gMv D B l y ws rm 0 0 (.ref b :: As) g post) {Cc : String} (cw : CallW R s args own Cc index y bytes maxL rt ws rm 0 0 n) (hrc : ∃ cell : Cell, H[b]? = some cell ∧ cell.vm.isStatics = false ∧ s.vm.findClass Cc = some cell.cls) (hn : As.length = n) (hsz : ls.size = nL) (hst : st = (As.reverse ++ .ref b :: rest)) (hro : (rest.map fun v => v.category).sum ≤ 8) (hdg : decode cc pc = .ok (.invokevirtual index, 3)) (hf : cells ≤ R.cells ∧ slots ≤ R.slots)
    (kk : ∀ (g1 : sG) (H : Heap) (locs : List Loc), post g1 → GS D B A s.heap g1 H locs → W p l e R s m args below meth c H locs cells slots Q (F0 m (pc + 3) ls (rest))) : W p l e R s m args below meth c H locs cells slots Q (F0 m pc ls st) :=
  g_callVv (mc := 0) (ms := 0) C hG hM cw hrc hn hsz hst hro hdg hf kk
theorem g_callSi0 {p : Program} {l : Launch} {e : Env} {R : Room} {s : State} {m : MethodId} {args : Array Value} {below : List Frame} {meth : Method} {c : Code} {cc : ByteArray} {nL : Nat} {ret : Option FieldType} {Ts : List Cond} {own : String} {D : va_G} {B : Nat → Nat} {A : Nat → Prop} {H : Heap} {locs : List Loc} {cells slots : Nat} {Q : State → Prop} {pc : Nat} {ls : Array Slot} {rest : List Value} {y : MethodName} {ws : List Cond} {rm : Room} {index maxL n : Nat} {bytes : ByteArray} {rt : Option FieldType} {As st : List Value} {g : sG} {post : Int32 → sG → Prop} (C : gX p s m args meth c cc nL ret Ts own D B A) (hG : GS D B A s.heap g H locs) (hM : gMi D B l y ws rm 0 0 As g post) (cw : CallB R s args own index y bytes maxL rt ws rm 0 0 n ∧ (Cond.static y).before args s = true) (hn : As.length = n) (hsz : ls.size = nL) (hst : st = (As.reverse ++ rest)) (hro : (rest.map fun v => v.category).sum ≤ 8) (hdg : decode cc pc = .ok (.invokestatic index, 3)) (hf : cells ≤ R.cells ∧ slots ≤ R.slots)
    (kk : ∀ (r : Int32) (g1 : sG) (H : Heap) (locs : List Loc), post r g1 → GS D B A s.heap g1 H locs → W p l e R s m args below meth c H locs cells slots Q (F0 m (pc + 3) ls (.int r :: rest))) : W p l e R s m args below meth c H locs cells slots Q (F0 m pc ls st) :=
  g_callSi (mc := 0) (ms := 0) C hG hM cw hn hsz hst hro hdg hf kk
theorem g_callSl0 {p : Program} {l : Launch} {e : Env} {R : Room} {s : State} {m : MethodId} {args : Array Value} {below : List Frame} {meth : Method} {c : Code} {cc : ByteArray} {nL : Nat} {ret : Option FieldType} {Ts : List Cond} {own : String} {D : va_G} {B : Nat → Nat} {A : Nat → Prop} {H : Heap} {locs : List Loc} {cells slots : Nat} {Q : State → Prop} {pc : Nat} {ls : Array Slot} {rest : List Value} {y : MethodName} {ws : List Cond} {rm : Room} {index maxL n : Nat} {bytes : ByteArray} {rt : Option FieldType} {As st : List Value} {g : sG} {post : Int64 → sG → Prop} (C : gX p s m args meth c cc nL ret Ts own D B A) (hG : GS D B A s.heap g H locs) (hM : gMl D B l y ws rm 0 0 As g post) (cw : CallB R s args own index y bytes maxL rt ws rm 0 0 n ∧ (Cond.static y).before args s = true) (hn : As.length = n) (hsz : ls.size = nL) (hst : st = (As.reverse ++ rest)) (hro : (rest.map fun v => v.category).sum ≤ 8) (hdg : decode cc pc = .ok (.invokestatic index, 3)) (hf : cells ≤ R.cells ∧ slots ≤ R.slots)
    (kk : ∀ (r : Int64) (g1 : sG) (H : Heap) (locs : List Loc), post r g1 → GS D B A s.heap g1 H locs → W p l e R s m args below meth c H locs cells slots Q (F0 m (pc + 3) ls (.long r :: rest))) : W p l e R s m args below meth c H locs cells slots Q (F0 m pc ls st) :=
  g_callSl (mc := 0) (ms := 0) C hG hM cw hn hsz hst hro hdg hf kk
theorem g_callSv0 {p : Program} {l : Launch} {e : Env} {R : Room} {s : State} {m : MethodId} {args : Array Value} {below : List Frame} {meth : Method} {c : Code} {cc : ByteArray} {nL : Nat} {ret : Option FieldType} {Ts : List Cond} {own : String} {D : va_G} {B : Nat → Nat} {A : Nat → Prop} {H : Heap} {locs : List Loc} {cells slots : Nat} {Q : State → Prop} {pc : Nat} {ls : Array Slot} {rest : List Value} {y : MethodName} {ws : List Cond} {rm : Room} {index maxL n : Nat} {bytes : ByteArray} {rt : Option FieldType} {As st : List Value} {g : sG} {post : sG → Prop} (C : gX p s m args meth c cc nL ret Ts own D B A) (hG : GS D B A s.heap g H locs) (hM : gMv D B l y ws rm 0 0 As g post) (cw : CallB R s args own index y bytes maxL rt ws rm 0 0 n ∧ (Cond.static y).before args s = true) (hn : As.length = n) (hsz : ls.size = nL) (hst : st = (As.reverse ++ rest)) (hro : (rest.map fun v => v.category).sum ≤ 8) (hdg : decode cc pc = .ok (.invokestatic index, 3)) (hf : cells ≤ R.cells ∧ slots ≤ R.slots)
    (kk : ∀ (g1 : sG) (H : Heap) (locs : List Loc), post g1 → GS D B A s.heap g1 H locs → W p l e R s m args below meth c H locs cells slots Q (F0 m (pc + 3) ls (rest))) : W p l e R s m args below meth c H locs cells slots Q (F0 m pc ls st) :=
  g_callSv (mc := 0) (ms := 0) C hG hM cw hn hsz hst hro hdg hf kk
theorem g_callNi0 {p : Program} {l : Launch} {e : Env} {R : Room} {s : State} {m : MethodId} {args : Array Value} {below : List Frame} {meth : Method} {c : Code} {cc : ByteArray} {nL : Nat} {ret : Option FieldType} {Ts : List Cond} {own : String} {D : va_G} {B : Nat → Nat} {A : Nat → Prop} {H : Heap} {locs : List Loc} {cells slots : Nat} {Q : State → Prop} {pc : Nat} {ls : Array Slot} {rest : List Value} {y : MethodName} {ws : List Cond} {rm : Room} {index maxL n : Nat} {bytes : ByteArray} {rt : Option FieldType} {As st : List Value} {g : sG} {post : Int32 → sG → Prop} (C : gX p s m args meth c cc nL ret Ts own D B A) (hG : GS D B A s.heap g H locs) (hM : gMi D B l y ws rm 0 0 As g post) {host : String} (cw : va_CN R s args own index y host bytes maxL rt ws rm 0 0 n ∧ (Cond.static y).before args s = true ∧ True) (hn : As.length = n) (hsz : ls.size = nL) (hst : st = (As.reverse ++ rest)) (hro : (rest.map fun v => v.category).sum ≤ 8) (hdg : decode cc pc = .ok (.invokestatic index, 3)) (hf : cells ≤ R.cells ∧ slots ≤ R.slots)
    (kk : ∀ (r : Int32) (g1 : sG) (H : Heap) (locs : List Loc), post r g1 → GS D B A s.heap g1 H locs → W p l e R s m args below meth c H locs cells slots Q (F0 m (pc + 3) ls (.int r :: rest))) : W p l e R s m args below meth c H locs cells slots Q (F0 m pc ls st) :=
  g_callNi (mc := 0) (ms := 0) C hG hM cw hn hsz hst hro hdg hf kk
theorem g_callNl0 {p : Program} {l : Launch} {e : Env} {R : Room} {s : State} {m : MethodId} {args : Array Value} {below : List Frame} {meth : Method} {c : Code} {cc : ByteArray} {nL : Nat} {ret : Option FieldType} {Ts : List Cond} {own : String} {D : va_G} {B : Nat → Nat} {A : Nat → Prop} {H : Heap} {locs : List Loc} {cells slots : Nat} {Q : State → Prop} {pc : Nat} {ls : Array Slot} {rest : List Value} {y : MethodName} {ws : List Cond} {rm : Room} {index maxL n : Nat} {bytes : ByteArray} {rt : Option FieldType} {As st : List Value} {g : sG} {post : Int64 → sG → Prop} (C : gX p s m args meth c cc nL ret Ts own D B A) (hG : GS D B A s.heap g H locs) (hM : gMl D B l y ws rm 0 0 As g post) {host : String} (cw : va_CN R s args own index y host bytes maxL rt ws rm 0 0 n ∧ (Cond.static y).before args s = true ∧ True) (hn : As.length = n) (hsz : ls.size = nL) (hst : st = (As.reverse ++ rest)) (hro : (rest.map fun v => v.category).sum ≤ 8) (hdg : decode cc pc = .ok (.invokestatic index, 3)) (hf : cells ≤ R.cells ∧ slots ≤ R.slots)
    (kk : ∀ (r : Int64) (g1 : sG) (H : Heap) (locs : List Loc), post r g1 → GS D B A s.heap g1 H locs → W p l e R s m args below meth c H locs cells slots Q (F0 m (pc + 3) ls (.long r :: rest))) : W p l e R s m args below meth c H locs cells slots Q (F0 m pc ls st) :=
  g_callNl (mc := 0) (ms := 0) C hG hM cw hn hsz hst hro hdg hf kk
theorem g_callNv0 {p : Program} {l : Launch} {e : Env} {R : Room} {s : State} {m : MethodId} {args : Array Value} {below : List Frame} {meth : Method} {c : Code} {cc : ByteArray} {nL : Nat} {ret : Option FieldType} {Ts : List Cond} {own : String} {D : va_G} {B : Nat → Nat} {A : Nat → Prop} {H : Heap} {locs : List Loc} {cells slots : Nat} {Q : State → Prop} {pc : Nat} {ls : Array Slot} {rest : List Value} {y : MethodName} {ws : List Cond} {rm : Room} {index maxL n : Nat} {bytes : ByteArray} {rt : Option FieldType} {As st : List Value} {g : sG} {post : sG → Prop} (C : gX p s m args meth c cc nL ret Ts own D B A) (hG : GS D B A s.heap g H locs) (hM : gMv D B l y ws rm 0 0 As g post) {host : String} (cw : va_CN R s args own index y host bytes maxL rt ws rm 0 0 n ∧ (Cond.static y).before args s = true ∧ True) (hn : As.length = n) (hsz : ls.size = nL) (hst : st = (As.reverse ++ rest)) (hro : (rest.map fun v => v.category).sum ≤ 8) (hdg : decode cc pc = .ok (.invokestatic index, 3)) (hf : cells ≤ R.cells ∧ slots ≤ R.slots)
    (kk : ∀ (g1 : sG) (H : Heap) (locs : List Loc), post g1 → GS D B A s.heap g1 H locs → W p l e R s m args below meth c H locs cells slots Q (F0 m (pc + 3) ls (rest))) : W p l e R s m args below meth c H locs cells slots Q (F0 m pc ls st) :=
  g_callNv (mc := 0) (ms := 0) C hG hM cw hn hsz hst hro hdg hf kk

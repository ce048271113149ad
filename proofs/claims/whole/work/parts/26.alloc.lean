/-! a new letter, a new way: the cells come behind the world, and go to their families -/
theorem va_P.mem {D : va_G} {cl : List vw_C} {ws : va_W} {H : Heap} : va_P D cl ws H ↔ ∀ q ∈ ws, va_at D cl q H := ⟨fun h q hq => by obtain ⟨i, hi⟩ := List.getElem?_of_mem hq; exact h i q hi, fun h k q hk => h q (List.mem_of_getElem? hk)⟩
theorem va_P.perm {D : va_G} {cl : List vw_C} {ws ws' : va_W} {H : Heap} (p : ws.Perm ws') (h : va_P D cl ws H) : va_P D cl ws' H := va_P.mem.mpr (fun q hq => va_P.mem.mp h q (p.mem_iff.mpr hq))
theorem va_D.iff {A : Nat → Prop} {ws : va_W} : va_D A ws ↔ (ws.map Prod.fst).Nodup ∧ ∀ q ∈ ws, A q.1 := by
  constructor
  · rintro ⟨h1, h2⟩
    refine ⟨?_, fun q hq => by obtain ⟨i, hi⟩ := List.getElem?_of_mem hq; exact h2 i q hi⟩
    unfold List.Nodup
    rw [List.pairwise_iff_getElem]
    intro i j hi hj hij e
    simp only [List.getElem_map, List.length_map] at e hi hj
    have := h1 i j ws[i] ws[j] (List.getElem?_eq_getElem hi) (List.getElem?_eq_getElem hj) e
    omega
  · rintro ⟨h1, h2⟩
    refine ⟨fun i j p q hi hj e => ?_, fun k q hk => h2 q (List.mem_of_getElem? hk)⟩
    unfold List.Nodup at h1
    rw [List.pairwise_iff_getElem] at h1
    obtain ⟨li, ei⟩ := List.getElem?_eq_some_iff.mp hi
    obtain ⟨lj, ej⟩ := List.getElem?_eq_some_iff.mp hj
    rcases Nat.lt_trichotomy i j with h | h | h
    · have hne := h1 i j (by simpa using li) (by simpa using lj) h
      simp only [List.getElem_map] at hne
      rw [ei, ej] at hne
      exact absurd e hne
    · exact h
    · have hne := h1 j i (by simpa using lj) (by simpa using li) h
      simp only [List.getElem_map] at hne
      rw [ei, ej] at hne
      exact absurd e.symm hne
theorem va_D.perm {A : Nat → Prop} {ws ws' : va_W} (p : ws.Perm ws') (h : va_D A ws) : va_D A ws' := va_D.iff.mpr ⟨(p.map Prod.fst).nodup_iff.mp (va_D.iff.mp h).1, fun q hq => (va_D.iff.mp h).2 q (p.mem_iff.mpr hq)⟩
theorem va_nd_of : ∀ {l : List Nat}, l.Nodup → va_nd l = true
  | [], _ => rfl
  | a :: l, h => by
    have h2 := List.nodup_cons.mp h
    simp [va_nd, h2.1, va_nd_of h2.2]
theorem c_front (ws : va_W) (x : Nat × va_E) : (List.range ws.length).map (fun i => (ws ++ [x])[i]?) = ws.map some := by
  refine List.ext_getElem? fun k => ?_
  by_cases hk : k < ws.length
  · simp [hk, List.getElem?_append_left hk]
  · simp [hk]
theorem c_back (ws : va_W) (x : Nat × va_E) : ([ws.length]).map (fun i => (ws ++ [x])[i]?) = [x].map some := by simp
theorem gq_push (n : Nat) (a : Nat → Nat) (q : Nat) : va_up (gq n a) n (some q) = gq (n + 1) (va_up a n q) := by
  funext k
  simp only [va_up, gq]
  by_cases h : k = n
  · simp [h]
  · by_cases h2 : k < n
    · simp [h, h2, Nat.lt_succ_of_lt h2]
    · have : ¬ k < n + 1 := by omega
      simp [h, h2, this]
def letter0 (a b t : Int32) : Nat → Int32
  | 0 => a
  | 1 => b
  | 2 => t
  | 3 => 0
  | 4 => 48 + a
  | 5 => -1
  | 6 => -1
  | 7 => 0
  | 8 => -1
  | _ => -1
def way0 (x : Int32) : Nat → Int32
  | 1 => 48 + x
  | _ => -1
def wr0 : Nat → Nat
  | 4 => 2
  | 5 => 3
  | _ => 4
theorem fam_push {α : Type} (n : Nat) (f g : Nat → α) (x : α) (h : ∀ i, i < n → g i = f i) (hx : g n = x) : (List.range (n + 1)).map g = (List.range n).map f ++ [x] := by
  rw [List.range_succ, List.map_append, List.map_cons, List.map_nil, hx]
  congr 1
  exact List.map_congr_left (fun i hi => h i (List.mem_range.mp hi))
theorem perm1 {α : Type} (V R : List α) (x : α) : ((V ++ R) ++ [x]).Perm ((V ++ [x]) ++ R) := by
  letI : DecidableEq α := fun a b => Classical.propDecidable (a = b)
  refine List.perm_iff_count.mpr (fun y => ?_)
  simp only [List.count_append]
  omega
theorem gWe_push {B : Nat → Nat} {S : sS} {K : sK} {MI : Nat → Int32} {TT : Nat → Int64} {AW : Nat → Int32} {nE : Nat} {LT : Nat → Nat → Int32} {la : Nat → Nat} {Y : sY} {M : sM} {O : sO} {q : Nat} {r : Nat → Int32} : ((gW B (S, K, (MI, TT, AW, nE, LT, la), Y, M, O) ++ [(q, eC r)]).set 44 (B 6, .inl (B 103, 60, .inr (.inr (.inr (.inr (gq (nE + 1) (va_up la nE q)))))))).Perm (gW B (S, K, (MI, TT, AW, nE + 1, va_up LT nE r, va_up la nE q), Y, M, O)) := by
  have e1 : gVl (MI, TT, AW, nE + 1, va_up LT nE r, va_up la nE q) = gVl (MI, TT, AW, nE, LT, la) ++ [(q, eC r)] := by
    unfold gVl
    refine fam_push nE _ _ _ (fun i hi => ?_) ?_
    · have : i ≠ nE := by omega
      simp [va_up, this]
    · simp [va_up, eC]
  unfold gW gV
  rw [List.append_assoc, List.set_append_left _ _ (by rw [gF_len]; decide)]
  show (gF B (S, K, (MI, TT, AW, nE + 1, va_up LT nE r, va_up la nE q), Y, M, O) ++ _).Perm _
  refine List.Perm.append_left _ ?_
  show ((gVl (MI, TT, AW, nE, LT, la) ++ _) ++ [(q, eC r)]).Perm (gVl (MI, TT, AW, nE + 1, va_up LT nE r, va_up la nE q) ++ _)
  rw [e1]
  exact perm1 _ _ _
theorem perm5 {α : Type} (F L O T P Q R : List α) (o t p q r : α) : ((F ++ (L ++ (O ++ (T ++ (P ++ (Q ++ R)))))) ++ [o, t, p, q, r]).Perm (F ++ (L ++ ((O ++ [o]) ++ ((T ++ [t]) ++ ((P ++ [p]) ++ ((Q ++ [q]) ++ (R ++ [r]))))))) := by
  letI : DecidableEq α := fun a b => Classical.propDecidable (a = b)
  rw [show [o, t, p, q, r] = [o] ++ ([t] ++ ([p] ++ ([q] ++ [r]))) from rfl]
  refine List.perm_iff_count.mpr (fun x => ?_)
  simp only [List.count_append]
  omega
theorem gWw_push {B : Nat → Nat} {S : sS} {K : sK} {L : sL} {nW : Nat} {WI : Nat → Nat → Int32} {WR : Nat → Nat → Nat} {WL : Nat → Nat → Int32} {WX : Nat → Nat → Nat → Int32} {wd : Nat → Nat → Nat} {M : sM} {O : sO} {q : Nat} {a : Nat → Int32} {z : Nat → Nat} : ((gW B (S, K, L, (nW, WI, WR, WL, WX, wd), M, O) ++ ([(q, .inr (4, [.ref (B 2), .int (a 1), .ref (z 0), .int (a 3), .ref (z 1), .ref (z 2), .ref (z 3)])), (z 0, .inl (B 100, 1792, .inl (fun _ => 0))), (z 1, .inl (B 100, 56, .inl (fun _ => 0))), (z 2, .inl (B 100, 56, .inl (fun _ => 0))), (z 3, .inl (B 100, 56, .inl (fun _ => 0)))] : va_W)).set 42 (B 5, .inl (B 104, 8, .inr (.inr (.inr (.inr (gq (nW + 1) (va_up (wd 0) nW q)))))))).Perm (gW B (S, K, L, (nW + 1, va_up WI nW a, va_up WR nW wr0, va_up WL nW (fun _ => 0), (fun k => va_up (WX k) nW (fun _ => 0)), (fun k => va_up (wd k) nW ([q, z 0, z 1, z 2, z 3].getD k 0))), M, O)) := by
  have hne : ∀ i, i < nW → i ≠ nW := fun i h => by omega
  have e1 : gVo B (nW + 1, va_up WI nW a, va_up WR nW wr0, va_up WL nW (fun _ => 0), (fun k => va_up (WX k) nW (fun _ => 0)), (fun k => va_up (wd k) nW ([q, z 0, z 1, z 2, z 3].getD k 0))) = gVo B (nW, WI, WR, WL, WX, wd) ++ ([(q, .inr (4, [.ref (B 2), .int (a 1), .ref (z 0), .int (a 3), .ref (z 1), .ref (z 2), .ref (z 3)]))] : va_W) := by
    unfold gVo
    refine fam_push nW _ _ _ (fun i hi => ?_) ?_
    · simp [va_up, hne i hi]
    · simp [va_up, wr0]
  have e2 : gVt B (nW + 1, va_up WI nW a, va_up WR nW wr0, va_up WL nW (fun _ => 0), (fun k => va_up (WX k) nW (fun _ => 0)), (fun k => va_up (wd k) nW ([q, z 0, z 1, z 2, z 3].getD k 0))) = gVt B (nW, WI, WR, WL, WX, wd) ++ ([(z 0, .inl (B 100, 1792, .inl (fun _ => 0)))] : va_W) := by
    unfold gVt
    refine fam_push nW _ _ _ (fun i hi => ?_) ?_
    · simp [va_up, hne i hi]
    · simp [va_up]
  have e3 : gVa B (nW + 1, va_up WI nW a, va_up WR nW wr0, va_up WL nW (fun _ => 0), (fun k => va_up (WX k) nW (fun _ => 0)), (fun k => va_up (wd k) nW ([q, z 0, z 1, z 2, z 3].getD k 0))) 2 = gVa B (nW, WI, WR, WL, WX, wd) 2 ++ ([(z 1, .inl (B 100, 56, .inl (fun _ => 0)))] : va_W) := by
    unfold gVa
    refine fam_push nW _ _ _ (fun i hi => ?_) ?_
    · simp [va_up, hne i hi]
    · simp [va_up]
  have e4 : gVa B (nW + 1, va_up WI nW a, va_up WR nW wr0, va_up WL nW (fun _ => 0), (fun k => va_up (WX k) nW (fun _ => 0)), (fun k => va_up (wd k) nW ([q, z 0, z 1, z 2, z 3].getD k 0))) 3 = gVa B (nW, WI, WR, WL, WX, wd) 3 ++ ([(z 2, .inl (B 100, 56, .inl (fun _ => 0)))] : va_W) := by
    unfold gVa
    refine fam_push nW _ _ _ (fun i hi => ?_) ?_
    · simp [va_up, hne i hi]
    · simp [va_up]
  have e5 : gVa B (nW + 1, va_up WI nW a, va_up WR nW wr0, va_up WL nW (fun _ => 0), (fun k => va_up (WX k) nW (fun _ => 0)), (fun k => va_up (wd k) nW ([q, z 0, z 1, z 2, z 3].getD k 0))) 4 = gVa B (nW, WI, WR, WL, WX, wd) 4 ++ ([(z 3, .inl (B 100, 56, .inl (fun _ => 0)))] : va_W) := by
    unfold gVa
    refine fam_push nW _ _ _ (fun i hi => ?_) ?_
    · simp [va_up, hne i hi]
    · simp [va_up]
  have hset : ∀ (x : List (Nat × va_E)) (y : Nat × va_E), (gW B (S, K, L, (nW, WI, WR, WL, WX, wd), M, O) ++ x).set 42 y = (gF B (S, K, L, (nW, WI, WR, WL, WX, wd), M, O)).set 42 y ++ gV B L (nW, WI, WR, WL, WX, wd) ++ x := by
    intro x y
    unfold gW
    rw [List.append_assoc, List.set_append_left _ _ (by rw [gF_len]; decide), List.append_assoc]
  rw [hset]
  show (gF B (S, K, L, (nW + 1, va_up WI nW a, va_up WR nW wr0, va_up WL nW (fun _ => 0), (fun k => va_up (WX k) nW (fun _ => 0)), (fun k => va_up (wd k) nW ([q, z 0, z 1, z 2, z 3].getD k 0))), M, O) ++ gV B L (nW, WI, WR, WL, WX, wd) ++ _).Perm _
  unfold gW gV
  show List.Perm ((_ ++ (_ ++ (_ ++ (_ ++ (_ ++ (_ ++ _)))))) ++ _) (gF B _ ++ (gVl L ++ (gVo B (nW + 1, va_up WI nW a, va_up WR nW wr0, va_up WL nW (fun _ => 0), (fun k => va_up (WX k) nW (fun _ => 0)), (fun k => va_up (wd k) nW ([q, z 0, z 1, z 2, z 3].getD k 0))) ++ (gVt B (nW + 1, va_up WI nW a, va_up WR nW wr0, va_up WL nW (fun _ => 0), (fun k => va_up (WX k) nW (fun _ => 0)), (fun k => va_up (wd k) nW ([q, z 0, z 1, z 2, z 3].getD k 0))) ++ (gVa B (nW + 1, va_up WI nW a, va_up WR nW wr0, va_up WL nW (fun _ => 0), (fun k => va_up (WX k) nW (fun _ => 0)), (fun k => va_up (wd k) nW ([q, z 0, z 1, z 2, z 3].getD k 0))) 2 ++ (gVa B (nW + 1, va_up WI nW a, va_up WR nW wr0, va_up WL nW (fun _ => 0), (fun k => va_up (WX k) nW (fun _ => 0)), (fun k => va_up (wd k) nW ([q, z 0, z 1, z 2, z 3].getD k 0))) 3 ++ gVa B (nW + 1, va_up WI nW a, va_up WR nW wr0, va_up WL nW (fun _ => 0), (fun k => va_up (WX k) nW (fun _ => 0)), (fun k => va_up (wd k) nW ([q, z 0, z 1, z 2, z 3].getD k 0))) 4))))))
  rw [e1, e2, e3, e4, e5]
  exact perm5 _ _ _ _ _ _ _ _ _ _ _ _
theorem g_mkLetter {p : Program} {l : Launch} {e : Env} {R : Room} {s : State} {m : MethodId} {args : Array Value} {below : List Frame} {meth : Method} {c : Code} {cc : ByteArray} {nL : Nat} {ret : Option FieldType} {Ts : List Cond} {own : String} {D : va_G} {B : Nat → Nat} {A : Nat → Prop} {H : Heap} {locs : List Loc} {cells slots : Nat} {Q : State → Prop} {pc : Nat} {ls : Array Slot} {rest : List Value} {S : sS} {K : sK} {MI : Nat → Int32} {TT : Nat → Int64} {AW : Nat → Int32} {nE : Nat} {LT : Nat → Nat → Int32} {la : Nat → Nat} {Y : sY} {M : sM} {O : sO} {i1 i2 i3 : Nat} {i x1 x2 : Int32} (C : gX p s m args meth c cc nL ret Ts own D B A) (hG : GS D B A s.heap (S, K, (MI, TT, AW, nE, LT, la), Y, M, O) H locs) (hin1 : ∀ w ∈ wsX10, w ∈ Ts) (hin2 : ∀ w ∈ wsX20, w ∈ Ts) (hcl : (Cond.classLink own i1 RX1).before args s = true) (hinst : (Cond.instantiable RX1 10).before args s = true) (hini : (Cond.initialized RX1).before args s = true) (hnow : (Cond.fieldLink own i2 "MoonRelay$Mail" "now" "I").before args s = true) (cw : CallB R s args own i3 yX1_init cX1_init 4 none wsX1_init rX1_init 0 0 3 ∧ yX1_init.name = "<init>" ∧ (Cond.instanceMethod yX1_init).before args s = true) (hi : vp_in i 60) (hz : i.toNatClampNeg = nE) (hsz : ls.size = nL) (h0 : ls[0]? = some (.val (.ref (B 4)))) (h1 : ls[1]? = some (.val (.int x1))) (h2 : ls[2]? = some (.val (.int x2))) (hro : rest = [])
    (d0 : decode cc pc = .ok (.new i1, 3)) (d3 : decode cc (pc + 3) = .ok (.dup, 1)) (d4 : decode cc (pc + 4) = .ok (.iload_n 1, 1)) (d5 : decode cc (pc + 5) = .ok (.iload_n 2, 1)) (d6 : decode cc (pc + 6) = .ok (.aload_n 0, 1)) (d7 : decode cc (pc + 7) = .ok (.getfield i2, 3)) (d10 : decode cc (pc + 10) = .ok (.invokespecial i3, 3)) (d13 : decode cc (pc + 13) = .ok (.aastore, 1)) (hc : cells + 1 ≤ R.cells) (hs : slots + 10 ≤ R.slots)
    (kk : ∀ (n1 : Nat) (T1 : Nat → Nat → Int32) (la1 : Nat → Nat) (H : Heap) (locs : List Loc), n1 = nE + 1 → T1 = va_up LT nE (letter0 x1 x2 (MI 0)) → GS D B A s.heap (S, K, (MI, TT, AW, n1, T1, la1), Y, M, O) H locs → W p l e R s m args below meth c H locs (cells + 1) (slots + 10) Q (F0 m (pc + 14) ls rest)) : W p l e R s m args below meth c H locs cells slots Q (F0 m pc ls (.int i :: .ref (B 6) :: rest)) := by
  subst hro
  have C1 : cX p s m args meth c cc nL ret Ts own false D (gT B) A := ⟨C.1, C.2.1, C.2.2.1, C.2.2.2.1, C.2.2.2.2.1, ⟨C.2.2.2.2.2.1, C.2.2.2.2.2.2.2.2.2, (fun h => by cases h), (fun h => by cases h)⟩, C.2.2.2.2.2.2.1, C.2.2.2.2.2.2.2.1, C.2.2.2.2.2.2.2.2.1⟩
  obtain ⟨hx, hb, hml, hown, hts, hK, hr, hlk, hA, hN⟩ := C
  obtain ⟨hP, hD, hS⟩ := hG
  refine va_new (ci := 1) (fs := [.int 0, .int 0, .int 0, .int 0, .int 0, .int 0, .int 0, .int 0, .int 0, .int 0]) (C := RX1) (T := TX1) (N := 10) hx hb hts hin1 tyX1 tyX1_ok hown hcl hinst hini hK hP hD hS hA rfl (fun j hj => by rcases (show j = 0 ∨ j = 1 ∨ j = 2 ∨ j = 3 ∨ j = 4 ∨ j = 5 ∨ j = 6 ∨ j = 7 ∨ j = 8 ∨ j = 9 by omega) with rfl | rfl | rfl | rfl | rfl | rfl | rfl | rfl | rfl | rfl <;> rfl) hc hs d0 (fun q H hP hD hS => ?_)
  refine lv_dup hx hb d3 rfl ?_
  refine lv_iload_n hx hb d4 rfl h1 ?_
  refine lv_iload_n hx hb d5 rfl h2 ?_
  refine lv_aload_n hx hb d6 rfl h0 ?_
  refine va_get (D := D) (ci := 2) (v := .int (MI 0)) (C := RX2) (T := TX2) (N := 7) hx hb hts hin2 hown hK hP 43 rfl rfl 0 (by decide) hnow (fun _ h => h) rfl d7 ?_
  refine c_callI (As := [.int x1, .int x2, .int (MI 0)]) (wr := gW B (S, K, (MI, TT, AW, nE, LT, la), Y, M, O)) [(gW B (S, K, (MI, TT, AW, nE, LT, la), Y, M, O)).length] (List.range (gW B (S, K, (MI, TT, AW, nE, LT, la), Y, M, O)).length) C1 hP hD hS (kX1_init (bb := false) (cI := B 100) (cJ := B 101) (cZ := B 102) (cL := B 103) (cW := B 104) (h0 := q)) cw (c_back _ _) (c_front _ _) (by rfl) (va_nd_of List.nodup_range) (fun i hi h => by simp at hi h; omega) rfl hsz rfl (Nat.le_of_ble_eq_true rfl) d10 ⟨hc, hs⟩ (fun a H locs hP hD hS => ?_)
  have hP : va_P D vwCl (gW B (S, K, (MI, TT, AW, nE, LT, la), Y, M, O) ++ [(q, eC (letter0 x1 x2 (MI 0)))]) H := hP
  have hD : va_D A (gW B (S, K, (MI, TT, AW, nE, LT, la), Y, M, O) ++ [(q, eC (letter0 x1 x2 (MI 0)))]) := hD
  refine va_astq (D := D) (cl := vwCl) (tys := gT B) (r := (RX1, TX1, 10)) hx hb hK hP hD hS 44 3 (gW B (S, K, (MI, TT, AW, nE, LT, la), Y, M, O)).length 1 rfl rfl (by rw [List.getElem?_append_right (Nat.le_refl _), Nat.sub_self]; rfl) rfl hi d13 (fun H locs hP hD hS => ?_)
  rw [hz, gq_push] at hP hD
  exact kk _ _ (va_up la nE q) H locs rfl rfl ⟨hP.perm gWe_push, hD.perm gWe_push, hS⟩
theorem g_mkWays {p : Program} {l : Launch} {e : Env} {R : Room} {s : State} {m : MethodId} {args : Array Value} {below : List Frame} {meth : Method} {c : Code} {cc : ByteArray} {nL : Nat} {ret : Option FieldType} {Ts : List Cond} {own : String} {D : va_G} {B : Nat → Nat} {A : Nat → Prop} {H : Heap} {locs : List Loc} {cells slots : Nat} {Q : State → Prop} {pc : Nat} {ls : Array Slot} {rest : List Value} {S : sS} {K : sK} {L : sL} {nW : Nat} {WI : Nat → Nat → Int32} {WR : Nat → Nat → Nat} {WL : Nat → Nat → Int32} {WX : Nat → Nat → Nat → Int32} {wd : Nat → Nat → Nat} {M : sM} {O : sO} {i1 i2 i3 k4 : Nat} {i : Int32} (C : gX p s m args meth c cc nL ret Ts own D B A) (hG : GS D B A s.heap (S, K, L, (nW, WI, WR, WL, WX, wd), M, O) H locs) (hin1 : ∀ w ∈ wsX40, w ∈ Ts) (hin2 : ∀ w ∈ wsX50, w ∈ Ts) (hcl : (Cond.classLink own i1 RX4).before args s = true) (hinst : (Cond.instantiable RX4 7).before args s = true) (hini : (Cond.initialized RX4).before args s = true) (hsky : (Cond.fieldLink own i2 "MoonRelay" "sky" "LMoonRelay$Sky;").before args s = true) (cw : CallB R s args own i3 yX4_init cX4_init 3 none wsX4_init rX4_init 4 1960 2 ∧ yX4_init.name = "<init>" ∧ (Cond.instanceMethod yX4_init).before args s = true) (hi : vp_in i 8) (hz : i.toNatClampNeg = nW) (hsz : ls.size = nL) (h0 : ls[0]? = some (.val (.ref (B 1)))) (h4 : ls[k4]? = some (.val (.int i))) (hro : rest = [])
    (d0 : decode cc pc = .ok (.new i1, 3)) (d3 : decode cc (pc + 3) = .ok (.dup, 1)) (d4 : decode cc (pc + 4) = .ok (.aload_n 0, 1)) (d5 : decode cc (pc + 5) = .ok (.getfield i2, 3)) (d8 : decode cc (pc + 8) = .ok (.iload k4, 2)) (d10 : decode cc (pc + 10) = .ok (.invokespecial i3, 3)) (d13 : decode cc (pc + 13) = .ok (.aastore, 1)) (hc : cells + 5 ≤ R.cells) (hs : slots + 1967 ≤ R.slots)
    (kk : ∀ (n1 : Nat) (I1 : Nat → Nat → Int32) (R1 : Nat → Nat → Nat) (L1 : Nat → Nat → Int32) (X1 : Nat → Nat → Nat → Int32) (wd1 : Nat → Nat → Nat) (H : Heap) (locs : List Loc), n1 = nW + 1 → I1 = va_up WI nW (way0 i) → R1 = va_up WR nW wr0 → L1 = va_up WL nW (fun _ => 0) → X1 = (fun k => va_up (WX k) nW (fun _ => 0)) → GS D B A s.heap (S, K, L, (n1, I1, R1, L1, X1, wd1), M, O) H locs → W p l e R s m args below meth c H locs (cells + 5) (slots + 1967) Q (F0 m (pc + 14) ls rest)) : W p l e R s m args below meth c H locs cells slots Q (F0 m pc ls (.int i :: .ref (B 5) :: rest)) := by
  subst hro
  have C1 : cX p s m args meth c cc nL ret Ts own false D (gT B) A := ⟨C.1, C.2.1, C.2.2.1, C.2.2.2.1, C.2.2.2.2.1, ⟨C.2.2.2.2.2.1, C.2.2.2.2.2.2.2.2.2, (fun h => by cases h), (fun h => by cases h)⟩, C.2.2.2.2.2.2.1, C.2.2.2.2.2.2.2.1, C.2.2.2.2.2.2.2.2.1⟩
  obtain ⟨hx, hb, hml, hown, hts, hK, hr, hlk, hA, hN⟩ := C
  obtain ⟨hP, hD, hS⟩ := hG
  refine va_new (ci := 4) (fs := [.null, .int 0, .null, .int 0, .null, .null, .null]) (C := RX4) (T := TX4) (N := 7) hx hb hts hin1 tyX4 tyX4_ok hown hcl hinst hini hK hP hD hS hA rfl (fun j hj => by rcases (show j = 0 ∨ j = 1 ∨ j = 2 ∨ j = 3 ∨ j = 4 ∨ j = 5 ∨ j = 6 by omega) with rfl | rfl | rfl | rfl | rfl | rfl | rfl <;> rfl) (by omega) (by omega) d0 (fun q H hP hD hS => ?_)
  refine lv_dup hx hb d3 rfl ?_
  refine lv_aload_n hx hb d4 rfl h0 ?_
  refine va_get (D := D) (ci := 5) (v := .ref (B 2)) (C := RX5) (T := TX5) (N := 4) hx hb hts hin2 hown hK hP 41 rfl rfl 0 (by decide) hsky (fun _ h => h) rfl d5 ?_
  refine lv_iload hx hb d8 h4 ?_
  refine c_callI (As := [.ref (B 2), .int i]) (wr := gW B (S, K, L, (nW, WI, WR, WL, WX, wd), M, O)) [(gW B (S, K, L, (nW, WI, WR, WL, WX, wd), M, O)).length] (List.range (gW B (S, K, L, (nW, WI, WR, WL, WX, wd), M, O)).length) C1 hP hD hS (kX4_init (bb := false) (cI := B 100) (cJ := B 101) (cZ := B 102) (cL := B 103) (cW := B 104) (h0 := q)) cw (c_back _ _) (c_front _ _) (by rfl) (va_nd_of List.nodup_range) (fun i hi h => by simp at hi h; omega) rfl hsz rfl (Nat.le_of_ble_eq_true rfl) d10 ⟨by omega, by omega⟩ (fun z H locs hP hD hS => ?_)
  have hP : va_P D vwCl (gW B (S, K, L, (nW, WI, WR, WL, WX, wd), M, O) ++ [(q, .inr (4, [.ref (B 2), .int (way0 i 1), .ref (z 0), .int (way0 i 3), .ref (z 1), .ref (z 2), .ref (z 3)])), (z 0, .inl (B 100, 1792, .inl (fun _ => 0))), (z 1, .inl (B 100, 56, .inl (fun _ => 0))), (z 2, .inl (B 100, 56, .inl (fun _ => 0))), (z 3, .inl (B 100, 56, .inl (fun _ => 0)))]) H := hP
  have hD : va_D A (gW B (S, K, L, (nW, WI, WR, WL, WX, wd), M, O) ++ [(q, .inr (4, [.ref (B 2), .int (way0 i 1), .ref (z 0), .int (way0 i 3), .ref (z 1), .ref (z 2), .ref (z 3)])), (z 0, .inl (B 100, 1792, .inl (fun _ => 0))), (z 1, .inl (B 100, 56, .inl (fun _ => 0))), (z 2, .inl (B 100, 56, .inl (fun _ => 0))), (z 3, .inl (B 100, 56, .inl (fun _ => 0)))]) := hD
  refine va_astq (D := D) (cl := vwCl) (tys := gT B) (r := (RX4, TX4, 7)) hx hb hK hP hD hS 42 4 (gW B (S, K, L, (nW, WI, WR, WL, WX, wd), M, O)).length 4 rfl rfl (by rw [List.getElem?_append_right (Nat.le_refl _), Nat.sub_self]; rfl) rfl hi d13 (fun H locs hP hD hS => ?_)
  rw [hz, gq_push] at hP hD
  refine W.widen (k := cells + 5) (n := slots + 1967) (by omega) (by omega) ?_
  exact kk _ _ _ _ _ (fun k => va_up (wd k) nW ([q, z 0, z 1, z 2, z 3].getD k 0)) H locs rfl rfl rfl rfl rfl ⟨hP.perm gWw_push, hD.perm gWw_push, hS⟩

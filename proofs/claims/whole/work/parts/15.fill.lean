/-! Arrays.fill of a row of ints, and of a row of longs, that stands in the world -/
def gfill {α : Type} (n : Nat) (v : α) (f : Nat → α) : Nat → α := fun k => if k < n then v else f k
theorem gfill_0 {α : Type} (v : α) (f : Nat → α) : gfill 0 v f = f := by funext k; simp [gfill]
theorem gfill_s (i : Nat) (v : Int32) (f : Nat → Int32) : upd (gfill i v f) i v = gfill (i + 1) v f := by
  funext k
  simp only [upd, gfill]
  by_cases h : k = i
  · simp [h]
  · by_cases h2 : k < i
    · simp [h, h2, Nat.lt_succ_of_lt h2]
    · have : ¬ k < i + 1 := by omega
      simp [h, h2, this]
theorem gfill_sL (i : Nat) (v : Int64) (f : Nat → Int64) : vp_updL (gfill i v f) i v = gfill (i + 1) v f := by
  funext k
  simp only [vp_updL, gfill]
  by_cases h : k = i
  · simp [h]
  · by_cases h2 : k < i
    · simp [h, h2, Nat.lt_succ_of_lt h2]
    · have : ¬ k < i + 1 := by omega
      simp [h, h2, this]
def rJ7_fill_53178 : Room := { frames := 0, cells := 0, slots := 0, locals := 0 }
def rJ7_fill_d0a16 : Room := { frames := 0, cells := 0, slots := 0, locals := 0 }
theorem hdsJ7_fill_53178 : yJ7_fill_53178.cls ≠ "java/lang/invoke/MethodHandle" ∧ yJ7_fill_53178.cls ≠ "java/lang/invoke/VarHandle" ∧ (parseMethodDescriptor yJ7_fill_53178.desc).map (fun d => d.parameters.length) = some 2 := by decide +kernel
theorem hdsJ7_fill_d0a16 : yJ7_fill_d0a16.cls ≠ "java/lang/invoke/MethodHandle" ∧ yJ7_fill_d0a16.cls ≠ "java/lang/invoke/VarHandle" ∧ (parseMethodDescriptor yJ7_fill_d0a16.desc).map (fun d => d.parameters.length) = some 2 := by decide +kernel
set_option maxHeartbeats 4000000 in
set_option maxRecDepth 100000 in
theorem vfillI {p : Program} {l : Launch} {e : Env} {s : State} {m : MethodId} {args : Array Value} {below : List Frame} {meth : Method} {c : Code} {D : va_G} {B : Nat → Nat} {A : Nat → Prop} {gs : (Nat → Int32) → sG} {q0 a n : Nat} {v : Int32} {f : Nat → Int32} {post : sG → Prop} (C : gX p s m args meth c cJ7_fill_53178 4 none wsJ7_fill_53178 RJ7 D B A) (hget : ∀ f, (gW B (gs f))[q0]? = some (a, .inl (B 100, n, .inl f))) (hset : ∀ f f1, (gW B (gs f)).set q0 (a, .inl (B 100, n, .inl f1)) = gW B (gs f1)) (hn : n < 2 ^ 31) (hpost : post (gs (gfill n v f))) : ∀ (d i : Nat), n - i = d → i ≤ n → ∀ (H : Heap) (locs : List Loc) (ls : Array Slot), GS D B A s.heap (gs (gfill i v f)) H locs → lv_has ls 4 [(0, .ref a), (1, .int v), (2, .int (nI i)), (3, .int (nI n))] → W p l e (headSpec wsJ7_fill_53178 rJ7_fill_53178).room s m args below meth c H locs 0 0 (MQ below (va_Qv post (gB D B A) A) args s 0 0 A) (F0 m 5 ls []) := by
  obtain ⟨hx, hb, hml, hown, hts, hK, hr, hlk, hA, hN⟩ := id C
  intro d
  induction d with
  | zero =>
    intro i hd hi H locs ls hG hl
    have e : i = n := by omega
    subst e
    refine lv_iload_n hx hb dJ7_fill_53178_5 rfl (lv_at hl 2 rfl) ?_
    refine lv_iload_n hx hb dJ7_fill_53178_6 rfl (lv_at hl 3 rfl) ?_
    refine lv_icmp_ge (tgt := 20) hx hb dJ7_fill_53178_7 (by decide) (fun q => ?_) (fun q => absurd (nI_le (Nat.le_refl i) hn) q)
    exact g_vret C hG hpost dJ7_fill_53178_20
  | succ d ih =>
    intro i hd hi H locs ls hG hl
    have hlt : i < n := by omega
    refine lv_iload_n hx hb dJ7_fill_53178_5 rfl (lv_at hl 2 rfl) ?_
    refine lv_iload_n hx hb dJ7_fill_53178_6 rfl (lv_at hl 3 rfl) ?_
    refine lv_icmp_ge (tgt := 20) hx hb dJ7_fill_53178_7 (by decide) (fun q => absurd q (nI_ge hlt hn)) (fun q => ?_)
    refine lv_aload_n hx hb dJ7_fill_53178_10 rfl (lv_at hl 0 rfl) ?_
    refine lv_iload_n hx hb dJ7_fill_53178_11 rfl (lv_at hl 2 rfl) ?_
    refine lv_iload_n hx hb dJ7_fill_53178_12 rfl (lv_at hl 1 rfl) ?_
    refine va_iast (D := D) (cl := vwCl) (tys := gT B) hx hb hK hG.1 hG.2.1 hG.2.2 q0 0 (hget _) rfl (vp_in_nI hlt hn) dJ7_fill_53178_13 (fun H locs h1 h2 h3 => ?_)
    rw [hset, nI_clamp (by omega), gfill_s] at h1 h2
    refine lv_iinc (v := nI (i + 1)) (lv' := [(2, .int (nI (i + 1))), (0, .ref a), (1, .int v), (3, .int (nI n))]) hx hb dJ7_fill_53178_14 hl (k := 2) rfl (nI_1 i) (by decide) rfl (fun ls hl => ?_)
    refine lv_goto (tgt := 5) hx hb dJ7_fill_53178_17 (by decide) ?_
    exact ih (i + 1) (by omega) (by omega) _ _ _ ⟨h1, h2, h3⟩ (lv_sub hl [1, 2, 0, 3] rfl)
set_option maxHeartbeats 4000000 in
set_option maxRecDepth 100000 in
theorem kfillI {l : Launch} {D : va_G} {B : Nat → Nat} {gs : (Nat → Int32) → sG} {q0 a n : Nat} (hget : ∀ f, (gW B (gs f))[q0]? = some (a, .inl (B 100, n, .inl f))) (hset : ∀ f f1, (gW B (gs f)).set q0 (a, .inl (B 100, n, .inl f1)) = gW B (gs f1)) (hn : n < 2 ^ 31) (f : Nat → Int32) (v : Int32) : gMv D B l yJ7_fill_53178 wsJ7_fill_53178 rJ7_fill_53178 0 0 [.ref a, .int v] (gs f) (fun g1 => g1 = gs (gfill n v f)) := by
  refine gMv_of (cc := cJ7_fill_53178) (maxL := 4) (ret := none) (by decide) rfl (Nat.le_of_ble_eq_true rfl) ?_
  intro p e s m below meth c A hA0 C hG ls hl
  obtain ⟨hx, hb, hml, hown, hts, hK, hr, hlk, hA, hN⟩ := id C
  have hl : lv_has ls 4 [(0, .ref a), (1, .int v)] := hl
  refine lv_iconst (v := 0) hx hb dJ7_fill_53178_0 (by decide) ?_
  refine lv_istore_n (lv' := [(2, .int 0), (0, .ref a), (1, .int v)]) hx hb dJ7_fill_53178_1 rfl hl (by decide) rfl (fun ls hl => ?_)
  refine lv_aload_n hx hb dJ7_fill_53178_2 rfl (lv_at hl 1 rfl) ?_
  refine va_alen (D := D) (cl := vwCl) (tys := gT B) (v := nI n) hx hb hK hG.1 q0 0 (hget f) rfl rfl dJ7_fill_53178_3 ?_
  refine lv_istore_n (lv' := [(3, .int (nI n)), (2, .int 0), (0, .ref a), (1, .int v)]) hx hb dJ7_fill_53178_4 rfl hl (by decide) rfl (fun ls hl => ?_)
  exact vfillI (post := fun g1 => g1 = gs (gfill n v f)) C hget hset hn rfl (n - 0) 0 rfl (Nat.zero_le n) _ _ _ (by rw [gfill_0]; exact hG) (lv_sub hl [2, 3, 1, 0] rfl)
set_option maxHeartbeats 4000000 in
set_option maxRecDepth 100000 in
theorem vfillJ {p : Program} {l : Launch} {e : Env} {s : State} {m : MethodId} {args : Array Value} {below : List Frame} {meth : Method} {c : Code} {D : va_G} {B : Nat → Nat} {A : Nat → Prop} {gs : (Nat → Int64) → sG} {q0 a n : Nat} {v : Int64} {f : Nat → Int64} {post : sG → Prop} (C : gX p s m args meth c cJ7_fill_d0a16 5 none wsJ7_fill_d0a16 RJ7 D B A) (hget : ∀ f, (gW B (gs f))[q0]? = some (a, .inl (B 101, n, .inr (.inl f)))) (hset : ∀ f f1, (gW B (gs f)).set q0 (a, .inl (B 101, n, .inr (.inl f1))) = gW B (gs f1)) (hn : n < 2 ^ 31) (hpost : post (gs (gfill n v f))) : ∀ (d i : Nat), n - i = d → i ≤ n → ∀ (H : Heap) (locs : List Loc) (ls : Array Slot), GS D B A s.heap (gs (gfill i v f)) H locs → lv_has ls 5 [(0, .ref a), (1, .long v), (3, .int (nI i)), (4, .int (nI n))] → W p l e (headSpec wsJ7_fill_d0a16 rJ7_fill_d0a16).room s m args below meth c H locs 0 0 (MQ below (va_Qv post (gB D B A) A) args s 0 0 A) (F0 m 6 ls []) := by
  obtain ⟨hx, hb, hml, hown, hts, hK, hr, hlk, hA, hN⟩ := id C
  intro d
  induction d with
  | zero =>
    intro i hd hi H locs ls hG hl
    have e : i = n := by omega
    subst e
    refine lv_iload_n hx hb dJ7_fill_d0a16_6 rfl (lv_at hl 2 rfl) ?_
    refine lv_iload hx hb dJ7_fill_d0a16_7 (lv_at hl 3 rfl) ?_
    refine lv_icmp_ge (tgt := 22) hx hb dJ7_fill_d0a16_9 (by decide) (fun q => ?_) (fun q => absurd (nI_le (Nat.le_refl i) hn) q)
    exact g_vret C hG hpost dJ7_fill_d0a16_22
  | succ d ih =>
    intro i hd hi H locs ls hG hl
    have hlt : i < n := by omega
    refine lv_iload_n hx hb dJ7_fill_d0a16_6 rfl (lv_at hl 2 rfl) ?_
    refine lv_iload hx hb dJ7_fill_d0a16_7 (lv_at hl 3 rfl) ?_
    refine lv_icmp_ge (tgt := 22) hx hb dJ7_fill_d0a16_9 (by decide) (fun q => absurd q (nI_ge hlt hn)) (fun q => ?_)
    refine lv_aload_n hx hb dJ7_fill_d0a16_12 rfl (lv_at hl 0 rfl) ?_
    refine lv_iload_n hx hb dJ7_fill_d0a16_13 rfl (lv_at hl 2 rfl) ?_
    refine lv_lload_n hx hb dJ7_fill_d0a16_14 rfl (lv_at hl 1 rfl) ?_
    refine va_last (D := D) (cl := vwCl) (tys := gT B) hx hb hK hG.1 hG.2.1 hG.2.2 q0 1 (hget _) rfl (vp_in_nI hlt hn) dJ7_fill_d0a16_15 (fun H locs h1 h2 h3 => ?_)
    rw [hset, nI_clamp (by omega), gfill_sL] at h1 h2
    refine lv_iinc (v := nI (i + 1)) (lv' := [(3, .int (nI (i + 1))), (0, .ref a), (1, .long v), (4, .int (nI n))]) hx hb dJ7_fill_d0a16_16 hl (k := 2) rfl (nI_1 i) (by decide) rfl (fun ls hl => ?_)
    refine lv_goto (tgt := 6) hx hb dJ7_fill_d0a16_19 (by decide) ?_
    exact ih (i + 1) (by omega) (by omega) _ _ _ ⟨h1, h2, h3⟩ (lv_sub hl [1, 2, 0, 3] rfl)
set_option maxHeartbeats 4000000 in
set_option maxRecDepth 100000 in
theorem kfillJ {l : Launch} {D : va_G} {B : Nat → Nat} {gs : (Nat → Int64) → sG} {q0 a n : Nat} (hget : ∀ f, (gW B (gs f))[q0]? = some (a, .inl (B 101, n, .inr (.inl f)))) (hset : ∀ f f1, (gW B (gs f)).set q0 (a, .inl (B 101, n, .inr (.inl f1))) = gW B (gs f1)) (hn : n < 2 ^ 31) (f : Nat → Int64) (v : Int64) : gMv D B l yJ7_fill_d0a16 wsJ7_fill_d0a16 rJ7_fill_d0a16 0 0 [.ref a, .long v] (gs f) (fun g1 => g1 = gs (gfill n v f)) := by
  refine gMv_of (cc := cJ7_fill_d0a16) (maxL := 5) (ret := none) (by decide) rfl (Nat.le_of_ble_eq_true rfl) ?_
  intro p e s m below meth c A hA0 C hG ls hl
  obtain ⟨hx, hb, hml, hown, hts, hK, hr, hlk, hA, hN⟩ := id C
  have hl : lv_has ls 5 [(0, .ref a), (1, .long v)] := hl
  refine lv_iconst (v := 0) hx hb dJ7_fill_d0a16_0 (by decide) ?_
  refine lv_istore_n (lv' := [(3, .int 0), (0, .ref a), (1, .long v)]) hx hb dJ7_fill_d0a16_1 rfl hl (by decide) rfl (fun ls hl => ?_)
  refine lv_aload_n hx hb dJ7_fill_d0a16_2 rfl (lv_at hl 1 rfl) ?_
  refine va_alen (D := D) (cl := vwCl) (tys := gT B) (v := nI n) hx hb hK hG.1 q0 1 (hget f) rfl rfl dJ7_fill_d0a16_3 ?_
  refine lv_istore (lv' := [(4, .int (nI n)), (3, .int 0), (0, .ref a), (1, .long v)]) hx hb dJ7_fill_d0a16_4 hl (by decide) rfl (fun ls hl => ?_)
  exact vfillJ (post := fun g1 => g1 = gs (gfill n v f)) C hget hset hn rfl (n - 0) 0 rfl (Nat.zero_le n) _ _ _ (by rw [gfill_0]; exact hG) (lv_sub hl [2, 3, 1, 0] rfl)
theorem kfill_K4 {l : Launch} {D : va_G} {B : Nat → Nat} {S : sS} {CU : Int64} {CQ : Int32} {CJ : Nat → Nat → Int64} {CX : Nat → Nat → Int32} {L : sL} {Y : sY} {M : sM} {O : sO} (v : Int32) : gMv D B l yJ7_fill_53178 wsJ7_fill_53178 rJ7_fill_53178 0 0 [.ref (B 44), .int v] (S, (CU, CQ, CJ, CX), L, Y, M, O) (fun g1 => g1 = (S, (CU, CQ, CJ, va_up CX 4 (gfill 96 v (CX 4))), L, Y, M, O)) := by
  have h := kfillI (l := l) (D := D) (B := B) (gs := fun f => (S, (CU, CQ, CJ, va_up CX 4 f), L, Y, M, O)) (q0 := 39) (a := B 44) (n := 96) (fun f => rfl) (fun f f1 => rfl) (by decide) (CX 4) v
  rw [va_up_id] at h
  exact h
theorem kfill_Lw {l : Launch} {D : va_G} {B : Nat → Nat} {S : sS} {K : sK} {MI : Nat → Int32} {TT : Nat → Int64} {AW : Nat → Int32} {nE : Nat} {LT : Nat → Nat → Int32} {la : Nat → Nat} {Y : sY} {M : sM} {O : sO} (v : Int32) : gMv D B l yJ7_fill_53178 wsJ7_fill_53178 rJ7_fill_53178 0 0 [.ref (B 8), .int v] (S, K, (MI, TT, AW, nE, LT, la), Y, M, O) (fun g1 => g1 = (S, K, (MI, TT, gfill 8 v AW, nE, LT, la), Y, M, O)) :=
  kfillI (l := l) (D := D) (B := B) (gs := fun f => (S, K, (MI, TT, f, nE, LT, la), Y, M, O)) (q0 := 46) (a := B 8) (n := 8) (fun f => rfl) (fun f f1 => rfl) (by decide) AW v
theorem kfill_Lt {l : Launch} {D : va_G} {B : Nat → Nat} {S : sS} {K : sK} {MI : Nat → Int32} {TT : Nat → Int64} {AW : Nat → Int32} {nE : Nat} {LT : Nat → Nat → Int32} {la : Nat → Nat} {Y : sY} {M : sM} {O : sO} (v : Int64) : gMv D B l yJ7_fill_d0a16 wsJ7_fill_d0a16 rJ7_fill_d0a16 0 0 [.ref (B 7), .long v] (S, K, (MI, TT, AW, nE, LT, la), Y, M, O) (fun g1 => g1 = (S, K, (MI, gfill 56 v TT, AW, nE, LT, la), Y, M, O)) :=
  kfillJ (l := l) (D := D) (B := B) (gs := fun f => (S, K, (MI, f, AW, nE, LT, la), Y, M, O)) (q0 := 45) (a := B 7) (n := 56) (fun f => rfl) (fun f f1 => rfl) (by decide) TT v
theorem va_uu {α : Type} (f : Nat → α) (k : Nat) (x y : α) : va_up (va_up f k x) k y = va_up f k y := by
  funext j
  by_cases h : j = k <;> simp [va_up, h]
theorem va_us {α : Type} (f : Nat → α) (k : Nat) (x : α) : va_up f k x k = x := by simp [va_up]
theorem kfill_wt {l : Launch} {D : va_G} {B : Nat → Nat} {S : sS} {K : sK} {L : sL} {nW : Nat} {WI : Nat → Nat → Int32} {WR : Nat → Nat → Nat} {WL : Nat → Nat → Int32} {WX : Nat → Nat → Nat → Int32} {wd : Nat → Nat → Nat} {M : sM} {O : sO} {j : Nat} (hj : j < nW) (v : Int32) : gMv D B l yJ7_fill_53178 wsJ7_fill_53178 rJ7_fill_53178 0 0 [.ref (wd 1 j), .int v] (S, K, L, (nW, WI, WR, WL, WX, wd), M, O) (fun g1 => g1 = (S, K, L, (nW, WI, WR, va_up WL j (gfill 1792 v (WL j)), WX, wd), M, O)) := by
  have h := kfillI (l := l) (D := D) (B := B) (gs := fun f => (S, K, L, (nW, WI, WR, va_up WL j f, WX, wd), M, O)) (q0 := (gF B (S, K, L, (nW, WI, WR, WL, WX, wd), M, O) ++ (gVl L ++ gVo B (nW, WI, WR, WL, WX, wd))).length + j) (a := wd 1 j) (n := 1792) (fun f => by have := gWt_get (B := B) (S := S) (K := K) (L := L) (WI := WI) (WR := WR) (WL := va_up WL j f) (WX := WX) (wd := wd) (M := M) (O := O) hj; rw [va_us] at this; exact this) (fun f f1 => by have := gWt_set (B := B) (S := S) (K := K) (L := L) (WI := WI) (WR := WR) (WL := va_up WL j f) (WX := WX) (wd := wd) (M := M) (O := O) (f := f1) hj; rw [va_uu] at this; exact this) (by decide) (WL j) v
  rw [va_up_id] at h
  exact h
theorem gF_len (B : Nat → Nat) (g : sG) : (gF B g).length = 48 := rfl
theorem gVo_len (B : Nat → Nat) (Y : sY) : (gVo B Y).length = Y.1 := by simp [gVo]
theorem gVt_len (B : Nat → Nat) (Y : sY) : (gVt B Y).length = Y.1 := by simp [gVt]
theorem gVa_len (B : Nat → Nat) (Y : sY) (k : Nat) : (gVa B Y k).length = Y.1 := by simp [gVa]
theorem kfill_wa {l : Launch} {D : va_G} {B : Nat → Nat} {S : sS} {K : sK} {L : sL} {nW : Nat} {WI : Nat → Nat → Int32} {WR : Nat → Nat → Nat} {WL : Nat → Nat → Int32} {WX : Nat → Nat → Nat → Int32} {wd : Nat → Nat → Nat} {M : sM} {O : sO} {j k : Nat} (hj : j < nW) (hk : wk k) (v : Int32) : gMv D B l yJ7_fill_53178 wsJ7_fill_53178 rJ7_fill_53178 0 0 [.ref (wd k j), .int v] (S, K, L, (nW, WI, WR, WL, WX, wd), M, O) (fun g1 => g1 = (S, K, L, (nW, WI, WR, WL, va_up WX k (va_up (WX k) j (gfill 56 v (WX k j))), wd), M, O)) := by
  rcases hk with rfl | rfl | rfl
  · have h := kfillI (l := l) (D := D) (B := B) (gs := fun f => (S, K, L, (nW, WI, WR, WL, va_up WX 2 (va_up (WX 2) j f), wd), M, O)) (q0 := 48 + ((gVl L).length + (nW + nW)) + j) (a := wd 2 j) (n := 56) (fun f => by have := gW2_get (B := B) (S := S) (K := K) (L := L) (WI := WI) (WR := WR) (WL := WL) (WX := va_up WX 2 (va_up (WX 2) j f)) (wd := wd) (M := M) (O := O) hj; rw [va_us, va_us] at this; simp only [gVa_len, gVo_len, gVt_len, gF_len, List.length_append] at this ⊢; exact this) (fun f f1 => by have := gW2_set (B := B) (S := S) (K := K) (L := L) (WI := WI) (WR := WR) (WL := WL) (WX := va_up WX 2 (va_up (WX 2) j f)) (wd := wd) (M := M) (O := O) (f := f1) hj; rw [va_us, va_uu, va_uu] at this; simp only [gVa_len, gVo_len, gVt_len, gF_len, List.length_append] at this ⊢; exact this) (by decide) (WX 2 j) v
    rw [va_up_id, va_up_id] at h
    exact h
  · have h := kfillI (l := l) (D := D) (B := B) (gs := fun f => (S, K, L, (nW, WI, WR, WL, va_up WX 3 (va_up (WX 3) j f), wd), M, O)) (q0 := 48 + ((gVl L).length + (nW + (nW + nW))) + j) (a := wd 3 j) (n := 56) (fun f => by have := gW3_get (B := B) (S := S) (K := K) (L := L) (WI := WI) (WR := WR) (WL := WL) (WX := va_up WX 3 (va_up (WX 3) j f)) (wd := wd) (M := M) (O := O) hj; rw [va_us, va_us] at this; simp only [gVa_len, gVo_len, gVt_len, gF_len, List.length_append] at this ⊢; exact this) (fun f f1 => by have := gW3_set (B := B) (S := S) (K := K) (L := L) (WI := WI) (WR := WR) (WL := WL) (WX := va_up WX 3 (va_up (WX 3) j f)) (wd := wd) (M := M) (O := O) (f := f1) hj; rw [va_us, va_uu, va_uu] at this; simp only [gVa_len, gVo_len, gVt_len, gF_len, List.length_append] at this ⊢; exact this) (by decide) (WX 3 j) v
    rw [va_up_id, va_up_id] at h
    exact h
  · have h := kfillI (l := l) (D := D) (B := B) (gs := fun f => (S, K, L, (nW, WI, WR, WL, va_up WX 4 (va_up (WX 4) j f), wd), M, O)) (q0 := 48 + ((gVl L).length + (nW + (nW + (nW + nW)))) + j) (a := wd 4 j) (n := 56) (fun f => by have := gW4_get (B := B) (S := S) (K := K) (L := L) (WI := WI) (WR := WR) (WL := WL) (WX := va_up WX 4 (va_up (WX 4) j f)) (wd := wd) (M := M) (O := O) hj; rw [va_us, va_us] at this; simp only [gVa_len, gVo_len, gVt_len, gF_len, List.length_append] at this ⊢; exact this) (fun f f1 => by have := gW4_set (B := B) (S := S) (K := K) (L := L) (WI := WI) (WR := WR) (WL := WL) (WX := va_up WX 4 (va_up (WX 4) j f)) (wd := wd) (M := M) (O := O) (f := f1) hj; rw [va_us, va_uu, va_uu] at this; simp only [gVa_len, gVo_len, gVt_len, gF_len, List.length_append] at this ⊢; exact this) (by decide) (WX 4 j) v
    rw [va_up_id, va_up_id] at h
    exact h
theorem gMi_ofF {l : Launch} {D : va_G} {B : Nat → Nat} {y : MethodName} {ws ws' : List Cond} {rm : Room} {mc ms : Nat} {av : List Value} {g : sG} {post : Int32 → sG → Prop} {cc : ByteArray} {maxL : Nat} {ret : Option FieldType} (hy : plainFor y = true) (hw : ws = Cond.code y cc maxL ret :: ws') (hle : (lg_sl av).length ≤ maxL)
    (body : ∀ p e s m below meth c A, A = gA B g s.heap.size → gX p s m av.toArray meth c cc maxL ret ws y.cls D B A → GS D B A s.heap g s.heap [] → ∀ ls, lv_has ls maxL (lv_args 0 av) → W p l e (headSpec ws rm).room s m av.toArray below meth c s.heap [] 0 0 (MQ below (va_Qi post (gB D B A) A) av.toArray s mc ms A) (F0 m 0 ls [])) : gMi D B l y ws rm mc ms av g post := by
  intro sz
  refine va_MetF (cc := cc) (maxL := maxL) (ret := ret) hy hw ?_
  intro p e s m args below meth c s₁ X hml hv
  obtain ⟨rfl, hsz, hP, ⟨hK, hN⟩, hD0⟩ := hv
  subst hsz
  have hts := atoms_spec (ws := ws) X.pre
  have hown : s.vm.findClass y.cls = some m.cls := findClass_of_methodNamed X.named
  have hD := hD0.self (sz := s.heap.size)
  have hA : ∀ q : Nat, s.heap.size ≤ q → (gA B g s.heap.size) q := fun q h => Or.inr h
  have hl := lv_entry av (n := maxL) hle
  rw [lg_entry_eq]
  exact body p e s m below meth c _ rfl ⟨X.exec, X.bytes, hml, hown, hts, hK, X.returns, X.notSynchronized, hA, hN⟩ ⟨hP, hD, va_S.rf⟩ _ hl

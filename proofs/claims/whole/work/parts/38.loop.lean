/-! the law's loop -/
def fL_loop (L : Nat) (xs : Nat → Int32) : Nat → (Nat → Int32) → (Nat → Nat → Int32) → (Int64) → (Int32) → (Nat → Nat → Int64) → (Nat → Nat → Int32) → (Nat → Int32) → (Nat → Int64) → (Nat → Int32) → (Nat) → (Nat → Nat → Int32) → (Nat → Nat) → (Nat) → (Nat → Nat → Int32) → (Nat → Nat → Nat) → (Nat → Nat → Int32) → (Nat → Nat → Nat → Int32) → (Nat → Nat → Nat) → (Nat → Int32) → (Nat → Nat → Int32) → (Nat → Int64) → Int32 → Prop
  | 0, _, _, _, _, _, _, _, _, _, _, _, _, _, _, _, _, _, _, _, _, _, _ => False
  | n + 1, SI, SX, CU, CQ, CJ, CX, MI, TT, AW, nE, LT, la, nW, WI, WR, WL, WX, wd, I, X, O, y4 => fL_law_23 L xs (fun a0 a1 a2 a3 a4 a5 a6 a7 a8 a9 a10 a11 a12 a13 a14 a15 a16 a17 a18 a19 a20 a => fL_loop L xs n a0 a1 a2 a3 a4 a5 a6 a7 a8 a9 a10 a11 a12 a13 a14 a15 a16 a17 a18 a19 a20 a) SI SX CU CQ CJ CX MI TT AW nE LT la nW WI WR WL WX wd I X O y4
theorem exitL {L j : Nat} (hL : L ≤ 2048) (hj : j ≤ 512) (h : ¬ (Int32.ofNat L - (4 : Int32)) < nI (4 * j)) : 4 * j + 4 ≤ L := by
  have e1 : (nI L - nI 4).toInt = (L : Int) - (4 : Nat) := pk_sub_toInt (by omega) (by decide)
  have e2 : (nI (4 * j)).toInt = ((4 * j : Nat) : Int) := nI_toInt (by omega)
  have h2 : ¬ (nI L - nI 4).toInt < (nI (4 * j)).toInt := fun q => h (Int32.lt_iff_toInt_lt.mpr q)
  rw [e1, e2] at h2
  omega
set_option maxHeartbeats 4000000 in
set_option maxRecDepth 100000 in
theorem vL_loop {p : Program} {l : Launch} {e : Env} {s : State} {m : MethodId} {below : List Frame} {meth : Method} {c : Code} {D : va_G} {B : Nat → Nat} {b L : Nat} {xs : Nat → Int32} {c0 s0 : Nat} (C : gX p s m #[Value.ref b] meth c cL_law 7 ret wsL_law RL D B (fun q => s.heap.size ≤ q)) (hE : gE l (fun q => s.heap.size ≤ q) s s.heap) (hX : va_X b L xs s s.heap) (hbl : b < s.heap.size) (hL : L ≤ 2048) (hc0 : c0 + 9 * 513 ≤ 601024) (hs0 : s0 + 1991 * 513 ≤ 7293034) : ∀ (n j : Nat) (SI : Nat → Int32) (SX : Nat → Nat → Int32) (CU : Int64) (CQ : Int32) (CJ : Nat → Nat → Int64) (CX : Nat → Nat → Int32) (MI : Nat → Int32) (TT : Nat → Int64) (AW : Nat → Int32) (nE : Nat) (LT : Nat → Nat → Int32) (la : Nat → Nat) (nW : Nat) (WI : Nat → Nat → Int32) (WR : Nat → Nat → Nat) (WL : Nat → Nat → Int32) (WX : Nat → Nat → Nat → Int32) (wd : Nat → Nat → Nat) (I : Nat → Int32) (X : Nat → Nat → Int32) (O : Nat → Int64) (H : Heap) (locs : List Loc) (ls : Array Slot), j ≤ 512 → fL_loop L xs n SI SX CU CQ CJ CX MI TT AW nE LT la nW WI WR WL WX wd I X O (nI (4 * j)) → GS D B (fun q => s.heap.size ≤ q) s.heap ((SI, SX), (CU, CQ, CJ, CX), (MI, TT, AW, nE, LT, la), (nW, WI, WR, WL, WX, wd), (I, X), O) H locs → lv_has ls 7 [(0, .ref (b)), (1, .ref (B 1)), (2, .ref (B 0)), (3, .ref (B 9)), (4, .int (nI (4 * j)))] → W p l e room_1 s m #[Value.ref b] below meth c H locs (c0 + 9 * j) (s0 + 1991 * j) (lw_Z below #[Value.ref b] s) (F0 m 23 ls []) := by
  obtain ⟨hx, hb, hml, hown, hts, hK, hr, hlk, hA, hN⟩ := id C
  intro n
  induction n with
  | zero =>
    intro j SI SX CU CQ CJ CX MI TT AW nE LT la nW WI WR WL WX wd I X O H locs ls hj hf
    exact False.elim hf
  | succ n ih =>
    intro j SI SX CU CQ CJ CX MI TT AW nE LT la nW WI WR WL WX wd I X O H locs ls hj hf hG hl
    unfold fL_loop at hf
    by_cases hq : (Int32.ofNat L - (4 : Int32)) < nI (4 * j)
    · refine lv_iload hx hb dL_law_23 (lv_at hl 4 rfl) ?_
      refine lv_aload_n hx hb dL_law_25 rfl (lv_at hl 0 rfl) ?_
      refine va_slen hx hb hX hbl (Nat.not_le.mpr hbl) hG.2.2 dL_law_26 ?_
      refine lv_iconst (v := (4 : Int32)) hx hb dL_law_27 (by decide) ?_
      refine lv_isub hx hb dL_law_28 ?_
      refine lv_icmp_gt (tgt := 1129) hx hb dL_law_29 (by decide) (fun q => ?_) (fun q => absurd hq q)
      refine lv_iconst (v := (1 : Int32)) hx hb dL_law_1129 (by decide) ?_
      refine va_forget (fun q hq => hG.2.2.2.2 q hq) ?_
      refine W.widen (k := 601024) (n := 7293034) (by omega) (by omega) ?_
      exact lw_ret hx hb hr hlk dL_law_1130
    · have h4 := exitL hL hj hq
      have e4 : nI (4 * j) + (4 : Int32) = nI (4 * (j + 1)) := nI_add (4 * j) 4
      refine vL_law_23 C hE hX hbl (by omega) (by omega) (fun SI SX CU CQ CJ CX MI TT AW nE LT la nW WI WR WL WX wd I X O H locs ls hf hG hl => ?_) SI SX CU CQ CJ CX MI TT AW nE LT la nW WI WR WL WX wd I X O _ _ _ hf hG hl
      rw [e4] at hf hl
      have := ih (j + 1) SI SX CU CQ CJ CX MI TT AW nE LT la nW WI WR WL WX wd I X O H locs ls (by omega) hf hG hl
      rw [show c0 + 9 * j + 9 = c0 + 9 * (j + 1) by omega, show s0 + 1991 * j + 1991 = s0 + 1991 * (j + 1) by omega]
      exact this

/-! Integer.bitCount counts the bits -/
theorem land_dig {a b m n : Nat} (ha : a < 256) (hm : m < 256) : (a + 256 * b) &&& (m + 256 * n) = (a &&& m) + 256 * (b &&& n) := by
  have hl : a &&& m < 2 ^ 8 := Nat.lt_of_le_of_lt Nat.and_le_left ha
  rw [show a + 256 * b = 2 ^ 8 * b + a by omega, show m + 256 * n = 2 ^ 8 * n + m by omega, show (a &&& m) + 256 * (b &&& n) = 2 ^ 8 * (b &&& n) + (a &&& m) by omega]
  refine Nat.eq_of_testBit_eq (fun i => ?_)
  rw [Nat.testBit_and, Nat.testBit_two_pow_mul_add _ (show a < 2 ^ 8 from ha), Nat.testBit_two_pow_mul_add _ (show m < 2 ^ 8 from hm), Nat.testBit_two_pow_mul_add _ hl]
  by_cases q : i < 8
  · rw [if_pos q, if_pos q, if_pos q, Nat.testBit_and]
  · rw [if_neg q, if_neg q, if_neg q, Nat.testBit_and]
def dg4 (a b c d : Nat) : Nat := a + 256 * (b + 256 * (c + 256 * d))
theorem land4 {a b c d : Nat} (m : Nat) (ha : a < 256) (hb : b < 256) (hc : c < 256) (hm : m < 256) : dg4 a b c d &&& dg4 m m m m = dg4 (a &&& m) (b &&& m) (c &&& m) (d &&& m) := by
  unfold dg4
  rw [land_dig ha hm, land_dig hb hm, land_dig hc hm]
def pc1 (b : Nat) : Nat := b - ((b / 2) &&& 85)
def pc2 (b : Nat) : Nat := (b &&& 51) + ((b / 4) &&& 51)
def pc3 (b : Nat) : Nat := (b + b / 16) % 16
theorem t_1 : ∀ b, b < 256 → ∀ k, k < 2 → ((b / 2 + 128 * k) &&& 85) = ((b / 2) &&& 85) ∧ ((b / 2) &&& 85) ≤ b := by decide +kernel
theorem t_2 : ∀ b, b < 256 → ∀ k, k < 4 → ((b / 4 + 64 * k) &&& 51) = ((b / 4) &&& 51) := by decide +kernel
theorem t_3 : ∀ b, b < 256 → pc1 b < 256 ∧ pc2 (pc1 b) ≤ 68 ∧ pc2 (pc1 b) / 16 ≤ 4 ∧ pc2 (pc1 b) % 16 ≤ 4 ∧ pc3 (pc2 (pc1 b)) = cn 8 (fun t => b.testBit t) := by decide +kernel
theorem t_4 : ∀ f, f < 256 → (f &&& 15) = f % 16 := by decide +kernel
theorem t_5 : ∀ f, f < 256 → (f &&& 51) ≤ 51 := by decide +kernel
theorem N_and (x y : Int32) : (x &&& y).toBitVec.toNat = x.toBitVec.toNat &&& y.toBitVec.toNat := by rw [Int32.toBitVec_and, BitVec.toNat_and]
theorem N_add (x y : Int32) : (x + y).toBitVec.toNat = (x.toBitVec.toNat + y.toBitVec.toNat) % 4294967296 := by rw [Int32.toBitVec_add, BitVec.toNat_add]
theorem N_sub (x y : Int32) : (x - y).toBitVec.toNat = (4294967296 - y.toBitVec.toNat + x.toBitVec.toNat) % 4294967296 := by rw [Int32.toBitVec_sub, BitVec.toNat_sub]
theorem cn_app (n k : Nat) (p : Nat → Bool) : cn (n + k) p = cn n p + cn k (fun t => p (n + t)) := by
  induction k with
  | zero => rfl
  | succ k ih =>
    show cn (n + k) p + (if p (n + k) = true then 1 else 0) = cn n p + (cn k (fun t => p (n + t)) + (if p (n + k) = true then 1 else 0))
    rw [ih]; omega
theorem pop45 {ka kb kc kd : Nat} (ha : ka ≤ 8) (hb : kb ≤ 8) (hc : kc ≤ 8) (hd : kd ≤ 8) : (dg4 (ka + kb) (kb + kc) (kc + kd) kd + dg4 (ka + kb) (kb + kc) (kc + kd) kd / 2 ^ 16) % 4294967296 % 64 = ka + kb + kc + kd := by
  have e : dg4 (ka + kb) (kb + kc) (kc + kd) kd = (ka + kb) + 256 * (kb + kc) + 65536 * (kc + kd) + 16777216 * kd := by unfold dg4; omega
  rw [e]
  have e2 : ((ka + kb) + 256 * (kb + kc) + 65536 * (kc + kd) + 16777216 * kd) / 2 ^ 16 = (kc + kd) + 256 * kd := by omega
  rw [e2]
  clear e e2
  rw [Nat.mod_mod_of_dvd _ (show 64 ∣ 4294967296 by decide)]
  omega
theorem r_bitCount {Q : Int32 → Prop} {x : Int32} (hq : Q (nI (cn 32 (fun t => ib x t)))) : fJ6_bitCount_0f7a4 Q x := by
  have hb : ∃ a b c d, a < 256 ∧ b < 256 ∧ c < 256 ∧ d < 256 ∧ x.toBitVec.toNat = dg4 a b c d := by
    have := x.toBitVec.isLt
    refine ⟨x.toBitVec.toNat % 256, x.toBitVec.toNat / 256 % 256, x.toBitVec.toNat / 65536 % 256, x.toBitVec.toNat / 16777216, by omega, by omega, by omega, by omega, ?_⟩
    unfold dg4
    omega
  obtain ⟨a, b, c, d, ha, hb, hc, hd, hx⟩ := hb
  -- how many bits there are
  have hcnt : cn 32 (fun t => ib x t) = cn 8 (fun t => a.testBit t) + cn 8 (fun t => b.testBit t) + cn 8 (fun t => c.testBit t) + cn 8 (fun t => d.testBit t) := by
    have e : ∀ t, ib x t = (dg4 a b c d).testBit t := by intro t; unfold ib; rw [BitVec.getLsbD, hx]
    have key : ∀ u v : Nat, u < 256 → ∀ t, (u + 256 * v).testBit t = if t < 8 then u.testBit t else v.testBit (t - 8) := by
      intro u v hu t
      rw [show u + 256 * v = 2 ^ 8 * v + u by omega, Nat.testBit_two_pow_mul_add _ (show u < 2 ^ 8 from hu)]
    have lo : ∀ u v : Nat, u < 256 → ∀ n, cn (8 + n) (fun t => (u + 256 * v).testBit t) = cn 8 (fun t => u.testBit t) + cn n (fun t => v.testBit t) := by
      intro u v hu n
      rw [cn_app]
      congr 1
      · exact cn_congr (fun i hi => by rw [key u v hu, if_pos hi])
      · exact cn_congr (fun i hi => by rw [key u v hu, if_neg (by omega)]; congr 1; omega)
    have : cn 32 (fun t => ib x t) = cn (8 + (8 + (8 + 8))) (fun t => (a + 256 * (b + 256 * (c + 256 * d))).testBit t) := cn_congr (fun i _ => e i)
    rw [this, lo a _ ha, lo b _ hb, lo c _ hc]
    omega
  unfold fJ6_bitCount_0f7a4
  -- step 1
  have n1 : (((x.toUInt32 >>> ((1 : Int32).toUInt32 &&& Int32.toUInt32 31)).toInt32) &&& (1431655765 : Int32)).toBitVec.toNat = dg4 ((a / 2) &&& 85) ((b / 2) &&& 85) ((c / 2) &&& 85) ((d / 2) &&& 85) := by
    rw [N_and, pk_ushr x 1 1 (by decide), hx, show (1431655765 : Int32).toBitVec.toNat = dg4 85 85 85 85 from by decide]
    have e : dg4 a b c d / 2 ^ 1 = dg4 (a / 2 + 128 * (b % 2)) (b / 2 + 128 * (c % 2)) (c / 2 + 128 * (d % 2)) (d / 2) := by unfold dg4; omega
    rw [e, land4 85 (by omega) (by omega) (by omega) (by omega), (t_1 a ha (b % 2) (by omega)).1, (t_1 b hb (c % 2) (by omega)).1, (t_1 c hc (d % 2) (by omega)).1]
  intro y1 hy1
  have s1 : y1.toBitVec.toNat = dg4 (pc1 a) (pc1 b) (pc1 c) (pc1 d) := by
    rw [hy1, N_sub, n1, hx]
    have za := (t_1 a ha 0 (by decide)).2
    have zb := (t_1 b hb 0 (by decide)).2
    have zc := (t_1 c hc 0 (by decide)).2
    have zd := (t_1 d hd 0 (by decide)).2
    unfold dg4 pc1
    omega
  obtain ⟨a1, a2, a3, a4, a5⟩ := t_3 a ha
  obtain ⟨b1, b2, b3, b4, b5⟩ := t_3 b hb
  obtain ⟨c1, c2, c3, c4, c5⟩ := t_3 c hc
  obtain ⟨d1, d2, d3, d4, d5⟩ := t_3 d hd
  -- step 2
  intro y2 hy2
  have s2 : y2.toBitVec.toNat = dg4 (pc2 (pc1 a)) (pc2 (pc1 b)) (pc2 (pc1 c)) (pc2 (pc1 d)) := by
    rw [hy2, N_add, N_and, N_and, pk_ushr y1 2 2 (by decide), s1, show (858993459 : Int32).toBitVec.toNat = dg4 51 51 51 51 from by decide]
    have e : dg4 (pc1 a) (pc1 b) (pc1 c) (pc1 d) / 2 ^ 2 = dg4 (pc1 a / 4 + 64 * (pc1 b % 4)) (pc1 b / 4 + 64 * (pc1 c % 4)) (pc1 c / 4 + 64 * (pc1 d % 4)) (pc1 d / 4) := by unfold dg4; omega
    rw [e, land4 51 (by omega) (by omega) (by omega) (by omega), land4 51 (by omega) (by omega) (by omega) (by omega), t_2 _ a1 _ (by omega), t_2 _ b1 _ (by omega), t_2 _ c1 _ (by omega)]
    have fa : pc2 (pc1 a) = (pc1 a &&& 51) + ((pc1 a / 4) &&& 51) := rfl
    have fb : pc2 (pc1 b) = (pc1 b &&& 51) + ((pc1 b / 4) &&& 51) := rfl
    have fc : pc2 (pc1 c) = (pc1 c &&& 51) + ((pc1 c / 4) &&& 51) := rfl
    have fd : pc2 (pc1 d) = (pc1 d &&& 51) + ((pc1 d / 4) &&& 51) := rfl
    unfold dg4
    omega
  generalize pc2 (pc1 a) = ea at *
  generalize pc2 (pc1 b) = eb at *
  generalize pc2 (pc1 c) = ec at *
  generalize pc2 (pc1 d) = ed at *
  -- step 3
  intro y3 hy3
  have s3 : y3.toBitVec.toNat = dg4 (pc3 ea) (pc3 eb) (pc3 ec) (pc3 ed) := by
    rw [hy3, N_and, N_add, pk_ushr y2 4 4 (by decide), s2, show (252645135 : Int32).toBitVec.toNat = dg4 15 15 15 15 from by decide]
    have e : (dg4 ea eb ec ed + dg4 ea eb ec ed / 2 ^ 4) % 4294967296 = dg4 (ea + ea / 16 + 16 * (eb % 16)) (eb + eb / 16 + 16 * (ec % 16)) (ec + ec / 16 + 16 * (ed % 16)) (ed + ed / 16) := by unfold dg4; omega
    rw [e, land4 15 (by omega) (by omega) (by omega) (by omega), t_4 _ (by omega), t_4 _ (by omega), t_4 _ (by omega), t_4 _ (by omega)]
    unfold pc3
    rw [show (ea + ea / 16 + 16 * (eb % 16)) % 16 = (ea + ea / 16) % 16 by omega, show (eb + eb / 16 + 16 * (ec % 16)) % 16 = (eb + eb / 16) % 16 by omega, show (ec + ec / 16 + 16 * (ed % 16)) % 16 = (ec + ec / 16) % 16 by omega]
  have pa := cn_le 8 (fun t => a.testBit t)
  have pb := cn_le 8 (fun t => b.testBit t)
  have pc := cn_le 8 (fun t => c.testBit t)
  have pd := cn_le 8 (fun t => d.testBit t)
  rw [a5, b5, c5, d5] at s3
  rw [hcnt] at hq
  generalize cn 8 (fun t => a.testBit t) = ka at *
  generalize cn 8 (fun t => b.testBit t) = kb at *
  generalize cn 8 (fun t => c.testBit t) = kc at *
  generalize cn 8 (fun t => d.testBit t) = kd at *
  -- steps 4 and 5
  intro y4 hy4 y5 hy5
  have s4 : y4.toBitVec.toNat = dg4 (ka + kb) (kb + kc) (kc + kd) kd := by
    rw [hy4, N_add, pk_ushr y3 8 8 (by decide), s3]
    unfold dg4
    omega
  have s5 : y5.toBitVec.toNat % 64 = ka + kb + kc + kd := by
    rw [hy5, N_add, pk_ushr y4 16 16 (by decide), s4]
    exact pop45 pa pb pc pd
  rw [pk_and y5 (m := 63) 6 (by decide), show (2 : Nat) ^ 6 = 64 from rfl, s5]
  exact hq

/-! bits of ints and longs -/
def ib (x : Int32) (t : Nat) : Bool := x.toBitVec.getLsbD t
def lb (x : Int64) (t : Nat) : Bool := x.toBitVec.getLsbD t
theorem sh_k : ∀ t, t < 32 → (((nI t).toUInt32 &&& Int32.toUInt32 31).toBitVec % 32).toNat = t := by decide +kernel
theorem sl_k : ∀ t, t < 32 → ((nI t &&& 31).toBitVec.smod 32).toNat = t := by decide +kernel
theorem and31 {t : Nat} (h : t < 2 ^ 31) : nI t &&& (31 : Int32) = nI (t % 32) := pk_andN (m := 31) (by omega) 5 (by decide)
theorem ib_nat (x : Int32) (t : Nat) : ib x t = decide (x.toBitVec.toNat / 2 ^ t % 2 = 1) := Nat.testBit_eq_decide_div_mod_eq
theorem ib_sh {x : Int32} {t : Nat} (h : t < 32) : ((x.toUInt32 >>> ((nI t).toUInt32 &&& Int32.toUInt32 31)).toInt32 &&& (1 : Int32)) = 0 ↔ ib x t = false := by
  rw [pk_and _ (m := 1) 1 (by decide), pk_ushr x (nI t) t (sh_k t h), ib_nat]
  have h2 : x.toBitVec.toNat / 2 ^ t % 2 ^ 1 < 2 := Nat.mod_lt _ (by decide)
  rw [show (0 : Int32) = nI 0 from rfl, nI_eq (by omega) (by decide)]
  simp only [Nat.pow_one] at h2 ⊢
  rw [decide_eq_false_iff_not]
  omega
theorem ib_sh31 {x : Int32} {t : Nat} (h : t < 2 ^ 31) : ((x.toUInt32 >>> ((nI t &&& (31 : Int32)).toUInt32 &&& Int32.toUInt32 31)).toInt32 &&& (1 : Int32)) = 0 ↔ ib x (t % 32) = false := by
  rw [and31 h]
  exact ib_sh (Nat.mod_lt _ (by decide))
theorem ib_or (x y : Int32) (t : Nat) : ib (x ||| y) t = (ib x t || ib y t) := by
  unfold ib
  rw [Int32.toBitVec_or, BitVec.getLsbD_or]
theorem ib_and (x y : Int32) (t : Nat) : ib (x &&& y) t = (ib x t && ib y t) := by
  unfold ib
  rw [Int32.toBitVec_and, BitVec.getLsbD_and]
theorem ib_m1 {t : Nat} (h : t < 32) : ib (-1) t = true := by
  have : ∀ t, t < 32 → ib (-1) t = true := by decide +kernel
  exact this t h
theorem ib_0 (t : Nat) : ib 0 t = false := by
  unfold ib
  exact BitVec.getLsbD_zero
theorem ib_not {y : Int32} {t : Nat} (h : t < 32) : ib (y ^^^ (-1 : Int32)) t = !(ib y t) := by
  have e := ib_m1 h
  unfold ib at e ⊢
  rw [Int32.toBitVec_xor, BitVec.getLsbD_xor, e]
  cases y.toBitVec.getLsbD t <;> rfl
theorem ib_one {t s : Nat} (h : t < 32) : ib ((1 : Int32) <<< (nI t &&& 31)) s = decide (s = t) := by
  unfold ib
  rw [BitVec.getLsbD, pk_shl 1 (nI t &&& 31) t (sl_k t h)]
  rw [show (1 : Int32).toBitVec.toNat = 1 from rfl, Nat.one_mul, Nat.mod_eq_of_lt (Nat.pow_lt_pow_right (by decide) h), Nat.testBit_two_pow]
  by_cases q : t = s
  · subst q; simp
  · simp [q, Ne.symm q]
theorem ib_ext {x y : Int32} (h : ∀ t, t < 32 → ib x t = ib y t) : x = y :=
  Int32.toBitVec_inj.mp (BitVec.eq_of_getLsbD_eq (fun i hi => h i hi))
theorem ib_eq0 {x : Int32} : x = 0 ↔ ∀ t, t < 32 → ib x t = false := by
  constructor
  · intro h t _; rw [h]; exact ib_0 t
  · intro h; exact ib_ext (fun t ht => by rw [h t ht, ib_0])
theorem ib_eqm1 {x : Int32} : x = -1 ↔ ∀ t, t < 32 → ib x t = true := by
  constructor
  · intro h t ht; rw [h]; exact ib_m1 ht
  · intro h; exact ib_ext (fun t ht => by rw [h t ht, ib_m1 ht])
theorem ib_ahead {x : Int32} {t : Nat} (k : Nat) (hk : k = 1 ∨ k = 2) (ht : t < 32) : ib (((x.toUInt32 >>> ((nI k).toUInt32 &&& Int32.toUInt32 31)).toInt32) ||| (x <<< (((32 : Int32) - nI k) &&& 31))) t = ib x ((t + k) % 32) := by
  have hs : ((((32 : Int32) - nI k) &&& 31).toBitVec.smod 32).toNat = 32 - k := by
    rcases hk with rfl | rfl <;> decide
  have hk3 : k < 32 := by omega
  rw [ib_or]
  unfold ib
  rw [BitVec.getLsbD, BitVec.getLsbD, BitVec.getLsbD, pk_ushr x (nI k) k (sh_k k hk3), pk_shl x _ (32 - k) hs, Nat.testBit_div_two_pow, Nat.testBit_mod_two_pow, Nat.testBit_mul_two_pow]
  by_cases q : t + k < 32
  · rw [Nat.mod_eq_of_lt q]
    have : ¬ (32 - k ≤ t) := by omega
    simp [this]
  · have e1 : x.toBitVec.toNat.testBit (t + k) = false := Nat.testBit_lt_two_pow (Nat.lt_of_lt_of_le x.toBitVec.isLt (Nat.pow_le_pow_right (by decide) (by omega)))
    have e2 : (t + k) % 32 = t - (32 - k) := by omega
    rw [e1, e2]
    have : 32 - k ≤ t := by omega
    simp [this, ht]
theorem bit_k : ∀ r, r < 63 → (((nI r).toInt64 &&& 63).toBitVec.smod 64).toNat = r := by decide +kernel
theorem lb_or (x y : Int64) (t : Nat) : lb (x ||| y) t = (lb x t || lb y t) := by
  unfold lb
  rw [Int64.toBitVec_or, BitVec.getLsbD_or]
theorem lb_and (x y : Int64) (t : Nat) : lb (x &&& y) t = (lb x t && lb y t) := by
  unfold lb
  rw [Int64.toBitVec_and, BitVec.getLsbD_and]
theorem lb_xor (x y : Int64) (t : Nat) : lb (x ^^^ y) t = (lb x t ^^ lb y t) := by
  unfold lb
  rw [Int64.toBitVec_xor, BitVec.getLsbD_xor]
theorem lb_0 (t : Nat) : lb 0 t = false := by
  unfold lb
  exact BitVec.getLsbD_zero
theorem lb_m1 {t : Nat} (h : t < 64) : lb (-1) t = true := by
  have : ∀ t, t < 64 → lb (-1) t = true := by decide +kernel
  exact this t h
/-- the long with the bit r alone -/
def lB (r : Nat) : Int64 := (1 : Int64) <<< ((nI r).toInt64 &&& 63)
theorem lb_B {r s : Nat} (h : r < 63) : lb (lB r) s = decide (s = r) := by
  unfold lb lB
  rw [Int64.toBitVec_shiftLeft, BitVec.shiftLeft_eq', bit_k r h]
  rw [BitVec.getLsbD_shiftLeft]
  have e : ∀ k, ((1 : Int64).toBitVec).getLsbD k = decide (k = 0) := by
    intro k
    rw [show (1 : Int64).toBitVec = 1#64 from rfl, BitVec.getLsbD_one]
    simp
  rw [e]
  by_cases q : s = r
  · subst q; simp; omega
  · by_cases q2 : s < r
    · simp [q2, q]
    · have : ¬ (s - r = 0) := by omega
      simp [this, q]
theorem lb_ext {x y : Int64} (h : ∀ t, t < 64 → lb x t = lb y t) : x = y :=
  Int64.toBitVec_inj.mp (BitVec.eq_of_getLsbD_eq (fun i hi => h i hi))
theorem cmp0 {x : Int64} : lg_cmp x 0 = 0 ↔ x = 0 := by
  unfold lg_cmp
  constructor
  · intro h
    by_cases a : x > 0
    · rw [if_pos a] at h; exact absurd h (by decide)
    · rw [if_neg a] at h
      by_cases b : x = 0
      · exact b
      · rw [if_neg b] at h; exact absurd h (by decide)
  · intro h
    subst h
    decide
theorem lb_cmp {x : Int64} {r : Nat} (h : r < 63) : lg_cmp (x &&& lB r) 0 = 0 ↔ lb x r = false := by
  rw [cmp0]
  constructor
  · intro e
    have e2 : lb (x &&& lB r) r = false := by rw [e]; exact lb_0 r
    rw [lb_and, lb_B h] at e2
    simpa using e2
  · intro e
    refine lb_ext (fun t _ => ?_)
    rw [lb_and, lb_B h, lb_0]
    by_cases q : t = r
    · subst q; rw [e]; rfl
    · simp [q]
theorem lb_not {y : Int64} {t : Nat} (h : t < 64) : lb (y ^^^ (-1 : Int64)) t = !(lb y t) := by
  rw [lb_xor, lb_m1 h]
  cases lb y t <;> rfl
theorem lcmp_eq {x y : Int64} : lg_cmp x y = 0 ↔ x = y := by
  unfold lg_cmp
  constructor
  · intro h
    by_cases a : x > y
    · rw [if_pos a] at h; exact absurd h (by decide)
    · rw [if_neg a] at h
      by_cases b : x = y
      · exact b
      · rw [if_neg b] at h; exact absurd h (by decide)
  · intro h
    subst h
    rw [if_neg (by exact Int64.lt_irrefl), if_pos rfl]

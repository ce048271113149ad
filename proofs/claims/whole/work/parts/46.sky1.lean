/-! the class's sky, its methods that change nothing -/
theorem n_i (x : Int32) : x.toInt = if 2 * x.toBitVec.toNat < 2 ^ 32 then (x.toBitVec.toNat : Int) else (x.toBitVec.toNat : Int) - (2 ^ 32 : Nat) := BitVec.toInt_eq_toNat_cond x.toBitVec
theorem nn_ib {x : Int32} : 0 ≤ x ↔ ib x 31 = false := by
  rw [Int32.le_iff_toInt_le, show (0 : Int32).toInt = 0 from by decide, n_i x, ib_nat, decide_eq_false_iff_not]
  have := x.toBitVec.isLt
  split <;> omega
theorem floorMod32 {Q : Int32 → Prop} {x : Int32} (hq : Q (nI (x.toBitVec.toNat % 32))) : fJ9_floorMod_7cf53 Q x 32 := by
  unfold fJ9_floorMod_7cf53
  refine ⟨by decide, ?_⟩
  have sx : ib (x ^^^ 32) 31 = ib x 31 := by
    unfold ib
    rw [Int32.toBitVec_xor, BitVec.getLsbD_xor, show (32 : Int32).toBitVec.getLsbD 31 = false from by decide, Bool.xor_false]
  have hl := x.toBitVec.isLt
  have hz := n_i x
  by_cases h : 0 ≤ x
  · have hn : ¬ x < 0 := fun z => absurd (Int32.lt_of_lt_of_le z h) Int32.lt_irrefl
    obtain ⟨j, hj, rfl⟩ := nI_of hn
    rw [pk_tn (by omega)] at hq
    refine nm_r (pk_rem (d := 32) hj (by decide) (by decide)) ?_
    refine ⟨fun _ => hq, fun z => absurd (nn_ib.mpr (by rw [sx]; exact nn_ib.mp h)) z⟩
  · have hx : ¬ 0 ≤ (x ^^^ 32) := fun z => h (nn_ib.mpr (by rw [← sx]; exact nn_ib.mp z))
    have z0 : x.toInt < 0 := by
      rw [Int32.le_iff_toInt_le, show (0 : Int32).toInt = 0 from by decide] at h
      omega
    have z1 : x.toInt = (x.toBitVec.toNat : Int) - 4294967296 := by
      rw [hz] at z0 ⊢
      by_cases q : 2 * x.toBitVec.toNat < 2 ^ 32
      · rw [if_pos q] at z0; omega
      · rw [if_neg q]; rfl
    have hm : -2 ^ 31 ≤ x.toInt := Int32.le_toInt x
    have ed : (x / 32).toInt = - ((4294967296 - x.toBitVec.toNat) / 32 : Int) := by
      rw [Int32.toInt_div_of_ne_right x 32 (by decide), show (32 : Int32).toInt = 32 from by decide, z1]
      rw [show (x.toBitVec.toNat : Int) - 4294967296 = - (4294967296 - (x.toBitVec.toNat : Int)) by omega, Int.neg_tdiv, Int.tdiv_eq_ediv_of_nonneg (by omega)]
    have em : (x / 32 * 32).toInt = - ((4294967296 - x.toBitVec.toNat) / 32 : Int) * 32 := by
      rw [Int32.toInt_mul, ed, show (32 : Int32).toInt = 32 from by decide]
      exact Int.bmod_eq_of_le (by omega) (by omega)
    have es : (x - x / 32 * 32).toInt = - ((4294967296 - (x.toBitVec.toNat : Int)) % 32) := by
      rw [Int32.toInt_sub, em, z1]
      rw [Int.bmod_eq_of_le (by omega) (by omega)]
      omega
    refine nm_e ?_
    refine ⟨fun z => absurd z hx, fun _ => ⟨fun z => ?_, fun z => ?_⟩⟩
    · rw [z]
      rw [z, show (0 : Int32).toInt = 0 from by decide] at es
      have : x.toBitVec.toNat % 32 = 0 := by omega
      rw [this] at hq
      exact hq
    · have ne : (4294967296 - (x.toBitVec.toNat : Int)) % 32 ≠ 0 := by
        intro y
        rw [y] at es
        exact z (Int32.toInt_inj.mp (by rw [es]; decide))
      have : x - x / 32 * 32 + 32 = nI (x.toBitVec.toNat % 32) := by
        refine Int32.toInt_inj.mp ?_
        rw [Int32.toInt_add, es, show (32 : Int32).toInt = 32 from by decide, nI_toInt (by omega), Int.bmod_eq_of_le (by omega) (by omega)]
        omega
      rw [this]
      exact hq
def rS0 (G : Geo) (SI : Nat → Int32) (SX : Nat → Nat → Int32) : Prop :=
  SI 0 = nI (G 0 0) ∧ SI 1 = nI (G 0 1) ∧ SI 2 = nI (G 0 2) ∧ (∀ p, p ≤ 6 → SX 5 p = nI (G 5 p)) ∧ (∀ v, v < 56 → SX 4 v = nI (if gup G v = true then 1 else 0)) ∧ (∀ r, r < G 0 1 → SX 6 r = nI (G 7 r) ∧ SX 7 r = nI (4 * (r - G 5 (G 7 r)) + G 3 (G 7 r)) ∧ SX 8 r + 32 = nI (G 4 (G 7 r)) ∧ SX 9 r = 2) ∧ (∀ j, j < G 0 2 → SX 6 (48 + j) = nI (G 11 j) ∧ SX 7 (48 + j) = nI (G 10 j) ∧ SX 9 (48 + j) = nI (G 12 j)) ∧ (∀ j, j < 8 → SX 8 (48 + j) = 0)
def gva (G : Geo) (v : Nat) : Prop := v < G 0 1 ∨ (48 ≤ v ∧ v < 48 + G 0 2)
def gpv (G : Geo) (v t : Nat) : Nat := if v < 48 then gpl G v t else G 10 (v - 48)
theorem gva_56 {G : Geo} {v : Nat} (hG : gok G) (h : gva G v) : v < 56 := by
  have := gok_nr hG
  have := gok_ns hG
  rcases h with h | h <;> omega
theorem gpv_lt {G : Geo} {v t : Nat} (hG : gok G) (h : gva G v) : gpv G v t < 32 := by
  have := gok_nr hG
  unfold gpv
  rcases h with h | h
  · rw [if_pos (by omega)]; exact gpl_lt G v t
  · rw [if_neg (by omega)]; exact (gok_s hG (j := v - 48) (by omega)).1
theorem gpn_lt {G : Geo} {v : Nat} (hG : gok G) (h : gva G v) : gpn G v < 6 := by
  have := gok_nr hG
  have := gok_np hG
  unfold gpn
  rcases h with h | h
  · rw [if_pos (by omega)]; have := (gok_pl hG h).1; omega
  · rw [if_neg (by omega)]; exact (gok_s hG (j := v - 48) (by omega)).2.1
theorem rS_pn {G : Geo} {SI : Nat → Int32} {SX : Nat → Nat → Int32} {v : Nat} (hG : gok G) (hS : rS0 G SI SX) (h : gva G v) : SX 6 v = nI (gpn G v) := by
  have := gok_nr hG
  obtain ⟨s0, s1, s2, s5, s4, sr, sj, s8⟩ := hS
  unfold gpn
  rcases h with h | h
  · rw [if_pos (by omega)]; exact (sr v h).1
  · rw [if_neg (by omega)]
    have := (sj (v - 48) (by omega)).1
    rw [show 48 + (v - 48) = v by omega] at this
    exact this
theorem r3_placeOf {G : Geo} {SI : Nat → Int32} {SX : Nat → Nat → Int32} {Q : Int32 → Prop} {v t : Nat} (hG : gok G) (hS : rS0 G SI SX) (hv : gva G v) (ht : t < 2 ^ 31) (hq : Q (nI (gpv G v t))) : fX3_placeOf SI SX Q (nI v) (nI t) := by
  have n48 := gok_nr hG
  have v56 := gva_56 hG hv
  obtain ⟨s0, s1, s2, s5, s4, sr, sj, s8⟩ := id hS
  unfold fX3_placeOf
  refine ⟨pk_in v 56 v56, pk_in v 56 v56, ?_⟩
  rw [pk_cl v]
  refine floorMod32 ?_
  have key : (SX 7 v + SX 8 v * nI t).toBitVec.toNat % 32 = gpv G v t := by
    unfold gpv
    rcases hv with h | h
    · rw [if_pos (by omega)]
      obtain ⟨a1, a2, a3, a4⟩ := sr v h
      have e : SX 7 v + SX 8 v * nI t + nI (32 * t) = nI (4 * (v - G 5 (G 7 v)) + G 3 (G 7 v) + G 4 (G 7 v) * t) := by
        rw [← nI_add (4 * (v - G 5 (G 7 v)) + G 3 (G 7 v)), ← pk_mul (G 4 (G 7 v)), ← a2, ← a3, Int32.add_mul, ← pk_mul 32 t, Int32.add_assoc]
        rfl
      have e2 : (SX 7 v + SX 8 v * nI t + nI (32 * t)).toBitVec.toNat = (4 * (v - G 5 (G 7 v)) + G 3 (G 7 v) + G 4 (G 7 v) * t) % 2 ^ 32 := by
        rw [e]; exact BitVec.toNat_ofNat _ _
      rw [Int32.toBitVec_add, BitVec.toNat_add, show (nI (32 * t)).toBitVec.toNat = (32 * t) % 2 ^ 32 from BitVec.toNat_ofNat _ _] at e2
      unfold gpl
      have e3 : (4 * (v - G 5 (G 7 v)) + G 3 (G 7 v) + G 4 (G 7 v) * (t % 32)) % 32 = (4 * (v - G 5 (G 7 v)) + G 3 (G 7 v) + G 4 (G 7 v) * t) % 32 := by
        rw [Nat.add_mod, Nat.mul_mod, Nat.mod_mod, ← Nat.mul_mod, ← Nat.add_mod]
      rw [e3]
      omega
    · rw [if_neg (by omega)]
      have a := (sj (v - 48) (by omega)).2.1
      have b := s8 (v - 48) (by omega)
      rw [show 48 + (v - 48) = v by omega] at a b
      have c := (gok_s hG (j := v - 48) (by omega)).1
      rw [a, b, Int32.zero_mul, Int32.add_zero, pk_tn (by omega)]
      exact Nat.mod_eq_of_lt c
  rw [key]
  exact hq
theorem r3_apart {Q : Int32 → Prop} {a b : Nat} (ha : a < 32) (hb : b < 32) (hq : Q (nI (gap a b))) : fX3_apart Q (nI a) (nI b) := r6_apart ha hb hq
theorem r5_isRelay {Q : Int32 → Prop} {v : Nat} (hv : v < 2 ^ 31) (hq : Q (nI (if v < 48 then 1 else 0))) : fX5_isRelay Q (nI v) := by
  unfold fX5_isRelay
  refine pk_le 48 v (fun h => ?_) (fun h => ?_)
  · rw [if_neg (by omega)] at hq; exact hq
  · rw [if_pos h] at hq; exact hq
theorem r3_lengthOf {G : Geo} {SI : Nat → Int32} {SX : Nat → Nat → Int32} {Q : Int32 → Prop} {v r : Nat} (hG : gok G) (hS : rS0 G SI SX) (hv : gva G v) (hr : gva G r) (hq : Q (nI (gln G v r))) : fX3_lengthOf SI SX Q (nI v) (nI r) := by
  have v56 := gva_56 hG hv
  have r56 := gva_56 hG hr
  have n48 := gok_nr hG
  have e1 := rS_pn hG hS hv
  have e2 := rS_pn hG hS hr
  have l1 := gpn_lt hG hv
  have l2 := gpn_lt hG hr
  unfold fX3_lengthOf fX3_lengthOf_b33 fX3_lengthOf_b34
  unfold gln at hq
  refine r5_isRelay (by omega) ?_
  by_cases h1 : v < 48
  · rw [if_pos h1]
    refine ⟨fun z => absurd z (by decide), fun _ => ?_⟩
    refine r5_isRelay (by omega) ?_
    by_cases h2 : r < 48
    · rw [if_pos h2]
      refine ⟨fun z => absurd z (by decide), fun _ => ?_⟩
      refine ⟨pk_in v 56 v56, pk_in r 56 r56, ?_⟩
      rw [pk_cl v, pk_cl r, e1, e2]
      have f1 : gpn G v = G 7 v := by unfold gpn; rw [if_pos h1]
      have f2 : gpn G r = G 7 r := by unfold gpn; rw [if_pos h2]
      rw [f1] at l1 ⊢
      rw [f2] at l2 ⊢
      refine ⟨fun z => ?_, fun z => ?_⟩
      · rw [if_neg (fun y => z (by rw [y.2.2]))] at hq
        exact ⟨fun _ => hq, fun y => absurd rfl y⟩
      · rw [if_pos ⟨h1, h2, (nI_eq (by omega) (by omega)).mp z⟩] at hq
        exact ⟨fun y => absurd y (by decide), fun _ => hq⟩
    · rw [if_neg h2]
      rw [if_neg (fun y => h2 y.2.1)] at hq
      exact ⟨fun _ => ⟨fun _ => hq, fun y => absurd rfl y⟩, fun z => absurd rfl z⟩
  · rw [if_neg h1]
    rw [if_neg (fun y => h1 y.1)] at hq
    exact ⟨fun _ => ⟨fun _ => hq, fun y => absurd rfl y⟩, fun z => absurd rfl z⟩
theorem vz01 (b : Bool) : vz (nI (if b = true then 1 else 0)) := by cases b <;> (unfold vz; decide)
theorem r3_isUp {G : Geo} {SI : Nat → Int32} {SX : Nat → Nat → Int32} {Q : Int32 → Prop} {v : Nat} (hS : rS0 G SI SX) (hv : v < 56) (hq : Q (nI (if gup G v = true then 1 else 0))) : fX3_isUp SI SX Q (nI v) := by
  obtain ⟨s0, s1, s2, s5, s4, sr, sj, s8⟩ := hS
  unfold fX3_isUp
  refine ⟨pk_in v 56 hv, ?_⟩
  rw [pk_cl v, s4 v hv]
  exact ⟨vz01 _, hq⟩
/-- the tables of the links -/
def rSt (G : Geo) (SX : Nat → Nat → Int32) : Prop := ∀ v r, gva G v → r < G 0 1 → ∀ t, t < 32 → ib (SX 10 (v * 48 + r)) t = gth G v r t ∧ ib (SX 11 (v * 48 + r)) t = (gth G v r t && gth G v r (t + 1) && (decide (gln G v r = 1) || gth G v r (t + 2)))
def rS (G : Geo) (SI : Nat → Int32) (SX : Nat → Nat → Int32) : Prop := rS0 G SI SX ∧ rSt G SX ∧ (∀ r, r < 48 → SX 10 (r * 48 + r) = 0 ∧ SX 11 (r * 48 + r) = 0)
theorem gup_va {G : Geo} {v : Nat} (h : gup G v = true) : gva G v := by
  unfold gup at h
  have h := of_decide_eq_true h
  rcases h with h | h
  · exact Or.inl h.1
  · exact Or.inr h
theorem gva_r {G : Geo} {r : Nat} (hG : gok G) (h : gva G r) (h48 : r < 48) : r < G 0 1 := by rcases h with h | h <;> omega
theorem ite01 {b : Bool} (h : b = true) : nI (if b = true then 1 else 0) = 1 := by rw [if_pos h]; rfl
theorem ite00 {b : Bool} (h : ¬ b = true) : nI (if b = true then 1 else 0) = 0 := by rw [if_neg h]; rfl
theorem r3_ticksThere {G : Geo} {SI : Nat → Int32} {SX : Nat → Nat → Int32} {Q : Int32 → Prop} {v r : Nat} (hG : gok G) (hS : rS G SI SX) (hv : v < 56) (hr : r < 48) (hq : ∀ x : Int32, (∀ t, t < 32 → ib x t = gLk G v r t) → Q x) : fX3_ticksThere SI SX Q (nI v) (nI r) := by
  obtain ⟨hS0, hSt, _⟩ := hS
  obtain ⟨s0, s1, s2, s5, s4, sr, sj, s8⟩ := id hS0
  unfold fX3_ticksThere
  refine ⟨pk_in v 56 hv, ?_⟩
  rw [pk_cl v, s4 v hv]
  have z0 : (gup G v = true → gup G r = true → False) → Q 0 := by
    intro h
    refine hq 0 (fun t _ => ?_)
    rw [ib_0]
    unfold gLk
    cases a : gup G v
    · rfl
    · cases b : gup G r
      · rfl
      · exact absurd b (fun _ => h a b)
  by_cases a : gup G v = true
  · rw [ite01 a]
    refine ⟨fun z => absurd z (by decide), fun _ => ?_⟩
    refine ⟨pk_in r 56 (by omega), ?_⟩
    rw [pk_cl r, s4 r (by omega)]
    by_cases b : gup G r = true
    · rw [ite01 b]
      refine ⟨fun z => absurd z (by decide), fun _ => ?_⟩
      have e : nI v * (48 : Int32) + nI r = nI (v * 48 + r) := by rw [show (48 : Int32) = nI 48 from rfl, pk_mul, nI_add]
      rw [e]
      refine ⟨pk_in (v * 48 + r) 2688 (by omega), ?_⟩
      rw [pk_cl (v * 48 + r)]
      refine hq _ (fun t ht => ?_)
      rw [(hSt v r (gup_va a) (gva_r hG (gup_va b) hr) t ht).1]
      unfold gLk
      rw [a, b]
      rfl
    · rw [ite00 b]
      exact ⟨fun _ => z0 (fun _ y => b y), fun z => absurd rfl z⟩
  · rw [ite00 a]
    exact ⟨fun _ => z0 (fun y _ => a y), fun z => absurd rfl z⟩
theorem r3_ticksToTake {G : Geo} {SI : Nat → Int32} {SX : Nat → Nat → Int32} {Q : Int32 → Prop} {v r : Nat} (hG : gok G) (hS : rS G SI SX) (hv : v < 56) (hr : r < 48) (hq : ∀ x : Int32, (∀ t, t < 32 → ib x t = gTk G v r t) → Q x) : fX3_ticksToTake SI SX Q (nI v) (nI r) := by
  obtain ⟨hS0, hSt, _⟩ := hS
  obtain ⟨s0, s1, s2, s5, s4, sr, sj, s8⟩ := id hS0
  unfold fX3_ticksToTake
  refine ⟨pk_in v 56 hv, ?_⟩
  rw [pk_cl v, s4 v hv]
  have z0 : (gup G v = true → gup G r = true → False) → Q 0 := by
    intro h
    refine hq 0 (fun t _ => ?_)
    rw [ib_0]
    unfold gTk
    cases a : gup G v
    · rfl
    · cases b : gup G r
      · rfl
      · exact absurd b (fun _ => h a b)
  by_cases a : gup G v = true
  · rw [ite01 a]
    refine ⟨fun z => absurd z (by decide), fun _ => ?_⟩
    refine ⟨pk_in r 56 (by omega), ?_⟩
    rw [pk_cl r, s4 r (by omega)]
    by_cases b : gup G r = true
    · rw [ite01 b]
      refine ⟨fun z => absurd z (by decide), fun _ => ?_⟩
      have e : nI v * (48 : Int32) + nI r = nI (v * 48 + r) := by rw [show (48 : Int32) = nI 48 from rfl, pk_mul, nI_add]
      rw [e]
      refine ⟨pk_in (v * 48 + r) 2688 (by omega), ?_⟩
      rw [pk_cl (v * 48 + r)]
      refine hq _ (fun t ht => ?_)
      rw [(hSt v r (gup_va a) (gva_r hG (gup_va b) hr) t ht).2]
      unfold gTk
      rw [a, b]
      rfl
    · rw [ite00 b]
      exact ⟨fun _ => z0 (fun _ y => b y), fun z => absurd rfl z⟩
  · rw [ite00 a]
    exact ⟨fun _ => z0 (fun y _ => a y), fun z => absurd rfl z⟩
theorem r3_isThere {G : Geo} {SI : Nat → Int32} {SX : Nat → Nat → Int32} {Q : Int32 → Prop} {v r t : Nat} (hG : gok G) (hS : rS G SI SX) (hv : v < 56) (hr : r < 48) (ht : t < 2 ^ 31) (hq : Q (nI (if gLk G v r t = true then 1 else 0))) : fX3_isThere SI SX Q (nI v) (nI r) (nI t) := by
  unfold fX3_isThere
  refine r3_ticksThere hG hS hv hr (fun x hx => ?_)
  have e := hx (t % 32) (Nat.mod_lt _ (by decide))
  rw [gLk_mod] at e
  refine ⟨fun z => ?_, fun z => ?_⟩
  · have y := (ib_sh31 ht).mp z
    rw [e] at y
    rw [y, if_neg (by decide)] at hq
    exact hq
  · have y : gLk G v r t = true := by
      cases c : gLk G v r t
      · exact absurd ((ib_sh31 ht).mpr (by rw [e, c])) z
      · rfl
    rw [if_pos y] at hq
    exact hq
theorem r3_nearFrom {G : Geo} {SI : Nat → Int32} {SX : Nat → Nat → Int32} {Q : Int32 → Prop} {v : Nat} (hG : gok G) (hS : rS0 G SI SX) (hv : gva G v) (hq : Q (nI (gnf G v))) : fX3_nearFrom SI SX Q (nI v) := by
  have v56 := gva_56 hG hv
  have l1 := gpn_lt hG hv
  have e1 := rS_pn hG hS hv
  obtain ⟨s0, s1, s2, s5, s4, sr, sj, s8⟩ := id hS
  unfold fX3_nearFrom
  refine ⟨pk_in v 56 v56, ?_⟩
  rw [pk_cl v, e1]
  have e : (if (nI (gpn G v) - (1 : Int32)) < (0 : Int32) then (0 : Int32) else (nI (gpn G v) - (1 : Int32))) = nI (gpn G v - 1) := by
    by_cases h : gpn G v = 0
    · rw [h]; decide
    · rw [show nI (gpn G v) - (1 : Int32) = nI (gpn G v - 1) from pk_sub (b := 1) (by omega), if_neg (nI_pos (by omega))]
  rw [e]
  refine ⟨pk_in (gpn G v - 1) 7 (by omega), ?_⟩
  rw [pk_cl (gpn G v - 1), s5 _ (by omega)]
  exact hq
theorem r3_nearTo {G : Geo} {SI : Nat → Int32} {SX : Nat → Nat → Int32} {Q : Int32 → Prop} {v : Nat} (hG : gok G) (hS : rS0 G SI SX) (hv : gva G v) (hq : Q (nI (gnt G v))) : fX3_nearTo SI SX Q (nI v) := by
  have v56 := gva_56 hG hv
  have l1 := gpn_lt hG hv
  have e1 := rS_pn hG hS hv
  obtain ⟨s0, s1, s2, s5, s4, sr, sj, s8⟩ := id hS
  unfold fX3_nearTo
  refine ⟨pk_in v 56 v56, ?_⟩
  rw [pk_cl v, e1]
  have e : (if (6 : Int32) < (nI (gpn G v) + (2 : Int32)) then (6 : Int32) else (nI (gpn G v) + (2 : Int32))) = nI (if 6 < gpn G v + 2 then 6 else gpn G v + 2) := by
    rw [show nI (gpn G v) + (2 : Int32) = nI (gpn G v + 2) from nI_add _ 2]
    show (if nI 6 < nI (gpn G v + 2) then nI 6 else nI (gpn G v + 2)) = _
    by_cases h : 6 < gpn G v + 2
    · rw [if_pos h, if_pos (nI_lt (a := 6) h (by omega))]
    · rw [if_neg h, if_neg (nI_nlt (b := gpn G v + 2) (a := 6) (by omega) (by decide))]
  rw [e]
  have h7 : (if 6 < gpn G v + 2 then 6 else gpn G v + 2) ≤ 6 := by split <;> omega
  refine ⟨pk_in (if 6 < gpn G v + 2 then 6 else gpn G v + 2) 7 (by omega), ?_⟩
  rw [pk_cl (if 6 < gpn G v + 2 then 6 else gpn G v + 2), s5 _ h7]
  exact hq

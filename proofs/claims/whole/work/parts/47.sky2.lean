/-! the class's sky: counts, and how a link's ticks are reckoned -/
def sn : Nat → (Nat → Nat) → Nat
  | 0, _ => 0
  | n + 1, f => sn n f + f n
theorem sn_congr {n : Nat} {f g : Nat → Nat} (h : ∀ i, i < n → f i = g i) : sn n f = sn n g := by
  induction n with
  | zero => rfl
  | succ n ih =>
    unfold sn
    rw [ih (fun i hi => h i (by omega)), h n (by omega)]
theorem sn_add (n : Nat) (f g : Nat → Nat) : sn n (fun i => f i + g i) = sn n f + sn n g := by
  induction n with
  | zero => rfl
  | succ n ih =>
    show sn n (fun i => f i + g i) + (f n + g n) = (sn n f + f n) + (sn n g + g n)
    rw [ih]; omega
theorem sn_0 (n : Nat) : sn n (fun _ => 0) = 0 := by
  induction n with
  | zero => rfl
  | succ n ih =>
    show sn n (fun _ => 0) + 0 = 0
    rw [ih]
theorem sn_swap (n m : Nat) (f : Nat → Nat → Nat) : sn n (fun i => sn m (fun j => f i j)) = sn m (fun j => sn n (fun i => f i j)) := by
  induction n with
  | zero => exact (sn_0 m).symm
  | succ n ih =>
    show sn n (fun i => sn m (fun j => f i j)) + sn m (fun j => f n j) = sn m (fun j => sn n (fun i => f i j) + f n j)
    rw [ih, sn_add]
theorem sn_le {n : Nat} {f : Nat → Nat} {c : Nat} (h : ∀ i, i < n → f i ≤ c) : sn n f ≤ n * c := by
  induction n with
  | zero => unfold sn; omega
  | succ n ih =>
    unfold sn
    have a := ih (fun i hi => h i (by omega))
    have b := h n (by omega)
    rw [Nat.add_mul]
    omega
theorem sn_more {n m : Nat} {f : Nat → Nat} (h : n ≤ m) (hz : ∀ i, n ≤ i → i < m → f i = 0) : sn m f = sn n f := by
  induction h with
  | refl => rfl
  | @step m hm ih =>
    have hm : n ≤ m := hm
    show sn m f + f m = sn n f
    rw [hz m (by omega) (by omega), ih (fun i a b => hz i a (by omega))]
    rfl
theorem r3_deadRelays {G : Geo} {SI : Nat → Int32} {SX : Nat → Nat → Int32} {Q : Int32 → Prop} (hG : gok G) (hS : rS0 G SI SX) (hq : Q (nI (cn (G 0 1) (fun r => decide (G 8 r ≠ 0))))) : fX3_deadRelays SI SX Q := by
  have n48 := gok_nr hG
  obtain ⟨s0, s1, s2, s5, s4, sr, sj, s8⟩ := id hS
  unfold fX3_deadRelays
  refine pk_loop (σ := Unit) (fun n i _ => fX3_deadRelays_h4 SI SX Q n (nI (cn i (fun r => decide (G 8 r ≠ 0)))) (nI i)) (fun _ _ => True) (G 0 1) 0 () (Nat.zero_le _) trivial ?_ ?_
  · intro n _ _
    unfold fX3_deadRelays_h4
    rw [s1]
    exact ⟨fun _ => hq, fun z => absurd (nI_le (Nat.le_refl _) (by omega)) z⟩
  · intro n i _ hi _ ih
    unfold fX3_deadRelays_h4 fX3_deadRelays_b24
    rw [s1]
    refine ⟨fun z => absurd z (nI_ge hi (by omega)), fun _ => ?_⟩
    refine ⟨pk_in i 56 (by omega), ?_⟩
    rw [pk_cl i, s4 i (by omega), gup_r (by omega) hG]
    have e : cn (i + 1) (fun r => decide (G 8 r ≠ 0)) = cn i (fun r => decide (G 8 r ≠ 0)) + (if decide (G 8 i ≠ 0) = true then 1 else 0) := rfl
    have ih := ih () trivial
    rw [e] at ih
    by_cases d : G 8 i = 0
    · rw [ite01 (decide_eq_true ⟨hi, d⟩)]
      rw [if_neg (by simp [d])] at ih
      refine ⟨fun _ => ?_, fun z => absurd z (by decide)⟩
      exact nm_r (nI_1 i) ih
    · rw [ite00 (by simp [d])]
      rw [if_pos (by simp [d])] at ih
      refine ⟨fun z => absurd rfl z, fun _ => ?_⟩
      exact nm_r (nI_1 _) (nm_r (nI_1 i) ih)
theorem gnt_gt {G : Geo} (hG : gok G) {r : Nat} (hr : r < G 0 1) : r < gnt G r := by
  have n48 := gok_nr hG
  have n6 := gok_np hG
  obtain ⟨b, c, d⟩ := gok_pl hG hr
  have e : gpn G r = G 7 r := by unfold gpn; rw [if_pos (by omega)]
  unfold gnt
  rw [e]
  refine Nat.lt_of_lt_of_le d (gok_5 hG ?_ ?_)
  · split <;> omega
  · split <;> omega
/-- how many links of relays with one another there are -/
def gLs (G : Geo) (t : Nat) : Nat := sn (G 0 1) (fun r => sn (G 0 1) (fun o => if r < o ∧ gLk G r o t = true then 1 else 0))
theorem r3_linksOfRelays {G : Geo} {SI : Nat → Int32} {SX : Nat → Nat → Int32} {Q : Int32 → Prop} {t : Nat} (hG : gok G) (hS : rS G SI SX) (ht : t < 2 ^ 31) (hq : Q (nI (gLs G t))) : fX3_linksOfRelays SI SX Q (nI t) := by
  have n48 := gok_nr hG
  obtain ⟨s0, s1, s2, s5, s4, sr, sj, s8⟩ := id hS.1
  unfold fX3_linksOfRelays
  refine pk_loop (σ := Unit) (fun n i _ => fX3_linksOfRelays_h4 SI SX Q n (nI t) (nI (sn i (fun r => sn (G 0 1) (fun o => if r < o ∧ gLk G r o t = true then 1 else 0)))) (nI i)) (fun _ _ => True) (G 0 1) 0 () (Nat.zero_le _) trivial ?_ ?_
  · intro n _ _
    unfold fX3_linksOfRelays_h4
    rw [s1]
    exact ⟨fun _ => hq, fun z => absurd (nI_le (Nat.le_refl _) (by omega)) z⟩
  · intro n i _ hi _ ih
    unfold fX3_linksOfRelays_h4
    rw [s1]
    refine ⟨fun z => absurd z (nI_ge hi (by omega)), fun _ => ?_⟩
    refine nm_r (nI_1 i) ?_
    have g1 := gnt_gt hG hi
    have g2 := gnt_le hG i
    have start : sn i (fun r => sn (G 0 1) (fun o => if r < o ∧ gLk G r o t = true then 1 else 0)) = sn i (fun r => sn (G 0 1) (fun o => if r < o ∧ gLk G r o t = true then 1 else 0)) + sn (i + 1) (fun o => if i < o ∧ gLk G i o t = true then 1 else 0) := by
      have : sn (i + 1) (fun o => if i < o ∧ gLk G i o t = true then 1 else 0) = sn (i + 1) (fun _ => 0) := sn_congr (fun o ho => if_neg (fun z => by omega))
      rw [this, sn_0]
      rfl
    rw [start]
    refine pk_loop (σ := Unit) (fun m o _ => fX3_linksOfRelays_h17 SI SX (fun a0 a1 a2 => fX3_linksOfRelays_h4 SI SX Q n a0 a1 a2) Q m (nI t) (nI (sn i (fun r => sn (G 0 1) (fun o => if r < o ∧ gLk G r o t = true then 1 else 0)) + sn o (fun o => if i < o ∧ gLk G i o t = true then 1 else 0))) (nI i) (nI o)) (fun o _ => i < o) (gnt G i) (i + 1) () (by omega) (by omega) ?_ ?_
    · intro m _ _
      unfold fX3_linksOfRelays_h17
      refine r3_nearTo hG hS.1 (Or.inl hi) ?_
      refine ⟨fun _ => ?_, fun z => absurd (nI_le (Nat.le_refl _) (by omega)) z⟩
      refine nm_r (nI_1 i) ?_
      have e : sn (gnt G i) (fun o => if i < o ∧ gLk G i o t = true then 1 else 0) = sn (G 0 1) (fun o => if i < o ∧ gLk G i o t = true then 1 else 0) := by
        refine (sn_more g2 (fun o a b => if_neg (fun z => ?_))).symm
        have w := z.2
        unfold gLk at w
        rw [Bool.and_eq_true] at w
        have := (gth_near hG (gpn_lt hG (Or.inl hi)) b w.2).2
        omega
      rw [e]
      exact ih () trivial
    · intro m o _ ho hio ihm
      unfold fX3_linksOfRelays_h17 fX3_linksOfRelays_b41
      refine r3_nearTo hG hS.1 (Or.inl hi) ?_
      refine ⟨fun z => absurd z (nI_ge ho (by omega)), fun _ => ?_⟩
      refine r3_isThere hG hS (by omega) (by omega) ht ?_
      have ihm := ihm () (by omega)
      have e : sn (o + 1) (fun o => if i < o ∧ gLk G i o t = true then 1 else 0) = sn o (fun o => if i < o ∧ gLk G i o t = true then 1 else 0) + (if i < o ∧ gLk G i o t = true then 1 else 0) := rfl
      rw [e] at ihm
      by_cases c : gLk G i o t = true
      · rw [ite01 c]
        rw [if_pos ⟨hio, c⟩, ← Nat.add_assoc] at ihm
        refine ⟨fun z => absurd z (by decide), fun _ => ?_⟩
        exact nm_r (nI_1 _) (nm_r (nI_1 o) ihm)
      · rw [ite00 c]
        rw [if_neg (fun z => c z.2)] at ihm
        refine ⟨fun _ => ?_, fun z => absurd rfl z⟩
        exact nm_r (nI_1 o) ihm
theorem d_m1 {a b : Nat} (ha : a < 100) (hb : b < 100) : nI a - nI b < (-1 : Int32) ↔ a + 1 < b := by
  rw [Int32.lt_iff_toInt_lt, pk_sub_toInt (by omega) (by omega), show (-1 : Int32).toInt = -1 from by decide]
  omega
theorem d_1 {a b : Nat} (ha : a < 100) (hb : b < 100) : nI a - nI b ≤ (1 : Int32) ↔ a ≤ b + 1 := by
  rw [Int32.le_iff_toInt_le, pk_sub_toInt (by omega) (by omega), show (1 : Int32).toInt = 1 from by decide]
  omega
theorem d_0 {a b : Nat} (ha : a < 100) (hb : b < 100) : nI a - nI b = (0 : Int32) ↔ a = b := by
  rw [← Int32.toInt_inj, pk_sub_toInt (by omega) (by omega), show (0 : Int32).toInt = 0 from by decide]
  omega
theorem r3_areNext {G : Geo} {SI : Nat → Int32} {SX : Nat → Nat → Int32} {Q : Int32 → Prop} {a b : Nat} (hG : gok G) (hS : rS0 G SI SX) (ha : a < G 0 1) (hb : b < G 0 1) (hq : Q (nI (if gdi a b = 1 ∨ (2 < gsz G (G 7 a) ∧ gdi a b = gsz G (G 7 a) - 1) then 1 else 0))) : fX3_areNext SI SX Q (nI a) (nI b) := by
  have n48 := gok_nr hG
  have n6 := gok_np hG
  obtain ⟨s0, s1, s2, s5, s4, sr, sj, s8⟩ := id hS
  obtain ⟨a1, a2, a3⟩ := gok_pl hG ha
  obtain ⟨_, _, _, p4, p5⟩ := gok_p hG a1
  have gl : gdi a b < 48 := gdi_lt (by omega) (by omega)
  have sz : gsz G (G 7 a) ≤ 8 := by unfold gsz; omega
  unfold fX3_areNext fX3_areNext_b53
  refine nm_r (abs_nI (by omega) (by omega)) ?_
  refine ⟨pk_in a 56 (by omega), ?_⟩
  rw [pk_cl a]
  refine nm_r (sr a ha).1 ?_
  rw [show nI (G 7 a) + (1 : Int32) = nI (G 7 a + 1) from nI_1 _]
  refine ⟨pk_in (G 7 a + 1) 7 (by omega), pk_in (G 7 a) 7 (by omega), ?_⟩
  rw [pk_cl (G 7 a + 1), pk_cl (G 7 a), s5 _ (by omega), s5 _ (by omega)]
  refine nm_r (pk_sub (by omega)) ?_
  show ((nI (gdi a b) = (1 : Int32) → Q 1) ∧ (¬ nI (gdi a b) = (1 : Int32) → ((nI (gsz G (G 7 a)) < (3 : Int32) → Q 0) ∧ (¬ nI (gsz G (G 7 a)) < (3 : Int32) → ((¬ nI (gdi a b) = nI (gsz G (G 7 a)) - (1 : Int32) → Q 0) ∧ (nI (gdi a b) = nI (gsz G (G 7 a)) - (1 : Int32) → Q 1))))))
  refine pk_eq (gdi a b) 1 (fun w => ?_) (fun w => ?_)
  · rw [if_pos (Or.inl w)] at hq; exact hq
  · refine pk_lt (gsz G (G 7 a)) 3 (fun v => ?_) (fun v => ?_)
    · rw [if_neg (by omega)] at hq; exact hq
    · rw [show nI (gsz G (G 7 a)) - (1 : Int32) = nI (gsz G (G 7 a) - 1) from pk_sub (b := 1) (by omega)]
      refine ⟨fun u => ?_, fun u => ?_⟩
      · rw [if_neg (fun z => by rcases z with z | z
                                · exact w z
                                · exact u (by rw [z.2]))] at hq
        exact hq
      · rw [if_pos (Or.inr ⟨by omega, (nI_eq (by omega) (by omega)).mp u⟩)] at hq
        exact hq
/-- how far a node sees -/
def gsi (G : Geo) (v : Nat) : Nat := if v < 48 then 2 else G 12 (v - 48)
theorem rS_si {G : Geo} {SI : Nat → Int32} {SX : Nat → Nat → Int32} {v : Nat} (hG : gok G) (hS : rS0 G SI SX) (h : gva G v) : SX 9 v = nI (gsi G v) ∧ gsi G v ≤ 8 := by
  have := gok_nr hG
  obtain ⟨s0, s1, s2, s5, s4, sr, sj, s8⟩ := hS
  unfold gsi
  rcases h with h | h
  · rw [if_pos (by omega)]; exact ⟨(sr v h).2.2.2, by decide⟩
  · rw [if_neg (by omega)]
    have := (sj (v - 48) (by omega)).2.2
    rw [show 48 + (v - 48) = v by omega] at this
    exact ⟨this, (gok_s hG (j := v - 48) (by omega)).2.2⟩
theorem r3_reckonLoop {G : Geo} {SI : Nat → Int32} {SX : Nat → Nat → Int32} {Q : Int32 → Prop} {v r : Nat} (hG : gok G) (hS : rS0 G SI SX) (hv : gva G v) (hr : r < G 0 1) (hq : ∀ x : Int32, (∀ t, t < 32 → ib x t = decide (gap (gpv G v t) (gpl G r t) ≤ gsi G v)) → Q x) : fX3_reckonTicks_b52 SI SX Q (nI v) (nI r) := by
  have n48 := gok_nr hG
  have v56 := gva_56 hG hv
  obtain ⟨si1, si2⟩ := rS_si hG hS hv
  unfold fX3_reckonTicks_b52
  refine pk_loop (σ := Int32) (fun n i x => fX3_reckonTicks_h58 SI SX Q n (nI v) (nI r) x (nI i)) (fun i x => ∀ t, t < 32 → ib x t = decide (t < i ∧ gap (gpv G v t) (gpl G r t) ≤ gsi G v)) 32 0 0 (by decide) (fun t _ => by rw [ib_0, decide_eq_false (by omega)]) ?_ ?_
  · intro n x hx
    unfold fX3_reckonTicks_h58
    refine ⟨fun _ => hq x (fun t ht => ?_), fun z => absurd (by decide) z⟩
    rw [hx t ht]
    exact decide_eq_decide.mpr ⟨fun y => y.2, fun y => ⟨ht, y⟩⟩
  · intro n i x hi hx ih
    unfold fX3_reckonTicks_h58 fX3_reckonTicks_b100
    refine ⟨fun z => absurd z (nI_ge (b := 32) hi (by decide)), fun _ => ?_⟩
    refine r3_placeOf hG hS hv (by omega) ?_
    refine r3_placeOf hG hS (Or.inl hr) (by omega) ?_
    have eg : gpv G r i = gpl G r i := by unfold gpv; rw [if_pos (by omega)]
    rw [eg]
    have gp := gap_lt (gpv_lt (t := i) hG hv) (gpl_lt G r i)
    refine r3_apart (gpv_lt hG hv) (gpl_lt G r i) ?_
    refine ⟨pk_in v 56 v56, ?_⟩
    rw [pk_cl v, si1]
    refine pk_lt (gsi G v) (gap (gpv G v i) (gpl G r i)) (fun w => ?_) (fun w => ?_)
    · refine nm_r (nI_1 i) (ih x (fun t ht => ?_))
      rw [hx t ht]
      refine decide_eq_decide.mpr ⟨fun y => ⟨by omega, y.2⟩, fun y => ⟨?_, y.2⟩⟩
      by_cases e : t = i
      · rw [e] at y; omega
      · omega
    · refine nm_e (nm_r (nI_1 i) (ih _ (fun t ht => ?_)))
      rw [ib_or, ib_one hi, hx t ht]
      by_cases e : t = i
      · rw [decide_eq_true e, Bool.or_true]
        rw [e]
        exact (decide_eq_true ⟨by omega, w⟩).symm
      · rw [decide_eq_false e, Bool.or_false]
        exact decide_eq_decide.mpr ⟨fun y => ⟨by omega, y.2⟩, fun y => ⟨by omega, y.2⟩⟩
theorem r3_reckonTicks {G : Geo} {SI : Nat → Int32} {SX : Nat → Nat → Int32} {Q : Int32 → Prop} {v r : Nat} (hG : gok G) (hS : rS0 G SI SX) (hv : gva G v) (hr : r < G 0 1) (hne : v ≠ r) (hq : ∀ x : Int32, (∀ t, t < 32 → ib x t = gth G v r t) → Q x) : fX3_reckonTicks SI SX Q (nI v) (nI r) := by
  have n48 := gok_nr hG
  have v56 := gva_56 hG hv
  have l1 := gpn_lt hG hv
  have e1 := rS_pn hG hS hv
  have er : gpn G r = G 7 r := by unfold gpn; rw [if_pos (by omega)]
  have l2 := gpn_lt hG (v := r) (Or.inl hr)
  have e2 := rS_pn hG hS (v := r) (Or.inl hr)
  rw [er] at l2 e2
  unfold fX3_reckonTicks
  refine ⟨pk_in v 56 v56, pk_in r 56 (by omega), ?_⟩
  rw [pk_cl v, pk_cl r, e1, e2]
  refine nm_e ?_
  rw [d_m1 (by omega) (by omega), d_1 (by omega) (by omega), d_0 (by omega) (by omega)]
  have q0 : ¬ gdi (gpn G v) (G 7 r) ≤ 1 → Q 0 := by
    intro h
    refine hq 0 (fun t _ => ?_)
    rw [ib_0]
    cases c : gth G v r t
    · rfl
    · exact absurd (gth_pn c) h
  refine ⟨fun z => q0 (by unfold gdi; omega), fun z => ⟨fun y => ?_, fun y => q0 (by unfold gdi; omega)⟩⟩
  have lp : ¬ (gpn G v = G 7 r ∧ v < 48) → fX3_reckonTicks_b52 SI SX Q (nI v) (nI r) := by
    intro h
    refine r3_reckonLoop hG hS hv hr (fun x hx => hq x (fun t ht => ?_))
    rw [hx t ht]
    unfold gth gpv gsi
    by_cases q : v < 48
    · rw [if_pos q, if_pos q, if_pos q]
      have ev : gpn G v = G 7 v := by unfold gpn; rw [if_pos q]
      rw [ev] at h z y
      unfold glk
      rw [if_neg (fun w => h ⟨w, q⟩)]
      by_cases w : gap (gpl G v t) (gpl G r t) ≤ 2
      · have g1 : gdi (G 7 v) (G 7 r) = 1 := by unfold gdi; omega
        rw [if_pos ⟨g1, w⟩]
        simp [w]
      · rw [if_neg (fun u => w u.2)]
        simp [w]
    · rw [if_neg q, if_neg q, if_neg q]
      have ev : gpn G v = G 11 (v - 48) := by unfold gpn; rw [if_neg q]
      rw [ev] at z y
      unfold gse
      rw [gap_comm]
      exact decide_eq_decide.mpr ⟨fun u => ⟨by unfold gdi; omega, u⟩, fun u => u.2⟩
  refine ⟨fun w => lp (fun u => w u.1), fun w => ?_⟩
  refine r5_isRelay (by omega) ?_
  by_cases q : v < 48
  · rw [if_pos q]
    refine ⟨fun u => absurd u (by decide), fun _ => ?_⟩
    have hv' : v < G 0 1 := gva_r hG hv q
    have ev : gpn G v = G 7 v := by unfold gpn; rw [if_pos q]
    rw [ev] at w
    refine r3_areNext hG hS hv' hr ?_
    by_cases u : gdi v r = 1 ∨ (2 < gsz G (G 7 v) ∧ gdi v r = gsz G (G 7 v) - 1)
    · rw [if_pos u]
      refine ⟨fun s => absurd s (by decide), fun _ => hq _ (fun t ht => ?_)⟩
      rw [ib_m1 ht]
      unfold gth glk
      rw [if_pos q, if_pos w, if_pos u]
      rfl
    · rw [if_neg u]
      refine ⟨fun _ => hq _ (fun t ht => ?_), fun s => absurd rfl s⟩
      rw [ib_0]
      unfold gth glk
      rw [if_pos q, if_pos w, if_neg u]
      rfl
  · rw [if_neg q]
    exact ⟨fun _ => lp (fun u => q u.2), fun u => absurd rfl u⟩
theorem r5_ahead {Q : Int32 → Prop} {x : Int32} (k : Nat) (hk : k = 1 ∨ k = 2) (hq : ∀ y : Int32, (∀ t, t < 32 → ib y t = ib x ((t + k) % 32)) → Q y) : fX5_ahead Q x (nI k) := by
  unfold fX5_ahead
  exact hq _ (fun t ht => ib_ahead k hk ht)
theorem r3_tie {G : Geo} {SI : Nat → Int32} {SX : Nat → Nat → Int32} {Q : (Nat → Int32) → (Nat → Nat → Int32) → Prop} {v r : Nat} (hG : gok G) (hS : rS0 G SI SX) (hv : gva G v) (hr : r < G 0 1) (hne : v ≠ r) (hq : ∀ SX' : Nat → Nat → Int32, (∀ k, k ≠ 10 → k ≠ 11 → SX' k = SX k) → (∀ i, i ≠ v * 48 + r → SX' 10 i = SX 10 i ∧ SX' 11 i = SX 11 i) → (∀ t, t < 32 → ib (SX' 10 (v * 48 + r)) t = gth G v r t ∧ ib (SX' 11 (v * 48 + r)) t = (gth G v r t && gth G v r (t + 1) && (decide (gln G v r = 1) || gth G v r (t + 2)))) → Q SI SX') : fX3_tie Q SI SX (nI v) (nI r) := by
  have n48 := gok_nr hG
  have v56 := gva_56 hG hv
  unfold fX3_tie
  refine r3_reckonTicks hG hS hv hr hne (fun x hx => ?_)
  have e : nI v * (48 : Int32) + nI r = nI (v * 48 + r) := by rw [show (48 : Int32) = nI 48 from rfl, pk_mul, nI_add]
  refine nm_r e ?_
  refine ⟨pk_in (v * 48 + r) 2688 (by omega), ?_⟩
  rw [pk_cl (v * 48 + r)]
  refine nm_e ?_
  refine r5_ahead 1 (Or.inl rfl) (fun y hy => ?_)
  refine ⟨pk_in (v * 48 + r) 2688 (by omega), ?_⟩
  refine nm_e ?_
  have hm : ∀ t k, t < 32 → ib x ((t + k) % 32) = gth G v r (t + k) := by
    intro t k ht
    rw [hx _ (Nat.mod_lt _ (by decide)), gth_mod]
  have hS' : rS0 G SI (va_up (va_up SX 10 (upd (SX 10) (v * 48 + r) x)) 11 (upd (va_up SX 10 (upd (SX 10) (v * 48 + r) x) 11) (v * 48 + r) (x &&& y))) := hS
  refine r3_lengthOf hG hS' hv (Or.inl hr) ?_
  refine ⟨fun z => ?_, fun z => ?_⟩
  · have l1 : gln G v r = 1 := by
      rcases gln_12 G v r with h | h
      · exact h
      · rw [h] at z; exact absurd rfl z
    refine hq _ (fun k h1 h2 => ?_) (fun i hi => ?_) (fun t ht => ?_)
    · simp [va_up, h1, h2]
    · simp [va_up, upd, hi]
    · have e10 : ib x t = gth G v r t := hx t ht
      simp only [va_up, upd, if_true, if_neg (show ¬ (10 = 11) by decide)]
      refine ⟨e10, ?_⟩
      rw [ib_and, e10, hy t ht, hm t 1 ht, l1]
      simp
  · have l2 : gln G v r = 2 := by
      rcases gln_12 G v r with h | h
      · rw [h] at z; exact absurd z (by decide)
      · exact h
    refine ⟨pk_in (v * 48 + r) 2688 (by omega), ?_⟩
    refine r5_ahead 2 (Or.inr rfl) (fun w hw => ?_)
    refine ⟨pk_in (v * 48 + r) 2688 (by omega), ?_⟩
    refine nm_e ?_
    refine hq _ (fun k h1 h2 => ?_) (fun i hi => ?_) (fun t ht => ?_)
    · simp [va_up, h1, h2]
    · simp [va_up, upd, hi]
    · have e10 : ib x t = gth G v r t := hx t ht
      simp only [va_up, upd, if_true, if_neg (show ¬ (10 = 11) by decide)]
      refine ⟨e10, ?_⟩
      rw [ib_and, ib_and, e10, hy t ht, hm t 1 ht, hw t ht, hm t 2 ht, l2]
      simp

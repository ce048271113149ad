/-! the class's public methods, as the law's wrappers give them -/
theorem p_over {G : Geo} {SI : Nat → Int32} {SX : Nat → Nat → Int32} {Q : Int32 → (Nat → Int64) → Prop} {O : Nat → Int64} {x1 x2 : Int32} (hG : gok G) (hS : rS G SI SX) (h1 : ¬ okR G x1 → Q 1 O) (h2 : okR G x1 → ¬ okT x2 → Q 2 O) (h0 : ∀ a t, a < G 0 1 → t ≤ 100000000 → x1 = nI a → x2 = nI t → ∀ O', O' 0 = (nI (gpl G a t)).toInt64 → Q 0 O') : fL_over SI SX Q O x1 x2 := by
  have n48 := gok_nr hG
  unfold fL_over fX5_over
  refine n_relay hG hS.1.2.1 (fun o1 => n_tick (fun o2 => ?_) (fun o2 => Or.inr ⟨rfl, h2 o1 o2⟩)) (fun o1 => Or.inl ⟨rfl, h1 o1⟩)
  obtain ⟨a, a1, rfl⟩ := o1
  obtain ⟨t, t1, rfl⟩ := o2
  refine r3_placeOf hG hS.1 (Or.inl a1) (by omega) ⟨in01, nm_e (h0 a t a1 t1 rfl rfl _ ?_)⟩
  rw [O_0]
  unfold gpv
  rw [if_pos (by omega)]
theorem p_link {G : Geo} {SI : Nat → Int32} {SX : Nat → Nat → Int32} {Q : Int32 → (Nat → Int64) → Prop} {O : Nat → Int64} {x1 x2 x3 : Int32} (hG : gok G) (hS : rS G SI SX) (h1 : ¬ (okR G x1 ∧ okR G x2) → Q 1 O) (h2 : okR G x1 → okR G x2 → ¬ okT x3 → Q 2 O) (h0 : ∀ a b t, a < G 0 1 → b < G 0 1 → t ≤ 100000000 → x1 = nI a → x2 = nI b → x3 = nI t → ∀ O', O' 0 = (nI (if gLk G a b t = true then gln G a b else 0)).toInt64 → Q 0 O') : fL_link SI SX Q O x1 x2 x3 := by
  have n48 := gok_nr hG
  unfold fL_link fX5_link
  refine n_relay hG hS.1.2.1 (fun o1 => n_relay hG hS.1.2.1 (fun o2 => n_tick (fun o3 => ?_) (fun o3 => Or.inr ⟨rfl, h2 o1 o2 o3⟩)) (fun o2 => Or.inl ⟨rfl, h1 (fun y => o2 y.2)⟩)) (fun o1 => Or.inl ⟨rfl, h1 (fun y => o1 y.1)⟩)
  obtain ⟨a, a1, rfl⟩ := o1
  obtain ⟨b, b1, rfl⟩ := o2
  obtain ⟨t, t1, rfl⟩ := o3
  have h0 := h0 a b t a1 b1 t1 rfl rfl rfl
  refine r3_isThere hG hS (by omega) (by omega) (by omega) ?_
  by_cases c : gLk G a b t = true
  · rw [if_pos c] at h0
    rw [ite01 c]
    refine ⟨fun z => absurd z (by decide), fun _ => r3_lengthOf hG hS.1 (Or.inl a1) (Or.inl b1) ⟨in01, nm_e (h0 _ O_0)⟩⟩
  · rw [if_neg c] at h0
    rw [ite00 c]
    exact ⟨fun _ => ⟨in01, nm_e (h0 _ O_0)⟩, fun z => absurd rfl z⟩
theorem p_sees {G : Geo} {SI : Nat → Int32} {SX : Nat → Nat → Int32} {Q : Int32 → (Nat → Int64) → Prop} {O : Nat → Int64} {x1 x2 x3 : Int32} (hG : gok G) (hS : rS G SI SX) (h1 : ¬ (okP G x1 ∧ okR G x2) → Q 1 O) (h2 : okP G x1 → okR G x2 → ¬ okT x3 → Q 2 O) (h0 : ∀ a b t, a < G 0 2 → b < G 0 1 → t ≤ 100000000 → x1 = nI a → x2 = nI b → x3 = nI t → ∀ O', O' 0 = (if gLk G (48 + a) b t = true then (1 : Int64) else 0) → Q 0 O') : fL_sees SI SX Q O x1 x2 x3 := by
  have n48 := gok_nr hG
  have n8 := gok_ns hG
  unfold fL_sees fX5_sees
  refine n_post hG hS.1.2.2.1 (fun o1 => n_relay hG hS.1.2.1 (fun o2 => n_tick (fun o3 => ?_) (fun o3 => Or.inr ⟨rfl, h2 o1 o2 o3⟩)) (fun o2 => Or.inl ⟨rfl, h1 (fun y => o2 y.2)⟩)) (fun o1 => Or.inl ⟨rfl, h1 (fun y => o1 y.1)⟩)
  obtain ⟨a, a1, rfl⟩ := o1
  obtain ⟨b, b1, rfl⟩ := o2
  obtain ⟨t, t1, rfl⟩ := o3
  have h0 := h0 a b t a1 b1 t1 rfl rfl rfl
  unfold fX5_nodeOf
  rw [show (48 : Int32) + nI a = nI (48 + a) from nI_add 48 a]
  refine r3_isThere hG hS (by omega) (by omega) (by omega) ⟨vz01 _, ?_⟩
  unfold fL_sees_b18
  by_cases c : gLk G (48 + a) b t = true
  · rw [if_pos c] at h0
    rw [ite01 c]
    exact ⟨fun z => absurd z (by decide), fun _ => ⟨in01, nm_e (h0 _ O_0)⟩⟩
  · rw [if_neg c] at h0
    rw [ite00 c]
    exact ⟨fun _ => ⟨in01, nm_e (h0 _ O_0)⟩, fun z => absurd rfl z⟩
theorem p_earliest {G : Geo} {c : Nat} {SI : Nat → Int32} {SX : Nat → Nat → Int32} {nW : Nat} {wd : Nat → Nat → Nat} {Q : Int32 → (Nat → Nat → Int32) → (Nat → Nat → Nat) → (Nat → Nat → Int32) → (Nat → Nat → Nat → Int32) → (Nat → Int64) → Prop} {WI : Nat → Nat → Int32} {WR : Nat → Nat → Nat} {WL : Nat → Nat → Int32} {WX : Nat → Nat → Nat → Int32} {O : Nat → Int64} {x1 x2 x3 : Int32} (hG : gok G) (hS : rS G SI SX) (hc : SI 3 = nI c) (hY : rY G c nW WI WR WL) (h1 : ¬ (okP G x1 ∧ okP G x2) → Q 1 WI WR WL WX O) (h2 : okP G x1 → okP G x2 → ¬ okT x3 → Q 2 WI WR WL WX O) (he : ∀ a t, a < G 0 2 → t ≤ 100000000 → x1 = nI a → x2 = nI a → x3 = nI t → ∀ O', O' 0 = (nI t).toInt64 → Q 0 WI WR WL WX O') (h0 : ∀ a b t, a < G 0 2 → b < G 0 2 → a ≠ b → t ≤ 100000000 → x1 = nI a → x2 = nI b → x3 = nI t → ∀ WI' WR' WL' WX' O', rY G c nW WI' WR' WL' → O' 0 = (if gdv G b (48 + a) t < 1000000 then nI (t + gdv G b (48 + a) t) else -1).toInt64 → Q 0 WI' WR' WL' WX' O') : fL_earliest SI SX nW wd Q WI WR WL WX O x1 x2 x3 := by
  have n8 := gok_ns hG
  have hn := hY.1
  unfold fL_earliest fX5_earliest
  refine n_post hG hS.1.2.2.1 (fun o1 => n_post hG hS.1.2.2.1 (fun o2 => n_tick (fun o3 => ?_) (fun o3 => Or.inr ⟨rfl, h2 o1 o2 o3⟩)) (fun o2 => Or.inl ⟨rfl, h1 (fun y => o2 y.2)⟩)) (fun o1 => Or.inl ⟨rfl, h1 (fun y => o1 y.1)⟩)
  obtain ⟨a, a1, rfl⟩ := o1
  obtain ⟨b, b1, rfl⟩ := o2
  obtain ⟨t, t1, rfl⟩ := o3
  refine ⟨fun z => ?_, fun z => ?_⟩
  · have ne : a ≠ b := fun y => z (by rw [y])
    refine ⟨pk_in b 8 (by omega), b, (nI_clamp (by omega)).symm, by omega, by omega, ?_⟩
    refine r4_refreshY hG hS hc hY (by omega) (fun WI' WR' WL' WX' f1 f2 f3 => ⟨pk_in b 8 (by omega), b, (nI_clamp (by omega)).symm, by omega, ?_⟩)
    unfold fX5_nodeOf
    rw [show (48 : Int32) + nI a = nI (48 + a) from nI_add 48 a]
    have ok := (f1.2 b (by omega)).2.2.2 f2
    refine ⟨by omega, r4_lateness (by omega) (by omega) (by omega) (by omega) ok (fun x hx => ?_)⟩
    have h0 := h0 a b t a1 b1 ne t1 rfl rfl rfl WI' WR' WL' WX'
    rcases wLt_dv hG hx with ⟨w1, w2⟩ | ⟨w1, w2⟩
    · rw [if_pos w1] at h0
      rw [w2]
      refine ⟨fun _ => ⟨in01, nm_e (h0 _ f1 ?_)⟩, fun y => absurd y (nI_m1 (by omega))⟩
      rw [O_0, nI_add]
    · rw [if_neg (by omega)] at h0
      rw [w2]
      exact ⟨fun y => absurd rfl y, fun _ => ⟨in01, nm_e (h0 _ f1 O_0)⟩⟩
  · have : a = b := (nI_eq (by omega) (by omega)).mp z
    subst this
    exact ⟨in01, nm_e (he a t a1 t1 rfl rfl rfl _ O_0)⟩
theorem p_late {G : Geo} {c : Nat} {SI : Nat → Int32} {SX : Nat → Nat → Int32} {nW : Nat} {wd : Nat → Nat → Nat} {Q : Int32 → (Nat → Nat → Int32) → (Nat → Nat → Nat) → (Nat → Nat → Int32) → (Nat → Nat → Nat → Int32) → (Nat → Int64) → Prop} {WI : Nat → Nat → Int32} {WR : Nat → Nat → Nat} {WL : Nat → Nat → Int32} {WX : Nat → Nat → Nat → Int32} {O : Nat → Int64} {x1 x2 x3 : Int32} (hG : gok G) (hS : rS G SI SX) (hc : SI 3 = nI c) (hY : rY G c nW WI WR WL) (h1 : ¬ (okP G x1 ∧ okP G x2) → Q 1 WI WR WL WX O) (he : okP G x1 → x1 = x2 → ∀ O', O' 0 = (0 : Int32).toInt64 → Q 0 WI WR WL WX O') (h0 : ∀ a b, a < G 0 2 → b < G 0 2 → a ≠ b → x1 = nI a → x2 = nI b → ∀ WI' WR' WL' WX', rY G c nW WI' WR' WL' → ((∃ t, t < 32 ∧ gdv G b (48 + a) t = 1000000) → ∀ O', O' 0 = (-1 : Int32).toInt64 → Q 0 WI' WR' WL' WX' O') ∧ ((∀ t, t < 32 → gdv G b (48 + a) t < 1000000) → ∀ O', O' 0 = (nI (mx (decide (x3 ≠ 0)) (fun t => gdv G b (48 + a) t) 32)).toInt64 → Q 0 WI' WR' WL' WX' O')) : fL_late SI SX nW wd Q WI WR WL WX O x1 x2 x3 := by
  have n8 := gok_ns hG
  have hn := hY.1
  unfold fL_late fX5_late
  refine n_post hG hS.1.2.2.1 (fun o1 => n_post hG hS.1.2.2.1 (fun o2 => ?_) (fun o2 => ⟨rfl, h1 (fun y => o2 y.2)⟩)) (fun o1 => ⟨rfl, h1 (fun y => o1 y.1)⟩)
  refine ⟨fun z => ?_, fun z => ⟨in01, nm_e (he o1 z _ O_0)⟩⟩
  obtain ⟨a, a1, rfl⟩ := o1
  obtain ⟨b, b1, rfl⟩ := o2
  have ne : a ≠ b := fun y => z (by rw [y])
  refine ⟨pk_in b 8 (by omega), b, (nI_clamp (by omega)).symm, by omega, by omega, ?_⟩
  refine r4_refreshY hG hS hc hY (by omega) (fun WI' WR' WL' WX' f1 f2 f3 => ⟨pk_in b 8 (by omega), b, (nI_clamp (by omega)).symm, by omega, ?_⟩)
  unfold fX5_nodeOf fX4_extreme
  rw [show (48 : Int32) + nI a = nI (48 + a) from nI_add 48 a]
  have ok := (f1.2 b (by omega)).2.2.2 f2
  obtain ⟨hno, hyes⟩ := h0 a b a1 b1 ne rfl rfl WI' WR' WL' WX' f1
  refine ⟨by omega, by omega, r4_lateness (t := 0) (by omega) (by omega) (by omega) (by omega) ok (fun x hx => ?_)⟩
  refine pk_loop (σ := Int32) (fun n t y => fX4_extreme_h10 nW WI' WR' WL' WX' wd b _ n (nI (48 + a)) x3 y (nI t)) (fun t y => (∀ u, u < t → gdv G b (48 + a) u < 1000000) ∧ (gdv G b (48 + a) 0 < 1000000 → y = nI (mx (decide (x3 ≠ 0)) (fun t => gdv G b (48 + a) t) t))) 32 0 x (by decide) ⟨fun u hu => by omega, fun w => ?_⟩ ?_ ?_
  · rcases wLt_dv hG hx with ⟨w1, w2⟩ | ⟨w1, w2⟩
    · exact w2
    · omega
  · intro n y ⟨k1, k2⟩
    unfold fX4_extreme_h10
    refine ⟨fun _ => ⟨in01, nm_e (hyes k1 _ ?_)⟩, fun w => absurd (by decide) w⟩
    rw [O_0, k2 (k1 0 (by decide))]
  · intro n t y ht ⟨k1, k2⟩ ih
    unfold fX4_extreme_h10 fX4_extreme_b53
    refine ⟨fun w => absurd w (nI_ge (b := 32) ht (by decide)), fun _ => ⟨by omega, r4_lateness (by omega) (by omega) (by omega) (by omega) ok (fun x2 hx2 => ?_)⟩⟩
    rcases wLt_dv hG hx2 with ⟨w1, w2⟩ | ⟨w1, w2⟩
    · rw [w2]
      have all : ∀ u, u < t + 1 → gdv G b (48 + a) u < 1000000 := fun u hu => by
        by_cases e : u = t
        · rw [e]; exact w1
        · exact k1 u (by omega)
      have d0 := all 0 (by omega)
      have yv := k2 d0
      have ml : mx (decide (x3 ≠ 0)) (fun t => gdv G b (48 + a) t) t < 1000000 := mx_lt d0 (fun i hi => k1 i hi)
      rw [yv]
      refine ⟨fun _ => ⟨fun z => ?_, fun z => ?_⟩, fun w => absurd w (nI_m1 (by omega))⟩
      · rw [min_nI (by omega) (by omega)]
        refine nm_r (nI_1 t) (ih _ ⟨all, fun _ => ?_⟩)
        rw [mx_f (n := t) (by simp [z])]
      · have mxn : (if nI (mx (decide (x3 ≠ 0)) (fun t => gdv G b (48 + a) t) t) < nI (gdv G b (48 + a) t) then nI (gdv G b (48 + a) t) else nI (mx (decide (x3 ≠ 0)) (fun t => gdv G b (48 + a) t) t)) = nI (if mx (decide (x3 ≠ 0)) (fun t => gdv G b (48 + a) t) t < gdv G b (48 + a) t then gdv G b (48 + a) t else mx (decide (x3 ≠ 0)) (fun t => gdv G b (48 + a) t) t) := by
          by_cases y : mx (decide (x3 ≠ 0)) (fun t => gdv G b (48 + a) t) t < gdv G b (48 + a) t
          · rw [if_pos y, if_pos (nI_lt y (by omega))]
          · rw [if_neg y, if_neg (nI_nlt (by omega) (by omega))]
        rw [mxn]
        refine nm_r (nI_1 t) (ih _ ⟨all, fun _ => ?_⟩)
        rw [mx_t (n := t) (by simp [z])]
    · rw [w2]
      exact ⟨fun w => absurd rfl w, fun _ => ⟨in01, nm_e (hno ⟨t, ht, w1⟩ _ O_0)⟩⟩
theorem p_meets {G : Geo} {SI : Nat → Int32} {SX : Nat → Nat → Int32} {Q : Int32 → (Nat → Int64) → Prop} {O : Nat → Int64} {x1 : Int32} (hG : gok G) (hS : rS G SI SX) (h1 : ¬ okP G x1 → Q 1 O) (h0 : ∀ a, a < G 0 2 → x1 = nI a → ∀ O', O' 0 = (nI (cn 32 (fun t => decide (0 < cn (G 0 1) (fun r => gLk G (48 + a) r t))))).toInt64 → Q 0 O') : fL_meets SI SX Q O x1 := by
  have n48 := gok_nr hG
  have n8 := gok_ns hG
  have s1 : SI 1 = nI (G 0 1) := hS.1.2.1
  unfold fL_meets fX5_meets
  refine n_post hG hS.1.2.2.1 (fun o1 => ?_) (fun o1 => ⟨rfl, h1 o1⟩)
  obtain ⟨a, a1, rfl⟩ := o1
  refine pk_loop (σ := Int32) (fun n r y => fX5_meets_h9 SI SX _ _ n (nI a) y (nI r)) (fun r y => ∀ t, t < 32 → ib y t = decide (0 < cn r (fun r => gLk G (48 + a) r t))) (G 0 1) 0 0 (Nat.zero_le _) (fun t _ => by rw [ib_0]; rfl) ?_ ?_
  · intro n y hy
    unfold fX5_meets_h9
    rw [s1]
    refine ⟨fun _ => r_bitCount ⟨in01, nm_e (h0 a a1 rfl _ ?_)⟩, fun z => absurd (nI_le (Nat.le_refl _) (by omega)) z⟩
    rw [O_0, cn_congr hy]
  · intro n r y hr hy ih
    unfold fX5_meets_h9 fX5_nodeOf
    rw [s1]
    refine ⟨fun z => absurd z (nI_ge hr (by omega)), fun _ => ?_⟩
    rw [show (48 : Int32) + nI a = nI (48 + a) from nI_add 48 a]
    refine r3_ticksThere hG hS (by omega) (by omega) (fun T hT => nm_e (nm_r (nI_1 r) (ih _ (fun t ht => ?_))))
    rw [ib_or, hy t ht, hT t ht]
    have e : cn (r + 1) (fun r => gLk G (48 + a) r t) = cn r (fun r => gLk G (48 + a) r t) + (if gLk G (48 + a) r t = true then 1 else 0) := rfl
    rw [e]
    by_cases d : gLk G (48 + a) r t = true
    · rw [d, if_pos rfl, Bool.or_true, decide_eq_true (by omega)]
    · have d' : gLk G (48 + a) r t = false := by
        cases q : gLk G (48 + a) r t
        · rfl
        · exact absurd q d
      rw [d', Bool.or_false, if_neg (by decide)]
      rfl
theorem p_part {G : Geo} {SI : Nat → Int32} {SX : Nat → Nat → Int32} {Q : Int32 → Int64 → Int32 → (Nat → Nat → Int64) → (Nat → Nat → Int32) → (Nat → Int64) → Prop} {CU : Int64} {CQ : Int32} {CJ : Nat → Nat → Int64} {CX : Nat → Nat → Int32} {O : Nat → Int64} {x1 x2 x3 : Int32} (hG : gok G) (hS : rS G SI SX) (h1 : ¬ (okP G x1 ∧ okP G x2) → Q 1 CU CQ CJ CX O) (h2 : okP G x1 → okP G x2 → ¬ okT x3 → Q 2 CU CQ CJ CX O) (he : okP G x1 → x1 = x2 → okT x3 → ∀ O', O' 0 = (-1 : Int32).toInt64 → Q 0 CU CQ CJ CX O') (h0 : ∀ a b t, a < G 0 2 → b < G 0 2 → a ≠ b → t ≤ 100000000 → x1 = nI a → x2 = nI b → x3 = nI t → ∀ CU' CQ' CJ' CX' n, nMC (gE0 G a b t) ((n : Nat) : Int) → n ≤ 48 → ∀ O', O' 0 = (nI n).toInt64 → Q 0 CU' CQ' CJ' CX' O') : fL_part SI SX Q CU CQ CJ CX O x1 x2 x3 := by
  have n8 := gok_ns hG
  unfold fL_part fX5_part
  refine n_post hG hS.1.2.2.1 (fun o1 => n_post hG hS.1.2.2.1 (fun o2 => n_tick (fun o3 => ⟨fun z => ?_, fun z => ⟨in01, nm_e (he o1 z o3 _ O_0)⟩⟩) (fun o3 => Or.inr ⟨rfl, h2 o1 o2 o3⟩)) (fun o2 => Or.inl ⟨rfl, h1 (fun y => o2 y.2)⟩)) (fun o1 => Or.inl ⟨rfl, h1 (fun y => o1 y.1)⟩)
  obtain ⟨a, a1, rfl⟩ := o1
  obtain ⟨b, b1, rfl⟩ := o2
  obtain ⟨t, t1, rfl⟩ := o3
  unfold fX5_nodeOf
  rw [show (48 : Int32) + nI a = nI (48 + a) from nI_add 48 a, show (48 : Int32) + nI b = nI (48 + b) from nI_add 48 b]
  exact r0_size hG hS a1 b1 (by omega) (fun n CU' CQ' CJ' CX' f1 f2 => ⟨in01, nm_e (h0 a b t a1 b1 (fun y => z (by rw [y])) t1 rfl rfl rfl CU' CQ' CJ' CX' n f1 f2 _ O_0)⟩)
theorem p_send {G : Geo} {nl now : Nat} {E : Let} {SI : Nat → Int32} {SX : Nat → Nat → Int32} {Q : Int32 → (Nat → Int32) → (Nat → Int64) → (Nat → Int32) → Nat → (Nat → Nat → Int32) → (Nat → Nat) → (Nat → Int64) → Prop} {MI : Nat → Int32} {TT : Nat → Int64} {AW : Nat → Int32} {nE : Nat} {LT : Nat → Nat → Int32} {la : Nat → Nat} {O : Nat → Int64} {x1 x2 : Int32} (hG : gok G) (hS : rS G SI SX) (hnl : nl ≤ 60) (h : rLC nl now E MI nE LT) (h1 : ¬ (okP G x1 ∧ okP G x2) → Q 1 MI TT AW nE LT la O) (h2 : okP G x1 → okP G x2 → x1 = x2 → Q 2 MI TT AW nE LT la O) (h3 : okP G x1 → okP G x2 → x1 ≠ x2 → nl = 60 → Q 3 MI TT AW nE LT la O) (h0 : ∀ a b, a < G 0 2 → b < G 0 2 → a ≠ b → x1 = nI a → x2 = nI b → nl < 60 → ∀ MI' nE' LT' la' O', rLC (nl + 1) now (eNw E nl a b now) MI' nE' LT' → O' 0 = (nI nl).toInt64 → Q 0 MI' TT AW nE' LT' la' O') : fL_send SI SX Q MI TT AW nE LT la O x1 x2 := by
  have n8 := gok_ns hG
  obtain ⟨m0, m1, mE, m3⟩ := id h
  subst mE
  unfold fL_send fX5_send fX2_accept
  refine n_post hG hS.1.2.2.1 (fun o1 => n_post hG hS.1.2.2.1 (fun o2 => ⟨fun z => ?_, fun z => Or.inr (Or.inl ⟨rfl, h2 o1 o2 z⟩)⟩) (fun o2 => Or.inl ⟨rfl, h1 (fun y => o2 y.2)⟩)) (fun o1 => Or.inl ⟨rfl, h1 (fun y => o1 y.1)⟩)
  rw [m1]
  refine pk_lt nE 60 (fun w => ?_) (fun w => Or.inr (Or.inr ⟨rfl, h3 o1 o2 z (by omega)⟩))
  obtain ⟨a, a1, rfl⟩ := o1
  obtain ⟨b, b1, rfl⟩ := o2
  refine nm_e ⟨pk_in nE 60 w, nI_clamp (by omega), fun nE' LT' la' e1 e2 => nm_e ⟨in01, nm_e (h0 a b a1 b1 (fun y => z (by rw [y])) rfl rfl w _ nE' LT' la' _ ?_ O_0)⟩⟩
  refine ⟨m0, ?_, e1, fun i hi => ?_⟩
  · rw [pk_us]; exact nI_1 _
  · rw [e2]
    by_cases e : i = nE
    · have ev : va_up LT nE (letter0 (nI a) (nI b) (MI 0)) i = letter0 (nI a) (nI b) (MI 0) := by simp [va_up, e]
      rw [ev, e, eNw_n, eNw_n, eNw_n, eNw_n, eNw_n, eNw_n, eNw_n, eNw_n, eNw_n, eNw_n, m0]
      exact ⟨rfl, rfl, rfl, rfl, rfl, rfl, rfl, fun _ => nI_add 48 a, fun y => absurd (show (0 : Nat) = 2 from y) (by decide)⟩
    · have ev : va_up LT nE (letter0 (nI a) (nI b) (MI 0)) i = LT i := by simp [va_up, e]
      rw [ev, eNw_o e, eNw_o e, eNw_o e, eNw_o e, eNw_o e, eNw_o e, eNw_o e, eNw_o e, eNw_o e, eNw_o e]
      exact m3 i (by omega)
theorem p_steps {G : Geo} {c nl now : Nat} {E : Let} {SI : Nat → Int32} {SX : Nat → Nat → Int32} {nE : Nat} {la : Nat → Nat} {nW : Nat} {wd : Nat → Nat → Nat} {Q : Int32 → (Nat → Int32) → (Nat → Int64) → (Nat → Int32) → (Nat → Nat → Int32) → (Nat → Nat → Int32) → (Nat → Nat → Nat) → (Nat → Nat → Int32) → (Nat → Nat → Nat → Int32) → (Nat → Int64) → Prop} {MI : Nat → Int32} {TT : Nat → Int64} {AW : Nat → Int32} {LT : Nat → Nat → Int32} {WI : Nat → Nat → Int32} {WR : Nat → Nat → Nat} {WL : Nat → Nat → Int32} {WX : Nat → Nat → Nat → Int32} {O : Nat → Int64} {x1 : Int32} (hG : gok G) (hS : rS G SI SX) (hc : SI 3 = nI c) (hY : rY G c nW WI WR WL) (hE : eOK G nl now E) (hH : eHOK nl E) (h : rLC nl now E MI nE LT) (hn : now + 100 < 2 ^ 20) (h1 : (¬ ∃ k, k ≤ 100 ∧ x1 = nI k) → Q 1 MI TT AW LT WI WR WL WX O) (h0 : ∀ k, k ≤ 100 → x1 = nI k → ∀ MI' TT' AW' LT' WI' WR' WL' WX' O', rLC nl (now + k) (eRun G nl now E k) MI' nE LT' → rY G c nW WI' WR' WL' → O' 0 = (nI (now + k)).toInt64 → Q 0 MI' TT' AW' LT' WI' WR' WL' WX' O') : fL_steps SI SX nE la nW wd Q MI TT AW LT WI WR WL WX O x1 := by
  unfold fL_steps fX5_steps
  refine n_between (fun o => ?_) (fun o => ⟨rfl, h1 (fun y => o ((bt_k (n := 100) (by decide)).mpr y))⟩)
  obtain ⟨k, k1, rfl⟩ := (bt_k (n := 100) (by decide)).mp o
  refine r2_run hG hS hc hY hE hH h (by omega) (fun MI' TT' AW' LT' WI' WR' WL' WX' f1 f2 => ⟨in01, nm_e (h0 k k1 rfl MI' TT' AW' LT' WI' WR' WL' WX' _ f1 f2 ?_)⟩)
  rw [O_0, f1.1]
theorem p_look {G : Geo} {nl now : Nat} {E : Let} {MI : Nat → Int32} {TT : Nat → Int64} {AW : Nat → Int32} {nE : Nat} {LT : Nat → Nat → Int32} {la : Nat → Nat} {Q : Int32 → (Nat → Int64) → Prop} {O : Nat → Int64} {x1 x2 : Int32} (hG : gok G) (hE : eOK G nl now E) (h : rLC nl now E MI nE LT) (h1 : (¬ ∃ i, i < nl ∧ x1 = nI i) → Q 1 O) (h2 : (∃ i, i < nl ∧ x1 = nI i) → (∀ k, k < 6 → x2 ≠ nI k) → Q 2 O) (h0 : ∀ i k, i < nl → k < 6 → x1 = nI i → x2 = nI k → ∀ O', O' 0 = (eLk E i k).toInt64 → Q 0 O') : fL_look MI TT AW nE LT la Q O x1 x2 := by
  have n48 := gok_nr hG
  have n8 := gok_ns hG
  obtain ⟨c1, c2, c3⟩ := id hE
  obtain ⟨m0, m1, mE, m3⟩ := id h
  subst mE
  unfold fL_look fX5_look fX5_look_b15
  rw [m1]
  refine ⟨fun z => Or.inl ⟨rfl, h1 (fun ⟨i, i1, i2⟩ => by rw [i2] at z; exact nI_pos (by omega) z)⟩, fun z => ?_⟩
  obtain ⟨i, hi, rfl⟩ := nI_of z
  refine pk_lt i nE (fun w => ⟨pk_in i 60 (by omega), i, (nI_clamp (by omega)).symm, w, ?_⟩) (fun w => Or.inl ⟨rfl, h1 (fun ⟨k, k1, k2⟩ => by have := (nI_eq hi (by omega)).mp k2; omega)⟩)
  obtain ⟨x0, x1', x2', x3, x4, x5, x6⟩ := c3 i w
  obtain ⟨l0, l1, l2, l3, l7, l8, l9, l4, l5⟩ := m3 i w
  have h0 := fun k hk e => h0 i k w hk rfl e
  have put : ∀ (k : Nat) (v : Int32), k < 6 → x2 = nI k → v = eLk E i k → vp_in (0 : Int32) 1 ∧ ∀ O_3 : Nat → Int64, O_3 = vp_updL O (0 : Int32).toNatClampNeg (v.toInt64) → Q 0 O_3 := by
    intro k v hk e hv
    refine ⟨in01, nm_e (h0 k hk e _ ?_)⟩
    rw [O_0, hv]
  refine ⟨fun z => ⟨w, put 0 _ (by decide) z l3⟩, fun z0 => ⟨fun z => ⟨w, ?_⟩, fun z1 => ⟨fun z => ⟨w, put 2 _ (by decide) z l7⟩, fun z2 => ⟨fun z => ⟨w, put 3 _ (by decide) z l2⟩, fun z3 => ⟨fun z => ⟨w, put 4 _ (by decide) z l8⟩, fun z4 => ⟨fun z => ⟨w, put 5 _ (by decide) z l9⟩, fun z5 => Or.inr ⟨rfl, h2 ⟨i, w, rfl⟩ (fun k hk e => ?_)⟩⟩⟩⟩⟩⟩⟩
  · have ee : eLk E i 1 = (if E i 3 = 1 then nI (E i 4) else if E i 3 = 2 ∧ E i 5 < 48 then nI (E i 5) else -1) := rfl
    have p := fun v => put 1 v (by decide) z
    rw [ee] at p
    unfold fX1_relay fX1_relay_b19 fX1_relay_b36 fX1_relay_b47 fX1_relay_b48
    rw [l3]
    refine ⟨w, ⟨fun n2 => ⟨w, w, ?_⟩, fun e2 => ⟨w, w, ?_⟩⟩⟩
    · have s2 : E i 3 ≠ 2 := fun y => n2 (by rw [y]; rfl)
      refine ⟨fun e1 => ?_, fun n1 => ⟨w, ⟨fun _ => ⟨fun _ => p _ ?_, fun y => absurd rfl y⟩, fun e2 => absurd e2 n2⟩⟩⟩
      · have s1 : E i 3 = 1 := (nI_eq (b := 1) (by omega) (by decide)).mp e1
        have v1 := x5 s1
        rw [l4 (by omega)]
        refine r5_isRelay (by omega) ?_
        rw [if_pos (by omega)]
        exact ⟨fun y => absurd y (by decide), fun _ => ⟨fun y => absurd y (by decide), fun _ => p _ (by rw [if_pos s1])⟩⟩
      · have s1 : E i 3 ≠ 1 := fun y => n1 (by rw [y]; rfl)
        rw [if_neg s1, if_neg (fun y => s2 y.1)]
    · have s2 : E i 3 = 2 := (nI_eq (b := 2) (by omega) (by decide)).mp e2
      have v5 := (x6 s2).2.1
      have s1 : E i 3 ≠ 1 := by omega
      refine ⟨fun e1 => absurd ((nI_eq (b := 1) (by omega) (by decide)).mp e1) s1, fun _ => ⟨w, ⟨fun n2 => absurd e2 n2, fun _ => ?_⟩⟩⟩
      rw [(l5 s2).1]
      refine r5_isRelay (by omega) ?_
      by_cases g : E i 5 < 48
      · rw [if_pos g]
        exact ⟨fun y => absurd y (by decide), fun _ => ⟨fun y => absurd y (by decide), fun _ => p _ (by rw [if_neg s1, if_pos ⟨s2, g⟩])⟩⟩
      · rw [if_neg g]
        exact ⟨fun _ => ⟨fun _ => p _ (by rw [if_neg s1, if_neg (fun y => g y.2)]), fun y => absurd rfl y⟩, fun y => absurd rfl y⟩
  · have : k = 0 ∨ k = 1 ∨ k = 2 ∨ k = 3 ∨ k = 4 ∨ k = 5 := by omega
    rcases this with rfl | rfl | rfl | rfl | rfl | rfl
    · exact z0 e
    · exact z1 e
    · exact z2 e
    · exact z3 e
    · exact z4 e
    · exact z5 e

/-! counts, and the class's public methods as the law calls them -/
theorem gLk_comm {G : Geo} {a b t : Nat} (ha : a < 48) (hb : b < 48) : gLk G a b t = gLk G b a t := by
  unfold gLk gth
  rw [if_pos ha, if_pos hb, glk_comm]
  cases gup G a <;> cases gup G b <;> rfl
theorem gLs_6 {G : Geo} {t : Nat} (hG : gok G) : gLs G t = sn (G 0 1) (fun a => cn a (fun b => gLk G a b t)) := by
  have n48 := gok_nr hG
  unfold gLs
  rw [sn_swap]
  refine sn_congr (fun o ho => ?_)
  have key : ∀ m, m ≤ G 0 1 → sn m (fun r => if r < o ∧ gLk G r o t = true then 1 else 0) = cn (if m < o then m else o) (fun b => gLk G o b t) := by
    intro m
    induction m with
    | zero =>
      intro _
      by_cases q : 0 < o
      · rw [if_pos q]; rfl
      · have : o = 0 := by omega
        subst this; rfl
    | succ m ih =>
      intro hm
      show sn m (fun r => if r < o ∧ gLk G r o t = true then 1 else 0) + (if m < o ∧ gLk G m o t = true then 1 else 0) = _
      rw [ih (by omega)]
      by_cases c : m < o
      · rw [if_pos c]
        have e : (if m + 1 < o then m + 1 else o) = m + 1 := by split <;> omega
        rw [e]
        show _ = cn m (fun b => gLk G o b t) + (if gLk G o m t = true then 1 else 0)
        rw [gLk_comm (a := m) (by omega) (by omega)]
        by_cases d : gLk G o m t = true
        · rw [if_pos ⟨c, d⟩, if_pos d]
        · rw [if_neg (fun z => d z.2), if_neg d]
      · rw [if_neg c, if_neg (fun z => c z.1), if_neg (by omega)]; rfl
  rw [key (G 0 1) (Nat.le_refl _), if_neg (by omega)]
/-- what a count says -/
def gCn (G : Geo) (nl now : Nat) (E : Let) (x : Int32) : Int32 := if x = 0 then nI now else if x = 1 then nI (G 0 0) else if x = 2 then nI (G 0 1) else if x = 3 then nI (cn (G 0 1) (fun r => decide (G 8 r ≠ 0))) else if x = 4 then nI (G 0 2) else if x = 5 then nI nl else if x = 6 then nI (cn nl (fun i => decide (E i 3 = 4))) else if x = 7 then nI (cn nl (fun i => decide (E i 3 = 5))) else if x = 8 then nI (gLs G now) else -1
theorem q_count {G : Geo} {nl now : Nat} {E : Let} {I : Nat → Int32} {X : Nat → Nat → Int32} {Q : Int32 → (Nat → Int32) → (Nat → Nat → Int32) → Prop} {x : Int32} (hG : gok G) (hM : rM G I X) (hE : eOK G nl now E) (h : rLM nl now E I X) (hq : ∀ I', sI I I' 0 → Q (gCn G nl now E x) I' X) : fX6_count Q I X x := by
  have n48 := gok_nr hG
  obtain ⟨c1, c2, c3⟩ := id hE
  have hq := hq (upd I 0 0) sI_0
  have hM' : rM G (upd I 0 0) X := rM_I0 hM
  have m9 : upd I 0 0 9 = nI (G 0 1) := hM.2.1
  have m31 : upd I 0 0 31 = nI nl := h.2.1
  have m1 : upd I 0 0 1 = nI now := h.1
  have letters : ∀ (s : Nat) (y : Int32), ((y = 6 ∧ s = 4) ∨ (y ≠ 6 ∧ s = 5)) → Q (nI (cn nl (fun i => decide (E i 3 = s)))) (upd I 0 0) X → ∃ n, fX6_count_h122 Q n (upd I 0 0) X y 0 0 := by
    intro s y hy hq
    refine pk_loop (σ := Unit) (fun n i _ => fX6_count_h122 Q n (upd I 0 0) X y (nI (cn i (fun i => decide (E i 3 = s)))) (nI i)) (fun _ _ => True) nl 0 () (Nat.zero_le _) trivial ?_ ?_
    · intro n _ _
      unfold fX6_count_h122
      rw [m31]
      exact ⟨fun _ => hq, fun z => absurd (nI_le (Nat.le_refl _) (by omega)) z⟩
    · intro n i _ hi _ ih
      have ih := ih () trivial
      have e : cn (i + 1) (fun i => decide (E i 3 = s)) = cn i (fun i => decide (E i 3 = s)) + (if decide (E i 3 = s) = true then 1 else 0) := rfl
      rw [e] at ih
      have x3 := (c3 i hi).2.2.2.1
      have q3 := (h.2.2.1 i hi).2.2.2.1
      unfold fX6_count_h122 fX6_count_b148 fX6_count_b156
      rw [m31]
      refine ⟨fun z => absurd z (nI_ge hi (by omega)), fun _ => ⟨pk_in i 60 (by omega), ?_⟩⟩
      rw [pk_cl i, q3]
      have fin : ∀ w : Int32, w = nI s → ((¬ nI (E i 3) = w → ∀ x2_20 : Int32, x2_20 = nI (cn i (fun i => decide (E i 3 = s))) + 0 → ∀ x3_21 : Int32, x3_21 = nI i + 1 → fX6_count_h122 Q n (upd I 0 0) X y x2_20 x3_21) ∧ (nI (E i 3) = w → ∀ x2_20 : Int32, x2_20 = nI (cn i (fun i => decide (E i 3 = s))) + 1 → ∀ x3_21 : Int32, x3_21 = nI i + 1 → fX6_count_h122 Q n (upd I 0 0) X y x2_20 x3_21)) := by
        intro w hw
        subst hw
        have s5 : s < 6 := by omega
        refine ⟨fun z => nm_r (nI_add _ 0) (nm_r (nI_1 i) ?_), fun z => nm_r (nI_1 _) (nm_r (nI_1 i) ?_)⟩
        · rw [if_neg (fun y => z (by rw [of_decide_eq_true y]))] at ih; exact ih
        · rw [if_pos (decide_eq_true ((nI_eq (by omega) (by omega)).mp z))] at ih; exact ih
      rcases hy with ⟨y1, y2⟩ | ⟨y1, y2⟩
      · exact ⟨fun z => absurd y1 z, fun _ => fin 4 (by rw [y2]; rfl)⟩
      · exact ⟨fun _ => fin 5 (by rw [y2]; rfl), fun z => absurd z y1⟩
  unfold fX6_count
  unfold gCn at hq
  refine nm_e ?_
  by_cases x0 : x = 0
  · rw [if_pos x0] at hq
    rw [m1]
    exact ⟨fun _ => hq, fun z => absurd x0 z⟩
  rw [if_neg x0] at hq
  refine ⟨fun z => absurd z x0, fun _ => ?_⟩
  by_cases x1 : x = 1
  · rw [if_pos x1] at hq
    refine ⟨fun _ => ?_, fun z => absurd x1 z⟩
    rw [hM'.1]; exact hq
  rw [if_neg x1] at hq
  refine ⟨fun z => absurd z x1, fun _ => ?_⟩
  by_cases x2 : x = 2
  · rw [if_pos x2] at hq
    refine ⟨fun _ => ?_, fun z => absurd x2 z⟩
    rw [m9]; exact hq
  rw [if_neg x2] at hq
  refine ⟨fun z => absurd z x2, fun _ => ?_⟩
  by_cases x3 : x = 3
  · rw [if_pos x3] at hq
    refine ⟨fun _ => ?_, fun z => absurd x3 z⟩
    refine pk_loop (σ := Unit) (fun n i _ => fX6_count_h77 Q n (upd I 0 0) X (nI (cn i (fun r => decide (G 8 r ≠ 0)))) (nI i)) (fun _ _ => True) (G 0 1) 0 () (Nat.zero_le _) trivial ?_ ?_
    · intro n _ _
      unfold fX6_count_h77
      rw [m9]
      exact ⟨fun _ => hq, fun z => absurd (nI_le (Nat.le_refl _) (by omega)) z⟩
    · intro n i _ hi _ ih
      have ih := ih () trivial
      have e : cn (i + 1) (fun r => decide (G 8 r ≠ 0)) = cn i (fun r => decide (G 8 r ≠ 0)) + (if decide (G 8 i ≠ 0) = true then 1 else 0) := rfl
      rw [e] at ih
      have d1 := gok_d hG (r := i) (by omega)
      unfold fX6_count_h77 fX6_count_b100
      rw [m9]
      refine ⟨fun z => absurd z (nI_ge hi (by omega)), fun _ => ⟨pk_in i 48 (by omega), ?_⟩⟩
      rw [pk_cl i, hM.2.2.2.2.2.1 i (by omega), nI_is0 (by omega)]
      refine ⟨fun z => nm_r (nI_add _ 0) (nm_r (nI_1 i) ?_), fun z => nm_r (nI_1 _) (nm_r (nI_1 i) ?_)⟩
      · rw [if_neg (by simp [z])] at ih; exact ih
      · rw [if_pos (by simp [z])] at ih; exact ih
  rw [if_neg x3] at hq
  refine ⟨fun z => absurd z x3, fun _ => ?_⟩
  by_cases x4 : x = 4
  · rw [if_pos x4] at hq
    refine ⟨fun _ => ?_, fun z => absurd x4 z⟩
    rw [hM'.2.2.1]; exact hq
  rw [if_neg x4] at hq
  refine ⟨fun z => absurd z x4, fun _ => ?_⟩
  by_cases x5 : x = 5
  · rw [if_pos x5] at hq
    refine ⟨fun _ => ?_, fun z => absurd x5 z⟩
    rw [m31]; exact hq
  rw [if_neg x5] at hq
  refine ⟨fun z => absurd z x5, fun _ => ?_⟩
  by_cases x6 : x = 6
  · rw [if_pos x6] at hq
    exact ⟨fun _ => letters 4 x (Or.inl ⟨x6, rfl⟩) hq, fun z => absurd x6 z⟩
  rw [if_neg x6] at hq
  refine ⟨fun z => absurd z x6, fun _ => ?_⟩
  by_cases x7 : x = 7
  · rw [if_pos x7] at hq
    exact ⟨fun _ => letters 5 x (Or.inr ⟨x6, rfl⟩) hq, fun z => absurd x7 z⟩
  rw [if_neg x7] at hq
  refine ⟨fun z => absurd z x7, fun _ => ?_⟩
  by_cases x8 : x = 8
  · rw [if_pos x8, gLs_6 hG] at hq
    refine ⟨fun _ => ?_, fun z => absurd x8 z⟩
    refine pk_loop (σ := Unit) (fun n a _ => fX6_count_h168 Q n (upd I 0 0) X (nI (sn a (fun a => cn a (fun b => gLk G a b now)))) (nI a)) (fun _ _ => True) (G 0 1) 0 () (Nat.zero_le _) trivial ?_ ?_
    · intro n _ _
      unfold fX6_count_h168
      rw [m9]
      exact ⟨fun _ => hq, fun z => absurd (nI_le (Nat.le_refl _) (by omega)) z⟩
    · intro n a _ ha _ ih
      have ih := ih () trivial
      unfold fX6_count_h168
      rw [m9]
      refine ⟨fun z => absurd z (nI_ge ha (by omega)), fun _ => ?_⟩
      refine pk_loop (σ := Unit) (fun m b _ => fX6_count_h179 (fun a0 a1 a2 a3 => fX6_count_h168 Q n a0 a1 a2 a3) Q m (upd I 0 0) X (nI (sn a (fun a => cn a (fun b => gLk G a b now)) + cn b (fun b => gLk G a b now))) (nI a) (nI b)) (fun _ _ => True) a 0 () (Nat.zero_le _) trivial ?_ ?_
      · intro m _ _
        unfold fX6_count_h179
        exact ⟨fun _ => nm_r (nI_1 a) ih, fun z => absurd (nI_le (Nat.le_refl _) (by omega)) z⟩
      · intro m b _ hb _ ihm
        have ihm := ihm () trivial
        have e : cn (b + 1) (fun b => gLk G a b now) = cn b (fun b => gLk G a b now) + (if gLk G a b now = true then 1 else 0) := rfl
        rw [e] at ihm
        unfold fX6_count_h179 fX6_count_b205
        refine ⟨fun z => absurd z (nI_ge hb (by omega)), fun _ => ?_⟩
        rw [m1]
        refine r6_linkOf hG hM' ha (by omega) (by omega) ?_
        by_cases d : gLk G a b now = true
        · rw [if_pos d]
          rw [if_pos d, ← Nat.add_assoc] at ihm
          have := gln_12 G a b
          exact ⟨fun z => absurd z (nI_nle (by omega) (by omega)), fun _ => nm_r (nI_1 _) (nm_r (nI_1 b) ihm)⟩
        · rw [if_neg d]
          rw [if_neg d] at ihm
          exact ⟨fun _ => nm_r (nI_add _ 0) (nm_r (nI_1 b) ihm), fun z => absurd (by decide) z⟩
  rw [if_neg x8] at hq
  exact ⟨fun z => absurd z x8, fun _ => hq⟩
theorem p_count {G : Geo} {nl now : Nat} {E : Let} {SI : Nat → Int32} {SX : Nat → Nat → Int32} {MI : Nat → Int32} {TT : Nat → Int64} {AW : Nat → Int32} {nE : Nat} {LT : Nat → Nat → Int32} {la : Nat → Nat} {Q : Int32 → Prop} {x : Int32} (hG : gok G) (hS : rS G SI SX) (hE : eOK G nl now E) (h : rLC nl now E MI nE LT) (hq : Q (gCn G nl now E x)) : fX5_count SI SX MI TT AW nE LT la Q x := by
  obtain ⟨c1, c2, c3⟩ := id hE
  obtain ⟨m0, m1, mE, m3⟩ := id h
  have letters : ∀ (s : Nat), s < 6 → Q (nI (cn nl (fun i => decide (E i 3 = s)))) → fX2_lettersThatAre MI TT AW nE LT la (fun r => Q r) (nI s) := by
    intro s hs hq
    unfold fX2_lettersThatAre
    refine pk_loop (σ := Unit) (fun n i _ => fX2_lettersThatAre_h4 MI TT AW nE LT la (fun r => Q r) n (nI s) (nI (cn i (fun i => decide (E i 3 = s)))) (nI i)) (fun _ _ => True) nl 0 () (Nat.zero_le _) trivial ?_ ?_
    · intro n _ _
      unfold fX2_lettersThatAre_h4
      rw [m1]
      exact ⟨fun _ => hq, fun z => absurd (nI_le (Nat.le_refl _) (by omega)) z⟩
    · intro n i _ hi _ ih
      have ih := ih () trivial
      have e : cn (i + 1) (fun i => decide (E i 3 = s)) = cn i (fun i => decide (E i 3 = s)) + (if decide (E i 3 = s) = true then 1 else 0) := rfl
      rw [e] at ih
      have x3 := (c3 i hi).2.2.2.1
      unfold fX2_lettersThatAre_h4 fX2_lettersThatAre_b28
      rw [m1]
      refine ⟨fun z => absurd z (nI_ge hi (by omega)), fun _ => ⟨pk_in i 60 (by omega), i, (nI_clamp (by omega)).symm, by omega, by omega, ?_⟩⟩
      rw [(m3 i hi).2.2.2.1]
      refine ⟨fun z => nm_r (nI_1 i) ?_, fun z => nm_r (nI_1 _) (nm_r (nI_1 i) ?_)⟩
      · rw [if_neg (fun y => z (by rw [of_decide_eq_true y]))] at ih; exact ih
      · rw [if_pos (decide_eq_true ((nI_eq (by omega) (by omega)).mp z))] at ih; exact ih
  unfold fX5_count
  unfold gCn at hq
  by_cases x0 : x = 0
  · rw [if_pos x0] at hq
    rw [m0]
    exact ⟨fun _ => hq, fun z => absurd x0 z⟩
  rw [if_neg x0] at hq
  refine ⟨fun z => absurd z x0, fun _ => ?_⟩
  by_cases x1 : x = 1
  · rw [if_pos x1] at hq
    refine ⟨fun _ => ?_, fun z => absurd x1 z⟩
    rw [hS.1.1]; exact hq
  rw [if_neg x1] at hq
  refine ⟨fun z => absurd z x1, fun _ => ?_⟩
  by_cases x2 : x = 2
  · rw [if_pos x2] at hq
    refine ⟨fun _ => ?_, fun z => absurd x2 z⟩
    rw [hS.1.2.1]; exact hq
  rw [if_neg x2] at hq
  refine ⟨fun z => absurd z x2, fun _ => ?_⟩
  by_cases x3 : x = 3
  · rw [if_pos x3] at hq
    exact ⟨fun _ => r3_deadRelays hG hS.1 hq, fun z => absurd x3 z⟩
  rw [if_neg x3] at hq
  refine ⟨fun z => absurd z x3, fun _ => ?_⟩
  by_cases x4 : x = 4
  · rw [if_pos x4] at hq
    refine ⟨fun _ => ?_, fun z => absurd x4 z⟩
    rw [hS.1.2.2.1]; exact hq
  rw [if_neg x4] at hq
  refine ⟨fun z => absurd z x4, fun _ => ?_⟩
  by_cases x5 : x = 5
  · rw [if_pos x5] at hq
    refine ⟨fun _ => ?_, fun z => absurd x5 z⟩
    rw [m1]; exact hq
  rw [if_neg x5] at hq
  refine ⟨fun z => absurd z x5, fun _ => ?_⟩
  by_cases x6 : x = 6
  · rw [if_pos x6] at hq
    exact ⟨fun _ => letters 4 (by decide) hq, fun z => absurd x6 z⟩
  rw [if_neg x6] at hq
  refine ⟨fun z => absurd z x6, fun _ => ?_⟩
  by_cases x7 : x = 7
  · rw [if_pos x7] at hq
    exact ⟨fun _ => letters 5 (by decide) hq, fun z => absurd x7 z⟩
  rw [if_neg x7] at hq
  refine ⟨fun z => absurd z x7, fun _ => ?_⟩
  by_cases x8 : x = 8
  · rw [if_pos x8] at hq
    refine ⟨fun _ => ?_, fun z => absurd x8 z⟩
    rw [m0]
    exact r3_linksOfRelays hG hS (by omega) hq
  rw [if_neg x8] at hq
  exact ⟨fun z => absurd z x8, fun _ => hq⟩
theorem n_relay {G : Geo} {SI : Nat → Int32} {SX : Nat → Nat → Int32} {Q : Prop} {EX : String → Prop} {x : Int32} (hG : gok G) (s1 : SI 1 = nI (G 0 1)) (h : okR G x → Q) (he : ¬ okR G x → EX "java/lang/IndexOutOfBoundsException") : fX5_needRelay SI SX Q EX x := by
  have n48 := gok_nr hG
  unfold fX5_needRelay fX5_needRelay_b15
  rw [s1]
  refine ⟨fun z => he (fun ⟨a, a1, a2⟩ => by rw [a2] at z; exact nI_pos (by omega) z), fun z => ?_⟩
  obtain ⟨j, hj, rfl⟩ := nI_of z
  refine pk_lt j (G 0 1) (fun w => h ⟨j, w, rfl⟩) (fun w => he (fun ⟨a, a1, a2⟩ => ?_))
  have := (nI_eq hj (by omega)).mp a2
  omega
theorem n_post {G : Geo} {SI : Nat → Int32} {SX : Nat → Nat → Int32} {Q : Prop} {EX : String → Prop} {x : Int32} (hG : gok G) (s2 : SI 2 = nI (G 0 2)) (h : okP G x → Q) (he : ¬ okP G x → EX "java/lang/IndexOutOfBoundsException") : fX5_needPost SI SX Q EX x := by
  have n8 := gok_ns hG
  unfold fX5_needPost fX5_needPost_b15
  rw [s2]
  refine ⟨fun z => he (fun ⟨a, a1, a2⟩ => by rw [a2] at z; exact nI_pos (by omega) z), fun z => ?_⟩
  obtain ⟨j, hj, rfl⟩ := nI_of z
  refine pk_lt j (G 0 2) (fun w => h ⟨j, w, rfl⟩) (fun w => he (fun ⟨a, a1, a2⟩ => ?_))
  have := (nI_eq hj (by omega)).mp a2
  omega
theorem n_between {Q : Prop} {EX : String → Prop} {x lo hi : Int32} (h : bt x lo hi → Q) (he : ¬ bt x lo hi → EX "java/lang/IllegalArgumentException") : fX5_needBetween Q EX x lo hi := by
  unfold fX5_needBetween fX5_needBetween_b10
  refine ⟨fun z => he (fun y => y.1 z), fun z => ⟨fun w => h ⟨z, Int32.not_lt.mpr w⟩, fun w => he (fun y => w (Int32.not_lt.mp y.2))⟩⟩
theorem n_tick {Q : Prop} {EX : String → Prop} {x : Int32} (h : okT x → Q) (he : ¬ okT x → EX "java/lang/IllegalArgumentException") : fX5_needTick Q EX x := by
  unfold fX5_needTick
  exact n_between (fun y => h ((bt_k (n := 100000000) (by decide)).mp y)) (fun y => he (fun w => y ((bt_k (n := 100000000) (by decide)).mpr w)))
/-- the law's own row holds the answer -/
theorem O_0 {O : Nat → Int64} {v : Int64} : vp_updL O (0 : Int32).toNatClampNeg v 0 = v := by
  rw [show ((0 : Int32).toNatClampNeg) = 0 from by decide]
  exact pk_uLs
theorem in01 : vp_in (0 : Int32) 1 := pk_in 0 1 (by decide)
/-- the law's comparison: both threw the same, and where they answered, they answered the same -/
theorem chk {r r3 r2 : Int32} {O : Nat → Int64} {N : Prop} (h1 : r3 = r) (h2 : r = 0 → O 0 = r2.toInt64) (n : N) : ((r3 = r → ((¬ r = 0 → N) ∧ (r = 0 → vp_in (0 : Int32) 1 ∧ (((lg_cmp (O (0 : Int32).toNatClampNeg) (r2.toInt64)) = 0 → N) ∧ (¬ ((lg_cmp (O (0 : Int32).toNatClampNeg) (r2.toInt64)) = 0) → False))))) ∧ (¬ (r3 = r) → False)) := by
  refine ⟨fun _ => ⟨fun _ => n, fun z => ⟨in01, ⟨fun _ => n, fun y => y ?_⟩⟩⟩, fun z => absurd h1 z⟩
  rw [show ((0 : Int32).toNatClampNeg) = 0 from by decide]
  exact lcmp_eq.mpr (h2 z)

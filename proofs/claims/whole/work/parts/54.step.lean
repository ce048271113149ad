/-! a step of the class, and its run of steps -/
def tOK (TK : Nat → Nat → Bool) (TT : Nat → Int64) : Prop := ∀ v u, v < 56 → u < 56 → lb (TT v) u = TK v u
theorem r2_setOut {G : Geo} {SI : Nat → Int32} {SX : Nat → Nat → Int32} {nl now : Nat} {s : LTk} {MI : Nat → Int32} {TT : Nat → Int64} {AW : Nat → Int32} {nE : Nat} {LT : Nat → Nat → Int32} {la : Nat → Nat} {nW : Nat} {WI : Nat → Nat → Int32} {WR : Nat → Nat → Nat} {WL : Nat → Nat → Int32} {WX : Nat → Nat → Nat → Int32} {wd : Nat → Nat → Nat} {i : Nat} {Q : (Nat → Int32) → (Nat → Int64) → (Nat → Int32) → (Nat → Nat → Int32) → Prop} (hG : gok G) (hS : rS G SI SX) (hE : eOK G nl now s.1) (h : rLC nl now s.1 MI nE LT) (hT : tOK s.2 TT) (hi : i < nl) (h1 : s.1 i 3 ≤ 1) (hnW : nW = G 0 2) (hw : wOK G (s.1 i 1) (WL (s.1 i 1))) (hq : ∀ TT' LT', rLC nl now (eM1 G now s i).1 MI nE LT' → tOK (eM1 G now s i).2 TT' → Q MI TT' AW LT') : fX2_setOut SI SX nE la nW WI WR WL WX wd i Q MI TT AW LT := by
  have n8 := gok_ns hG
  have n48 := gok_nr hG
  obtain ⟨c1, c2, c3⟩ := id hE
  obtain ⟨l0, l1, l2, l3, l7, l8, l9, l4, l5⟩ := h.2.2.2 i hi
  obtain ⟨x0, x1, x2, x3, x4, x5, x6⟩ := c3 i hi
  have m0 : MI 0 = nI now := h.1
  have mE : nE = nl := h.2.2.1
  have va : gva G (s.1 i 4) := by
    have : s.1 i 3 = 0 ∨ s.1 i 3 = 1 := by omega
    rcases this with z | z
    · rw [x4 z]; exact Or.inr ⟨by omega, by omega⟩
    · exact Or.inl (x5 z)
  have v56 := gva_56 hG va
  unfold fX2_setOut
  refine r2_choose hG hS hE h hi h1 hnW hw ?_
  by_cases c0 : gCh G now (s.1 i 4) (s.1 i 1) = 0
  · have e : eM1 G now s i = s := by unfold eM1; rw [if_neg (fun z => z.2.1 c0)]
    rw [e] at hq
    rw [c0]
    exact ⟨fun _ => hq TT LT h hT, fun z => absurd rfl z⟩
  · have ci := gCh_in c0
    have u56 : gCh G now (s.1 i 4) (s.1 i 1) - 1 < 56 := by omega
    have uva : gva G (gCh G now (s.1 i 4) (s.1 i 1) - 1) := by
      rcases ci with z | z
      · exact Or.inl z
      · exact Or.inr (by omega)
    have eo : oI (gCh G now (s.1 i 4) (s.1 i 1)) = nI (gCh G now (s.1 i 4) (s.1 i 1) - 1) := by unfold oI; rw [if_neg c0]
    rw [eo]
    refine ⟨fun z => absurd z (nI_m1 (by omega)), fun _ => ?_⟩
    rw [l4 (by omega), m0, pk_cl (s.1 i 4)]
    refine ⟨by omega, pk_in (s.1 i 4) 56 v56, ?_⟩
    have bb : lg_cmp (TT (s.1 i 4) &&& lB (gCh G now (s.1 i 4) (s.1 i 1) - 1)) (0 : Int64) = 0 ↔ s.2 (s.1 i 4) (gCh G now (s.1 i 4) (s.1 i 1) - 1) = false := by
      rw [lb_cmp (by omega), hT (s.1 i 4) _ v56 u56]
    refine ⟨fun z => ?_, fun z => ?_⟩
    · have z := bb.mp z
      have cc : s.1 i 3 ≤ 1 ∧ gCh G now (s.1 i 4) (s.1 i 1) ≠ 0 ∧ s.2 (s.1 i 4) (gCh G now (s.1 i 4) (s.1 i 1) - 1) = false := ⟨h1, c0, z⟩
      refine ⟨by omega, pk_in (s.1 i 4) 56 v56, pk_in (s.1 i 4) 56 v56, nm_e ⟨by omega, ?_⟩⟩
      refine r3_lengthOf hG hS.1 va uva ?_
      refine ⟨by omega, ?_⟩
      unfold fX1_take
      refine ⟨by omega, nm_e ⟨by omega, nm_e ⟨by omega, nm_e ⟨by omega, by omega, nm_e ?_⟩⟩⟩⟩
      refine hq _ _ ?_ ?_
      · refine rLC_set (i := i) h (fun a ha => ?_) (fun a k ha => eM1_ne ha k) (fun _ => ?_)
        · simp [va_up, ha]
        · unfold eM1
          rw [if_pos cc]
          simp only [va_up, if_true, upd, if_neg (show ¬ (0 = 3) by decide), if_neg (show ¬ (0 = 5) by decide), if_neg (show ¬ (0 = 6) by decide), if_neg (show ¬ (0 = 7) by decide), if_neg (show ¬ (1 = 3) by decide), if_neg (show ¬ (1 = 5) by decide), if_neg (show ¬ (1 = 6) by decide), if_neg (show ¬ (1 = 7) by decide), if_neg (show ¬ (2 = 3) by decide), if_neg (show ¬ (2 = 5) by decide), if_neg (show ¬ (2 = 6) by decide), if_neg (show ¬ (2 = 7) by decide), if_neg (show ¬ (3 = 7) by decide), if_neg (show ¬ (3 = 6) by decide), if_neg (show ¬ (3 = 5) by decide), if_neg (show ¬ (4 = 3) by decide), if_neg (show ¬ (4 = 5) by decide), if_neg (show ¬ (4 = 6) by decide), if_neg (show ¬ (4 = 7) by decide), if_neg (show ¬ (5 = 3) by decide), if_neg (show ¬ (5 = 6) by decide), if_neg (show ¬ (5 = 7) by decide), if_neg (show ¬ (6 = 3) by decide), if_neg (show ¬ (6 = 5) by decide), if_neg (show ¬ (6 = 7) by decide), if_neg (show ¬ (7 = 3) by decide), if_neg (show ¬ (7 = 5) by decide), if_neg (show ¬ (7 = 6) by decide), if_neg (show ¬ (8 = 3) by decide), if_neg (show ¬ (8 = 5) by decide), if_neg (show ¬ (8 = 6) by decide), if_neg (show ¬ (8 = 7) by decide), if_neg (show ¬ (9 = 3) by decide), if_neg (show ¬ (9 = 5) by decide), if_neg (show ¬ (9 = 6) by decide), if_neg (show ¬ (9 = 7) by decide)]
          refine ⟨l0, l1, l2, (by first | trivial | rfl), ?_, l8, l9, fun _ => l4 (by omega), fun _ => ⟨(by first | trivial | rfl), nI_add _ _⟩⟩
          rw [l7]; exact nI_1 _
      · unfold eM1
        rw [if_pos cc]
        intro v u hv hu
        show lb (vp_updL TT (s.1 i 4) (TT (s.1 i 4) ||| lB (gCh G now (s.1 i 4) (s.1 i 1) - 1)) v) u = if v = s.1 i 4 ∧ u = gCh G now (s.1 i 4) (s.1 i 1) - 1 then true else s.2 v u
        by_cases e : v = s.1 i 4
        · subst e
          rw [pk_uLs, lb_or, lb_B (by omega), hT _ u v56 hu]
          by_cases e2 : u = gCh G now (s.1 i 4) (s.1 i 1) - 1
          · rw [if_pos ⟨rfl, e2⟩, decide_eq_true e2, Bool.or_true]
          · rw [if_neg (fun y => e2 y.2), decide_eq_false e2, Bool.or_false]
        · rw [pk_uLn e, if_neg (fun y => e y.1)]
          exact hT v u hv hu
    · have e : eM1 G now s i = s := by
        unfold eM1
        rw [if_neg (fun y => z (bb.mpr y.2.2))]
      rw [e] at hq
      exact hq TT LT h hT
/-- who is through at t arrives -/
def eAr (t : Nat) (E : Let) : Let := fun a k => if E a 3 = 2 ∧ E a 6 ≤ t then (if k = 3 then (if E a 5 < 48 then 1 else 3) else if k = 4 then E a 5 else if k = 8 then (if E a 5 < 48 then E a 8 else t + 1) else E a k) else E a k
theorem eAr_f {t : Nat} {E : Let} {a : Nat} (h : ¬ (E a 3 = 2 ∧ E a 6 ≤ t)) (k : Nat) : eAr t E a k = E a k := by unfold eAr; rw [if_neg h]
theorem eAr_3 {t : Nat} {E : Let} {a : Nat} (h : E a 3 = 2 ∧ E a 6 ≤ t) : eAr t E a 3 = if E a 5 < 48 then 1 else 3 := by unfold eAr; rw [if_pos h, if_pos rfl]
theorem eAr_4 {t : Nat} {E : Let} {a : Nat} (h : E a 3 = 2 ∧ E a 6 ≤ t) : eAr t E a 4 = E a 5 := by unfold eAr; rw [if_pos h, if_neg (by decide), if_pos rfl]
theorem eAr_8 {t : Nat} {E : Let} {a : Nat} (h : E a 3 = 2 ∧ E a 6 ≤ t) : eAr t E a 8 = if E a 5 < 48 then E a 8 else t + 1 := by unfold eAr; rw [if_pos h, if_neg (by decide), if_neg (by decide), if_pos rfl]
theorem eAr_k {t : Nat} {E : Let} {a k : Nat} (h3 : k ≠ 3) (h4 : k ≠ 4) (h8 : k ≠ 8) : eAr t E a k = E a k := by
  unfold eAr
  rw [if_neg h3, if_neg h4, if_neg h8]
  split <;> rfl
theorem eOK_Ar {G : Geo} {nl now : Nat} {E : Let} (hG : gok G) (h : eOK G nl now E) (hn : now + 1 < 2 ^ 20) : eOK G nl (now + 1) (eAr (now + 1) E) := by
  have n48 := gok_nr hG
  obtain ⟨h1, h2, h3⟩ := h
  refine ⟨h1, hn, fun a ha => ?_⟩
  obtain ⟨x0, x1, x2, x3, x4, x5, x6⟩ := h3 a ha
  rw [eAr_k (k := 0) (by decide) (by decide) (by decide), eAr_k (k := 1) (by decide) (by decide) (by decide), eAr_k (k := 5) (by decide) (by decide) (by decide), eAr_k (k := 6) (by decide) (by decide) (by decide)]
  by_cases q : E a 3 = 2 ∧ E a 6 ≤ now + 1
  · rw [eAr_3 q, eAr_4 q]
    have := (x6 q.1).2.1
    by_cases z : E a 5 < 48
    · rw [if_pos z]
      exact ⟨x0, x1, x2, by decide, fun y => absurd y (by decide), fun _ => by omega, fun y => absurd y (by decide)⟩
    · rw [if_neg z]
      exact ⟨x0, x1, x2, by decide, fun y => absurd y (by decide), fun y => absurd y (by decide), fun y => absurd y (by decide)⟩
  · rw [eAr_f q, eAr_f q]
    refine ⟨x0, x1, x2, x3, x4, x5, fun y => ?_⟩
    have := x6 y
    exact ⟨this.1, this.2.1, by omega, by omega⟩
noncomputable def eStep (G : Geo) (nl now : Nat) (E : Let) : Let := eHO (now + 1) (eAr (now + 1) (eMs G now E nl).1) nl
noncomputable def eRun (G : Geo) (nl now : Nat) (E : Let) : Nat → Let
  | 0 => E
  | n + 1 => eStep G nl (now + n) (eRun G nl now E n)
theorem eOK_Step {G : Geo} {nl now : Nat} {E : Let} (hG : gok G) (h : eOK G nl now E) (hn : now + 1 < 2 ^ 20) : eOK G nl (now + 1) (eStep G nl now E) := eOK_HO (eOK_Ar hG (eOK_Ms h) hn)
theorem eHOK_Step {G : Geo} {nl now : Nat} {E : Let} : eHOK nl (eStep G nl now E) := eHO_ok
theorem eOK_Run {G : Geo} {nl now n : Nat} {E : Let} (hG : gok G) (h : eOK G nl now E) (hn : now + n < 2 ^ 20) : eOK G nl (now + n) (eRun G nl now E n) := by
  induction n with
  | zero => exact h
  | succ n ih => exact eOK_Step hG (ih (by omega)) (by omega)
theorem eHOK_Run {G : Geo} {nl now n : Nat} {E : Let} (h : eHOK nl E) : eHOK nl (eRun G nl now E n) := by
  cases n with
  | zero => exact h
  | succ n => exact eHOK_Step
/-- who is on the way behind a step was it before -/
theorem eStep_le2 {G : Geo} {nl now : Nat} {E : Let} {i : Nat} (h : eStep G nl now E i 3 ≤ 2) : E i 3 ≤ 2 := by
  unfold eStep at h
  rcases eHO_st (now := now + 1) (E := eAr (now + 1) (eMs G now E nl).1) (n := nl) (a := i) with e | ⟨_, e⟩
  · rw [e] at h
    by_cases q : (eMs G now E nl).1 i 3 = 2 ∧ (eMs G now E nl).1 i 6 ≤ now + 1
    · rcases eMs_st (G := G) (now := now) (E := E) (n := nl) (a := i) with z | z
      · rw [z] at q; omega
      · omega
    · rw [eAr_f q] at h
      rcases eMs_st (G := G) (now := now) (E := E) (n := nl) (a := i) with z | z
      · rw [z] at h; exact h
      · omega
  · omega
theorem eStep_1 {G : Geo} {nl now : Nat} {E : Let} {i : Nat} : eStep G nl now E i 1 = E i 1 := by
  unfold eStep
  rw [eHO_o (by decide) (by decide), eAr_k (by decide) (by decide) (by decide), eMs_k (by decide) (by decide) (by decide) (by decide)]
/-- setting out lets nobody be handed out -/
theorem eHOK_Ms {G : Geo} {nl now n : Nat} {E : Let} (h : eHOK nl E) : eHOK nl (eMs G now E n).1 := by
  intro i hi h3
  have e3 : E i 3 = 3 := by
    rcases eMs_st (G := G) (now := now) (E := E) (n := n) (a := i) with z | z
    · rw [z] at h3; exact h3
    · omega
  obtain ⟨k, k1, k2, k3, k4, k5⟩ := h i hi e3
  refine ⟨k, k1, ?_, ?_, ?_, ?_⟩
  · rw [eMs_k (by decide) (by decide) (by decide) (by decide), eMs_k (by decide) (by decide) (by decide) (by decide)]; exact k2
  · rw [eMs_k (by decide) (by decide) (by decide) (by decide), eMs_k (by decide) (by decide) (by decide) (by decide)]; exact k3
  · rcases eMs_st (G := G) (now := now) (E := E) (n := n) (a := k) with z | z
    · rw [z]; exact k4
    · omega
  · rcases eMs_st (G := G) (now := now) (E := E) (n := n) (a := k) with z | z
    · rw [z]; exact k5
    · omega
theorem rLC_congr {nl now : Nat} {E E' : Let} {MI : Nat → Int32} {nE : Nat} {LT : Nat → Nat → Int32} (h : rLC nl now E MI nE LT) (e : ∀ a k, a < nl → E' a k = E a k) : rLC nl now E' MI nE LT := by
  obtain ⟨h0, h1, h2, h3⟩ := h
  refine ⟨h0, h1, h2, fun a ha => ?_⟩
  rw [e a 0 ha, e a 1 ha, e a 2 ha, e a 3 ha, e a 4 ha, e a 5 ha, e a 6 ha, e a 7 ha, e a 8 ha, e a 9 ha]
  exact h3 a ha
theorem r2_step {G : Geo} {SI : Nat → Int32} {SX : Nat → Nat → Int32} {nl now : Nat} {E : Let} {MI : Nat → Int32} {TT : Nat → Int64} {AW : Nat → Int32} {nE : Nat} {LT : Nat → Nat → Int32} {la : Nat → Nat} {nW : Nat} {WI : Nat → Nat → Int32} {WR : Nat → Nat → Nat} {WL : Nat → Nat → Int32} {WX : Nat → Nat → Nat → Int32} {wd : Nat → Nat → Nat} {Q : (Nat → Int32) → (Nat → Int64) → (Nat → Int32) → (Nat → Nat → Int32) → Prop} (hG : gok G) (hS : rS G SI SX) (hE : eOK G nl now E) (hH : eHOK nl E) (h : rLC nl now E MI nE LT) (hn : now + 1 < 2 ^ 20) (hnW : nW = G 0 2) (hw : ∀ i, i < nl → E i 3 ≤ 2 → wOK G (E i 1) (WL (E i 1))) (hq : ∀ MI' TT' AW' LT', rLC nl (now + 1) (eStep G nl now E) MI' nE LT' → Q MI' TT' AW' LT') : fX2_step SI SX nE la nW WI WR WL WX wd Q MI TT AW LT := by
  have n48 := gok_nr hG
  have n8 := gok_ns hG
  obtain ⟨c1, c2, c3⟩ := id hE
  have m1 : MI 1 = nI nl := h.2.1
  have mE : nE = nl := h.2.2.1
  unfold fX2_step
  refine nm_e ?_
  refine pk_loop (σ := (Nat → Int64) × (Nat → Nat → Int32)) (fun n i s => fX2_step_h10 SI SX nE la nW WI WR WL WX wd Q n MI s.1 AW s.2 (nI i)) (fun i s => rLC nl now (eMs G now E i).1 MI nE s.2 ∧ tOK (eMs G now E i).2 s.1) nl 0 (gfill 56 0 TT, LT) (Nat.zero_le _) ⟨h, fun v u hv hu => ?_⟩ ?_ ?_
  · show lb (gfill 56 0 TT v) u = false
    unfold gfill
    rw [if_pos hv]; exact lb_0 u
  · intro n s ⟨a1, a2⟩
    unfold fX2_step_h10
    rw [m1]
    refine ⟨fun _ => nm_e ?_, fun z => absurd (nI_le (Nat.le_refl _) (by omega)) z⟩
    -- the arrivals
    have hE1 := eOK_Ms (n := nl) hE
    have hE2 := eOK_Ar hG hE1 hn
    obtain ⟨_, _, d3⟩ := id hE1
    have hI : ∃ MI1 : Nat → Int32, MI1 = upd MI 0 (MI 0 + 1) ∧ MI1 0 = nI (now + 1) ∧ MI1 1 = nI nl := ⟨_, rfl, by rw [pk_us, h.1]; exact nI_1 _, m1⟩
    obtain ⟨MI1, eI, i0, i1⟩ := hI
    rw [← eI]
    have a1' : rLC nl (now + 1) (eMs G now E nl).1 MI1 nE s.2 := ⟨i0, i1, mE, a1.2.2.2⟩
    refine pk_loop (σ := Int32 × (Nat → Nat → Int32)) (fun m i u => fX2_step_h60 SI SX nE la nW WI WR WL WX wd Q m MI1 s.1 AW u.2 u.1 (nI i)) (fun i u => rLC nl (now + 1) (fun a k => if a < i then eAr (now + 1) (eMs G now E nl).1 a k else (eMs G now E nl).1 a k) MI1 nE u.2 ∧ (u.1 = 0 → ∀ a, a < i → ¬ ((eMs G now E nl).1 a 3 = 2 ∧ (eMs G now E nl).1 a 6 ≤ now + 1))) nl 0 (0, s.2) (Nat.zero_le _) ⟨a1', fun _ a ha => by omega⟩ ?_ ?_
    · intro m u ⟨b1, b2⟩
      unfold fX2_step_h60
      rw [i1]
      refine ⟨fun _ => ?_, fun z => absurd (nI_le (Nat.le_refl _) (by omega)) z⟩
      have b3 : rLC nl (now + 1) (eAr (now + 1) (eMs G now E nl).1) MI1 nE u.2 := rLC_congr b1 (fun a k ha => by simp only [if_pos ha])
      refine ⟨fun z => ?_, fun _ => ?_⟩
      · have hh : eHOK nl (eAr (now + 1) (eMs G now E nl).1) := by
          intro i hi h3
          have same : ∀ a k, a < nl → eAr (now + 1) (eMs G now E nl).1 a k = (eMs G now E nl).1 a k := fun a k ha => eAr_f (b2 z a ha) k
          rw [same i 3 hi] at h3
          obtain ⟨k, k1, k2, k3, k4, k5⟩ := eHOK_Ms (G := G) (now := now) (n := nl) hH i hi h3
          refine ⟨k, k1, ?_, ?_, ?_, ?_⟩
          · rw [same k 0 (by omega), same i 0 hi]; exact k2
          · rw [same k 1 (by omega), same i 1 hi]; exact k3
          · rw [same k 3 (by omega)]; exact k4
          · rw [same k 3 (by omega)]; exact k5
        have e : eStep G nl now E = eAr (now + 1) (eMs G now E nl).1 := eHO_id hh
        rw [e] at hq
        exact hq _ _ _ _ b3
      · exact r2_handOut hG hE2 b3 (fun AW' LT' g => hq _ _ _ _ g)
    · intro m i u hi ⟨b1, b2⟩ ih
      unfold fX2_step_h60 fX2_step_b112
      rw [i1]
      refine ⟨fun z => absurd z (nI_ge hi (by omega)), fun _ => ?_⟩
      refine ⟨pk_in i 60 (by omega), i, (nI_clamp (by omega)).symm, by omega, by omega, ?_⟩
      obtain ⟨q0, q1, q2, q3, q7, q8, q9, q4, q5⟩ := b1.2.2.2 i hi
      simp only [Nat.lt_irrefl, if_false] at q0 q1 q2 q3 q4 q5 q7 q8 q9
      obtain ⟨x0, x1, x2, x3, x4, x5, x6⟩ := d3 i hi
      have other : ∀ a k, a ≠ i → (if a < i + 1 then eAr (now + 1) (eMs G now E nl).1 a k else (eMs G now E nl).1 a k) = (if a < i then eAr (now + 1) (eMs G now E nl).1 a k else (eMs G now E nl).1 a k) := by
        intro a k ha
        by_cases q : a < i
        · rw [if_pos q, if_pos (by omega)]
        · rw [if_neg q, if_neg (by omega)]
      have self : ∀ k, (if i < i + 1 then eAr (now + 1) (eMs G now E nl).1 i k else (eMs G now E nl).1 i k) = eAr (now + 1) (eMs G now E nl).1 i k := fun k => if_pos (by omega)
      have keep : ¬ ((eMs G now E nl).1 i 3 = 2 ∧ (eMs G now E nl).1 i 6 ≤ now + 1) → fX2_step_h60 SI SX nE la nW WI WR WL WX wd Q m MI1 s.1 AW u.2 u.1 (nI (i + 1)) := by
        intro hno
        refine ih u ⟨rLC_congr b1 (fun a k ha => ?_), fun z a ha => ?_⟩
        · by_cases q : a = i
          · subst q
            rw [self k, eAr_f hno, if_neg (by omega)]
          · exact other a k q
        · by_cases q : a = i
          · subst q; exact hno
          · exact b2 z a (by omega)
      rw [q3, i0]
      refine ⟨fun z => nm_r (nI_1 i) (keep (fun y => z (by rw [y.1]; rfl))), fun z => ?_⟩
      have s2 : (eMs G now E nl).1 i 3 = 2 := (nI_eq (b := 2) (by omega) (by decide)).mp z
      have b5 := (x6 s2).2.1
      have b6 := (x6 s2).2.2
      refine ⟨pk_in i 60 (by omega), i, (nI_clamp (by omega)).symm, by omega, by omega, ?_⟩
      rw [(q5 s2).2]
      refine pk_lt (now + 1) ((eMs G now E nl).1 i 6) (fun w => nm_r (nI_1 i) (keep (fun y => by omega))) (fun w => ?_)
      refine ⟨pk_in i 60 (by omega), i, (nI_clamp (by omega)).symm, by omega, by omega, ?_⟩
      have cc : (eMs G now E nl).1 i 3 = 2 ∧ (eMs G now E nl).1 i 6 ≤ now + 1 := ⟨s2, w⟩
      unfold fX1_arrive
      refine ⟨by omega, by omega, nm_e ⟨by omega, ?_⟩⟩
      have e4 : va_up u.2 i (upd (u.2 i) 4 (u.2 i 5)) i 4 = nI ((eMs G now E nl).1 i 5) := by
        simp only [va_up, if_true]
        rw [pk_us]; exact (q5 s2).1
      rw [e4]
      refine r5_isRelay (by omega) ?_
      by_cases r5 : (eMs G now E nl).1 i 5 < 48
      · rw [if_pos r5]
        refine ⟨fun y => absurd y (by decide), fun _ => ⟨by omega, fun L2 e2 => nm_r (nI_1 i) (ih (1, L2) ⟨?_, fun y => absurd (show (1 : Int32) = 0 from y) (by decide)⟩)⟩⟩
        refine rLC_set (i := i) b1 (fun a ha => ?_) (fun a k ha => other a k ha) (fun _ => ?_)
        · show L2 a = u.2 a
          rw [e2]; simp [va_up, ha]
        · simp only [self]
          rw [eAr_3 cc, eAr_4 cc, eAr_8 cc, if_pos r5, if_pos r5, eAr_k (k := 0) (by decide) (by decide) (by decide), eAr_k (k := 1) (by decide) (by decide) (by decide), eAr_k (k := 2) (by decide) (by decide) (by decide), eAr_k (k := 7) (by decide) (by decide) (by decide), eAr_k (k := 9) (by decide) (by decide) (by decide)]
          show L2 i 0 = _ ∧ L2 i 1 = _ ∧ L2 i 2 = _ ∧ L2 i 3 = _ ∧ L2 i 7 = _ ∧ L2 i 8 = _ ∧ L2 i 9 = _ ∧ (_ → L2 i 4 = _) ∧ (_ → L2 i 5 = _ ∧ L2 i 6 = _)
          rw [e2]
          simp only [va_up, if_true, upd]
          exact ⟨q0, q1, q2, rfl, q7, q8, q9, fun _ => (q5 s2).1, fun y => absurd y (by decide)⟩
      · rw [if_neg r5]
        refine ⟨fun _ => ⟨by omega, fun L1 e1 => ⟨by omega, fun L2 e2 => nm_r (nI_1 i) (ih (1, L2) ⟨?_, fun y => absurd (show (1 : Int32) = 0 from y) (by decide)⟩)⟩⟩, fun y => absurd rfl y⟩
        refine rLC_set (i := i) b1 (fun a ha => ?_) (fun a k ha => other a k ha) (fun _ => ?_)
        · show L2 a = u.2 a
          rw [e2, e1]; simp [va_up, ha]
        · simp only [self]
          rw [eAr_3 cc, eAr_4 cc, eAr_8 cc, if_neg r5, if_neg r5, eAr_k (k := 0) (by decide) (by decide) (by decide), eAr_k (k := 1) (by decide) (by decide) (by decide), eAr_k (k := 2) (by decide) (by decide) (by decide), eAr_k (k := 7) (by decide) (by decide) (by decide), eAr_k (k := 9) (by decide) (by decide) (by decide)]
          show L2 i 0 = _ ∧ L2 i 1 = _ ∧ L2 i 2 = _ ∧ L2 i 3 = _ ∧ L2 i 7 = _ ∧ L2 i 8 = _ ∧ L2 i 9 = _ ∧ (_ → L2 i 4 = _) ∧ (_ → L2 i 5 = _ ∧ L2 i 6 = _)
          rw [e2, e1]
          simp only [va_up, if_true, upd]
          refine ⟨q0, q1, q2, rfl, q7, ?_, q9, fun y => absurd y (by decide), fun y => absurd y (by decide)⟩
          show nI (now + 1) = oI (now + 1 + 1)
          rfl
  · intro n i s hi ⟨a1, a2⟩ ih
    unfold fX2_step_h10 fX2_step_b40 fX1_mayGo fX1_mayGo_b15
    rw [m1]
    refine ⟨fun z => absurd z (nI_ge hi (by omega)), fun _ => ?_⟩
    refine ⟨pk_in i 60 (by omega), i, (nI_clamp (by omega)).symm, by omega, by omega, ?_⟩
    have e3 := eMs_ge (G := G) (now := now) (E := E) (Nat.le_refl i) 3
    have e1 := eMs_ge (G := G) (now := now) (E := E) (Nat.le_refl i) 1
    obtain ⟨q0, q1, q2, q3, q7, q8, q9, q4, q5⟩ := a1.2.2.2 i hi
    obtain ⟨x0, x1, x2, x3, x4, x5, x6⟩ := c3 i hi
    rw [q3, e3]
    have go : E i 3 ≤ 1 → fX2_setOut SI SX nE la nW WI WR WL WX wd i (fun MI_13 TT_14 AW_15 LT_16 => ∀ x1_17 : Int32, x1_17 = nI i + (1 : Int32) → (fun a0 a1 a2 a3 a4 => fX2_step_h10 SI SX nE la nW WI WR WL WX wd Q n a0 a1 a2 a3 a4) MI_13 TT_14 AW_15 LT_16 x1_17) MI s.1 AW s.2 := by
      intro h1
      refine r2_setOut hG hS (eOK_Ms (n := i) hE) a1 a2 hi (by rw [e3]; exact h1) hnW (by rw [e1]; exact hw i hi (by omega)) (fun TT' LT' g1 g2 => ?_)
      exact nm_r (nI_1 i) (ih (TT', LT') ⟨g1, g2⟩)
    have stay : ¬ E i 3 ≤ 1 → fX2_step_h10 SI SX nE la nW WI WR WL WX wd Q n MI s.1 AW s.2 (nI (i + 1)) := by
      intro h1
      have e : eMs G now E (i + 1) = eMs G now E i := by
        show eM1 G now (eMs G now E i) i = _
        unfold eM1
        rw [if_neg (fun z => h1 (by rw [e3] at z; exact z.1))]
      refine ih s ?_
      rw [e]
      exact ⟨a1, a2⟩
    refine ⟨by omega, ⟨fun z => ?_, fun z => ⟨by omega, ⟨fun y => ?_, fun y => ?_⟩⟩⟩⟩
    · have : E i 3 = 0 := (nI_is0 (by omega)).mp z
      exact ⟨fun w => absurd w (by decide), fun _ => ⟨pk_in i 60 (by omega), i, (nI_clamp (by omega)).symm, by omega, go (by omega)⟩⟩
    · have n0 : E i 3 ≠ 0 := fun w => z (by rw [w]; rfl)
      have n1 : E i 3 ≠ 1 := fun w => y (by rw [w]; rfl)
      exact ⟨fun _ => nm_r (nI_1 i) (stay (by omega)), fun w => absurd rfl w⟩
    · have : E i 3 = 1 := (nI_eq (b := 1) (by omega) (by decide)).mp y
      exact ⟨fun w => absurd w (by decide), fun _ => ⟨pk_in i 60 (by omega), i, (nI_clamp (by omega)).symm, by omega, go (by omega)⟩⟩
/-- the ways: c is the number of changes of the sky -/
def rY (G : Geo) (c nW : Nat) (WI : Nat → Nat → Int32) (WR : Nat → Nat → Nat) (WL : Nat → Nat → Int32) : Prop := nW = G 0 2 ∧ ∀ j, j < nW → WI j 1 = nI (48 + j) ∧ wPm (WR j) ∧ (WI j 3 = -1 ∨ ∃ c', c' ≤ c ∧ WI j 3 = nI c') ∧ (WI j 3 = nI c → wOK G j (WL j))
theorem r4_refreshY {G : Geo} {c : Nat} {SI : Nat → Int32} {SX : Nat → Nat → Int32} {nW : Nat} {wd : Nat → Nat → Nat} {j : Nat} {Q : (Nat → Nat → Int32) → (Nat → Nat → Nat) → (Nat → Nat → Int32) → (Nat → Nat → Nat → Int32) → Prop} {WI : Nat → Nat → Int32} {WR : Nat → Nat → Nat} {WL : Nat → Nat → Int32} {WX : Nat → Nat → Nat → Int32} (hG : gok G) (hS : rS G SI SX) (hc : SI 3 = nI c) (hY : rY G c nW WI WR WL) (hj : j < nW) (hq : ∀ (WI' : Nat → Nat → Int32) (WR' : Nat → Nat → Nat) (WL' : Nat → Nat → Int32) (WX' : Nat → Nat → Nat → Int32), rY G c nW WI' WR' WL' → WI' j 3 = nI c → (∀ i, WI i 3 = nI c → WI' i 3 = nI c) → Q WI' WR' WL' WX') : fX4_refresh SI SX nW wd j Q WI WR WL WX := by
  obtain ⟨y0, y1⟩ := id hY
  obtain ⟨j1, j2, j3, j4⟩ := y1 j hj
  refine r4_refresh hG hS hj (by omega) j1 j2 (fun z => j4 (by rw [z, hc])) (fun WI' WR' WL' WX' b1 b2 b3 b4 b5 b6 b7 => ?_)
  rw [hc] at b5
  refine hq _ _ _ _ ⟨y0, fun i hi => ?_⟩ b5 (fun i hi => ?_)
  · by_cases e : i = j
    · subst e; exact ⟨b4, b6, Or.inr ⟨c, Nat.le_refl _, b5⟩, fun _ => b7⟩
    · rw [b1 i e, b2 i e, b3 i e]; exact y1 i hi
  · by_cases e : i = j
    · subst e; exact b5
    · rw [b1 i e]; exact hi
theorem r2_run {G : Geo} {c : Nat} {SI : Nat → Int32} {SX : Nat → Nat → Int32} {nl now k : Nat} {E : Let} {MI : Nat → Int32} {TT : Nat → Int64} {AW : Nat → Int32} {nE : Nat} {LT : Nat → Nat → Int32} {la : Nat → Nat} {nW : Nat} {WI : Nat → Nat → Int32} {WR : Nat → Nat → Nat} {WL : Nat → Nat → Int32} {WX : Nat → Nat → Nat → Int32} {wd : Nat → Nat → Nat} {Q : (Nat → Int32) → (Nat → Int64) → (Nat → Int32) → (Nat → Nat → Int32) → (Nat → Nat → Int32) → (Nat → Nat → Nat) → (Nat → Nat → Int32) → (Nat → Nat → Nat → Int32) → Prop} (hG : gok G) (hS : rS G SI SX) (hc : SI 3 = nI c) (hY : rY G c nW WI WR WL) (hE : eOK G nl now E) (hH : eHOK nl E) (h : rLC nl now E MI nE LT) (hn : now + k < 2 ^ 20) (hq : ∀ MI' TT' AW' LT' WI' WR' WL' WX', rLC nl (now + k) (eRun G nl now E k) MI' nE LT' → rY G c nW WI' WR' WL' → Q MI' TT' AW' LT' WI' WR' WL' WX') : fX2_run SI SX nE la nW wd Q MI TT AW LT WI WR WL WX (nI k) := by
  obtain ⟨c1, c2, c3⟩ := id hE
  have m1 : MI 1 = nI nl := h.2.1
  have mE : nE = nl := h.2.2.1
  unfold fX2_run
  refine pk_loop (σ := (Nat → Nat → Int32) × (Nat → Nat → Nat) × (Nat → Nat → Int32) × (Nat → Nat → Nat → Int32)) (fun n i s => fX2_run_h2 SI SX nE la nW wd Q n MI TT AW LT s.1 s.2.1 s.2.2.1 s.2.2.2 (nI k) (nI i)) (fun i s => rY G c nW s.1 s.2.1 s.2.2.1 ∧ ∀ a, a < i → E a 3 ≤ 2 → s.1 (E a 1) 3 = nI c) nl 0 (WI, WR, WL, WX) (Nat.zero_le _) ⟨hY, fun a ha => by omega⟩ ?_ ?_
  · intro n s ⟨a1, a2⟩
    unfold fX2_run_h2
    rw [m1]
    refine ⟨fun _ => ?_, fun z => absurd (nI_le (Nat.le_refl _) (by omega)) z⟩
    have hw0 : ∀ i, i < nl → E i 3 ≤ 2 → wOK G (E i 1) (s.2.2.1 (E i 1)) := by
      intro i hi h2
      have := (c3 i hi).2.1
      exact (a1.2 (E i 1) (by rw [a1.1]; exact this)).2.2.2 (a2 i hi h2)
    refine pk_loop (σ := (Nat → Int32) × (Nat → Int64) × (Nat → Int32) × (Nat → Nat → Int32)) (fun m i u => fX2_run_h47 SI SX nE la nW wd Q m u.1 u.2.1 u.2.2.1 u.2.2.2 s.1 s.2.1 s.2.2.1 s.2.2.2 (nI k) (nI i)) (fun i u => rLC nl (now + i) (eRun G nl now E i) u.1 nE u.2.2.2 ∧ ∀ a, a < nl → eRun G nl now E i a 3 ≤ 2 → wOK G (eRun G nl now E i a 1) (s.2.2.1 (eRun G nl now E i a 1))) k 0 (MI, TT, AW, LT) (Nat.zero_le _) ⟨h, hw0⟩ ?_ ?_
    · intro m u ⟨b1, b2⟩
      unfold fX2_run_h47
      exact ⟨fun _ => hq _ _ _ _ _ _ _ _ b1 a1, fun z => absurd (nI_le (Nat.le_refl _) (by omega)) z⟩
    · intro m i u hi ⟨b1, b2⟩ ih
      unfold fX2_run_h47
      refine ⟨fun z => absurd z (nI_ge hi (by omega)), fun _ => ?_⟩
      refine r2_step hG hS (eOK_Run hG hE (by omega)) (eHOK_Run hH) b1 (by omega) a1.1 b2 (fun MI' TT' AW' LT' g => ?_)
      refine nm_r (nI_1 i) (ih (MI', TT', AW', LT') ⟨g, fun a ha h2 => ?_⟩)
      have e1 : eRun G nl now E (i + 1) a 1 = eRun G nl now E i a 1 := eStep_1
      rw [e1]
      exact b2 a ha (eStep_le2 h2)
  · intro n i s hi ⟨a1, a2⟩ ih
    unfold fX2_run_h2 fX2_run_b39
    rw [m1]
    refine ⟨fun z => absurd z (nI_ge hi (by omega)), fun _ => ?_⟩
    refine ⟨pk_in i 60 (by omega), i, (nI_clamp (by omega)).symm, by omega, by omega, ?_⟩
    obtain ⟨x0, x1, x2, x3, x4, x5, x6⟩ := c3 i hi
    refine r1_isSettled h hi x3 ⟨fun z => ⟨fun _ => nm_r (nI_1 i) (ih s ⟨a1, fun a ha h2 => ?_⟩), fun y => absurd y (by decide)⟩, fun z => ⟨fun y => absurd rfl y, fun _ => ?_⟩⟩
    · by_cases e : a = i
      · subst e; omega
      · exact a2 a (by omega) h2
    · have l1 := (h.2.2.2 i hi).2.1
      refine ⟨pk_in i 60 (by omega), i, (nI_clamp (by omega)).symm, by omega, by omega, ?_⟩
      rw [l1]
      have n8 := gok_ns hG
      refine ⟨pk_in (E i 1) 8 (by omega), E i 1, (nI_clamp (by omega)).symm, by rw [a1.1]; exact x1, by rw [a1.1]; exact x1, ?_⟩
      refine r4_refreshY hG hS hc a1 (by rw [a1.1]; exact x1) (fun WI' WR' WL' WX' g1 g2 g3 => ?_)
      refine nm_r (nI_1 i) (ih (WI', WR', WL', WX') ⟨g1, fun a ha h2 => ?_⟩)
      by_cases e : a = i
      · subst e; exact g2
      · exact g3 _ (a2 a (by omega) h2)

/-! the reference's own sky, and its methods that change nothing -/
def rM (G : Geo) (I : Nat → Int32) (X : Nat → Nat → Int32) : Prop :=
  I 6 = nI (G 0 0) ∧ I 9 = nI (G 0 1) ∧ I 13 = nI (G 0 2) ∧ (∀ p, p < G 0 0 → X 2 p = nI (gsz G p) ∧ X 3 p = nI (G 3 p) ∧ X 4 p + 32 = nI (G 4 p) ∧ X 5 p = nI (G 5 p)) ∧ (∀ r, r < G 0 1 → X 7 r = nI (G 7 r)) ∧ (∀ r, r < 48 → X 8 r = nI (G 8 r)) ∧ (∀ j, j < G 0 2 → X 10 j = nI (G 10 j) ∧ X 11 j = nI (G 11 j) ∧ X 12 j = nI (G 12 j))
theorem rM_congr {G : Geo} {I I' : Nat → Int32} {X X' : Nat → Nat → Int32} (h : rM G I X) (h6 : I' 6 = I 6) (h9 : I' 9 = I 9) (h13 : I' 13 = I 13) (hX : ∀ k, k < 13 → X' k = X k) : rM G I' X' := by
  obtain ⟨m6, m9, m13, mp, m7, m8, mj⟩ := h
  refine ⟨by rw [h6]; exact m6, by rw [h9]; exact m9, by rw [h13]; exact m13, ?_, ?_, ?_, ?_⟩
  · rw [hX 2 (by decide), hX 3 (by decide), hX 4 (by decide), hX 5 (by decide)]; exact mp
  · rw [hX 7 (by decide)]; exact m7
  · rw [hX 8 (by decide)]; exact m8
  · rw [hX 10 (by decide), hX 11 (by decide), hX 12 (by decide)]; exact mj
theorem rM_I0 {G : Geo} {I : Nat → Int32} {X : Nat → Nat → Int32} {x : Int32} (h : rM G I X) : rM G (upd I 0 x) X := rM_congr h rfl rfl rfl (fun _ _ => rfl)
theorem abs_nI {a b : Nat} (ha : a < 2 ^ 30) (hb : b < 2 ^ 30) : (if 0 ≤ (nI a - nI b) then (nI a - nI b) else 0 - (nI a - nI b)) = nI (gdi a b) := by
  unfold gdi
  by_cases q : b ≤ a
  · rw [pk_sub q, if_pos (nI_pos' (by omega))]
    congr 1
    omega
  · have n : ¬ 0 ≤ nI a - nI b := by
      have := pk_sneg hb (by omega : a < b)
      intro z
      exact absurd (Int32.lt_of_lt_of_le this z) Int32.lt_irrefl
    rw [if_neg n, Int32.zero_sub, Int32.neg_sub, pk_sub (by omega)]
    congr 1
    omega
theorem gdi_lt {a b n : Nat} (ha : a < n) (hb : b < n) : gdi a b < n := by unfold gdi; omega
theorem r6_placeOf {G : Geo} {I : Nat → Int32} {X : Nat → Nat → Int32} {Q : Int32 → Prop} {r t : Nat} (hG : gok G) (hM : rM G I X) (hr : r < G 0 1) (ht : t < 2 ^ 31) (hq : Q (nI (gpl G r t))) : fX6_placeOf I X Q (nI r) (nI t) := by
  obtain ⟨m6, m9, m13, mp, m7, m8, mj⟩ := id hM
  have n48 := gok_nr hG
  have n6 := gok_np hG
  obtain ⟨p1, p2, p3⟩ := gok_pl hG hr
  obtain ⟨s1, s2, s3, s4, s5⟩ := gok_p hG p1
  obtain ⟨x2, x3, x4, x5⟩ := mp _ p1
  unfold fX6_placeOf
  refine ⟨pk_in r 48 (by omega), ?_⟩
  rw [pk_cl r]
  refine nm_r (m7 r hr) ?_
  refine ⟨pk_in (G 7 r) 6 (by omega), pk_in (G 7 r) 6 (by omega), pk_in (G 7 r) 6 (by omega), ?_⟩
  rw [pk_cl (G 7 r), x3, x4, x5]
  have e : ((4 : Int32) * (nI r - nI (G 5 (G 7 r)))) + nI (G 3 (G 7 r)) + nI (G 4 (G 7 r)) * (nI t - nI t / (32 : Int32) * (32 : Int32)) = nI (4 * (r - G 5 (G 7 r)) + G 3 (G 7 r) + G 4 (G 7 r) * (t % 32)) := by
    have a : nI t - nI t / (32 : Int32) * (32 : Int32) = nI (t % 32) := pk_rem (d := 32) ht (by decide) (by decide)
    rw [a, pk_sub p2, show (4 : Int32) = nI 4 from rfl, pk_mul, nI_add, pk_mul, nI_add]
  rw [e]
  have b : 4 * (r - G 5 (G 7 r)) + G 3 (G 7 r) + G 4 (G 7 r) * (t % 32) < 2 ^ 31 := by
    have : G 4 (G 7 r) * (t % 32) ≤ 35 * 32 := Nat.mul_le_mul s3 (by omega)
    omega
  have c := pk_rem (d := 32) b (by decide) (by decide)
  rw [show (32 : Int32) = nI 32 from rfl, c]
  exact hq
theorem r6_apart {Q : Int32 → Prop} {a b : Nat} (ha : a < 32) (hb : b < 32) (hq : Q (nI (gap a b))) : fX6_apart Q (nI a) (nI b) := by
  unfold fX6_apart
  refine nm_r (abs_nI (by omega) (by omega)) ?_
  have l := gdi_lt ha hb
  rw [show (32 : Int32) - nI (gdi a b) = nI (32 - gdi a b) from pk_sub (a := 32) (by omega)]
  have e : (if nI (32 - gdi a b) < nI (gdi a b) then nI (32 - gdi a b) else nI (gdi a b)) = nI (gap a b) := by
    unfold gap
    by_cases q : 32 - gdi a b < gdi a b
    · rw [if_pos q, if_pos (nI_lt q (by omega))]
    · rw [if_neg q, if_neg (nI_nlt (by omega) (by omega))]
  rw [e]
  exact hq
theorem gap_lt {a b : Nat} (ha : a < 32) (hb : b < 32) : gap a b < 32 := by
  have := gdi_lt ha hb
  unfold gap
  split <;> omega
theorem gLk_rr {G : Geo} {a b t : Nat} (hG : gok G) (ha : a < G 0 1) (hb : b < G 0 1) (za : G 8 a = 0) (zb : G 8 b = 0) : gLk G a b t = decide (glk G a b t ≠ 0) := by
  have n48 := gok_nr hG
  unfold gLk gth
  rw [gup_r (by omega) hG, gup_r (by omega) hG, if_pos (by omega), decide_eq_true ⟨ha, za⟩, decide_eq_true ⟨hb, zb⟩]
  rfl
theorem gLk_d {G : Geo} {a b t : Nat} (hG : gok G) (ha : a < 48) (hb : b < 48) (h : G 8 a ≠ 0 ∨ G 8 b ≠ 0) : gLk G a b t = false := by
  unfold gLk
  rw [gup_r ha hG, gup_r hb hG]
  rcases h with h | h
  · rw [decide_eq_false (fun z => h z.2)]; rfl
  · rw [decide_eq_false (p := b < G 0 1 ∧ G 8 b = 0) (fun z => h z.2), Bool.and_false]; rfl
theorem nI_is0 {n : Nat} (h : n < 2 ^ 31) : nI n = 0 ↔ n = 0 := nI_eq (b := 0) h (by decide)
theorem r6_linkOf {G : Geo} {I : Nat → Int32} {X : Nat → Nat → Int32} {Q : Int32 → Prop} {a b t : Nat} (hG : gok G) (hM : rM G I X) (ha : a < G 0 1) (hb : b < G 0 1) (ht : t < 2 ^ 31) (hq : Q (nI (if gLk G a b t = true then gln G a b else 0))) : fX6_linkOf I X Q (nI a) (nI b) (nI t) := by
  obtain ⟨m6, m9, m13, mp, m7, m8, mj⟩ := id hM
  have n48 := gok_nr hG
  have n6 := gok_np hG
  have da := gok_d hG (r := a) (by omega)
  have db := gok_d hG (r := b) (by omega)
  obtain ⟨a1, a2, a3⟩ := gok_pl hG ha
  obtain ⟨b1, b2, b3⟩ := gok_pl hG hb
  have q0 : gLk G a b t = false → Q 0 := by
    intro h
    rw [h, if_neg (by decide)] at hq
    exact hq
  unfold fX6_linkOf
  refine pk_eq a b (fun e => ?_) (fun ne => ?_)
  · subst e
    refine q0 ?_
    unfold gLk gth
    rw [if_pos (by omega), glk_self, decide_eq_false (fun z => z rfl), Bool.and_false]
  · refine ⟨pk_in a 48 (by omega), ?_⟩
    rw [pk_cl a, m8 a (by omega)]
    refine ⟨fun z => q0 (gLk_d hG (by omega) (by omega) (Or.inl (fun y => z (by rw [y]; rfl)))), fun z => ?_⟩
    have za : G 8 a = 0 := (nI_is0 (by omega)).mp z
    refine ⟨pk_in b 48 (by omega), ?_⟩
    rw [pk_cl b, m8 b (by omega)]
    refine ⟨fun z => ?_, fun z => q0 (gLk_d hG (by omega) (by omega) (Or.inr (fun y => z (by rw [y]; rfl))))⟩
    have zb : G 8 b = 0 := (nI_is0 (by omega)).mp z
    have eL := gLk_rr (t := t) hG ha hb za zb
    refine ⟨pk_in a 48 (by omega), ?_⟩
    refine nm_r (m7 a ha) ?_
    refine ⟨pk_in b 48 (by omega), ?_⟩
    refine nm_r (m7 b hb) ?_
    refine ⟨fun y => ?_, fun y => ?_⟩
    · have np : ¬ G 7 a = G 7 b := fun w => y (by rw [w])
      have lk : glk G a b t = if gdi (G 7 a) (G 7 b) = 1 ∧ gap (gpl G a t) (gpl G b t) ≤ 2 then 1 else 0 := by unfold glk; rw [if_neg np]
      have gl : gdi (G 7 a) (G 7 b) < 6 := gdi_lt (by omega) (by omega)
      rw [abs_nI (a := G 7 a) (b := G 7 b) (by omega) (by omega)]
      refine ⟨fun w => ?_, fun w => ?_⟩
      · refine q0 ?_
        rw [eL, lk, if_neg (fun v => w (by rw [v.1]; rfl))]
        rfl
      · have g1 : gdi (G 7 a) (G 7 b) = 1 := (nI_eq (b := 1) (by omega) (by decide)).mp w
        refine r6_placeOf hG hM ha ht ?_
        refine r6_placeOf hG hM hb ht ?_
        have gp := gap_lt (gpl_lt G a t) (gpl_lt G b t)
        refine r6_apart (gpl_lt G a t) (gpl_lt G b t) ?_
        refine pk_lt 2 (gap (gpl G a t) (gpl G b t)) (fun w => ?_) (fun w => ?_)
        · refine q0 ?_
          rw [eL, lk, if_neg (fun v => by omega)]
          rfl
        · have cc : gdi (G 7 a) (G 7 b) = 1 ∧ gap (gpl G a t) (gpl G b t) ≤ 2 := ⟨g1, w⟩
          rw [eL, lk, if_pos cc] at hq
          have : gln G a b = 1 := by unfold gln; rw [if_neg (fun v => np v.2.2)]
          rw [this] at hq
          exact hq
    · have pp : G 7 a = G 7 b := (nI_eq (by omega) (by omega)).mp y
      have lk : glk G a b t = if gdi a b = 1 ∨ (2 < gsz G (G 7 a) ∧ gdi a b = gsz G (G 7 a) - 1) then 2 else 0 := by unfold glk; rw [if_pos pp]
      have l2 : gln G a b = 2 := by unfold gln; rw [if_pos ⟨by omega, by omega, pp⟩]
      have gl : gdi a b < 48 := gdi_lt (by omega) (by omega)
      have sz : gsz G (G 7 a) ≤ 8 := by have := (gok_p hG a1).2.2.2.2; unfold gsz; omega
      obtain ⟨x2, x3, x4, x5⟩ := mp _ a1
      refine nm_r (abs_nI (a := a) (b := b) (by omega) (by omega)) ?_
      refine pk_eq (gdi a b) 1 (fun w => ?_) (fun w => ?_)
      · rw [eL, lk, if_pos (Or.inl w), l2] at hq
        exact hq
      · refine ⟨pk_in (G 7 a) 6 (by omega), ?_⟩
        rw [pk_cl (G 7 a), x2]
        refine pk_le (gsz G (G 7 a)) 2 (fun v => ?_) (fun v => ?_)
        · refine q0 ?_
          rw [eL, lk, if_neg (by omega)]
          rfl
        · refine ⟨pk_in (G 7 a) 6 (by omega), ?_⟩
          rw [show nI (gsz G (G 7 a)) - (1 : Int32) = nI (gsz G (G 7 a) - 1) from pk_sub (b := 1) (by omega)]
          refine ⟨fun u => ?_, fun u => ?_⟩
          · refine q0 ?_
            rw [eL, lk, if_neg (fun z => by rcases z with z | z
                                            · exact w z
                                            · exact u (by rw [z.2]))]
            rfl
          · have : gdi a b = gsz G (G 7 a) - 1 := (nI_eq (by omega) (by omega)).mp u
            rw [eL, lk, if_pos (Or.inr ⟨v, this⟩), l2] at hq
            exact hq
theorem gLk_pr {G : Geo} {j r t : Nat} (hG : gok G) (hj : j < G 0 2) (hr : r < G 0 1) (zr : G 8 r = 0) : gLk G (48 + j) r t = gse G j r t := by
  have n48 := gok_nr hG
  unfold gLk gth
  rw [gup_p hG, gup_r (by omega) hG, if_neg (by omega), decide_eq_true hj, decide_eq_true ⟨hr, zr⟩, show 48 + j - 48 = j by omega]
  rfl
theorem r6_seesOf {G : Geo} {I : Nat → Int32} {X : Nat → Nat → Int32} {Q : Int32 → Prop} {j r t : Nat} (hG : gok G) (hM : rM G I X) (hj : j < G 0 2) (hr : r < G 0 1) (ht : t < 2 ^ 31) (hq : Q (nI (if gLk G (48 + j) r t = true then 1 else 0))) : fX6_seesOf I X Q (nI j) (nI r) (nI t) := by
  obtain ⟨m6, m9, m13, mp, m7, m8, mj⟩ := id hM
  have n48 := gok_nr hG
  have n6 := gok_np hG
  have n8 := gok_ns hG
  have dr := gok_d hG (r := r) (by omega)
  obtain ⟨a1, a2, a3⟩ := gok_pl hG hr
  obtain ⟨j1, j2, j3⟩ := gok_s hG hj
  obtain ⟨y1, y2, y3⟩ := mj j hj
  have q0 : gLk G (48 + j) r t = false → Q 0 := by
    intro h
    rw [h, if_neg (by decide)] at hq
    exact hq
  unfold fX6_seesOf
  refine ⟨pk_in r 48 (by omega), ?_⟩
  rw [pk_cl r, m8 r (by omega)]
  refine ⟨fun z => ?_, fun z => ?_⟩
  · refine q0 ?_
    unfold gLk
    rw [gup_r (r := r) (by omega) hG, decide_eq_false (p := r < G 0 1 ∧ G 8 r = 0) (fun y => z (by rw [y.2]; rfl)), Bool.and_false]
    rfl
  · have zr : G 8 r = 0 := (nI_is0 (by omega)).mp z
    have eL := gLk_pr (t := t) hG hj hr zr
    have gl : gdi (G 7 r) (G 11 j) < 6 := gdi_lt (by omega) (by omega)
    refine ⟨pk_in r 48 (by omega), pk_in j 8 (by omega), ?_⟩
    rw [pk_cl j, m7 r hr, y2, abs_nI (a := G 7 r) (b := G 11 j) (by omega) (by omega)]
    refine pk_lt 1 (gdi (G 7 r) (G 11 j)) (fun w => ?_) (fun w => ?_)
    · refine q0 ?_
      rw [eL]
      unfold gse
      exact decide_eq_false (fun v => by omega)
    · refine r6_placeOf hG hM hr ht ?_
      refine ⟨pk_in j 8 (by omega), ?_⟩
      rw [y1]
      have gp := gap_lt (gpl_lt G r t) j1
      refine r6_apart (gpl_lt G r t) j1 ?_
      refine ⟨pk_in j 8 (by omega), ?_⟩
      rw [y3]
      refine pk_lt (G 12 j) (gap (gpl G r t) (G 10 j)) (fun w2 => ?_) (fun w2 => ?_)
      · refine q0 ?_
        rw [eL]
        unfold gse
        exact decide_eq_false (fun v => by omega)
      · have : gLk G (48 + j) r t = true := by
          rw [eL]
          unfold gse
          exact decide_eq_true ⟨w, w2⟩
        rw [if_pos this] at hq
        exact hq
theorem gTk_Lk {G : Geo} {v r t : Nat} : gTk G v r t = (gLk G v r t && gLk G v r (t + 1) && (decide (gln G v r = 1) || gLk G v r (t + 2))) := by
  unfold gTk gLk
  cases gup G v <;> cases gup G r <;> simp
theorem nIif {c : Prop} [Decidable c] {n : Nat} (h : c) : nI (if c then n else 0) = nI n := by rw [if_pos h]
theorem r6_taken {G : Geo} {I : Nat → Int32} {X : Nat → Nat → Int32} {Q : Int32 → Prop} {a b t : Nat} (hG : gok G) (hM : rM G I X) (ha : a < G 0 1) (hb : b < G 0 1) (ht : t < 2 ^ 30) (hq : Q (nI (if gTk G a b t = true then gln G a b else 0))) : fX6_taken I X Q (nI a) (nI b) (nI t) := by
  unfold fX6_taken
  refine r6_linkOf hG hM ha hb (by omega) ?_
  by_cases h0 : gLk G a b t = true
  · rw [if_pos h0]
    rcases gln_12 G a b with hl | hl
    · rw [hl]
      refine ⟨0 + 1 + 1, ?_⟩
      unfold fX6_taken_h12
      refine ⟨fun z => absurd z (by decide), fun _ => ?_⟩
      show fX6_linkOf I X _ (nI a) (nI b) (nI t + nI 1)
      rw [nI_add]
      refine r6_linkOf hG hM ha hb (by omega) ?_
      by_cases h1 : gLk G a b (t + 1) = true
      · rw [if_pos h1, hl]
        refine ⟨fun _ => ?_, fun z => absurd z (by decide)⟩
        refine nm_e ?_
        show fX6_taken_h12 I X Q (0 + 1) _ _ _ _ _
        unfold fX6_taken_h12
        refine ⟨fun _ => ?_, fun z => absurd (by decide) z⟩
        have : gTk G a b t = true := by rw [gTk_Lk, h0, h1, hl]; rfl
        rw [if_pos this, hl] at hq
        exact hq
      · rw [if_neg h1]
        refine ⟨fun z => absurd rfl z, fun _ => ?_⟩
        have : ¬ gTk G a b t = true := by
          rw [gTk_Lk]
          intro z
          rw [Bool.and_eq_true, Bool.and_eq_true] at z
          exact h1 z.1.2
        rw [if_neg this] at hq
        exact hq
    · rw [hl]
      refine ⟨0 + 1 + 1 + 1, ?_⟩
      unfold fX6_taken_h12
      refine ⟨fun z => absurd z (by decide), fun _ => ?_⟩
      show fX6_linkOf I X _ (nI a) (nI b) (nI t + nI 1)
      rw [nI_add]
      refine r6_linkOf hG hM ha hb (by omega) ?_
      by_cases h1 : gLk G a b (t + 1) = true
      · rw [if_pos h1, hl]
        refine ⟨fun _ => ?_, fun z => absurd z (by decide)⟩
        refine nm_e ?_
        show fX6_taken_h12 I X Q (0 + 1 + 1) _ _ _ _ _
        unfold fX6_taken_h12
        refine ⟨fun z => absurd z (by decide), fun _ => ?_⟩
        show fX6_linkOf I X _ (nI a) (nI b) (nI t + nI 2)
        rw [nI_add]
        refine r6_linkOf hG hM ha hb (by omega) ?_
        by_cases h2 : gLk G a b (t + 2) = true
        · rw [if_pos h2, hl]
          refine ⟨fun _ => ?_, fun z => absurd z (by decide)⟩
          refine nm_e ?_
          show fX6_taken_h12 I X Q (0 + 1) _ _ _ _ _
          unfold fX6_taken_h12
          refine ⟨fun _ => ?_, fun z => absurd (by decide) z⟩
          have : gTk G a b t = true := by rw [gTk_Lk, h0, h1, h2, hl]; rfl
          rw [if_pos this, hl] at hq
          exact hq
        · rw [if_neg h2]
          refine ⟨fun z => absurd rfl z, fun _ => ?_⟩
          have : ¬ gTk G a b t = true := by
            rw [gTk_Lk, hl]
            intro z
            rw [Bool.and_eq_true, Bool.or_eq_true] at z
            rcases z.2 with y | y
            · exact absurd y (by decide)
            · exact h2 y
          rw [if_neg this] at hq
          exact hq
      · rw [if_neg h1]
        refine ⟨fun z => absurd rfl z, fun _ => ?_⟩
        have : ¬ gTk G a b t = true := by
          rw [gTk_Lk]
          intro z
          rw [Bool.and_eq_true, Bool.and_eq_true] at z
          exact h1 z.1.2
        rw [if_neg this] at hq
        exact hq
  · rw [if_neg h0]
    refine ⟨0 + 1, ?_⟩
    unfold fX6_taken_h12
    refine ⟨fun _ => ?_, fun z => absurd (by decide) z⟩
    have : ¬ gTk G a b t = true := by
      rw [gTk_Lk]
      intro z
      rw [Bool.and_eq_true, Bool.and_eq_true] at z
      exact h0 z.1.1
    rw [if_neg this] at hq
    exact hq
theorem r6_takesPost {G : Geo} {I : Nat → Int32} {X : Nat → Nat → Int32} {Q : Int32 → Prop} {j r t : Nat} (hG : gok G) (hM : rM G I X) (hj : j < G 0 2) (hr : r < G 0 1) (ht : t < 2 ^ 30) (hq : Q (nI (if gTk G (48 + j) r t = true then 1 else 0))) : fX6_takesPost I X Q (nI j) (nI r) (nI t) := by
  have hl : gln G (48 + j) r = 1 := gln_p G (by omega)
  unfold fX6_takesPost
  refine r6_seesOf hG hM hj hr (by omega) ?_
  by_cases h0 : gLk G (48 + j) r t = true
  · rw [if_pos h0]
    refine ⟨fun z => absurd z (by decide), fun _ => ?_⟩
    show fX6_seesOf I X _ (nI j) (nI r) (nI t + nI 1)
    rw [nI_add]
    refine r6_seesOf hG hM hj hr (by omega) ?_
    by_cases h1 : gLk G (48 + j) r (t + 1) = true
    · rw [if_pos h1]
      refine ⟨fun z => absurd z (by decide), fun _ => ?_⟩
      have : gTk G (48 + j) r t = true := by rw [gTk_Lk, h0, h1, hl]; rfl
      rw [if_pos this] at hq
      exact hq
    · rw [if_neg h1]
      refine ⟨fun _ => ?_, fun z => absurd rfl z⟩
      have : ¬ gTk G (48 + j) r t = true := by
        rw [gTk_Lk]
        intro z
        rw [Bool.and_eq_true, Bool.and_eq_true] at z
        exact h1 z.1.2
      rw [if_neg this] at hq
      exact hq
  · rw [if_neg h0]
    refine ⟨fun _ => ?_, fun z => absurd rfl z⟩
    have : ¬ gTk G (48 + j) r t = true := by
      rw [gTk_Lk]
      intro z
      rw [Bool.and_eq_true, Bool.and_eq_true] at z
      exact h0 z.1.1
    rw [if_neg this] at hq
    exact hq
theorem r6_takesFrom {I : Nat → Int32} {X : Nat → Nat → Int32} {Q : Int32 → Prop} {j r t : Nat} (hj : j < 8) (hr : r < 48) (ht : t < 2 ^ 31) (hq : Q (X 14 ((48 * j + r) * 32 + t % 32))) : fX6_takesFrom I X Q (nI j) (nI r) (nI t) := by
  unfold fX6_takesFrom
  have e : ((((48 : Int32) * nI j) + nI r) * (32 : Int32)) + (nI t - nI t / (32 : Int32) * (32 : Int32)) = nI ((48 * j + r) * 32 + t % 32) := by
    have a : nI t - nI t / (32 : Int32) * (32 : Int32) = nI (t % 32) := pk_rem (d := 32) ht (by decide) (by decide)
    rw [a, show (48 : Int32) = nI 48 from rfl, show (32 : Int32) = nI 32 from rfl, pk_mul, nI_add, pk_mul, nI_add]
  rw [e]
  refine ⟨pk_in ((48 * j + r) * 32 + t % 32) 12288 (by omega), ?_⟩
  rw [pk_cl ((48 * j + r) * 32 + t % 32)]
  exact hq

/-! the class's cut: what a flow is like, and its search -/
/-- what is left of an edge was an edge, or the other way -/
theorem nE_or {E0 E : Nat → Nat → Bool} (h : nSk E0 E) {u v : Nat} (hu : u < 98) (hv : v < 98) (e : E u v = true) : E0 u v = true ∨ E0 v u = true := by
  have a := h u v hu hv
  rw [e, bi_t] at a
  have := bi_nn (E v u)
  cases p : E0 u v
  · cases q : E0 v u
    · rw [p, q, bi_f] at a; omega
    · exact Or.inr rfl
  · exact Or.inl rfl
theorem gE0_out {G : Geo} {p q t r v : Nat} (hG : gok G) (hr : r < G 0 1) (h : gE0 G p q t v (48 + r) = true) : v = r := by
  have n48 := gok_nr hG
  rcases gE0_iff.mp h with h | h | h | h <;> omega
theorem gE0_in {G : Geo} {p q t r v : Nat} (hG : gok G) (hr : r < G 0 1) (h : gE0 G p q t r v = true) : v = 48 + r := by
  have n48 := gok_nr hG
  rcases gE0_iff.mp h with h | h | h | h <;> omega
/-- what flows out of a relay -/
theorem nOut {G : Geo} {p q t r : Nat} {E : Nat → Nat → Bool} {n : Int} (hG : gok G) (hr : r < G 0 1) (hF : nFm (gE0 G p q t) E n 97) : (∀ v, v < 98 → v ≠ r → gE0 G p q t (48 + r) v = true → E (48 + r) v = false → E (48 + r) r = true) ∧ (∀ v w, v < 98 → w < 98 → v ≠ r → w ≠ r → v ≠ w → gE0 G p q t (48 + r) v = true → E (48 + r) v = false → gE0 G p q t (48 + r) w = true → E (48 + r) w = false → False) := by
  have n48 := gok_nr hG
  obtain ⟨hs, hx⟩ := hF
  have e := hx (48 + r) (by omega) (by omega)
  rw [if_neg (by omega), if_neg (by omega)] at e
  have nn : ∀ v, v < 98 → 0 ≤ (if v = r then 0 else nfl (gE0 G p q t) E (48 + r) v) := by
    intro v hv
    by_cases c : v = r
    · rw [if_pos c]; exact Int.le_refl 0
    · rw [if_neg c]
      unfold nfl
      cases d : E (48 + r) v
      · rw [bi_f]; have := bi_nn (gE0 G p q t (48 + r) v); omega
      · rcases nE_or hs (by omega) hv d with z | z
        · rw [z, bi_t]; decide
        · exact absurd (gE0_out hG hr z) c
  have self : gE0 G p q t (48 + r) r = false := by rw [gE0_l hG hr hr]; exact gLk_self (by omega)
  have sum : sm 98 (fun v => if v = r then 0 else nfl (gE0 G p q t) E (48 + r) v) = bi (E (48 + r) r) := by
    have : sm 98 (fun v => nfl (gE0 G p q t) E (48 + r) v) = sm 98 (fun v => (if v = r then 0 else nfl (gE0 G p q t) E (48 + r) v) + (if v = r then nfl (gE0 G p q t) E (48 + r) r else 0)) := by
      refine sm_congr (fun v _ => ?_)
      by_cases c : v = r
      · rw [if_pos c, if_pos c, c]; omega
      · rw [if_neg c, if_neg c]; omega
    unfold nEx at e
    rw [this, sm_add, sm_one, if_pos (by omega)] at e
    have f : nfl (gE0 G p q t) E (48 + r) r = - bi (E (48 + r) r) := by unfold nfl; rw [self, bi_f]; omega
    rw [f] at e
    omega
  have one : ∀ v, v ≠ r → gE0 G p q t (48 + r) v = true → E (48 + r) v = false → (if v = r then 0 else nfl (gE0 G p q t) E (48 + r) v) = 1 := by
    intro v hv h1 h2
    rw [if_neg hv]
    unfold nfl
    rw [h1, h2]; rfl
  refine ⟨fun v hv hvr h1 h2 => ?_, fun v w hv hw hvr hwr hne h1 h2 h3 h4 => ?_⟩
  · have a := sm_ge1 (a := v) nn hv
    simp only [one v hvr h1 h2] at a
    rw [sum] at a
    cases c : E (48 + r) r
    · rw [c, bi_f] at a; omega
    · rfl
  · have a := sm_two (a := v) (b := w) nn hv hw hne (by rw [one v hvr h1 h2]; decide) (by rw [one w hwr h3 h4]; decide)
    rw [sum] at a
    have := bi_le (E (48 + r) r)
    omega
/-- what flows into a relay -/
theorem nIn {G : Geo} {p q t r : Nat} {E : Nat → Nat → Bool} {n : Int} (hG : gok G) (hr : r < G 0 1) (hF : nFm (gE0 G p q t) E n 97) : (∀ v, v < 98 → v ≠ 48 + r → E r v = true → E r (48 + r) = false) ∧ (∀ v w, v < 98 → w < 98 → v ≠ 48 + r → w ≠ 48 + r → v ≠ w → E r v = true → E r w = true → False) := by
  have n48 := gok_nr hG
  obtain ⟨hs, hx⟩ := hF
  have e := hx r (by omega) (by omega)
  rw [if_neg (by omega), if_neg (by omega)] at e
  have sum : sm 98 (fun v => if v = 48 + r then 0 else bi (E r v)) = 1 - bi (E r (48 + r)) := by
    have : sm 98 (fun v => nfl (gE0 G p q t) E r v) = sm 98 (fun v => - (if v = 48 + r then 0 else bi (E r v)) + (if v = 48 + r then nfl (gE0 G p q t) E r (48 + r) else 0)) := by
      refine sm_congr (fun v _ => ?_)
      by_cases c : v = 48 + r
      · rw [if_pos c, if_pos c, c]; omega
      · rw [if_neg c, if_neg c]
        have : gE0 G p q t r v = false := by
          cases d : gE0 G p q t r v
          · rfl
          · exact absurd (gE0_in hG hr d) c
        unfold nfl
        rw [this, bi_f]; omega
    unfold nEx at e
    rw [this, sm_add, sm_neg, sm_one, if_pos (by omega)] at e
    have f : nfl (gE0 G p q t) E r (48 + r) = 1 - bi (E r (48 + r)) := by unfold nfl; rw [show 48 + r = r + 48 by omega, gE0_io hr, bi_t]
    rw [f] at e
    omega
  have nn : ∀ v, v < 98 → 0 ≤ (if v = 48 + r then 0 else bi (E r v)) := by
    intro v _
    split
    · exact Int.le_refl 0
    · exact bi_nn _
  have one : ∀ v, v ≠ 48 + r → E r v = true → (if v = 48 + r then 0 else bi (E r v)) = 1 := by
    intro v hv h1
    rw [if_neg hv, h1]; rfl
  refine ⟨fun v hv hvr h1 => ?_, fun v w hv hw hvr hwr hne h1 h2 => ?_⟩
  · have a := sm_ge1 (a := v) nn hv
    simp only [one v hvr h1] at a
    rw [sum] at a
    cases c : E r (48 + r)
    · rfl
    · rw [c, bi_t] at a; omega
  · have a := sm_two (a := v) (b := w) nn hv hw hne (by rw [one v hvr h1]; decide) (by rw [one w hwr h2]; decide)
    rw [sum] at a
    have := bi_nn (E r (48 + r))
    omega
/-- what the class holds of what is left -/
def cR (G : Geo) (t : Nat) (E : Nat → Nat → Bool) (CU : Int64) (F : Nat → Int64) : Prop := ∀ a, a < G 0 1 → E (48 + a) a = lb CU a ∧ E a (48 + a) = !(lb CU a) ∧ lb (F a) a = false ∧ ∀ b, b < G 0 1 → a ≠ b → E b (48 + a) = lb (F a) b ∧ E (48 + a) b = (gLk G a b t && !(lb (F a) b))
def cnd (d : Nat) : Nat := if d % 2 = 0 then d / 2 else 48 + d / 2
theorem cnd_in (r : Nat) : cnd (2 * r) = r := by unfold cnd; rw [if_pos (by omega)]; omega
theorem cnd_out (r : Nat) : cnd (2 * r + 1) = 48 + r := by unfold cnd; rw [if_neg (by omega)]; omega
theorem cnd_lt {d : Nat} (h : d < 96) : cnd d < 96 := by unfold cnd; split <;> omega
theorem cnd_inj {c d : Nat} (hc : c < 96) (hd : d < 96) (h : cnd c = cnd d) : c = d := by
  unfold cnd at h
  split at h <;> split at h <;> omega
/-- a search that is under way: m doors are queued -/
def cF (G : Geo) (p t : Nat) (E : Nat → Nat → Bool) (ρ : Nat → Nat) (m : Nat) (CX : Nat → Nat → Int32) : Prop := (∀ d, d < 96 → CX 4 d = -1 ∨ (d / 2 < G 0 1 ∧ ρ d < m ∧ CX 5 (ρ d) = nI d ∧ ((CX 4 d = -2 ∧ d % 2 = 0 ∧ gLk G (48 + p) (d / 2) t = true) ∨ (∃ c, c < 96 ∧ CX 4 d = nI c ∧ CX 4 c ≠ -1 ∧ E (cnd c) (cnd d) = true ∧ ρ c < ρ d)))) ∧ (∀ k, k < m → ∃ w, w < 96 ∧ CX 5 k = nI w ∧ CX 4 w ≠ -1) ∧ cn 96 (fun d => decide (CX 4 d ≠ -1)) = m
def cLe (m : Nat) (CX : Nat → Nat → Int32) (m' : Nat) (CX' : Nat → Nat → Int32) : Prop := m ≤ m' ∧ (∀ a, CX 4 a ≠ -1 → CX' 4 a = CX 4 a) ∧ ∀ k, k < m → CX' 5 k = CX 5 k
theorem cLe_rf {m : Nat} {CX : Nat → Nat → Int32} : cLe m CX m CX := ⟨Nat.le_refl _, fun _ _ => rfl, fun _ _ => rfl⟩
theorem cLe_tr {m m' m2 : Nat} {CX CX' CX2 : Nat → Nat → Int32} (h : cLe m CX m' CX') (g : cLe m' CX' m2 CX2) : cLe m CX m2 CX2 := ⟨Nat.le_trans h.1 g.1, fun a ha => by rw [g.2.1 a (by rw [h.2.1 a ha]; exact ha), h.2.1 a ha], fun k hk => by rw [g.2.2 k (Nat.lt_of_lt_of_le hk h.1), h.2.2 k hk]⟩
theorem cLe_v {m m' : Nat} {CX CX' : Nat → Nat → Int32} (h : cLe m CX m' CX') {a : Nat} (ha : CX 4 a ≠ -1) : CX' 4 a ≠ -1 := by rw [h.2.1 a ha]; exact ha
theorem cF_96 {G : Geo} {p t : Nat} {E : Nat → Nat → Bool} {ρ : Nat → Nat} {m : Nat} {CX : Nat → Nat → Int32} (h : cF G p t E ρ m CX) : m ≤ 96 := by
  rw [← h.2.2]; exact cn_le 96 _
theorem r0_enter {G : Geo} {p t : Nat} {E : Nat → Nat → Bool} {ρ : Nat → Nat} {m d : Nat} {CU : Int64} {CJ : Nat → Nat → Int64} {CX : Nat → Nat → Int32} {x : Int32} {Q : Int64 → Int32 → (Nat → Nat → Int64) → (Nat → Nat → Int32) → Prop} (h : cF G p t E ρ m CX) (hd : d < 96) (hdr : d / 2 < G 0 1) (hx : CX 4 d = -1 → (x = -2 ∧ d % 2 = 0 ∧ gLk G (48 + p) (d / 2) t = true) ∨ (∃ c, c < 96 ∧ x = nI c ∧ CX 4 c ≠ -1 ∧ E (cnd c) (cnd d) = true)) (hq : ∀ ρ' m' CX', cF G p t E ρ' m' CX' → cLe m CX m' CX' → CX' 4 d ≠ -1 → Q CU (nI m') CJ CX') : fX0_enter Q CU (nI m) CJ CX (nI d) x := by
  have m96 := cF_96 h
  unfold fX0_enter
  refine ⟨pk_in d 96 hd, ?_⟩
  rw [pk_cl d]
  refine ⟨fun z => hq ρ m CX h cLe_rf z, fun z => ?_⟩
  have ml : m < 96 := by
    rw [← h.2.2]
    exact cn_room (k := d) hd (by simp [z])
  refine ⟨fun w => absurd w (nI_ge (b := 96) ml (by decide)), fun _ => ⟨pk_in d 96 hd, fun X1 e1 => ⟨pk_in m 96 ml, fun X2 e2 => ?_⟩⟩⟩
  rw [pk_cl m] at e2
  refine nm_r (nI_1 m) ?_
  have g4 : X2 4 = upd (CX 4) d x := by rw [e2, e1]; simp [va_up]
  have g5 : X2 5 = upd (CX 5) m (nI d) := by rw [e2, e1]; simp [va_up]
  have xn : x ≠ -1 := by
    rcases hx z with ⟨e, _⟩ | ⟨c, c1, e, _⟩
    · rw [e]; decide
    · rw [e]; exact nI_m1 (by omega)
  have le : cLe m CX (m + 1) X2 := by
    refine ⟨by omega, fun a ha => ?_, fun k hk => ?_⟩
    · rw [g4, pk_un (fun y => by rw [y] at ha; exact ha z)]
    · rw [g5, pk_un (by omega)]
  obtain ⟨h1, h2, h3⟩ := h
  refine hq (fun a => if a = d then m else ρ a) (m + 1) X2 ?_ le (by rw [g4, pk_us]; exact xn)
  have r1 : (fun a => if a = d then m else ρ a) d = m := if_pos rfl
  have r2 : ∀ a, a ≠ d → (fun a => if a = d then m else ρ a) a = ρ a := fun a h => if_neg h
  generalize (fun a => if a = d then m else ρ a) = ρ' at r1 r2 ⊢
  refine ⟨fun a ha => ?_, fun k hk => ?_, ?_⟩
  · by_cases e : a = d
    · subst e
      right
      rw [r1, g4, g5, pk_us, pk_us]
      refine ⟨hdr, by omega, rfl, ?_⟩
      rcases hx z with y | ⟨c, c1, c2, c3, c4⟩
      · exact Or.inl y
      · have nc : c ≠ a := fun y => by rw [y] at c3; exact c3 z
        refine Or.inr ⟨c, c1, c2, by rw [pk_un nc]; exact c3, c4, ?_⟩
        rw [r2 c nc]
        rcases h1 c c1 with w | w
        · exact absurd w c3
        · exact w.2.1
    · rcases h1 a ha with y | ⟨y1, y2, y3, y4⟩
      · left; rw [g4, pk_un e]; exact y
      · right
        rw [r2 a e, g4, g5, pk_un e, pk_un (by omega)]
        refine ⟨y1, by omega, y3, ?_⟩
        rcases y4 with y4 | ⟨c, c1, c2, c3, c4, c5⟩
        · exact Or.inl y4
        · have nc : c ≠ d := fun y => by rw [y] at c3; exact c3 z
          exact Or.inr ⟨c, c1, c2, by rw [pk_un nc]; exact c3, c4, by rw [r2 c nc]; exact c5⟩
  · rw [g5]
    by_cases e : k = m
    · rw [e, pk_us]; exact ⟨d, hd, rfl, by rw [g4, pk_us]; exact xn⟩
    · rw [pk_un e]
      obtain ⟨w, w1, w2, w3⟩ := h2 k (by omega)
      exact ⟨w, w1, w2, cLe_v le w3⟩
  · rw [← h3]
    refine cn_set (k := d) hd (fun i hi ne => ?_) (by simp [z]) ?_
    · show decide (X2 4 i ≠ -1) = decide (CX 4 i ≠ -1)
      rw [g4, pk_un ne]
    · show decide (X2 4 d ≠ -1) = true
      rw [g4, pk_us]
      exact decide_eq_true xn
theorem r0_relayOf {Q : Int32 → Prop} {d : Nat} (h : d < 2 ^ 31) (hq : Q (nI (d / 2))) : fX0_relayOf Q (nI d) := by
  unfold fX0_relayOf
  rw [pk_shrN h ((1 : Int32) &&& 31) 1 (by decide)]
  exact hq
theorem r0_isOut {Q : Int32 → Prop} {d : Nat} (h : d < 2 ^ 31) (hq : Q (nI (d % 2))) : fX0_isOut Q (nI d) := by
  unfold fX0_isOut
  rw [pk_andN (m := 1) (by omega) 1 (by decide)]
  show (nI (d % 2) = 0 → Q 0) ∧ (¬ nI (d % 2) = 0 → Q 1)
  have : d % 2 = 0 ∨ d % 2 = 1 := by omega
  rcases this with e | e
  · rw [e] at hq ⊢
    exact ⟨fun _ => hq, fun z => absurd rfl z⟩
  · rw [e] at hq ⊢
    exact ⟨fun z => absurd z (by decide), fun _ => hq⟩
theorem r0_din (r : Nat) : (2 : Int32) * nI r = nI (2 * r) := pk_mul 2 r
theorem r0_dout (r : Nat) : (2 : Int32) * nI r + (1 : Int32) = nI (2 * r + 1) := by rw [r0_din, nI_1]
/-- from a door in -/
theorem r0_goOnFromIn {G : Geo} {SI : Nat → Int32} {SX : Nat → Nat → Int32} {p t : Nat} {E : Nat → Nat → Bool} {ρ : Nat → Nat} {m r : Nat} {CU : Int64} {CJ : Nat → Nat → Int64} {CX : Nat → Nat → Int32} {Q : Int64 → Int32 → (Nat → Nat → Int64) → (Nat → Nat → Int32) → Prop} (hG : gok G) (hS : rS0 G SI SX) (hR : cR G t E CU (CJ 2)) (h : cF G p t E ρ m CX) (hr : r < G 0 1) (hv : CX 4 (2 * r) ≠ -1) (hq : ∀ ρ' m' CX', cF G p t E ρ' m' CX' → cLe m CX m' CX' → (lb CU r = false → CX' 4 (2 * r + 1) ≠ -1) → (lb CU r = true → ∀ o, o < G 0 1 → lb (CJ 2 o) r = true → CX' 4 (2 * o + 1) ≠ -1) → Q CU (nI m') CJ CX') : fX0_goOnFromIn SI SX Q CU (nI m) CJ CX (nI (2 * r)) := by
  have n48 := gok_nr hG
  have s1 : SI 1 = nI (G 0 1) := hS.2.1
  obtain ⟨k1, k2, k3, k4⟩ := hR r hr
  unfold fX0_goOnFromIn
  refine r0_relayOf (by omega) ?_
  rw [show 2 * r / 2 = r by omega]
  unfold fX5_bit fX0_doorOut
  have bb : lg_cmp (CU &&& lB r) (0 : Int64) = 0 ↔ lb CU r = false := lb_cmp (by omega)
  refine ⟨fun z => ?_, fun z => ?_⟩
  · have u : lb CU r = true := by
      cases c : lb CU r
      · exact absurd (bb.mpr c) z
      · rfl
    refine pk_loop (σ := (Nat → Nat → Int32) × Nat × (Nat → Nat)) (fun n o s => fX0_goOnFromIn_h31 SI SX Q n CU (nI s.2.1) CJ s.1 (nI (2 * r)) (nI r) (nI o)) (fun o s => cF G p t E s.2.2 s.2.1 s.1 ∧ cLe m CX s.2.1 s.1 ∧ ∀ a, a < o → lb (CJ 2 a) r = true → s.1 4 (2 * a + 1) ≠ -1) (G 0 1) 0 (CX, m, ρ) (Nat.zero_le _) ⟨h, cLe_rf, fun a ha => by omega⟩ ?_ ?_
    · intro n s ⟨a1, a2, a3⟩
      unfold fX0_goOnFromIn_h31
      rw [s1]
      exact ⟨fun _ => hq s.2.2 s.2.1 s.1 a1 a2 (fun w => by rw [u] at w; exact Bool.noConfusion w) (fun _ => a3), fun z => absurd (nI_le (Nat.le_refl _) (by omega)) z⟩
    · intro n o s ho ⟨a1, a2, a3⟩ ih
      unfold fX0_goOnFromIn_h31 fX5_bit fX0_doorOut fX0_goOnFromIn_b67
      rw [s1]
      refine ⟨fun z => absurd z (nI_ge ho (by omega)), fun _ => ⟨pk_in o 48 (by omega), ?_⟩⟩
      rw [pk_cl o]
      have bo : lg_cmp (CJ 2 o &&& lB r) (0 : Int64) = 0 ↔ lb (CJ 2 o) r = false := lb_cmp (by omega)
      refine ⟨fun z => nm_r (nI_1 o) (ih s ⟨a1, a2, fun a ha hb => ?_⟩), fun z => ?_⟩
      · by_cases e : a = o
        · rw [e, bo.mp z] at hb; exact Bool.noConfusion hb
        · exact a3 a (by omega) hb
      · have fo : lb (CJ 2 o) r = true := by
          cases c : lb (CJ 2 o) r
          · exact absurd (bo.mpr c) z
          · rfl
        have ne : o ≠ r := by
          intro y
          rw [y, k3] at fo
          exact Bool.noConfusion fo
        rw [r0_dout]
        refine r0_enter a1 (by omega) (by omega) (fun _ => Or.inr ⟨2 * r, by omega, rfl, cLe_v a2 hv, ?_⟩) (fun ρ' m' CX' c1 c2 c3 => nm_r (nI_1 o) (ih (CX', m', ρ') ⟨c1, cLe_tr a2 c2, fun a ha hb => ?_⟩))
        · rw [cnd_in, cnd_out, ((hR o ho).2.2.2 r hr ne).1]; exact fo
        · by_cases e : a = o
          · rw [e]; exact c3
          · exact cLe_v c2 (a3 a (by omega) hb)
  · have u := bb.mp z
    rw [r0_dout]
    refine r0_enter h (by omega) (by omega) (fun _ => Or.inr ⟨2 * r, by omega, rfl, hv, ?_⟩) (fun ρ' m' CX' c1 c2 c3 => hq ρ' m' CX' c1 c2 (fun _ => c3) (fun w => by rw [u] at w; exact Bool.noConfusion w))
    rw [cnd_in, cnd_out, k2, u]; rfl
/-- a door out whose flow is used was reached from where the flow goes to -/
theorem cF_back {G : Geo} {p q t : Nat} {E : Nat → Nat → Bool} {n : Int} {ρ : Nat → Nat} {m r v : Nat} {CX : Nat → Nat → Int32} (hG : gok G) (hF : nFm (gE0 G p q t) E n 97) (h : cF G p t E ρ m CX) (hr : r < G 0 1) (hd : CX 4 (2 * r + 1) ≠ -1) (hv : v < 98) (hvr : v ≠ r) (h1 : gE0 G p q t (48 + r) v = true) (h2 : E (48 + r) v = false) : v < G 0 1 ∧ CX 4 (2 * v) ≠ -1 := by
  have n48 := gok_nr hG
  obtain ⟨o1, o2⟩ := nOut hG hr hF
  have used := o1 v hv hvr h1 h2
  have hio : E r (48 + r) = false := by
    have a := hF.1 (48 + r) r (by omega) (by omega)
    have e1 : gE0 G p q t (48 + r) r = false := by rw [gE0_l hG hr hr]; exact gLk_self (by omega)
    have e2 : gE0 G p q t r (48 + r) = true := by rw [show 48 + r = r + 48 by omega]; exact gE0_io hr
    rw [used, e1, e2, bi_t, bi_f] at a
    cases c : E r (48 + r)
    · rfl
    · rw [c, bi_t] at a; omega
  rcases h.1 (2 * r + 1) (by omega) with z | ⟨_, _, _, z⟩
  · exact absurd z hd
  · rcases z with z | ⟨c, c1, c2, c3, c4, c5⟩
    · omega
    · rw [cnd_out] at c4
      have cl := cnd_lt c1
      have ncr : cnd c ≠ r := fun y => by rw [y, hio] at c4; exact Bool.noConfusion c4
      have a := hF.1 (cnd c) (48 + r) (by omega) (by omega)
      rcases nE_or hF.1 (by omega) (by omega) c4 with y | y
      · exact absurd (gE0_out hG hr y) ncr
      · have y0 : gE0 G p q t (cnd c) (48 + r) = false := by
          cases w : gE0 G p q t (cnd c) (48 + r)
          · rfl
          · exact absurd (gE0_out hG hr w) ncr
        rw [c4, y0, y, bi_t, bi_f] at a
        have f : E (48 + r) (cnd c) = false := by
          cases w : E (48 + r) (cnd c)
          · rfl
          · rw [w, bi_t] at a; omega
        have eq : cnd c = v := by
          by_cases w : cnd c = v
          · exact w
          · exact absurd (o2 (cnd c) v (by omega) hv ncr hvr w y f h1 h2) id
        have vl : v < G 0 1 := by
          rw [← eq]
          rcases gE0_iff.mp y with w | w | w | w
          · omega
          · omega
          · omega
          · exact w.2.2.1
        refine ⟨vl, ?_⟩
        have : c = 2 * v := cnd_inj c1 (by omega) (by rw [cnd_in]; exact eq)
        rw [← this]; exact c3
/-- from a door out -/
theorem r0_goOnFromOut {G : Geo} {SI : Nat → Int32} {SX : Nat → Nat → Int32} {p q t : Nat} {E : Nat → Nat → Bool} {n : Int} {ρ : Nat → Nat} {m r : Nat} {CU : Int64} {CJ : Nat → Nat → Int64} {CX : Nat → Nat → Int32} {Q : Int64 → Int32 → (Nat → Nat → Int64) → (Nat → Nat → Int32) → Prop} (hG : gok G) (hS : rS0 G SI SX) (hF : nFm (gE0 G p q t) E n 97) (hR : cR G t E CU (CJ 2)) (hN : ∀ a b, a < G 0 1 → b < G 0 1 → lb (CJ 1 a) b = gLk G a b t) (h : cF G p t E ρ m CX) (hr : r < G 0 1) (hv : CX 4 (2 * r + 1) ≠ -1) (hq : ∀ ρ' m' CX', cF G p t E ρ' m' CX' → cLe m CX m' CX' → (lb CU r = true → CX' 4 (2 * r) ≠ -1) → (∀ o, o < G 0 1 → gLk G r o t = true → CX' 4 (2 * o) ≠ -1) → Q CU (nI m') CJ CX') : fX0_goOnFromOut SI SX Q CU (nI m) CJ CX (nI (2 * r + 1)) := by
  have n48 := gok_nr hG
  have s1 : SI 1 = nI (G 0 1) := hS.2.1
  obtain ⟨k1, k2, k3, k4⟩ := hR r hr
  have loop : ∀ ρ1 m1 X1, cF G p t E ρ1 m1 X1 → cLe m CX m1 X1 → (lb CU r = true → X1 4 (2 * r) ≠ -1) → fX0_goOnFromOut_b28 SI SX Q CU (nI m1) CJ X1 (nI (2 * r + 1)) (nI r) := by
    intro ρ1 m1 X1 f1 f2 f3
    unfold fX0_goOnFromOut_b28
    refine pk_loop (σ := (Nat → Nat → Int32) × Nat × (Nat → Nat)) (fun n o s => fX0_goOnFromOut_h30 SI SX Q n CU (nI s.2.1) CJ s.1 (nI (2 * r + 1)) (nI r) (nI o)) (fun o s => cF G p t E s.2.2 s.2.1 s.1 ∧ cLe m CX s.2.1 s.1 ∧ (lb CU r = true → s.1 4 (2 * r) ≠ -1) ∧ ∀ a, a < o → gLk G r a t = true → s.1 4 (2 * a) ≠ -1) (G 0 1) 0 (X1, m1, ρ1) (Nat.zero_le _) ⟨f1, f2, f3, fun a ha => by omega⟩ ?_ ?_
    · intro n s ⟨a1, a2, a3, a4⟩
      unfold fX0_goOnFromOut_h30
      rw [s1]
      exact ⟨fun _ => hq s.2.2 s.2.1 s.1 a1 a2 a3 a4, fun z => absurd (nI_le (Nat.le_refl _) (by omega)) z⟩
    · intro n o s ho ⟨a1, a2, a3, a4⟩ ih
      unfold fX0_goOnFromOut_h30 fX5_bit fX0_doorIn fX0_goOnFromOut_b66
      rw [s1]
      refine ⟨fun z => absurd z (nI_ge ho (by omega)), fun _ => ⟨pk_in r 48 (by omega), ?_⟩⟩
      rw [pk_cl r]
      have bo : lg_cmp (CJ 1 r &&& lB o) (0 : Int64) = 0 ↔ gLk G r o t = false := by rw [lb_cmp (by omega), hN r o hr ho]
      refine ⟨fun z => nm_r (nI_1 o) (ih s ⟨a1, a2, a3, fun a ha hb => ?_⟩), fun z => ?_⟩
      · by_cases e : a = o
        · rw [e, bo.mp z] at hb; exact Bool.noConfusion hb
        · exact a4 a (by omega) hb
      · have fo : gLk G r o t = true := by
          cases c : gLk G r o t
          · exact absurd (bo.mpr c) z
          · rfl
        have ne : r ≠ o := by
          intro y
          rw [← y, gLk_self (by omega)] at fo
          exact Bool.noConfusion fo
        rw [r0_din]
        refine r0_enter a1 (by omega) (by omega) (fun un => Or.inr ⟨2 * r + 1, by omega, rfl, cLe_v a2 hv, ?_⟩) (fun ρ' m' CX' c1 c2 c3 => nm_r (nI_1 o) (ih (CX', m', ρ') ⟨c1, cLe_tr a2 c2, fun w => cLe_v c2 (a3 w), fun a ha hb => ?_⟩))
        · rw [cnd_in, cnd_out]
          cases c : E (48 + r) o
          · exfalso
            have := (cF_back hG hF a1 hr (cLe_v a2 hv) (v := o) (by omega) (Ne.symm ne) (by rw [gE0_l hG hr ho]; exact fo) c).2
            exact this un
          · rfl
        · by_cases e : a = o
          · rw [e]; exact c3
          · exact cLe_v c2 (a4 a (by omega) hb)
  unfold fX0_goOnFromOut
  refine r0_relayOf (by omega) ?_
  rw [show (2 * r + 1) / 2 = r by omega]
  unfold fX5_bit fX0_doorIn
  have bb : lg_cmp (CU &&& lB r) (0 : Int64) = 0 ↔ lb CU r = false := lb_cmp (by omega)
  refine ⟨fun z => loop ρ m CX h cLe_rf (fun w => by rw [bb.mp z] at w; exact Bool.noConfusion w), fun z => ?_⟩
  have u : lb CU r = true := by
    cases c : lb CU r
    · exact absurd (bb.mpr c) z
    · rfl
  rw [r0_din]
  refine r0_enter h (by omega) (by omega) (fun _ => Or.inr ⟨2 * r + 1, by omega, rfl, hv, ?_⟩) (fun ρ' m' CX' c1 c2 c3 => loop ρ' m' CX' c1 c2 (fun _ => c3))
  rw [cnd_in, cnd_out, k1]; exact u

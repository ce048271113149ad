/-! the sky in numbers: G 0 0 planes, G 0 1 relays, G 0 2 posts; by plane: G 3 phase, G 4 speed + 32, G 5 its first relay; by relay: G 7 plane, G 8 dead; by post: G 10 place, G 11 plane, G 12 sight -/
abbrev Geo : Type := Nat → Nat → Nat
def gdi (a b : Nat) : Nat := (a - b) + (b - a)
def gap (a b : Nat) : Nat := if 32 - gdi a b < gdi a b then 32 - gdi a b else gdi a b
def gpl (G : Geo) (r t : Nat) : Nat := (4 * (r - G 5 (G 7 r)) + G 3 (G 7 r) + G 4 (G 7 r) * (t % 32)) % 32
def gsz (G : Geo) (p : Nat) : Nat := G 5 (p + 1) - G 5 p
def glk (G : Geo) (a b t : Nat) : Nat := if G 7 a = G 7 b then (if gdi a b = 1 ∨ (2 < gsz G (G 7 a) ∧ gdi a b = gsz G (G 7 a) - 1) then 2 else 0) else if gdi (G 7 a) (G 7 b) = 1 ∧ gap (gpl G a t) (gpl G b t) ≤ 2 then 1 else 0
def gse (G : Geo) (j r t : Nat) : Bool := decide (gdi (G 7 r) (G 11 j) ≤ 1 ∧ gap (gpl G r t) (G 10 j) ≤ G 12 j)
def gth (G : Geo) (v r t : Nat) : Bool := if v < 48 then decide (glk G v r t ≠ 0) else gse G (v - 48) r t
def gln (G : Geo) (v r : Nat) : Nat := if v < 48 ∧ r < 48 ∧ G 7 v = G 7 r then 2 else 1
def gup (G : Geo) (v : Nat) : Bool := decide ((v < G 0 1 ∧ G 8 v = 0) ∨ (48 ≤ v ∧ v < 48 + G 0 2))
def gLk (G : Geo) (v r t : Nat) : Bool := gup G v && gup G r && gth G v r t
def gTk (G : Geo) (v r t : Nat) : Bool := gup G v && gup G r && gth G v r t && gth G v r (t + 1) && (decide (gln G v r = 1) || gth G v r (t + 2))
def gok (G : Geo) : Prop := G 0 0 ≤ 6 ∧ G 0 1 ≤ 8 * G 0 0 ∧ G 0 2 ≤ 8 ∧ G 5 0 = 0 ∧ (∀ p, p < G 0 0 → G 3 p < 32 ∧ 29 ≤ G 4 p ∧ G 4 p ≤ 35 ∧ G 5 p < G 5 (p + 1) ∧ G 5 (p + 1) ≤ G 5 p + 8) ∧ (∀ p, G 0 0 ≤ p → p ≤ 6 → G 5 p = G 0 1) ∧ (∀ r, r < G 0 1 → G 7 r < G 0 0 ∧ G 5 (G 7 r) ≤ r ∧ r < G 5 (G 7 r + 1)) ∧ (∀ r, r < 48 → G 8 r ≤ 1) ∧ (∀ r, G 0 1 ≤ r → r < 48 → G 8 r = 0) ∧ (∀ j, j < G 0 2 → G 10 j < 32 ∧ G 11 j < 6 ∧ G 12 j ≤ 8)
theorem gok_nr {G : Geo} (h : gok G) : G 0 1 ≤ 48 := by obtain ⟨a, b, _⟩ := h; omega
theorem gok_ns {G : Geo} (h : gok G) : G 0 2 ≤ 8 := h.2.2.1
theorem gok_np {G : Geo} (h : gok G) : G 0 0 ≤ 6 := h.1
theorem gok_pl {G : Geo} (h : gok G) {r : Nat} (hr : r < G 0 1) : G 7 r < G 0 0 ∧ G 5 (G 7 r) ≤ r ∧ r < G 5 (G 7 r + 1) := h.2.2.2.2.2.2.1 r hr
theorem gok_p {G : Geo} (h : gok G) {p : Nat} (hp : p < G 0 0) : G 3 p < 32 ∧ 29 ≤ G 4 p ∧ G 4 p ≤ 35 ∧ G 5 p < G 5 (p + 1) ∧ G 5 (p + 1) ≤ G 5 p + 8 := h.2.2.2.2.1 p hp
theorem gok_l {G : Geo} (h : gok G) {p : Nat} (hp : G 0 0 ≤ p) (h6 : p ≤ 6) : G 5 p = G 0 1 := h.2.2.2.2.2.1 p hp h6
theorem gok_d {G : Geo} (h : gok G) {r : Nat} (hr : r < 48) : G 8 r ≤ 1 := h.2.2.2.2.2.2.2.1 r hr
theorem gok_d0 {G : Geo} (h : gok G) {r : Nat} (h1 : G 0 1 ≤ r) (hr : r < 48) : G 8 r = 0 := h.2.2.2.2.2.2.2.2.1 r h1 hr
theorem gok_s {G : Geo} (h : gok G) {j : Nat} (hj : j < G 0 2) : G 10 j < 32 ∧ G 11 j < 6 ∧ G 12 j ≤ 8 := h.2.2.2.2.2.2.2.2.2 j hj
theorem gok_5 {G : Geo} (h : gok G) {p q : Nat} (hpq : p ≤ q) (hq : q ≤ 6) : G 5 p ≤ G 5 q := by
  induction hpq with
  | refl => exact Nat.le_refl _
  | @step m hm ih =>
    have a := ih (by omega)
    by_cases z : m < G 0 0
    · have := (gok_p h z).2.2.2.1
      show G 5 p ≤ G 5 (m + 1)
      omega
    · show G 5 p ≤ G 5 (m + 1)
      rw [gok_l h (p := m + 1) (by omega) hq, ← gok_l h (p := m) (by omega) (by omega)]; exact a
theorem gok_5r {G : Geo} (h : gok G) {p : Nat} (hp : p ≤ 6) : G 5 p ≤ G 0 1 := by
  have := gok_5 h hp (Nat.le_refl 6)
  rw [gok_l h (gok_np h) (Nat.le_refl 6)] at this
  exact this
/-- the plane of a relay, from where it lies -/
theorem gok_in {G : Geo} (h : gok G) {r p : Nat} (hr : r < G 0 1) (hp : p < 6) (h1 : G 5 p ≤ r) (h2 : r < G 5 (p + 1)) : G 7 r = p := by
  obtain ⟨a, b, c⟩ := gok_pl h hr
  have n6 := gok_np h
  by_cases q : G 7 r < p
  · have := gok_5 h (p := G 7 r + 1) (q := p) (by omega) (by omega); omega
  · by_cases q2 : p < G 7 r
    · have := gok_5 h (p := p + 1) (q := G 7 r) (by omega) (by omega); omega
    · omega
theorem gpl_lt (G : Geo) (r t : Nat) : gpl G r t < 32 := Nat.mod_lt _ (by decide)
theorem gpl_per (G : Geo) (r t : Nat) : gpl G r (t + 32) = gpl G r t := by unfold gpl; rw [Nat.add_mod_right]
theorem glk_per (G : Geo) (a b t : Nat) : glk G a b (t + 32) = glk G a b t := by unfold glk; rw [gpl_per, gpl_per]
theorem gse_per (G : Geo) (j r t : Nat) : gse G j r (t + 32) = gse G j r t := by unfold gse; rw [gpl_per]
theorem gth_per (G : Geo) (v r t : Nat) : gth G v r (t + 32) = gth G v r t := by unfold gth; rw [glk_per, gse_per]
theorem gLk_per (G : Geo) (v r t : Nat) : gLk G v r (t + 32) = gLk G v r t := by unfold gLk; rw [gth_per]
theorem gTk_per (G : Geo) (v r t : Nat) : gTk G v r (t + 32) = gTk G v r t := by
  unfold gTk
  rw [gth_per, show t + 32 + 1 = t + 1 + 32 by omega, gth_per, show t + 32 + 2 = t + 2 + 32 by omega, gth_per]
theorem gpl_mod (G : Geo) (r t : Nat) : gpl G r (t % 32) = gpl G r t := by unfold gpl; rw [Nat.mod_mod]
theorem glk_mod (G : Geo) (a b t : Nat) : glk G a b (t % 32) = glk G a b t := by unfold glk; rw [gpl_mod, gpl_mod]
theorem gse_mod (G : Geo) (j r t : Nat) : gse G j r (t % 32) = gse G j r t := by unfold gse; rw [gpl_mod]
theorem gth_mod (G : Geo) (v r t : Nat) : gth G v r (t % 32) = gth G v r t := by unfold gth; rw [glk_mod, gse_mod]
theorem gLk_mod (G : Geo) (v r t : Nat) : gLk G v r (t % 32) = gLk G v r t := by unfold gLk; rw [gth_mod]
theorem gth_modk (G : Geo) (v r t k : Nat) : gth G v r (t % 32 + k) = gth G v r (t + k) := by
  rw [← gth_mod G v r (t % 32 + k), ← gth_mod G v r (t + k)]
  congr 1
  omega
theorem gTk_mod (G : Geo) (v r t : Nat) : gTk G v r (t % 32) = gTk G v r t := by
  unfold gTk
  rw [gth_mod, gth_modk, gth_modk]
theorem gln_12 (G : Geo) (v r : Nat) : gln G v r = 1 ∨ gln G v r = 2 := by unfold gln; split <;> simp
theorem gln_p (G : Geo) {v r : Nat} (h : 48 ≤ v) : gln G v r = 1 := by
  unfold gln
  rw [if_neg (by omega)]
theorem gdi_comm (a b : Nat) : gdi a b = gdi b a := by unfold gdi; omega
theorem gap_comm (a b : Nat) : gap a b = gap b a := by unfold gap; rw [gdi_comm]
theorem glk_comm {G : Geo} {a b t : Nat} : glk G a b t = glk G b a t := by
  unfold glk
  by_cases q : G 7 a = G 7 b
  · rw [if_pos q, if_pos q.symm, q, gdi_comm]
  · rw [if_neg q, if_neg (show ¬ G 7 b = G 7 a from fun z => q z.symm), gdi_comm (G 7 a), gap_comm]
theorem glk_self {G : Geo} {a t : Nat} : glk G a a t = 0 := by
  unfold glk
  rw [if_pos rfl, if_neg]
  unfold gdi
  omega
/-- a link is 2 long in a plane, 1 long beside it -/
theorem glk_ln {G : Geo} {a b t : Nat} (ha : a < 48) (hb : b < 48) (h : glk G a b t ≠ 0) : glk G a b t = gln G a b := by
  by_cases q : G 7 a = G 7 b
  · have e : gln G a b = 2 := by unfold gln; rw [if_pos ⟨ha, hb, q⟩]
    rw [e]
    unfold glk at h ⊢
    rw [if_pos q] at h ⊢
    by_cases z : gdi a b = 1 ∨ (2 < gsz G (G 7 a) ∧ gdi a b = gsz G (G 7 a) - 1)
    · rw [if_pos z]
    · rw [if_neg z] at h; exact absurd rfl h
  · have e : gln G a b = 1 := by unfold gln; rw [if_neg (fun z => q z.2.2)]
    rw [e]
    unfold glk at h ⊢
    rw [if_neg q] at h ⊢
    by_cases z : gdi (G 7 a) (G 7 b) = 1 ∧ gap (gpl G a t) (gpl G b t) ≤ 2
    · rw [if_pos z]
    · rw [if_neg z] at h; exact absurd rfl h
/-- the plane of a node -/
def gpn (G : Geo) (v : Nat) : Nat := if v < 48 then G 7 v else G 11 (v - 48)
theorem gth_pn {G : Geo} {v r t : Nat} (h : gth G v r t = true) : gdi (gpn G v) (G 7 r) ≤ 1 := by
  unfold gth at h
  unfold gpn
  by_cases q : v < 48
  · rw [if_pos q] at h ⊢
    have h := of_decide_eq_true h
    unfold glk at h
    by_cases z : G 7 v = G 7 r
    · rw [z]; unfold gdi; omega
    · rw [if_neg z] at h
      by_cases y : gdi (G 7 v) (G 7 r) = 1 ∧ gap (gpl G v t) (gpl G r t) ≤ 2
      · omega
      · rw [if_neg y] at h; exact absurd rfl h
  · rw [if_neg q] at h ⊢
    unfold gse at h
    have h := of_decide_eq_true h
    rw [gdi_comm]
    exact h.1
theorem gup_r {G : Geo} {r : Nat} (hr : r < 48) (hG : gok G) : gup G r = decide (r < G 0 1 ∧ G 8 r = 0) := by
  unfold gup
  congr 1
  refine propext ⟨fun h => ?_, Or.inl⟩
  rcases h with h | h
  · exact h
  · omega
theorem gup_p {G : Geo} {j : Nat} (hG : gok G) : gup G (48 + j) = decide (j < G 0 2) := by
  unfold gup
  have := gok_nr hG
  congr 1
  refine propext ⟨fun h => ?_, fun h => Or.inr (by omega)⟩
  rcases h with h | h <;> omega
/-- no relay below this one has a link with the node, nor one from the other on -/
def gnf (G : Geo) (v : Nat) : Nat := G 5 (gpn G v - 1)
def gnt (G : Geo) (v : Nat) : Nat := G 5 (if 6 < gpn G v + 2 then 6 else gpn G v + 2)
theorem gth_near {G : Geo} (hG : gok G) {v r t : Nat} (hp : gpn G v < 6) (hr : r < G 0 1) (h : gth G v r t = true) : gnf G v ≤ r ∧ r < gnt G v := by
  have a := gth_pn h
  obtain ⟨b, c, d⟩ := gok_pl hG hr
  have n6 := gok_np hG
  unfold gnf gnt
  have e1 : gpn G v - 1 ≤ G 7 r := by unfold gdi at a; omega
  constructor
  · exact Nat.le_trans (gok_5 hG e1 (by omega)) c
  · refine Nat.lt_of_lt_of_le d (gok_5 hG ?_ ?_)
    · split <;> (unfold gdi at a; omega)
    · split <;> omega
theorem gnt_le {G : Geo} (hG : gok G) (v : Nat) : gnt G v ≤ G 0 1 := by
  unfold gnt
  refine gok_5r hG ?_
  split <;> omega
/-- the times, the links and their lengths, as the ways need them -/
def gTt (G : Geo) (v u t : Nat) : Prop := gTk G v u t = true

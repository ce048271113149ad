/-! how late one comes to the end e: R d v t: from v at t the end is reached within d ticks -/
def dRR (nr : Nat) (T : Nat → Nat → Nat → Prop) (ln : Nat → Nat → Nat) (e : Nat) : Nat → (Nat → Nat → Prop) × (Nat → Nat → Prop)
  | 0 => (fun _ _ => False, fun _ _ => False)
  | d + 1 => (fun v t => (dRR nr T ln e d).1 v t ∨ (dRR nr T ln e d).1 v (t + 1) ∨ (v < 48 ∧ T e v t) ∨ ∃ u, u < nr ∧ T v u t ∧ ((ln v u = 1 ∧ (dRR nr T ln e d).1 u (t + 1)) ∨ (ln v u = 2 ∧ (dRR nr T ln e d).2 u (t + 2))), (dRR nr T ln e d).1)
def dR (nr : Nat) (T : Nat → Nat → Nat → Prop) (ln : Nat → Nat → Nat) (e d v t : Nat) : Prop := (dRR nr T ln e d).1 v t
theorem dR_0 {nr : Nat} {T : Nat → Nat → Nat → Prop} {ln : Nat → Nat → Nat} {e v t : Nat} : ¬ dR nr T ln e 0 v t := fun h => h
theorem dR_2 {nr : Nat} {T : Nat → Nat → Nat → Prop} {ln : Nat → Nat → Nat} {e d v t : Nat} : (dRR nr T ln e d).2 v t = dR nr T ln e (d - 1) v t := by
  cases d with
  | zero => rfl
  | succ d => rfl
theorem dR_s {nr : Nat} {T : Nat → Nat → Nat → Prop} {ln : Nat → Nat → Nat} {e d v t : Nat} : dR nr T ln e (d + 1) v t ↔ dR nr T ln e d v t ∨ dR nr T ln e d v (t + 1) ∨ (v < 48 ∧ T e v t) ∨ ∃ u, u < nr ∧ T v u t ∧ ((ln v u = 1 ∧ dR nr T ln e d u (t + 1)) ∨ (ln v u = 2 ∧ dR nr T ln e (d - 1) u (t + 2))) := by
  show ((dRR nr T ln e d).1 v t ∨ (dRR nr T ln e d).1 v (t + 1) ∨ (v < 48 ∧ T e v t) ∨ ∃ u, u < nr ∧ T v u t ∧ ((ln v u = 1 ∧ (dRR nr T ln e d).1 u (t + 1)) ∨ (ln v u = 2 ∧ (dRR nr T ln e d).2 u (t + 2)))) ↔ _
  constructor
  · rintro (h | h | h | ⟨u, a, b, c⟩)
    · exact Or.inl h
    · exact Or.inr (Or.inl h)
    · exact Or.inr (Or.inr (Or.inl h))
    · rw [dR_2] at c
      exact Or.inr (Or.inr (Or.inr ⟨u, a, b, c⟩))
  · rintro (h | h | h | ⟨u, a, b, c⟩)
    · exact Or.inl h
    · exact Or.inr (Or.inl h)
    · exact Or.inr (Or.inr (Or.inl h))
    · rw [← dR_2] at c
      exact Or.inr (Or.inr (Or.inr ⟨u, a, b, c⟩))
theorem dR_up {nr : Nat} {T : Nat → Nat → Nat → Prop} {ln : Nat → Nat → Nat} {e d v t : Nat} (h : dR nr T ln e d v t) : dR nr T ln e (d + 1) v t := dR_s.mpr (Or.inl h)
theorem dR_mono {nr : Nat} {T : Nat → Nat → Nat → Prop} {ln : Nat → Nat → Nat} {e d d' v t : Nat} (hd : d ≤ d') (h : dR nr T ln e d v t) : dR nr T ln e d' v t := by
  induction hd with
  | refl => exact h
  | step _ ih => exact dR_up ih
theorem dR_wait {nr : Nat} {T : Nat → Nat → Nat → Prop} {ln : Nat → Nat → Nat} {e d v t : Nat} (k : Nat) (h : dR nr T ln e d v (t + k)) : dR nr T ln e (d + k) v t := by
  induction k generalizing t with
  | zero => exact h
  | succ k ih =>
    have : dR nr T ln e (d + k) v (t + 1) := ih (by rw [show t + 1 + k = t + (k + 1) by omega]; exact h)
    exact dR_s.mpr (Or.inr (Or.inl this))
theorem dR_end {nr : Nat} {T : Nat → Nat → Nat → Prop} {ln : Nat → Nat → Nat} {e v t : Nat} (hv : v < 48) (h : T e v t) : dR nr T ln e 1 v t := dR_s.mpr (Or.inr (Or.inr (Or.inl ⟨hv, h⟩)))
theorem dR_link {nr : Nat} {T : Nat → Nat → Nat → Prop} {ln : Nat → Nat → Nat} {e d v u t : Nat} (hu : u < nr) (h : T v u t) (hl : ln v u = 1 ∨ ln v u = 2) (hr : dR nr T ln e d u (t + ln v u)) : dR nr T ln e (d + ln v u) v t := by
  rcases hl with q | q
  · rw [q] at hr ⊢
    exact dR_s.mpr (Or.inr (Or.inr (Or.inr ⟨u, hu, h, Or.inl ⟨q, hr⟩⟩)))
  · rw [q] at hr ⊢
    exact dR_s.mpr (Or.inr (Or.inr (Or.inr ⟨u, hu, h, Or.inr ⟨q, hr⟩⟩)))
theorem dR_per {nr : Nat} {T : Nat → Nat → Nat → Prop} {ln : Nat → Nat → Nat} {e : Nat} (hT : ∀ v u t, T v u (t + 32) ↔ T v u t) : ∀ d v t, dR nr T ln e d v (t + 32) ↔ dR nr T ln e d v t := by
  have : ∀ d, (∀ v t, dR nr T ln e d v (t + 32) ↔ dR nr T ln e d v t) ∧ (∀ v t, dR nr T ln e (d - 1) v (t + 32) ↔ dR nr T ln e (d - 1) v t) := by
    intro d
    induction d with
    | zero => exact ⟨fun v t => Iff.rfl, fun v t => Iff.rfl⟩
    | succ d ih =>
      obtain ⟨i1, i2⟩ := ih
      refine ⟨fun v t => ?_, i1⟩
      rw [dR_s, dR_s, i1 v t, show t + 32 + 1 = t + 1 + 32 by omega, i1 v (t + 1), hT]
      have : ∀ u, ((ln v u = 1 ∧ dR nr T ln e d u (t + 1 + 32)) ∨ (ln v u = 2 ∧ dR nr T ln e (d - 1) u (t + 32 + 2))) ↔ ((ln v u = 1 ∧ dR nr T ln e d u (t + 1)) ∨ (ln v u = 2 ∧ dR nr T ln e (d - 1) u (t + 2))) := by
        intro u
        rw [i1, show t + 32 + 2 = t + 2 + 32 by omega, i2]
      constructor
      · rintro (h | h | h | ⟨u, a, b, c⟩)
        · exact Or.inl h
        · exact Or.inr (Or.inl h)
        · exact Or.inr (Or.inr (Or.inl h))
        · exact Or.inr (Or.inr (Or.inr ⟨u, a, (hT v u t).mp b, (this u).mp c⟩))
      · rintro (h | h | h | ⟨u, a, b, c⟩)
        · exact Or.inl h
        · exact Or.inr (Or.inl h)
        · exact Or.inr (Or.inr (Or.inl h))
        · exact Or.inr (Or.inr (Or.inr ⟨u, a, (hT v u t).mpr b, (this u).mpr c⟩))
  exact fun d v t => (this d).1 v t
theorem per_k {P : Nat → Prop} (h : ∀ t, P (t + 32) ↔ P t) (k t : Nat) : P (t + 32 * k) ↔ P t := by
  induction k with
  | zero => exact Iff.rfl
  | succ k ih => rw [show t + 32 * (k + 1) = t + 32 * k + 32 by omega, h, ih]
theorem per_mod {P : Nat → Prop} (h : ∀ t, P (t + 32) ↔ P t) (t : Nat) : P (t % 32) ↔ P t := by
  have e : t = t % 32 + 32 * (t / 32) := by omega
  have := per_k h (t / 32) (t % 32)
  rw [← e] at this
  exact this.symm
theorem per_eq {P : Nat → Prop} (h : ∀ t, P (t + 32) ↔ P t) {t s : Nat} (e : t % 32 = s % 32) : P t ↔ P s := by
  rw [← per_mod h t, ← per_mod h s, e]
/-- once there is one tick, 31 ticks later all are there -/
theorem dR_full {nr : Nat} {T : Nat → Nat → Nat → Prop} {ln : Nat → Nat → Nat} {e d v t : Nat} (hT : ∀ v u t, T v u (t + 32) ↔ T v u t) (h : dR nr T ln e d v t) (s : Nat) : dR nr T ln e (d + 31) v s := by
  have hp : ∀ t, dR nr T ln e d v (t + 32) ↔ dR nr T ln e d v t := dR_per hT d v
  have hk : ∃ k, k < 32 ∧ (s + k) % 32 = t % 32 := ⟨(t + 32 - s % 32) % 32, by omega, by omega⟩
  obtain ⟨k, k1, k2⟩ := hk
  exact dR_mono (by omega) (dR_wait k ((per_eq hp k2).mpr h))
def dNE (nr : Nat) (T : Nat → Nat → Nat → Prop) (ln : Nat → Nat → Nat) (e d v : Nat) : Prop := ∃ t, dR nr T ln e d v t
theorem dNE_mono {nr : Nat} {T : Nat → Nat → Nat → Prop} {ln : Nat → Nat → Nat} {e d d' v : Nat} (hd : d ≤ d') (h : dNE nr T ln e d v) : dNE nr T ln e d' v := by
  obtain ⟨t, h⟩ := h
  exact ⟨t, dR_mono hd h⟩
theorem dNE_still {nr : Nat} {T : Nat → Nat → Nat → Prop} {ln : Nat → Nat → Nat} {e d : Nat} (hT : ∀ v u t, T v u (t + 32) ↔ T v u t) (hd : 1 ≤ d) (hs : ∀ v, v < nr → dNE nr T ln e (d + 33) v → dNE nr T ln e d v) : ∀ d' v, v < nr → dNE nr T ln e d' v → dNE nr T ln e d v := by
  intro d'
  induction d' with
  | zero => intro v _ h; obtain ⟨t, h⟩ := h; exact absurd h dR_0
  | succ d' ih =>
    intro v hv h
    obtain ⟨t, h⟩ := h
    rcases dR_s.mp h with h | h | h | ⟨u, a, b, c⟩
    · exact ih v hv ⟨t, h⟩
    · exact ih v hv ⟨t + 1, h⟩
    · exact dNE_mono hd ⟨t, dR_end h.1 h.2⟩
    · have hu : dNE nr T ln e d u := by
        rcases c with ⟨_, c⟩ | ⟨_, c⟩
        · exact ih u a ⟨_, c⟩
        · exact ih u a ⟨_, dR_mono (by omega) c⟩
      obtain ⟨s, hu⟩ := hu
      have hf := fun z => dR_full hT hu z
      refine hs v hv ⟨t, ?_⟩
      rcases c with ⟨q, _⟩ | ⟨q, _⟩
      · exact dR_mono (by omega) (dR_link a b (Or.inl q) (hf _))
      · exact dR_mono (by omega) (dR_link a b (Or.inr q) (hf _))
theorem dNE_1585 {nr : Nat} {T : Nat → Nat → Nat → Prop} {ln : Nat → Nat → Nat} {e : Nat} (hT : ∀ v u t, T v u (t + 32) ↔ T v u t) (hn : nr ≤ 48) : ∀ d' v, v < nr → dNE nr T ln e d' v → dNE nr T ln e 1585 v := by
  classical
  have key : ∀ k, (∀ d' v, v < nr → dNE nr T ln e d' v → dNE nr T ln e (1 + 33 * k) v) ∨ k ≤ cn nr (fun v => decide (dNE nr T ln e (1 + 33 * k) v)) := by
    intro k
    induction k with
    | zero => exact Or.inr (Nat.zero_le _)
    | succ k ih =>
      rcases ih with ih | ih
      · exact Or.inl (fun d' v hv h => dNE_mono (by omega) (ih d' v hv h))
      · by_cases q : ∀ v, v < nr → dNE nr T ln e (1 + 33 * k + 33) v → dNE nr T ln e (1 + 33 * k) v
        · exact Or.inl (fun d' v hv h => dNE_mono (by omega) (dNE_still hT (by omega) q d' v hv h))
        · refine Or.inr ?_
          have : ∃ v, v < nr ∧ dNE nr T ln e (1 + 33 * k + 33) v ∧ ¬ dNE nr T ln e (1 + 33 * k) v := by
            refine Classical.byContradiction (fun z => q (fun v hv h => ?_))
            exact Classical.byContradiction (fun y => z ⟨v, hv, h, y⟩)
          obtain ⟨v, hv, h1, h2⟩ := this
          have lt := cn_lt (n := nr) (k := v) (p := fun v => decide (dNE nr T ln e (1 + 33 * k) v)) (q := fun v => decide (dNE nr T ln e (1 + 33 * (k + 1)) v)) (fun i _ h => decide_eq_true (dNE_mono (by omega) (of_decide_eq_true h))) hv (decide_eq_false h2) (decide_eq_true (by rw [show 1 + 33 * (k + 1) = 1 + 33 * k + 33 by omega]; exact h1))
          omega
  rcases key 48 with h | h
  · exact h
  · intro d' v hv _
    have := cn_all (n := nr) (Nat.le_trans hn h) v hv
    exact of_decide_eq_true this
theorem dR_bound {nr : Nat} {T : Nat → Nat → Nat → Prop} {ln : Nat → Nat → Nat} {e d v t : Nat} (hT : ∀ v u t, T v u (t + 32) ↔ T v u t) (hn : nr ≤ 48) (h : dR nr T ln e d v t) : dR nr T ln e 1649 v t := by
  have key : ∀ d v, dNE nr T ln e d v → dNE nr T ln e 1618 v := by
    intro d
    induction d with
    | zero => intro v h; obtain ⟨t, h⟩ := h; exact absurd h dR_0
    | succ d ih =>
      intro v h
      obtain ⟨t, h⟩ := h
      rcases dR_s.mp h with h | h | h | ⟨u, a, b, c⟩
      · exact ih v ⟨t, h⟩
      · exact ih v ⟨t + 1, h⟩
      · exact dNE_mono (by omega) ⟨t, dR_end h.1 h.2⟩
      · have hu : dNE nr T ln e 1585 u := by
          rcases c with ⟨_, c⟩ | ⟨_, c⟩
          · exact dNE_1585 hT hn _ u a ⟨_, c⟩
          · exact dNE_1585 hT hn _ u a ⟨_, c⟩
        obtain ⟨s, hu⟩ := hu
        have hf := fun z => dR_full hT hu z
        refine ⟨t, ?_⟩
        rcases c with ⟨q, _⟩ | ⟨q, _⟩
        · exact dR_mono (by omega) (dR_link a b (Or.inl q) (hf _))
        · exact dR_mono (by omega) (dR_link a b (Or.inr q) (hf _))
  obtain ⟨s, hs⟩ := key d v ⟨t, h⟩
  exact dR_full hT hs t
/-- two quiet ticks in a row: nothing comes any more -/
theorem dR_quiet {nr : Nat} {T : Nat → Nat → Nat → Prop} {ln : Nat → Nat → Nat} {e d : Nat} {N : Nat → Prop} (hN : ∀ u, u < nr → N u) (h1 : ∀ v t, N v → dR nr T ln e (d + 1) v t → dR nr T ln e d v t) (h2 : ∀ v t, N v → dR nr T ln e (d + 2) v t → dR nr T ln e (d + 1) v t) : ∀ k v t, N v → dR nr T ln e (d + k) v t → dR nr T ln e d v t := by
  have key : ∀ k, (∀ v t, N v → dR nr T ln e (d + k) v t → dR nr T ln e d v t) ∧ (∀ v t, N v → dR nr T ln e (d + k + 1) v t → dR nr T ln e d v t) := by
    intro k
    induction k with
    | zero => exact ⟨fun v t _ h => h, fun v t hv h => h1 v t hv h⟩
    | succ k ih =>
      refine ⟨ih.2, fun v t hv h => ?_⟩
      refine h1 v t hv (h2 v t hv ?_)
      rw [show d + (k + 1) + 1 = d + k + 1 + 1 by omega] at h
      rcases dR_s.mp h with h | h | h | ⟨u, a, b, c⟩
      · exact dR_mono (by omega) (ih.2 v t hv h)
      · exact dR_s.mpr (Or.inr (Or.inl (dR_mono (by omega) (ih.2 v (t + 1) hv h))))
      · exact dR_mono (by omega) (dR_end h.1 h.2)
      · rcases c with ⟨q, c⟩ | ⟨q, c⟩
        · exact dR_mono (by rw [q]; omega) (dR_link (d := d) a b (Or.inl q) (by rw [q]; exact ih.2 u _ (hN u a) c))
        · exact dR_mono (by rw [q]; omega) (dR_link (d := d) a b (Or.inr q) (by rw [q]; exact ih.1 u _ (hN u a) c))
  exact fun k => (key k).1
/-- x is the least d, far if there is none -/
def dL (nr : Nat) (T : Nat → Nat → Nat → Prop) (ln : Nat → Nat → Nat) (e v t x : Nat) : Prop := (x < 1000000 ∧ dR nr T ln e x v t ∧ ∀ d, dR nr T ln e d v t → x ≤ d) ∨ (x = 1000000 ∧ ∀ d, ¬ dR nr T ln e d v t)
theorem dL_one {nr : Nat} {T : Nat → Nat → Nat → Prop} {ln : Nat → Nat → Nat} {e v t x y : Nat} (h : dL nr T ln e v t x) (g : dL nr T ln e v t y) : x = y := by
  rcases h with ⟨h1, h2, h3⟩ | ⟨h1, h2⟩
  · rcases g with ⟨g1, g2, g3⟩ | ⟨g1, g2⟩
    · have a := h3 _ g2
      have b := g3 _ h2
      omega
    · exact absurd h2 (g2 _)
  · rcases g with ⟨g1, g2, g3⟩ | ⟨g1, g2⟩
    · exact absurd g2 (h2 _)
    · omega
theorem dL_of {nr : Nat} {T : Nat → Nat → Nat → Prop} {ln : Nat → Nat → Nat} {e v t x : Nat} (hT : ∀ v u t, T v u (t + 32) ↔ T v u t) (hn : nr ≤ 48) (hx : x ≤ 1000000) (h1 : x < 1000000 → dR nr T ln e x v t) (h2 : ∀ d, d < 1000000 → dR nr T ln e d v t → x ≤ d) : dL nr T ln e v t x := by
  by_cases q : x < 1000000
  · refine Or.inl ⟨q, h1 q, fun d hd => ?_⟩
    by_cases q2 : d < 1000000
    · exact h2 d q2 hd
    · omega
  · refine Or.inr ⟨by omega, fun d hd => ?_⟩
    have := h2 1649 (by decide) (dR_bound hT hn hd)
    omega
theorem dL_mod {nr : Nat} {T : Nat → Nat → Nat → Prop} {ln : Nat → Nat → Nat} {e v t s x : Nat} (hT : ∀ v u t, T v u (t + 32) ↔ T v u t) (hs : t % 32 = s % 32) (h : dL nr T ln e v t x) : dL nr T ln e v s x := by
  have hp : ∀ d, dR nr T ln e d v t ↔ dR nr T ln e d v s := fun d => per_eq (P := fun t => dR nr T ln e d v t) (dR_per hT d v) hs
  rcases h with ⟨h1, h2, h3⟩ | ⟨h1, h2⟩
  · exact Or.inl ⟨h1, (hp x).mp h2, fun d hd => h3 d ((hp d).mpr hd)⟩
  · exact Or.inr ⟨h1, fun d hd => h2 d ((hp d).mpr hd)⟩
/-- a row of numbers that no look ahead makes less is not above the least -/
theorem dR_below {nr : Nat} {T : Nat → Nat → Nat → Prop} {ln : Nat → Nat → Nat} {e : Nat} {a : Nat → Nat → Nat} (hn : nr ≤ 48) (hw : ∀ r t, r < nr → a r (t % 32) ≤ 1 + a r ((t + 1) % 32)) (he : ∀ r t, r < nr → T e r t → a r (t % 32) ≤ 1) (hl : ∀ r u t, r < nr → u < nr → T r u t → a r (t % 32) ≤ ln r u + a u ((t + ln r u) % 32)) : ∀ d r t, r < nr → dR nr T ln e d r t → a r (t % 32) ≤ d := by
  have key : ∀ d, (∀ r t, r < nr → dR nr T ln e d r t → a r (t % 32) ≤ d) ∧ (∀ r t, r < nr → dR nr T ln e (d - 1) r t → a r (t % 32) ≤ d - 1) := by
    intro d
    induction d with
    | zero => exact ⟨fun r t _ h => absurd h dR_0, fun r t _ h => absurd h dR_0⟩
    | succ d ih =>
      obtain ⟨i1, i2⟩ := ih
      refine ⟨fun r t hr h => ?_, i1⟩
      rcases dR_s.mp h with h | h | h | ⟨u, x, y, z⟩
      · exact Nat.le_succ_of_le (i1 r t hr h)
      · have := hw r t hr
        have := i1 r (t + 1) hr h
        omega
      · have := he r t hr h.2
        omega
      · have := hl r u t hr x y
        rcases z with ⟨q, z⟩ | ⟨q, z⟩
        · rw [q] at this
          have := i1 u (t + 1) x z
          omega
        · rw [q] at this
          have := i2 u (t + 2) x z
          cases d with
          | zero => exact absurd z dR_0
          | succ d => omega
  exact fun d => (key d).1
/-- a way from a post begins with one link, less than a day from now -/
theorem dR_post {nr : Nat} {T : Nat → Nat → Nat → Prop} {ln : Nat → Nat → Nat} {e p : Nat} (hT : ∀ v u t, T v u (t + 32) ↔ T v u t) (hp : 48 ≤ p) (hl : ∀ u, u < nr → ln p u = 1) : ∀ d t, dR nr T ln e d p t → ∃ w r d', w < 32 ∧ r < nr ∧ T p r (t + w) ∧ dR nr T ln e d' r (t + w + 1) ∧ w + 1 + d' ≤ d := by
  intro d
  induction d with
  | zero => intro t h; exact absurd h dR_0
  | succ d ih =>
    intro t h
    rcases dR_s.mp h with h | h | h | ⟨u, x, y, z⟩
    · obtain ⟨w, r, d', a, b, c, f, g⟩ := ih t h
      exact ⟨w, r, d', a, b, c, f, by omega⟩
    · obtain ⟨w, r, d', a, b, c, f, g⟩ := ih (t + 1) h
      by_cases q : w + 1 < 32
      · exact ⟨w + 1, r, d', q, b, by rw [show t + (w + 1) = t + 1 + w by omega]; exact c, by rw [show t + (w + 1) + 1 = t + 1 + w + 1 by omega]; exact f, by omega⟩
      · have e : t + 1 + w = t + 32 := by omega
        rw [e] at c f
        refine ⟨0, r, d', by decide, b, (hT p r t).mp c, ?_, by omega⟩
        exact (dR_per hT d' r (t + 1)).mp (by rw [show t + 1 + 32 = t + 32 + 1 by omega]; exact f)
    · omega
    · rcases z with ⟨q, z⟩ | ⟨q, z⟩
      · exact ⟨0, u, d, by decide, x, y, z, by omega⟩
      · have := hl u x; omega

/-! sums of Ints over 0 .. n-1, counts -/
def sm : Nat → (Nat → Int) → Int
  | 0, _ => 0
  | n + 1, f => sm n f + f n
theorem sm_congr {n : Nat} {f g : Nat → Int} (h : ∀ i, i < n → f i = g i) : sm n f = sm n g := by
  induction n with
  | zero => rfl
  | succ n ih =>
    unfold sm
    rw [ih (fun i hi => h i (by omega)), h n (by omega)]
theorem sm_add (n : Nat) (f g : Nat → Int) : sm n (fun i => f i + g i) = sm n f + sm n g := by
  induction n with
  | zero => rfl
  | succ n ih =>
    show sm n (fun i => f i + g i) + (f n + g n) = (sm n f + f n) + (sm n g + g n)
    rw [ih]; omega
theorem sm_neg (n : Nat) (f : Nat → Int) : sm n (fun i => - f i) = - sm n f := by
  induction n with
  | zero => rfl
  | succ n ih =>
    show sm n (fun i => - f i) + - f n = - (sm n f + f n)
    rw [ih]; omega
theorem sm_0 (n : Nat) : sm n (fun _ => 0) = 0 := by
  induction n with
  | zero => rfl
  | succ n ih =>
    show sm n (fun _ => 0) + 0 = 0
    rw [ih]; rfl
theorem sm_le {n : Nat} {f g : Nat → Int} (h : ∀ i, i < n → f i ≤ g i) : sm n f ≤ sm n g := by
  induction n with
  | zero => exact Int.le_refl 0
  | succ n ih =>
    unfold sm
    have a := ih (fun i hi => h i (by omega))
    have b := h n (by omega)
    omega
theorem sm_lt {n k : Nat} {f g : Nat → Int} (h : ∀ i, i < n → f i ≤ g i) (hk : k < n) (hl : f k < g k) : sm n f < sm n g := by
  induction n with
  | zero => omega
  | succ n ih =>
    unfold sm
    by_cases q : k = n
    · subst q
      have a := sm_le (n := k) (fun i hi => h i (by omega))
      omega
    · have a := ih (fun i hi => h i (by omega)) (by omega)
      have b := h n (by omega)
      omega
theorem sm_nn {n : Nat} {f : Nat → Int} (h : ∀ i, i < n → 0 ≤ f i) : 0 ≤ sm n f := by
  have := sm_le (n := n) (f := fun _ => 0) (g := f) h
  rw [sm_0] at this
  exact this
theorem sm_one {n k : Nat} {c : Int} : sm n (fun i => if i = k then c else 0) = if k < n then c else 0 := by
  induction n with
  | zero => rfl
  | succ n ih =>
    show sm n (fun i => if i = k then c else 0) + (if n = k then c else 0) = _
    rw [ih]
    by_cases q : k < n
    · rw [if_pos q, if_neg (show ¬ n = k by omega), if_pos (by omega)]; omega
    · rw [if_neg q]
      by_cases q2 : n = k
      · rw [if_pos q2, if_pos (by omega)]; omega
      · rw [if_neg q2, if_neg (by omega)]; rfl
theorem sm_swap (n m : Nat) (f : Nat → Nat → Int) : sm n (fun i => sm m (fun j => f i j)) = sm m (fun j => sm n (fun i => f i j)) := by
  induction n with
  | zero => exact (sm_0 m).symm
  | succ n ih =>
    show sm n (fun i => sm m (fun j => f i j)) + sm m (fun j => f n j) = sm m (fun j => sm n (fun i => f i j) + f n j)
    rw [ih, sm_add]
/-- two different places that bear 1 in a row of numbers from 0 on make at least 2 -/
theorem sm_two {n a b : Nat} {f : Nat → Int} (h : ∀ i, i < n → 0 ≤ f i) (ha : a < n) (hb : b < n) (hab : a ≠ b) (fa : 1 ≤ f a) (fb : 1 ≤ f b) : 2 ≤ sm n f := by
  have e : sm n (fun i => (if i = a then 1 else 0) + (if i = b then 1 else 0)) ≤ sm n f := by
    refine sm_le (fun i hi => ?_)
    have := h i hi
    by_cases q : i = a
    · subst q; rw [if_pos rfl, if_neg hab]; omega
    · rw [if_neg q]
      by_cases q2 : i = b
      · subst q2; rw [if_pos rfl]; omega
      · rw [if_neg q2]; omega
  rw [sm_add, sm_one, sm_one, if_pos ha, if_pos hb] at e
  omega
theorem sm_ge1 {n a : Nat} {f : Nat → Int} (h : ∀ i, i < n → 0 ≤ f i) (ha : a < n) : f a ≤ sm n f := by
  have e : sm n (fun i => (if i = a then f a else 0)) ≤ sm n f := by
    refine sm_le (fun i hi => ?_)
    have := h i hi
    by_cases q : i = a
    · subst q; rw [if_pos rfl]; omega
    · rw [if_neg q]; omega
  rw [sm_one, if_pos ha] at e
  exact e
/-- how many of 0 .. n-1 have it -/
def cn : Nat → (Nat → Bool) → Nat
  | 0, _ => 0
  | n + 1, p => cn n p + (if p n then 1 else 0)
theorem cn_congr {n : Nat} {p q : Nat → Bool} (h : ∀ i, i < n → p i = q i) : cn n p = cn n q := by
  induction n with
  | zero => rfl
  | succ n ih =>
    unfold cn
    rw [ih (fun i hi => h i (by omega)), h n (by omega)]
theorem cn_le (n : Nat) (p : Nat → Bool) : cn n p ≤ n := by
  induction n with
  | zero => exact Nat.le_refl 0
  | succ n ih => unfold cn; split <;> omega
theorem cn_mono {n : Nat} {p q : Nat → Bool} (h : ∀ i, i < n → p i = true → q i = true) : cn n p ≤ cn n q := by
  induction n with
  | zero => exact Nat.le_refl 0
  | succ n ih =>
    unfold cn
    have a := ih (fun i hi => h i (by omega))
    by_cases x : p n = true
    · rw [if_pos x, if_pos (h n (by omega) x)]; omega
    · rw [if_neg x]; omega
theorem cn_lt {n k : Nat} {p q : Nat → Bool} (h : ∀ i, i < n → p i = true → q i = true) (hk : k < n) (h1 : p k = false) (h2 : q k = true) : cn n p < cn n q := by
  induction n with
  | zero => omega
  | succ n ih =>
    unfold cn
    by_cases e : k = n
    · subst e
      have a := cn_mono (n := k) (p := p) (q := q) (fun i hi => h i (by omega))
      rw [h1, if_pos h2]
      simp
      omega
    · have a := ih (fun i hi => h i (by omega)) (by omega)
      by_cases x : p n = true
      · rw [if_pos x, if_pos (h n (by omega) x)]; omega
      · rw [if_neg x]; omega
theorem cn_all {n : Nat} {p : Nat → Bool} (h : n ≤ cn n p) : ∀ i, i < n → p i = true := by
  induction n with
  | zero => intro i hi; omega
  | succ n ih =>
    unfold cn at h
    have := cn_le n p
    by_cases x : p n = true
    · rw [if_pos x] at h
      intro i hi
      by_cases e : i = n
      · rw [e]; exact x
      · exact ih (by omega) i (by omega)
    · rw [if_neg x] at h; omega

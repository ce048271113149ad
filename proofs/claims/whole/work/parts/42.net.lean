/-! greatest flow, least cut: nodes 0 .. 97, from 96 to 97; E0 the edges, E what is left of them -/
def bi (b : Bool) : Int := if b then 1 else 0
theorem bi_t : bi true = 1 := rfl
theorem bi_f : bi false = 0 := rfl
theorem bi_nn (b : Bool) : 0 ≤ bi b := by cases b <;> decide
theorem bi_le (b : Bool) : bi b ≤ 1 := by cases b <;> decide
def nfl (E0 E : Nat → Nat → Bool) (u v : Nat) : Int := bi (E0 u v) - bi (E u v)
def nSk (E0 E : Nat → Nat → Bool) : Prop := ∀ u v, u < 98 → v < 98 → bi (E u v) + bi (E v u) = bi (E0 u v) + bi (E0 v u)
def nEx (E0 E : Nat → Nat → Bool) (u : Nat) : Int := sm 98 (fun v => nfl E0 E u v)
def nFm (E0 E : Nat → Nat → Bool) (n : Int) (k : Nat) : Prop := nSk E0 E ∧ ∀ u, u < 98 → u ≠ 97 → nEx E0 E u = (if u = k then 1 else 0) + (if u = 96 then n else 0)
def nNA (E0 : Nat → Nat → Bool) : Prop := ∀ u v, u < 98 → v < 98 → bi (E0 u v) + bi (E0 v u) ≤ 1
def nCap (E0 : Nat → Nat → Bool) (X : Nat → Bool) : Int := sm 98 (fun u => sm 98 (fun v => if X u = true ∧ X v = false then bi (E0 u v) else 0))
theorem nFm_0 (E0 : Nat → Nat → Bool) : nFm E0 E0 0 97 := by
  refine ⟨fun u v _ _ => rfl, fun u hu h => ?_⟩
  rw [if_neg h]
  unfold nEx
  have : sm 98 (fun v => nfl E0 E0 u v) = sm 98 (fun _ => 0) := sm_congr (fun i _ => by unfold nfl; omega)
  rw [this, sm_0]
  split <;> rfl
theorem nFl_cut {E0 E : Nat → Nat → Bool} {n : Int} {X : Nat → Bool} (h : nFm E0 E n 97) (h1 : X 96 = true) (h2 : X 97 = false) : n = sm 98 (fun u => sm 98 (fun v => if X u = true ∧ X v = false then nfl E0 E u v else 0)) := by
  obtain ⟨hs, hx⟩ := h
  have a : sm 98 (fun u => if X u = true then nEx E0 E u else 0) = n := by
    have : sm 98 (fun u => if X u = true then nEx E0 E u else 0) = sm 98 (fun u => if u = 96 then n else 0) := by
      refine sm_congr (fun u hu => ?_)
      by_cases q : X u = true
      · have ne : u ≠ 97 := by intro e; rw [e, h2] at q; exact Bool.noConfusion q
        rw [if_pos q, hx u hu ne, if_neg ne]
        omega
      · have ne : u ≠ 96 := by intro e; rw [e] at q; exact q h1
        rw [if_neg q, if_neg ne]
    rw [this, sm_one, if_pos (by decide)]
  have b : ∀ u, u < 98 → (if X u = true then nEx E0 E u else 0) = sm 98 (fun v => if X u = true ∧ X v = false then nfl E0 E u v else 0) + sm 98 (fun v => if X u = true ∧ X v = true then nfl E0 E u v else 0) := by
    intro u hu
    rw [← sm_add]
    by_cases q : X u = true
    · rw [if_pos q]
      unfold nEx
      refine sm_congr (fun v hv => ?_)
      cases c : X v
      · rw [if_pos ⟨q, rfl⟩, if_neg (by simp)]; omega
      · rw [if_neg (by simp), if_pos ⟨q, rfl⟩]; omega
    · rw [if_neg q]
      have : sm 98 (fun v => (if X u = true ∧ X v = false then nfl E0 E u v else 0) + (if X u = true ∧ X v = true then nfl E0 E u v else 0)) = sm 98 (fun _ => 0) := by
        refine sm_congr (fun v hv => ?_)
        rw [if_neg (fun z => q z.1), if_neg (fun z => q z.1)]; rfl
      rw [this, sm_0]
  rw [sm_congr b, sm_add] at a
  have z : sm 98 (fun u => sm 98 (fun v => if X u = true ∧ X v = true then nfl E0 E u v else 0)) = 0 := by
    have e1 := sm_swap 98 98 (fun u v => if X u = true ∧ X v = true then nfl E0 E u v else 0)
    have e2 : sm 98 (fun v => sm 98 (fun u => if X u = true ∧ X v = true then nfl E0 E u v else 0)) = - sm 98 (fun v => sm 98 (fun u => if X v = true ∧ X u = true then nfl E0 E v u else 0)) := by
      rw [← sm_neg]
      refine sm_congr (fun v hv => ?_)
      rw [← sm_neg]
      refine sm_congr (fun u hu => ?_)
      by_cases q : X u = true ∧ X v = true
      · rw [if_pos q, if_pos ⟨q.2, q.1⟩]
        have := hs u v hu hv
        unfold nfl
        omega
      · rw [if_neg q, if_neg (fun z => q ⟨z.2, z.1⟩)]; rfl
    rw [e2] at e1
    omega
  rw [z] at a
  omega
theorem nFl_weak {E0 E : Nat → Nat → Bool} {n : Int} {X : Nat → Bool} (h : nFm E0 E n 97) (h1 : X 96 = true) (h2 : X 97 = false) : n ≤ nCap E0 X := by
  rw [nFl_cut h h1 h2]
  unfold nCap
  refine sm_le (fun u hu => sm_le (fun v hv => ?_))
  by_cases q : X u = true ∧ X v = false
  · rw [if_pos q, if_pos q]
    unfold nfl
    have := bi_nn (E u v)
    omega
  · rw [if_neg q, if_neg q]; exact Int.le_refl 0
theorem nFl_tight {E0 E : Nat → Nat → Bool} {n : Int} {X : Nat → Bool} (h : nFm E0 E n 97) (h1 : X 96 = true) (h2 : X 97 = false) (hc : ∀ u v, u < 98 → v < 98 → X u = true → E u v = true → X v = true) : nCap E0 X = n := by
  rw [nFl_cut h h1 h2]
  unfold nCap
  refine sm_congr (fun u hu => sm_congr (fun v hv => ?_))
  by_cases q : X u = true ∧ X v = false
  · rw [if_pos q, if_pos q]
    unfold nfl
    have : E u v = false := by
      cases c : E u v
      · rfl
      · have := hc u v hu hv q.1 c
        rw [q.2] at this
        exact Bool.noConfusion this
    rw [this, bi_f]
    omega
  · rw [if_neg q, if_neg q]
/-- the edge c k is used: what is left is the edge k c -/
def nPush (E : Nat → Nat → Bool) (c k : Nat) : Nat → Nat → Bool := fun a b => if a = c ∧ b = k then false else if a = k ∧ b = c then true else E a b
theorem nPush_ok {E0 E : Nat → Nat → Bool} {n : Int} {c k : Nat} (hA : nNA E0) (h : nFm E0 E n k) (hc : c < 98) (hk : k < 98) (hck : c ≠ k) (he : E c k = true) : nFm E0 (nPush E c k) n c := by
  obtain ⟨hs, hx⟩ := h
  have e0 : E k c = false := by
    have a := hs c k hc hk
    have b := hA c k hc hk
    rw [he, bi_t] at a
    cases q : E k c
    · rfl
    · rw [q, bi_t] at a; omega
  have e1 : ∀ u v, bi (nPush E c k u v) = bi (E u v) - (if u = c then (if v = k then 1 else 0) else 0) + (if u = k then (if v = c then 1 else 0) else 0) := by
    intro u v
    unfold nPush
    by_cases q : u = c ∧ v = k
    · obtain ⟨rfl, rfl⟩ := q
      rw [if_pos ⟨rfl, rfl⟩, if_pos rfl, if_pos rfl, if_neg hck, he]; rfl
    · rw [if_neg q]
      by_cases q2 : u = k ∧ v = c
      · obtain ⟨rfl, rfl⟩ := q2
        rw [if_pos ⟨rfl, rfl⟩, if_neg (Ne.symm hck), if_pos rfl, if_pos rfl, e0]; rfl
      · rw [if_neg q2]
        have z1 : (if u = c then (if v = k then (1 : Int) else 0) else 0) = 0 := by
          by_cases p : u = c
          · rw [if_pos p]; by_cases p2 : v = k
            · exact absurd ⟨p, p2⟩ q
            · rw [if_neg p2]
          · rw [if_neg p]
        have z2 : (if u = k then (if v = c then (1 : Int) else 0) else 0) = 0 := by
          by_cases p : u = k
          · rw [if_pos p]; by_cases p2 : v = c
            · exact absurd ⟨p, p2⟩ q2
            · rw [if_neg p2]
          · rw [if_neg p]
        rw [z1, z2]; omega
  refine ⟨fun u v hu hv => ?_, fun u hu hu7 => ?_⟩
  · rw [e1, e1]
    have := hs u v hu hv
    by_cases p : u = c
    · subst p
      by_cases p2 : v = k
      · subst p2
        rw [if_pos rfl, if_pos rfl, if_neg hck, if_neg (Ne.symm hck), if_pos rfl, if_pos rfl]; omega
      · rw [if_pos rfl, if_neg p2, if_neg hck, if_neg hck]
        by_cases p3 : v = u
        · subst p3; rw [if_pos rfl, if_neg p2]; omega
        · rw [if_neg p3, if_neg p2]; omega
    · rw [if_neg p]
      by_cases p2 : u = k
      · subst p2
        rw [if_pos rfl]
        by_cases p3 : v = c
        · subst p3
          rw [if_pos rfl, if_pos rfl, if_pos rfl, if_neg (by omega)]; omega
        · rw [if_neg p3, if_neg p3]
          by_cases p4 : v = u
          · subst p4; rw [if_pos rfl, if_neg p3]; omega
          · rw [if_neg p4]; omega
      · rw [if_neg p2]
        by_cases p3 : v = c
        · subst p3; rw [if_pos rfl, if_neg p2, if_neg (by omega)]; omega
        · rw [if_neg p3]
          by_cases p4 : v = k
          · subst p4; rw [if_pos rfl, if_neg p]; omega
          · rw [if_neg p4]; omega
  · have e2 : nEx E0 (nPush E c k) u = nEx E0 E u + (if u = c then 1 else 0) - (if u = k then 1 else 0) := by
      unfold nEx
      have : ∀ v, v < 98 → nfl E0 (nPush E c k) u v = nfl E0 E u v + ((if v = k then (if u = c then 1 else 0) else 0) + (if v = c then (if u = k then -1 else 0) else 0)) := by
        intro v hv
        unfold nfl
        rw [e1]
        by_cases p : u = c
        · rw [if_pos p, if_pos p]
          have : ¬ u = k := by omega
          rw [if_neg this, if_neg this]
          by_cases p2 : v = k
          · rw [if_pos p2]; split <;> omega
          · rw [if_neg p2]; split <;> omega
        · rw [if_neg p, if_neg p]
          by_cases p2 : u = k
          · rw [if_pos p2, if_pos p2]; split <;> split <;> omega
          · rw [if_neg p2, if_neg p2]; split <;> split <;> omega
      rw [sm_congr this, sm_add, sm_add, sm_one, sm_one, if_pos hk, if_pos hc]
      have ee : sm 98 (nfl E0 E u) = sm 98 (fun v => nfl E0 E u v) := rfl
      by_cases p : u = k
      · rw [if_pos p, if_pos p]; omega
      · rw [if_neg p, if_neg p]; omega
    rw [e2, hx u hu hu7]
    by_cases p : u = c
    · rw [if_pos p]
      have : ¬ u = k := by omega
      rw [if_neg this]; omega
    · rw [if_neg p]
      by_cases p2 : u = k
      · rw [if_pos p2]; omega
      · rw [if_neg p2]; omega
/-- a way has come to the start: one more -/
theorem nFm_done {E0 E : Nat → Nat → Bool} {n : Int} (h : nFm E0 E n 96) : nFm E0 E (n + 1) 97 := by
  refine ⟨h.1, fun u hu h7 => ?_⟩
  rw [h.2 u hu h7, if_neg h7]
  by_cases q : u = 96
  · rw [if_pos q, if_pos q]; omega
  · rw [if_neg q, if_neg q, if_neg q]
/-- n is the least cut -/
def nMC (E0 : Nat → Nat → Bool) (n : Int) : Prop := (∀ X : Nat → Bool, X 96 = true → X 97 = false → n ≤ nCap E0 X) ∧ ∃ X : Nat → Bool, X 96 = true ∧ X 97 = false ∧ nCap E0 X = n
theorem nMC_one {E0 : Nat → Nat → Bool} {n m : Int} (h : nMC E0 n) (g : nMC E0 m) : n = m := by
  obtain ⟨h1, X, x1, x2, x3⟩ := h
  obtain ⟨g1, Y, y1, y2, y3⟩ := g
  have a := h1 Y y1 y2
  have b := g1 X x1 x2
  omega
theorem nMC_of {E0 E : Nat → Nat → Bool} {n : Int} {X : Nat → Bool} (h : nFm E0 E n 97) (h1 : X 96 = true) (h2 : X 97 = false) (hc : ∀ u v, u < 98 → v < 98 → X u = true → E u v = true → X v = true) : nMC E0 n :=
  ⟨fun _ y1 y2 => nFl_weak h y1 y2, X, h1, h2, nFl_tight h h1 h2 hc⟩
theorem nMC_congr {E0 E1 : Nat → Nat → Bool} {n : Int} (e : ∀ u v, u < 98 → v < 98 → E0 u v = E1 u v) (h : nMC E0 n) : nMC E1 n := by
  have c : ∀ X, nCap E0 X = nCap E1 X := fun X => sm_congr (fun u hu => sm_congr (fun v hv => by rw [e u v hu hv]))
  obtain ⟨a, X, x1, x2, x3⟩ := h
  exact ⟨fun Y y1 y2 => by rw [← c]; exact a Y y1 y2, X, x1, x2, by rw [← c]; exact x3⟩
/-- the cut at the start: no flow is greater than the number of the edges there -/
theorem nFl_48 {E0 E : Nat → Nat → Bool} {n : Int} (hS : ∀ v, v < 98 → E0 96 v = true → v < 48) (h : nFm E0 E n 97) : n ≤ 48 ∧ (n = 48 → nMC E0 48) := by
  have e : nCap E0 (fun u => decide (u = 96)) ≤ 48 := by
    unfold nCap
    have a : ∀ u, u < 98 → sm 98 (fun v => if decide (u = 96) = true ∧ decide (v = 96) = false then bi (E0 u v) else 0) ≤ (fun u => if u = 96 then (48 : Int) else 0) u := by
      intro u hu
      show _ ≤ (if u = 96 then (48 : Int) else 0)
      by_cases q : u = 96
      · rw [if_pos q]
        have b : sm 98 (fun v => if decide (u = 96) = true ∧ decide (v = 96) = false then bi (E0 u v) else 0) ≤ sm 98 (fun v => if v < 48 then 1 else 0) := by
          refine sm_le (fun v hv => ?_)
          split
          · next z =>
            cases c : E0 u v
            · rw [bi_f]; split <;> decide
            · rw [q] at c
              rw [if_pos (hS v hv c), bi_t]; decide
          · split <;> decide
        have b2 : sm 98 (fun v => if v < 48 then (1 : Int) else 0) = 48 := by decide +kernel
        omega
      · rw [if_neg q]
        have b : sm 98 (fun v => if decide (u = 96) = true ∧ decide (v = 96) = false then bi (E0 u v) else 0) = sm 98 (fun _ => 0) := by
          refine sm_congr (fun v hv => ?_)
          rw [if_neg]
          intro z
          exact q (of_decide_eq_true z.1)
        rw [b, sm_0]; exact Int.le_refl 0
    have b := sm_le a
    rw [sm_one, if_pos (by decide)] at b
    exact b
  have w := nFl_weak (X := fun u => decide (u = 96)) h (by decide) (by decide)
  refine ⟨by omega, fun q => ?_⟩
  subst q
  exact ⟨fun Y y1 y2 => nFl_weak h y1 y2, fun u => decide (u = 96), by decide, by decide, by omega⟩

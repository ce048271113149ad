/-! the law's start: pcs 0 .. 22 -/
def sB (h5 h6 o cI cJ cZ cL cW : Nat) (z y : Nat → Nat) : Nat → Nat := fun k => ([h6, h5, z 0, z 10, z 15, z 9, z 16, z 17, z 18, o, 0, 0, 0, 0, 0, 0, 0, 0, 0, 0, 0, 0, 0, 0, z 1, z 2, z 3, z 4, z 5, z 6, z 7, z 8, 0, 0, 0, 0, 0, 0, 0, 0, 0, z 11, z 12, 0, z 13, z 14, 0, 0, 0, 0, 0, 0, 0, 0, 0, 0, 0, 0, 0, 0, 0, 0, y 0, y 1, y 2, y 3, 0, y 4, y 5, 0, y 6, y 7, y 8, 0, y 9, y 10, y 11, y 12, y 13, y 14, y 15, y 16, y 17, y 18, y 19, y 20, y 21, y 22, y 23, y 24, y 25, 0, 0, 0, 0, 0, 0, 0, 0, 0, cI, cJ, cZ, cL, cW] : List Nat).getD k 0
def sW5 (h5 cI cJ cZ cL cW : Nat) (z : Nat → Nat) : va_W := ((h5, .inr (5, [.ref (z 0), .ref (z 9), .ref (z 10), .ref (z 15)])) :: (z 0, .inr (3, [.int 0, .int 0, .int 0, .int 0, .ref (z 1), .ref (z 2), .ref (z 3), .ref (z 4), .ref (z 5), .ref (z 6), .ref (z 7), .ref (z 8)])) :: (z 1, .inl (cZ, 56, .inl (fun _ => 0))) :: (z 2, .inl (cI, 7, .inl (fun _ => 0))) :: (z 3, .inl (cI, 56, .inl (fun _ => 0))) :: (z 4, .inl (cI, 56, .inl (fun _ => 0))) :: (z 5, .inl (cI, 56, .inl (fun _ => 0))) :: (z 6, .inl (cI, 56, .inl (fun _ => 0))) :: (z 7, .inl (cI, 2688, .inl (fun _ => 0))) :: (z 8, .inl (cI, 2688, .inl (fun _ => 0))) :: (z 9, .inl (cW, 8, .inr (.inr (.inr (.inr (fun _ => none)))))) :: (z 10, .inr (0, [.ref (z 0), .ref (z 11), .ref (z 12), .long 0, .ref (z 13), .ref (z 14), .int 0])) :: (z 11, .inl (cJ, 48, .inr (.inl (fun _ => 0)))) :: (z 12, .inl (cJ, 48, .inr (.inl (fun _ => 0)))) :: (z 13, .inl (cI, 96, .inl (fun _ => 0))) :: (z 14, .inl (cI, 96, .inl (fun _ => 0))) :: (z 15, .inr (2, [.int 0, .int 0, .ref (z 16), .ref (z 0), .ref (z 9), .ref (z 17), .ref (z 18)])) :: (z 16, .inl (cL, 60, .inr (.inr (.inr (.inr (fun _ => none)))))) :: (z 17, .inl (cJ, 56, .inr (.inl (fun _ => 0)))) :: (z 18, .inl (cI, 8, .inl (fun _ => 0))) :: [])
def sW6 (h6 cI cZ : Nat) (y : Nat → Nat) : va_W := ((h6, .inr (6, (.int 0 :: .int 0 :: .ref (y 0) :: .ref (y 1) :: .ref (y 2) :: .ref (y 3) :: .int 0 :: .ref (y 4) :: .ref (y 5) :: .int 0 :: .ref (y 6) :: .ref (y 7) :: .ref (y 8) :: .int 0 :: .ref (y 9) :: .ref (y 10) :: .ref (y 11) :: .ref (y 12) :: .ref (y 13) :: .ref (y 14) :: .ref (y 15) :: .ref (y 16) :: .ref (y 17) :: .ref (y 18) :: .ref (y 19) :: .ref (y 20) :: .ref (y 21) :: .ref (y 22) :: .ref (y 23) :: .ref (y 24) :: .ref (y 25) :: .int 0 :: .int 0 :: []))) :: (y 0, .inl (cI, 6, .inl (fun _ => 0))) :: (y 1, .inl (cI, 6, .inl (fun _ => 0))) :: (y 2, .inl (cI, 6, .inl (fun _ => 0))) :: (y 3, .inl (cI, 6, .inl (fun _ => 0))) :: (y 4, .inl (cI, 48, .inl (fun _ => 0))) :: (y 5, .inl (cZ, 48, .inl (fun _ => 0))) :: (y 6, .inl (cI, 8, .inl (fun _ => 0))) :: (y 7, .inl (cI, 8, .inl (fun _ => 0))) :: (y 8, .inl (cI, 8, .inl (fun _ => 0))) :: (y 9, .inl (cI, 12288, .inl (fun _ => 0))) :: (y 10, .inl (cZ, 8, .inl (fun _ => 0))) :: (y 11, .inl (cZ, 9604, .inl (fun _ => 0))) :: (y 12, .inl (cI, 98, .inl (fun _ => 0))) :: (y 13, .inl (cI, 98, .inl (fun _ => 0))) :: (y 14, .inl (cI, 60, .inl (fun _ => 0))) :: (y 15, .inl (cI, 60, .inl (fun _ => 0))) :: (y 16, .inl (cI, 60, .inl (fun _ => 0))) :: (y 17, .inl (cI, 60, .inl (fun _ => 0))) :: (y 18, .inl (cI, 60, .inl (fun _ => 0))) :: (y 19, .inl (cI, 60, .inl (fun _ => 0))) :: (y 20, .inl (cI, 60, .inl (fun _ => 0))) :: (y 21, .inl (cI, 60, .inl (fun _ => 0))) :: (y 22, .inl (cI, 60, .inl (fun _ => 0))) :: (y 23, .inl (cI, 60, .inl (fun _ => 0))) :: (y 24, .inl (cI, 60, .inl (fun _ => 0))) :: (y 25, .inl (cI, 60, .inl (fun _ => 0))) :: [])
def sG0 : sG := ((fun _ => 0, fun _ _ => 0), (0, 0, fun _ _ => 0, fun _ _ => 0), (fun _ => 0, fun _ => 0, fun _ => 0, 0, fun _ _ => 0, fun _ => 0), (0, fun _ _ => 0, fun _ _ => 0, fun _ _ => 0, fun _ _ _ => 0, fun _ _ => 0), (fun _ => 0, fun _ _ => 0), fun _ => 0)
theorem gq_0 (a : Nat → Nat) : gq 0 a = fun _ => none := by
  funext i
  simp [gq]
def sIx : List Nat := [20, 21, 22, 23, 24, 25, 26, 27, 28, 29, 30, 31, 32, 33, 34, 35, 36, 37, 38, 39, 40, 41, 42, 43, 44, 45, 46, 1, 2, 3, 4, 5, 6, 7, 8, 9, 11, 12, 13, 14, 15, 0, 10, 16, 17, 18, 19, 47]
set_option maxRecDepth 100000 in
theorem s_gW (h5 h6 o cI cJ cZ cL cW : Nat) (z y : Nat → Nat) : sIx.map (fun i => (sW5 h5 cI cJ cZ cL cW z ++ (sW6 h6 cI cZ y ++ [(o, .inl (cJ, 1, .inr (.inl (fun _ => 0))))]))[i]?) = (gW (sB h5 h6 o cI cJ cZ cL cW z y) sG0).map some := by
  unfold gW gF sG0
  dsimp only
  rw [gq_0]
  rfl
theorem s_filt {α β : Type} (f : α → Option β) : ∀ (l : List α) (l' : List β), l.map f = l'.map some → l.filterMap f = l'
  | [], [], _ => rfl
  | [], _ :: _, h => by cases h
  | _ :: _, [], h => by cases h
  | a :: l, b :: l', h => by
    have h1 : f a = some b := by injection h
    have h2 : l.map f = l'.map some := by injection h
    rw [List.filterMap_cons, h1, s_filt f l l' h2]
theorem s_arr {args : Array Value} {s : State} {t : FieldType} (h : (Cond.arrayClass t).before args s = true) (ht : ∀ n, t ≠ .object n) : ∃ c : ClassId, ArrOfT s c t ∧ va_RA s c t := by
  obtain ⟨c, k, comp, h1, h2, h3⟩ := Cond.arrayClass_spec h
  refine ⟨c, fun n z => ⟨fun k h => (by cases h), k, h2, comp, h3⟩, ?_⟩
  cases t with
  | object n => exact absurd rfl (ht n)
  | _ => exact h1
theorem s_arrO {args : Array Value} {s : State} {n : String} (h : (Cond.arrayOver (.object n)).before args s = true) : ∃ c : ClassId, ArrOfT s c (.object n) ∧ va_RA s c (.object n) := by
  obtain ⟨comp, c, k, h1, -, h2, h3, h4⟩ := Cond.arrayOver_spec h
  exact ⟨c, fun n z => ⟨fun k h => (by cases h), k, h2, comp, h3⟩, k, comp, h2, h3, h1, h4⟩
theorem s_D {args : Array Value} {s : State} (hts : ∀ w ∈ lw_tbl, w.before args s = true) : ∃ D : va_G, ∀ (k : Nat) (q : vw_C), vwCl[k]? = some q → u_Kn s q.1 q.2.1 q.2.2 (D.1 k) (D.2 k) := by
  obtain ⟨c0, i0, h0⟩ := u_known (C := RX0) (T := TX0) (N := 7) (n := 7) hts inX0 (hts (.instantiable RX0 7) (by decide +kernel))
  obtain ⟨c1, i1, h1⟩ := u_known (C := RX1) (T := TX1) (N := 10) (n := 10) hts inX1 (hts (.instantiable RX1 10) (by decide +kernel))
  obtain ⟨c2, i2, h2⟩ := u_known (C := RX2) (T := TX2) (N := 7) (n := 7) hts inX2 (hts (.instantiable RX2 7) (by decide +kernel))
  obtain ⟨c3, i3, h3⟩ := u_known (C := RX3) (T := TX3) (N := 12) (n := 12) hts inX3 (hts (.instantiable RX3 12) (by decide +kernel))
  obtain ⟨c4, i4, h4⟩ := u_known (C := RX4) (T := TX4) (N := 7) (n := 7) hts inX4 (hts (.instantiable RX4 7) (by decide +kernel))
  obtain ⟨c5, i5, h5⟩ := u_known (C := RX5) (T := TX5) (N := 4) (n := 4) hts inX5 (hts (.instantiable RX5 4) (by decide +kernel))
  obtain ⟨c6, i6, h6⟩ := u_known (C := RX6) (T := TX6) (N := 33) (n := 33) hts inX6 (hts (.instantiable RX6 33) (by decide +kernel))
  refine ⟨(fun k => [c0, c1, c2, c3, c4, c5, c6].getD k c0, fun k => [i0, i1, i2, i3, i4, i5, i6].getD k i0), fun k q hq => ?_⟩
  match k, hq with
  | 0, hq => cases hq; exact h0
  | 1, hq => cases hq; exact h1
  | 2, hq => cases hq; exact h2
  | 3, hq => cases hq; exact h3
  | 4, hq => cases hq; exact h4
  | 5, hq => cases hq; exact h5
  | 6, hq => cases hq; exact h6
  | k + 7, hq => simp at hq
theorem s_K {args : Array Value} {s : State} (hts : ∀ w ∈ lw_tbl, w.before args s = true) : ∃ (D : va_G) (cI cJ cZ cL cW : ClassId), va_K D vwCl [(cI, .int), (cJ, .long), (cZ, .boolean), (cL, .object "MoonRelay$Letter"), (cW, .object "MoonRelay$Ways")] s := by
  obtain ⟨D, hD⟩ := s_D hts
  obtain ⟨cI, a0, b0⟩ := s_arr (t := .int) (hts (.arrayClass .int) (by decide +kernel)) (fun n h => by cases h)
  obtain ⟨cJ, a1, b1⟩ := s_arr (t := .long) (hts (.arrayClass .long) (by decide +kernel)) (fun n h => by cases h)
  obtain ⟨cZ, a2, b2⟩ := s_arr (t := .boolean) (hts (.arrayClass .boolean) (by decide +kernel)) (fun n h => by cases h)
  obtain ⟨cL, a3, b3⟩ := s_arrO (n := "MoonRelay$Letter") (hts (.arrayOver (.object "MoonRelay$Letter")) (by decide +kernel))
  obtain ⟨cW, a4, b4⟩ := s_arrO (n := "MoonRelay$Ways") (hts (.arrayOver (.object "MoonRelay$Ways")) (by decide +kernel))
  refine ⟨D, cI, cJ, cZ, cL, cW, hD, fun k q hq => ?_⟩
  match k, hq with
  | 0, hq => cases hq; exact ⟨a0, b0⟩
  | 1, hq => cases hq; exact ⟨a1, b1⟩
  | 2, hq => cases hq; exact ⟨a2, b2⟩
  | 3, hq => cases hq; exact ⟨a3, b3⟩
  | 4, hq => cases hq; exact ⟨a4, b4⟩
  | k + 5, hq => simp at hq
theorem gNq_in : ∀ q ∈ gNq, Cond.methodLinkNest q.1 q.2.1 q.2.2 "MoonRelay" ∈ lw_tbl := by decide +kernel
theorem s_N {args : Array Value} {s : State} (hts : ∀ w ∈ lw_tbl, w.before args s = true) : gN s := fun q hq => va_Nw.of rfl (hts _ (gNq_in q hq))
theorem gBad_in : ∀ w ∈ gBad, w ∈ lw_tbl := by decide +kernel
theorem gBad_tab : ∀ w ∈ gBad, w.onTables = true := by decide +kernel
theorem gStr_in : ∀ q ∈ gStr, Cond.stringRef RX5 q.1 q.2 ∈ lw_tbl := by decide +kernel
theorem gNcs_in : ∀ q ∈ gNcs, Cond.not (.castable q.1 q.2) ∈ flatC (Jvm.Cond.and given_1 narrow_1) := by decide +kernel
theorem s_E {l : Launch} {args : Array Value} {s : State} (hst : l.stackTraces = false) (hts : ∀ w ∈ lw_tbl, w.before args s = true) (hg : (Jvm.Cond.and given_1 narrow_1).before args s = true) : gE l (fun q => s.heap.size ≤ q) s s.heap := by
  have hs := flat_of_before _ hg
  have hA : ∀ a : Nat, a < s.heap.size → ¬ (fun q : Nat => s.heap.size ≤ q) a := fun a h => Nat.not_le.mpr h
  refine ⟨hst, fun w hw => va_Nw.of (gBad_tab w hw) (hts w (gBad_in w hw)), fun q hq => ?_, fun q hq => va_Nc.of (hs _ (gNcs_in q hq)), ?_, ?_⟩
  · have h := hts _ (gStr_in q hq)
    have hc : ∃ cur, s.vm.findClass RX5 = some cur := by
      obtain ⟨D, hD⟩ := s_D hts
      exact ⟨_, (hD 5 _ rfl).2.1⟩
    obtain ⟨cur, hcur⟩ := hc
    obtain ⟨k, cf, i, a, -, -, -, -, -, h1⟩ := Cond.stringRef_spec hcur h
    exact ⟨a, vk_R.of h h1⟩
  · exact vx_Zqof (hts (.laysStatic Bundle.tN "UNASSIGNED_STACK" Bundle.steD) (by decide +kernel)) (hts (.initialized Bundle.tN) (by decide +kernel)) (hs (.isRef (.static Bundle.tN "UNASSIGNED_STACK" Bundle.steD)) (by decide +kernel)) hA
  · exact vx_Zqof (hts (.laysStatic Bundle.tN "SUPPRESSED_SENTINEL" Bundle.listD) (by decide +kernel)) (hts (.initialized Bundle.tN) (by decide +kernel)) (hs (.isRef (.static Bundle.tN "SUPPRESSED_SENTINEL" Bundle.listD)) (by decide +kernel)) hA
set_option maxHeartbeats 4000000 in
set_option maxRecDepth 100000 in
theorem whole_start {p : Program} {e : Env} {s : State} {m : MethodId} {below : List Frame} {meth : Method} {c : Code} (l : Launch) (hst : l.stackTraces = false) {b L : Nat} {xs : Nat → Int32} (hL : L ≤ 2048) (C0 : lw_At p s m meth c b L xs) : W p l e room_1 s m #[Value.ref b] below meth c s.heap [] 0 0 (lw_Z below #[Value.ref b] s) (entryFrame m ([Value.ref b] : List Value).toArray 7) := by
  obtain ⟨hx, hb, hr, hml, hown, htl, hX, hbl, hlk, hgv⟩ := C0
  have hb : c.code = cL_law := hb
  have hts : ∀ w ∈ wsL_law, w.before #[Value.ref b] s = true := fun w h => htl w (wsL_law_in w h)
  have hA : ∀ q : Nat, s.heap.size ≤ q → (fun q : Nat => s.heap.size ≤ q) q := fun _ h => h
  have hN := s_N htl
  have hE := s_E hst htl hgv
  obtain ⟨D, cI, cJ, cZ, cL, cW, hK⟩ := s_K htl
  have C : cX p s m #[Value.ref b] meth c cL_law 7 ret wsL_law RL true D [(cI, .int), (cJ, .long), (cZ, .boolean), (cL, .object "MoonRelay$Letter"), (cW, .object "MoonRelay$Ways")] (fun q : Nat => s.heap.size ≤ q) := ⟨hx, hb, hml, hown, hts, ⟨hK, hN, fun _ => va_AO.of (htl (.arrayOver (.object "MoonRelay$Letter")) (by decide +kernel)), fun _ => va_AO.of (htl (.arrayOver (.object "MoonRelay$Ways")) (by decide +kernel))⟩, hr, hlk, hA⟩
  have hS : va_S (fun q : Nat => s.heap.size ≤ q) s.heap s.heap [] := va_S.rf
  have hP : va_P D vwCl [] s.heap := fun k q h => by simp at h
  have hD : va_D (fun q : Nat => s.heap.size ≤ q) [] := ⟨fun i j p q h => by simp at h, fun k q h => by simp at h⟩
  have hl := lv_entry ([.ref b]) (n := 7) (Nat.le_of_ble_eq_true rfl)
  rw [lg_entry_eq]
  generalize (lg_sl ([.ref b]) ++ List.replicate (7 - (lg_sl ([.ref b])).length) Slot.unset).toArray = ls at hl ⊢
  have hl : lv_has ls 7 [(0, .ref b)] := hl
  refine va_new (ci := 5) (fs := [.null, .null, .null, .null]) (C := RX5) (T := TX5) (N := 4) hx hb hts inlX5 tyX5 tyX5_ok hown (hts _ (List.mem_of_getElem? (i := 0) rfl)) (hts _ (List.mem_of_getElem? (i := 1) rfl)) (hts _ (List.mem_of_getElem? (i := 2) rfl)) hK hP hD hS hA rfl (fun j hj => by rcases (show j = 0 ∨ j = 1 ∨ j = 2 ∨ j = 3 by omega) with rfl | rfl | rfl | rfl <;> rfl) (Nat.le_of_ble_eq_true rfl) (Nat.le_of_ble_eq_true rfl) dL_law_0 (fun h5 H hP hD hS => ?_)
  have hP : va_P D vwCl [(h5, .inr (5, [.null, .null, .null, .null]))] H := hP
  have hD : va_D (fun q : Nat => s.heap.size ≤ q) [(h5, .inr (5, [.null, .null, .null, .null]))] := hD
  refine lv_dup hx hb dL_law_3 rfl ?_
  refine c_callI (As := []) (wr := []) [0] [] C hP hD hS kX5_init (cwI 0 hts gL_law_X5_init rfl rfl rfl (hts _ (List.mem_of_getElem? (i := 2) rfl)) (hts _ (List.mem_of_getElem? (i := 7) rfl)) (hts _ (List.mem_of_getElem? (i := 8) rfl)) rfl hdcX5_init ⟨Nat.le_of_ble_eq_true rfl, Nat.le_of_ble_eq_true rfl⟩) rfl rfl (by decide) (by decide) (by decide) rfl hl.1 rfl (Nat.le_of_ble_eq_true rfl) dL_law_4 ⟨Nat.le_of_ble_eq_true rfl, Nat.le_of_ble_eq_true rfl⟩ (fun z H locs hP hD hS => ?_)
  have hP : va_P D vwCl (sW5 h5 cI cJ cZ cL cW z) H := hP
  have hD : va_D (fun q : Nat => s.heap.size ≤ q) (sW5 h5 cI cJ cZ cL cW z) := hD
  refine lv_astore_n (lv' := [(1, .ref h5), (0, .ref b)]) hx hb dL_law_7 rfl hl (by decide) rfl (fun ls hl => ?_)
  refine va_new (ci := 6) (fs := (.int 0 :: .int 0 :: .null :: .null :: .null :: .null :: .int 0 :: .null :: .null :: .int 0 :: .null :: .null :: .null :: .int 0 :: .null :: .null :: .null :: .null :: .null :: .null :: .null :: .null :: .null :: .null :: .null :: .null :: .null :: .null :: .null :: .null :: .null :: .int 0 :: .int 0 :: [])) (C := RX6) (T := TX6) (N := 33) hx hb hts inlX6 tyX6 tyX6_ok hown (hts _ (List.mem_of_getElem? (i := 3) rfl)) (hts _ (List.mem_of_getElem? (i := 4) rfl)) (hts _ (List.mem_of_getElem? (i := 5) rfl)) hK hP hD hS hA rfl (fun j hj => by rcases (show j = 0 ∨ j = 1 ∨ j = 2 ∨ j = 3 ∨ j = 4 ∨ j = 5 ∨ j = 6 ∨ j = 7 ∨ j = 8 ∨ j = 9 ∨ j = 10 ∨ j = 11 ∨ j = 12 ∨ j = 13 ∨ j = 14 ∨ j = 15 ∨ j = 16 ∨ j = 17 ∨ j = 18 ∨ j = 19 ∨ j = 20 ∨ j = 21 ∨ j = 22 ∨ j = 23 ∨ j = 24 ∨ j = 25 ∨ j = 26 ∨ j = 27 ∨ j = 28 ∨ j = 29 ∨ j = 30 ∨ j = 31 ∨ j = 32 by omega) with rfl | rfl | rfl | rfl | rfl | rfl | rfl | rfl | rfl | rfl | rfl | rfl | rfl | rfl | rfl | rfl | rfl | rfl | rfl | rfl | rfl | rfl | rfl | rfl | rfl | rfl | rfl | rfl | rfl | rfl | rfl | rfl | rfl <;> rfl) (Nat.le_of_ble_eq_true rfl) (Nat.le_of_ble_eq_true rfl) dL_law_8 (fun h6 H hP hD hS => ?_)
  refine lv_dup hx hb dL_law_11 rfl ?_
  refine c_callI (As := []) (wr := sW5 h5 cI cJ cZ cL cW z) [20] [0, 1, 2, 3, 4, 5, 6, 7, 8, 9, 10, 11, 12, 13, 14, 15, 16, 17, 18, 19] C hP hD hS kX6_init (cwI 0 hts gL_law_X6_init rfl rfl rfl (hts _ (List.mem_of_getElem? (i := 5) rfl)) (hts _ (List.mem_of_getElem? (i := 59) rfl)) (hts _ (List.mem_of_getElem? (i := 60) rfl)) rfl hdcX6_init ⟨Nat.le_of_ble_eq_true rfl, Nat.le_of_ble_eq_true rfl⟩) rfl rfl (by decide) (by decide) (by decide) rfl hl.1 rfl (Nat.le_of_ble_eq_true rfl) dL_law_12 ⟨Nat.le_of_ble_eq_true rfl, Nat.le_of_ble_eq_true rfl⟩ (fun y H locs hP hD hS => ?_)
  have hP : va_P D vwCl (sW5 h5 cI cJ cZ cL cW z ++ sW6 h6 cI cZ y) H := hP
  have hD : va_D (fun q : Nat => s.heap.size ≤ q) (sW5 h5 cI cJ cZ cL cW z ++ sW6 h6 cI cZ y) := hD
  refine lv_astore_n (lv' := [(2, .ref h6), (1, .ref h5), (0, .ref b)]) hx hb dL_law_15 rfl hl (by decide) rfl (fun ls hl => ?_)
  refine lv_iconst (v := (1 : Int32)) hx hb dL_law_16 (by decide) ?_
  refine c_newa (atype := .long) (ty := .long) (a0 := (1, .inr (.inl (fun _ => 0)))) (N' := 1) 1 C (hts _ (List.mem_of_getElem? (i := 6) rfl)) rfl (Or.inr (Or.inl rfl)) rfl hP hD hS (c0_J 1) (by decide +kernel) (by decide +kernel) (by decide +kernel) (Nat.le_of_ble_eq_true rfl) (Nat.le_of_ble_eq_true rfl) dL_law_17 (fun o H hP hD hS => ?_)
  refine lv_astore_n (lv' := [(3, .ref o), (2, .ref h6), (1, .ref h5), (0, .ref b)]) hx hb dL_law_19 rfl hl (by decide) rfl (fun ls hl => ?_)
  refine lv_iconst (v := (0 : Int32)) hx hb dL_law_20 (by decide) ?_
  refine lv_istore (lv' := [(4, .int 0), (3, .ref o), (2, .ref h6), (1, .ref h5), (0, .ref b)]) hx hb dL_law_21 hl (by decide) rfl (fun ls hl => ?_)
  rw [List.append_assoc] at hP hD
  have hG : GS D (sB h5 h6 o cI cJ cZ cL cW z y) (fun q : Nat => s.heap.size ≤ q) s.heap sG0 H locs := ⟨hP.sub sIx (s_filt _ _ _ (s_gW h5 h6 o cI cJ cZ cL cW z y)), hD.sub sIx (by decide +kernel) (s_gW h5 h6 o cI cJ cZ cL cW z y), hS⟩
  have CX : gX p s m #[Value.ref b] meth c cL_law 7 ret wsL_law RL D (sB h5 h6 o cI cJ cZ cL cW z y) (fun q => s.heap.size ≤ q) := ⟨hx, hb, hml, hown, hts, hK, hr, hlk, hA, hN⟩
  have hf := b_loop (L := L) (xs := xs) hL 513 0 rfl (fun _ => 0) (fun _ _ => 0) 0 0 (fun _ _ => 0) (fun _ _ => 0) (fun _ => 0) (fun _ => 0) (fun _ => 0) 0 (fun _ _ => 0) (fun _ => 0) 0 (fun _ _ => 0) (fun _ _ => 0) (fun _ _ => 0) (fun _ _ _ => 0) (fun _ _ => 0) (fun _ => 0) (fun _ _ => 0) (fun _ => 0) (gInv_0 (fun _ _ => rfl) (fun _ _ => rfl) (fun _ _ => rfl) (fun _ => rfl) (fun _ _ => rfl))
  exact vL_loop (c0 := 48) (s0 := 29107) CX hE hX hbl hL (by decide) (by decide) 514 0 _ _ _ _ _ _ _ _ _ _ _ _ _ _ _ _ _ _ _ _ _ H locs ls (by decide) hf hG (lv_sub hl [4, 3, 2, 1, 0] rfl)

def K_open (n : Nat) (mm : Int32) (parent : Int32) (label : Int32) (heap : Int64) (c_lab : Nat → Int32) (c_par : Nat → Int32) (c_hp : Nat → Int64) : Option ((Nat → Int32) × (Nat → Int32) × (Nat → Int64)) :=
  if mm < 0 ∨ 6 ≤ (mm).toNatClampNeg then none else (if mm < 0 ∨ 6 ≤ (mm).toNatClampNeg then none else (if mm < 0 ∨ 7 ≤ (mm).toNatClampNeg then none else (some ((eUp c_lab (mm).toNatClampNeg label), (eUp c_par (mm).toNatClampNeg parent), (eUp c_hp (mm).toNatClampNeg heap)))))
theorem T_K_open {X : Nat × (Nat → Int32)} {H : eH} {c : Nat} {mm : Int32} {parent : Int32} {label : Int32} {heap : Int64} {c_lab : Nat → Int32} {c_par : Nat → Int32} {c_hp : Nat → Int64} {n : Nat} {res : (Nat → Int32) × (Nat → Int32) × (Nat → Int64)} (hc_c : H.1 c = some (.inr (3, [.ref (c + 1), .ref (c + 2), .ref (c + 3)]))) (hc_cl : H.1 (c + 1) = some (.inl (0, 6, .inl c_lab))) (hc_cp : H.1 (c + 2) = some (.inl (0, 6, .inl c_par))) (hc_ch : H.1 (c + 3) = some (.inl (1, 7, .inr (.inl c_hp)))) (hok_c : c = 20 ∨ c = 348 ∨ c = 352 ∨ (25 ≤ c ∧ c ≤ 341 ∧ c % 4 = 1)) (hM : K_open n mm parent label heap c_lab c_par c_hp = some res) : eEv pP X 1 91 [.ref c, .int mm, .int parent, .int label, .long heap] H (.inl (none), (eW2 H [(c + 1, .inl (0, 6, .inl res.1)), (c + 2, .inl (0, 6, .inl res.2.1)), (c + 3, .inl (1, 7, .inr (.inl res.2.2)))])) := by
  have hN : ([c + 1, c + 2, c + 3] : List Nat).Nodup := by first | decide | (simp <;> omega)
  have hO_c : c ∉ ([c + 1, c + 2, c + 3] : List Nat) := by first | decide | (simp <;> omega)
  have h0 : (eW2 H [(c + 1, .inl (0, 6, .inl c_lab)), (c + 2, .inl (0, 6, .inl c_par)), (c + 3, .inl (1, 7, .inr (.inl c_hp)))]) = H := eW2_self (by simp only [List.forall_mem_cons]; exact ⟨hc_cl, hc_cp, hc_ch, fun _ h => absurd h List.not_mem_nil⟩)
  rw [show eEv pP X 1 91 _ H = eEv pP X 1 91 _ (eW2 H [(c + 1, .inl (0, 6, .inl c_lab)), (c + 2, .inl (0, 6, .inl c_par)), (c + 3, .inl (1, 7, .inr (.inl c_hp)))]) by rw [h0]]
  refine eEv.of (Nat.not_lt.mpr (Nat.le_of_ble_eq_true rfl)) ?_
  refine eGs.steps 0 (y := (0, [some (.ref c), some (.int mm), some (.int parent), some (.int label), some (.long heap), none], [], (eW2 H [(c + 1, .inl (0, 6, .inl c_lab)), (c + 2, .inl (0, 6, .inl c_par)), (c + 3, .inl (1, 7, .inr (.inl c_hp)))]))) rfl ?_
  unfold K_open at hM
  refine eGs.steps 1 (y := (1, [some (.ref c), some (.int mm), some (.int parent), some (.int label), some (.long heap), none], [.ref c], (eW2 H [(c + 1, .inl (0, 6, .inl c_lab)), (c + 2, .inl (0, 6, .inl c_par)), (c + 3, .inl (1, 7, .inr (.inl c_hp)))]))) rfl ?_
  refine g_getf rfl rfl (by omega) ((eW2_offA hO_c rfl).trans hc_c) rfl ?_
  refine eGs.steps 0 (y := (4, [some (.ref c), some (.int mm), some (.int parent), some (.int label), some (.long heap), none], [.ref (c + 1)], (eW2 H [(c + 1, .inl (0, 6, .inl c_lab)), (c + 2, .inl (0, 6, .inl c_par)), (c + 3, .inl (1, 7, .inr (.inl c_hp)))]))) rfl ?_
  refine eGs.steps 2 (y := (6, [some (.ref c), some (.int mm), some (.int parent), some (.int label), some (.long heap), none], [.int label, .int mm, .ref (c + 1)], (eW2 H [(c + 1, .inl (0, 6, .inl c_lab)), (c + 2, .inl (0, 6, .inl c_par)), (c + 3, .inl (1, 7, .inr (.inl c_hp)))]))) rfl ?_
  obtain ⟨hg1, hM⟩ := dg_none hM
  refine g_iastW rfl (by omega) (eW2_getA hN 0 rfl rfl) hg1 (eW2_setA hN 0 rfl rfl) ?_
  refine eGs.steps 0 (y := (7, [some (.ref c), some (.int mm), some (.int parent), some (.int label), some (.long heap), none], [], (eW2 H [(c + 1, .inl (0, 6, .inl (eUp c_lab (mm).toNatClampNeg label))), (c + 2, .inl (0, 6, .inl c_par)), (c + 3, .inl (1, 7, .inr (.inl c_hp)))]))) rfl ?_
  refine eGs.steps 1 (y := (8, [some (.ref c), some (.int mm), some (.int parent), some (.int label), some (.long heap), none], [.ref c], (eW2 H [(c + 1, .inl (0, 6, .inl (eUp c_lab (mm).toNatClampNeg label))), (c + 2, .inl (0, 6, .inl c_par)), (c + 3, .inl (1, 7, .inr (.inl c_hp)))]))) rfl ?_
  refine g_getf rfl rfl (by omega) ((eW2_offA hO_c rfl).trans hc_c) rfl ?_
  refine eGs.steps 0 (y := (11, [some (.ref c), some (.int mm), some (.int parent), some (.int label), some (.long heap), none], [.ref (c + 2)], (eW2 H [(c + 1, .inl (0, 6, .inl (eUp c_lab (mm).toNatClampNeg label))), (c + 2, .inl (0, 6, .inl c_par)), (c + 3, .inl (1, 7, .inr (.inl c_hp)))]))) rfl ?_
  refine eGs.steps 2 (y := (13, [some (.ref c), some (.int mm), some (.int parent), some (.int label), some (.long heap), none], [.int parent, .int mm, .ref (c + 2)], (eW2 H [(c + 1, .inl (0, 6, .inl (eUp c_lab (mm).toNatClampNeg label))), (c + 2, .inl (0, 6, .inl c_par)), (c + 3, .inl (1, 7, .inr (.inl c_hp)))]))) rfl ?_
  obtain ⟨hg2, hM⟩ := dg_none hM
  refine g_iastW rfl (by omega) (eW2_getA hN 1 rfl rfl) hg2 (eW2_setA hN 1 rfl rfl) ?_
  refine eGs.steps 0 (y := (14, [some (.ref c), some (.int mm), some (.int parent), some (.int label), some (.long heap), none], [], (eW2 H [(c + 1, .inl (0, 6, .inl (eUp c_lab (mm).toNatClampNeg label))), (c + 2, .inl (0, 6, .inl (eUp c_par (mm).toNatClampNeg parent))), (c + 3, .inl (1, 7, .inr (.inl c_hp)))]))) rfl ?_
  refine eGs.steps 1 (y := (15, [some (.ref c), some (.int mm), some (.int parent), some (.int label), some (.long heap), none], [.ref c], (eW2 H [(c + 1, .inl (0, 6, .inl (eUp c_lab (mm).toNatClampNeg label))), (c + 2, .inl (0, 6, .inl (eUp c_par (mm).toNatClampNeg parent))), (c + 3, .inl (1, 7, .inr (.inl c_hp)))]))) rfl ?_
  refine g_getf rfl rfl (by omega) ((eW2_offA hO_c rfl).trans hc_c) rfl ?_
  refine eGs.steps 0 (y := (18, [some (.ref c), some (.int mm), some (.int parent), some (.int label), some (.long heap), none], [.ref (c + 3)], (eW2 H [(c + 1, .inl (0, 6, .inl (eUp c_lab (mm).toNatClampNeg label))), (c + 2, .inl (0, 6, .inl (eUp c_par (mm).toNatClampNeg parent))), (c + 3, .inl (1, 7, .inr (.inl c_hp)))]))) rfl ?_
  refine eGs.steps 2 (y := (21, [some (.ref c), some (.int mm), some (.int parent), some (.int label), some (.long heap), none], [.long heap, .int mm, .ref (c + 3)], (eW2 H [(c + 1, .inl (0, 6, .inl (eUp c_lab (mm).toNatClampNeg label))), (c + 2, .inl (0, 6, .inl (eUp c_par (mm).toNatClampNeg parent))), (c + 3, .inl (1, 7, .inr (.inl c_hp)))]))) rfl ?_
  obtain ⟨hg3, hM⟩ := dg_none hM
  refine g_lastW rfl (by omega) (eW2_getA hN 2 rfl rfl) hg3 (eW2_setA hN 2 rfl rfl) ?_
  refine eGs.steps 0 (y := (22, [some (.ref c), some (.int mm), some (.int parent), some (.int label), some (.long heap), none], [], (eW2 H [(c + 1, .inl (0, 6, .inl (eUp c_lab (mm).toNatClampNeg label))), (c + 2, .inl (0, 6, .inl (eUp c_par (mm).toNatClampNeg parent))), (c + 3, .inl (1, 7, .inr (.inl (eUp c_hp (mm).toNatClampNeg heap))))]))) rfl ?_
  cases hM
  exact eGs.fin rfl rfl rfl
def K_close (n : Nat) (mm : Int32) (c_lab : Nat → Int32) (c_par : Nat → Int32) (c_hp : Nat → Int64) : Option ((Nat → Int32) × (Nat → Int32) × (Nat → Int64)) :=
  (K_open n mm (-1 : Int32) (-1 : Int32) (0 : Int64) c_lab c_par c_hp).bind fun v1 => (some (v1.1, v1.2.1, v1.2.2))
theorem T_K_close {X : Nat × (Nat → Int32)} {H : eH} {c : Nat} {mm : Int32} {c_lab : Nat → Int32} {c_par : Nat → Int32} {c_hp : Nat → Int64} {n : Nat} {res : (Nat → Int32) × (Nat → Int32) × (Nat → Int64)} (hc_c : H.1 c = some (.inr (3, [.ref (c + 1), .ref (c + 2), .ref (c + 3)]))) (hc_cl : H.1 (c + 1) = some (.inl (0, 6, .inl c_lab))) (hc_cp : H.1 (c + 2) = some (.inl (0, 6, .inl c_par))) (hc_ch : H.1 (c + 3) = some (.inl (1, 7, .inr (.inl c_hp)))) (hok_c : c = 20 ∨ c = 348 ∨ c = 352 ∨ (25 ≤ c ∧ c ≤ 341 ∧ c % 4 = 1)) (hM : K_close n mm c_lab c_par c_hp = some res) : eEv pP X 2 92 [.ref c, .int mm] H (.inl (none), (eW2 H [(c + 1, .inl (0, 6, .inl res.1)), (c + 2, .inl (0, 6, .inl res.2.1)), (c + 3, .inl (1, 7, .inr (.inl res.2.2)))])) := by
  have hN : ([c + 1, c + 2, c + 3] : List Nat).Nodup := by first | decide | (simp <;> omega)
  have hO_c : c ∉ ([c + 1, c + 2, c + 3] : List Nat) := by first | decide | (simp <;> omega)
  have h0 : (eW2 H [(c + 1, .inl (0, 6, .inl c_lab)), (c + 2, .inl (0, 6, .inl c_par)), (c + 3, .inl (1, 7, .inr (.inl c_hp)))]) = H := eW2_self (by simp only [List.forall_mem_cons]; exact ⟨hc_cl, hc_cp, hc_ch, fun _ h => absurd h List.not_mem_nil⟩)
  rw [show eEv pP X 2 92 _ H = eEv pP X 2 92 _ (eW2 H [(c + 1, .inl (0, 6, .inl c_lab)), (c + 2, .inl (0, 6, .inl c_par)), (c + 3, .inl (1, 7, .inr (.inl c_hp)))]) by rw [h0]]
  refine eEv.of (Nat.not_lt.mpr (Nat.le_of_ble_eq_true rfl)) ?_
  refine eGs.steps 0 (y := (0, [some (.ref c), some (.int mm)], [], (eW2 H [(c + 1, .inl (0, 6, .inl c_lab)), (c + 2, .inl (0, 6, .inl c_par)), (c + 3, .inl (1, 7, .inr (.inl c_hp)))]))) rfl ?_
  unfold K_close at hM
  refine eGs.steps 5 (y := (5, [some (.ref c), some (.int mm)], [.long (0 : Int64), .int (-1 : Int32), .int (-1 : Int32), .int mm, .ref c], (eW2 H [(c + 1, .inl (0, 6, .inl c_lab)), (c + 2, .inl (0, 6, .inl c_par)), (c + 3, .inl (1, 7, .inr (.inl c_hp)))]))) rfl ?_
  obtain ⟨v1, hv, hM⟩ := dg_bind hM
  have hE := eEv_putA (T_K_open (X := X) (H := (eW2 H [(c + 1, .inl (0, 6, .inl c_lab)), (c + 2, .inl (0, 6, .inl c_par)), (c + 3, .inl (1, 7, .inr (.inl c_hp)))])) (hc_c := ((eW2_offA hO_c rfl).trans hc_c)) (hc_cl := (eW2_getA hN 0 rfl rfl)) (hc_cp := (eW2_getA hN 1 rfl rfl)) (hc_ch := (eW2_getA hN 2 rfl rfl)) (hok_c := by first | assumption | omega) hv) [0, 1, 2] hN rfl (by first | decide | (simp <;> omega)) rfl (eFor2_ok rfl)
  refine g_callV rfl rfl rfl rfl rfl (by omega) ((eW2_offA hO_c rfl).trans hc_c) rfl (hE.mono (by first | decide | omega)) ?_
  refine eGs.steps 0 (y := (8, [some (.ref c), some (.int mm)], [], (eW2 H [(c + 1, .inl (0, 6, .inl v1.1)), (c + 2, .inl (0, 6, .inl v1.2.1)), (c + 3, .inl (1, 7, .inr (.inl v1.2.2)))]))) rfl ?_
  cases hM
  exact eGs.fin rfl rfl rfl
def K_reset_2 (skinLabel : Int32)  : Nat → (Int32) → (Nat → Int32) → (Nat → Int32) → (Nat → Int64) → Option ((Nat → Int32) × (Nat → Int32) × (Nat → Int64))
  | 0, _, _, _, _ => none
  | n + 1, L2, c_lab, c_par, c_hp =>
    if (6 : Int32) ≤ L2 then ((K_open n (0 : Int32) (6 : Int32) skinLabel (0 : Int64) c_lab c_par c_hp).bind fun v1 => (if (6 : Int32) < 0 ∨ 7 ≤ ((6 : Int32)).toNatClampNeg then none else (some (v1.1, v1.2.1, (eUp v1.2.2 ((6 : Int32)).toNatClampNeg (0 : Int64)))))) else ((K_close n L2 c_lab c_par c_hp).bind fun v3 => (K_reset_2 skinLabel n (L2 + (1 : Int32)) v3.1 v3.2.1 v3.2.2))
def K_reset (n : Nat) (skinLabel : Int32) (c_lab : Nat → Int32) (c_par : Nat → Int32) (c_hp : Nat → Int64) : Option ((Nat → Int32) × (Nat → Int32) × (Nat → Int64)) :=
  K_reset_2 skinLabel n (0 : Int32) c_lab c_par c_hp
theorem T_K_reset_2 {X : Nat × (Nat → Int32)} {H : eH} {c : Nat} {skinLabel : Int32} (hc_c : H.1 c = some (.inr (3, [.ref (c + 1), .ref (c + 2), .ref (c + 3)]))) (hok_c : c = 20 ∨ c = 348 ∨ c = 352 ∨ (25 ≤ c ∧ c ≤ 341 ∧ c % 4 = 1)) : ∀ (n : Nat) (L2 : Int32) (c_lab : Nat → Int32) (c_par : Nat → Int32) (c_hp : Nat → Int64) (res : (Nat → Int32) × (Nat → Int32) × (Nat → Int64)), K_reset_2 skinLabel  n L2 c_lab c_par c_hp = some res → eGs pP X 2 90 (2, [some (.ref c), some (.int skinLabel), some (.int L2)], [], (eW2 H [(c + 1, .inl (0, 6, .inl c_lab)), (c + 2, .inl (0, 6, .inl c_par)), (c + 3, .inl (1, 7, .inr (.inl c_hp)))])) (.inl (none), (eW2 H [(c + 1, .inl (0, 6, .inl res.1)), (c + 2, .inl (0, 6, .inl res.2.1)), (c + 3, .inl (1, 7, .inr (.inl res.2.2)))])) := by
  have hN : ([c + 1, c + 2, c + 3] : List Nat).Nodup := by first | decide | (simp <;> omega)
  have hO_c : c ∉ ([c + 1, c + 2, c + 3] : List Nat) := by first | decide | (simp <;> omega)
  intro n
  induction n with
  | zero =>
    intro L2 c_lab c_par c_hp res hM
    cases hM
  | succ n ih =>
    intro L2 c_lab c_par c_hp res hM
    rw [K_reset_2] at hM
    refine eGs.steps 2 (y := (5, [some (.ref c), some (.int skinLabel), some (.int L2)], [.int (6 : Int32), .int L2], (eW2 H [(c + 1, .inl (0, 6, .inl c_lab)), (c + 2, .inl (0, 6, .inl c_par)), (c + 3, .inl (1, 7, .inr (.inl c_hp)))]))) rfl ?_
    by_cases hc : (6 : Int32) ≤ L2
    · rw [if_pos hc] at hM
      refine g_icmp (cd := .ge) (t := 19) true rfl (decide_eq_true hc) rfl ?_
      refine eGs.steps 5 (y := (25, [some (.ref c), some (.int skinLabel), some (.int L2)], [.long (0 : Int64), .int skinLabel, .int (6 : Int32), .int (0 : Int32), .ref c], (eW2 H [(c + 1, .inl (0, 6, .inl c_lab)), (c + 2, .inl (0, 6, .inl c_par)), (c + 3, .inl (1, 7, .inr (.inl c_hp)))]))) rfl ?_
      obtain ⟨v1, hv, hM⟩ := dg_bind hM
      have hE := eEv_putA (T_K_open (X := X) (H := (eW2 H [(c + 1, .inl (0, 6, .inl c_lab)), (c + 2, .inl (0, 6, .inl c_par)), (c + 3, .inl (1, 7, .inr (.inl c_hp)))])) (hc_c := ((eW2_offA hO_c rfl).trans hc_c)) (hc_cl := (eW2_getA hN 0 rfl rfl)) (hc_cp := (eW2_getA hN 1 rfl rfl)) (hc_ch := (eW2_getA hN 2 rfl rfl)) (hok_c := by first | assumption | omega) hv) [0, 1, 2] hN rfl (by first | decide | (simp <;> omega)) rfl (eFor2_ok rfl)
      refine g_callV rfl rfl rfl rfl rfl (by omega) ((eW2_offA hO_c rfl).trans hc_c) rfl (hE.mono (by first | decide | omega)) ?_
      refine eGs.steps 0 (y := (28, [some (.ref c), some (.int skinLabel), some (.int L2)], [], (eW2 H [(c + 1, .inl (0, 6, .inl v1.1)), (c + 2, .inl (0, 6, .inl v1.2.1)), (c + 3, .inl (1, 7, .inr (.inl v1.2.2)))]))) rfl ?_
      refine eGs.steps 1 (y := (29, [some (.ref c), some (.int skinLabel), some (.int L2)], [.ref c], (eW2 H [(c + 1, .inl (0, 6, .inl v1.1)), (c + 2, .inl (0, 6, .inl v1.2.1)), (c + 3, .inl (1, 7, .inr (.inl v1.2.2)))]))) rfl ?_
      refine g_getf rfl rfl (by omega) ((eW2_offA hO_c rfl).trans hc_c) rfl ?_
      refine eGs.steps 0 (y := (32, [some (.ref c), some (.int skinLabel), some (.int L2)], [.ref (c + 3)], (eW2 H [(c + 1, .inl (0, 6, .inl v1.1)), (c + 2, .inl (0, 6, .inl v1.2.1)), (c + 3, .inl (1, 7, .inr (.inl v1.2.2)))]))) rfl ?_
      refine eGs.steps 2 (y := (35, [some (.ref c), some (.int skinLabel), some (.int L2)], [.long (0 : Int64), .int (6 : Int32), .ref (c + 3)], (eW2 H [(c + 1, .inl (0, 6, .inl v1.1)), (c + 2, .inl (0, 6, .inl v1.2.1)), (c + 3, .inl (1, 7, .inr (.inl v1.2.2)))]))) rfl ?_
      obtain ⟨hg2, hM⟩ := dg_none hM
      refine g_lastW rfl (by omega) (eW2_getA hN 2 rfl rfl) hg2 (eW2_setA hN 2 rfl rfl) ?_
      refine eGs.steps 0 (y := (36, [some (.ref c), some (.int skinLabel), some (.int L2)], [], (eW2 H [(c + 1, .inl (0, 6, .inl v1.1)), (c + 2, .inl (0, 6, .inl v1.2.1)), (c + 3, .inl (1, 7, .inr (.inl (eUp v1.2.2 ((6 : Int32)).toNatClampNeg (0 : Int64)))))]))) rfl ?_
      cases hM
      exact eGs.fin rfl rfl rfl
    · rw [if_neg hc] at hM
      refine g_icmp (cd := .ge) (t := 19) false rfl (decide_eq_false hc) rfl ?_
      refine eGs.steps 2 (y := (10, [some (.ref c), some (.int skinLabel), some (.int L2)], [.int L2, .ref c], (eW2 H [(c + 1, .inl (0, 6, .inl c_lab)), (c + 2, .inl (0, 6, .inl c_par)), (c + 3, .inl (1, 7, .inr (.inl c_hp)))]))) rfl ?_
      obtain ⟨v3, hv, hM⟩ := dg_bind hM
      have hE := eEv_putA (T_K_close (X := X) (H := (eW2 H [(c + 1, .inl (0, 6, .inl c_lab)), (c + 2, .inl (0, 6, .inl c_par)), (c + 3, .inl (1, 7, .inr (.inl c_hp)))])) (hc_c := ((eW2_offA hO_c rfl).trans hc_c)) (hc_cl := (eW2_getA hN 0 rfl rfl)) (hc_cp := (eW2_getA hN 1 rfl rfl)) (hc_ch := (eW2_getA hN 2 rfl rfl)) (hok_c := by first | assumption | omega) hv) [0, 1, 2] hN rfl (by first | decide | (simp <;> omega)) rfl (eFor2_ok rfl)
      refine g_callV rfl rfl rfl rfl rfl (by omega) ((eW2_offA hO_c rfl).trans hc_c) rfl (hE.mono (by first | decide | omega)) ?_
      refine eGs.steps 0 (y := (13, [some (.ref c), some (.int skinLabel), some (.int L2)], [], (eW2 H [(c + 1, .inl (0, 6, .inl v3.1)), (c + 2, .inl (0, 6, .inl v3.2.1)), (c + 3, .inl (1, 7, .inr (.inl v3.2.2)))]))) rfl ?_
      refine eGs.steps 2 (y := (2, [some (.ref c), some (.int skinLabel), some (.int (L2 + (1 : Int32)))], [], (eW2 H [(c + 1, .inl (0, 6, .inl v3.1)), (c + 2, .inl (0, 6, .inl v3.2.1)), (c + 3, .inl (1, 7, .inr (.inl v3.2.2)))]))) rfl ?_
      exact ih _ _ _ _ _ hM
theorem T_K_reset {X : Nat × (Nat → Int32)} {H : eH} {c : Nat} {skinLabel : Int32} {c_lab : Nat → Int32} {c_par : Nat → Int32} {c_hp : Nat → Int64} {n : Nat} {res : (Nat → Int32) × (Nat → Int32) × (Nat → Int64)} (hc_c : H.1 c = some (.inr (3, [.ref (c + 1), .ref (c + 2), .ref (c + 3)]))) (hc_cl : H.1 (c + 1) = some (.inl (0, 6, .inl c_lab))) (hc_cp : H.1 (c + 2) = some (.inl (0, 6, .inl c_par))) (hc_ch : H.1 (c + 3) = some (.inl (1, 7, .inr (.inl c_hp)))) (hok_c : c = 20 ∨ c = 348 ∨ c = 352 ∨ (25 ≤ c ∧ c ≤ 341 ∧ c % 4 = 1)) (hM : K_reset n skinLabel c_lab c_par c_hp = some res) : eEv pP X 3 90 [.ref c, .int skinLabel] H (.inl (none), (eW2 H [(c + 1, .inl (0, 6, .inl res.1)), (c + 2, .inl (0, 6, .inl res.2.1)), (c + 3, .inl (1, 7, .inr (.inl res.2.2)))])) := by
  have hN : ([c + 1, c + 2, c + 3] : List Nat).Nodup := by first | decide | (simp <;> omega)
  have hO_c : c ∉ ([c + 1, c + 2, c + 3] : List Nat) := by first | decide | (simp <;> omega)
  have h0 : (eW2 H [(c + 1, .inl (0, 6, .inl c_lab)), (c + 2, .inl (0, 6, .inl c_par)), (c + 3, .inl (1, 7, .inr (.inl c_hp)))]) = H := eW2_self (by simp only [List.forall_mem_cons]; exact ⟨hc_cl, hc_cp, hc_ch, fun _ h => absurd h List.not_mem_nil⟩)
  rw [show eEv pP X 3 90 _ H = eEv pP X 3 90 _ (eW2 H [(c + 1, .inl (0, 6, .inl c_lab)), (c + 2, .inl (0, 6, .inl c_par)), (c + 3, .inl (1, 7, .inr (.inl c_hp)))]) by rw [h0]]
  refine eEv.of (Nat.not_lt.mpr (Nat.le_of_ble_eq_true rfl)) ?_
  refine eGs.steps 0 (y := (0, [some (.ref c), some (.int skinLabel), none], [], (eW2 H [(c + 1, .inl (0, 6, .inl c_lab)), (c + 2, .inl (0, 6, .inl c_par)), (c + 3, .inl (1, 7, .inr (.inl c_hp)))]))) rfl ?_
  unfold K_reset at hM
  refine eGs.steps 2 (y := (2, [some (.ref c), some (.int skinLabel), some (.int (0 : Int32))], [], (eW2 H [(c + 1, .inl (0, 6, .inl c_lab)), (c + 2, .inl (0, 6, .inl c_par)), (c + 3, .inl (1, 7, .inr (.inl c_hp)))]))) rfl ?_
  exact T_K_reset_2 (c := c) (skinLabel := skinLabel) (hc_c := hc_c) (hok_c := hok_c) n _ _ _ _ _ hM
def K_isSame_2 (c_lab : Nat → Int32) (c_par : Nat → Int32) (c_hp : Nat → Int64) (o_lab : Nat → Int32) (o_par : Nat → Int32) (o_hp : Nat → Int64)  : Nat → (Int32) → Option (Int32)
  | 0, _ => none
  | n + 1, L2 =>
    if (6 : Int32) ≤ L2 then (if (6 : Int32) < 0 ∨ 7 ≤ ((6 : Int32)).toNatClampNeg then none else (if (6 : Int32) < 0 ∨ 7 ≤ ((6 : Int32)).toNatClampNeg then none else (if (lg_cmp (c_hp ((6 : Int32)).toNatClampNeg) (o_hp ((6 : Int32)).toNatClampNeg)) = 0 then (some ((1 : Int32) &&& 1)) else (some ((0 : Int32) &&& 1))))) else (if L2 < 0 ∨ 7 ≤ (L2).toNatClampNeg then none else (if L2 < 0 ∨ 7 ≤ (L2).toNatClampNeg then none else (if (lg_cmp (c_hp (L2).toNatClampNeg) (o_hp (L2).toNatClampNeg)) = 0 then (if L2 < 0 ∨ 6 ≤ (L2).toNatClampNeg then none else (if L2 < 0 ∨ 6 ≤ (L2).toNatClampNeg then none else (if (c_lab (L2).toNatClampNeg) = (o_lab (L2).toNatClampNeg) then (if L2 < 0 ∨ 6 ≤ (L2).toNatClampNeg then none else (if L2 < 0 ∨ 6 ≤ (L2).toNatClampNeg then none else (if (c_par (L2).toNatClampNeg) = (o_par (L2).toNatClampNeg) then (K_isSame_2 c_lab c_par c_hp o_lab o_par o_hp n (L2 + (1 : Int32))) else (some ((0 : Int32) &&& 1))))) else (some ((0 : Int32) &&& 1))))) else (some ((0 : Int32) &&& 1)))))
def K_isSame (n : Nat) (c_lab : Nat → Int32) (c_par : Nat → Int32) (c_hp : Nat → Int64) (o_lab : Nat → Int32) (o_par : Nat → Int32) (o_hp : Nat → Int64) : Option (Int32) :=
  K_isSame_2 c_lab c_par c_hp o_lab o_par o_hp n (0 : Int32)
theorem T_K_isSame_2 {X : Nat × (Nat → Int32)} {H : eH} {c : Nat} {o : Nat} {c_lab : Nat → Int32} {c_par : Nat → Int32} {c_hp : Nat → Int64} {o_lab : Nat → Int32} {o_par : Nat → Int32} {o_hp : Nat → Int64} (hc_c : H.1 c = some (.inr (3, [.ref (c + 1), .ref (c + 2), .ref (c + 3)]))) (hc_cl : H.1 (c + 1) = some (.inl (0, 6, .inl c_lab))) (hc_cp : H.1 (c + 2) = some (.inl (0, 6, .inl c_par))) (hc_ch : H.1 (c + 3) = some (.inl (1, 7, .inr (.inl c_hp)))) (hc_o : H.1 o = some (.inr (3, [.ref (o + 1), .ref (o + 2), .ref (o + 3)]))) (hc_ol : H.1 (o + 1) = some (.inl (0, 6, .inl o_lab))) (hc_op : H.1 (o + 2) = some (.inl (0, 6, .inl o_par))) (hc_oh : H.1 (o + 3) = some (.inl (1, 7, .inr (.inl o_hp)))) (hok_c : c = 20 ∨ c = 348 ∨ c = 352 ∨ (25 ≤ c ∧ c ≤ 341 ∧ c % 4 = 1)) (hok_o : o = 20 ∨ o = 348 ∨ o = 352 ∨ (25 ≤ o ∧ o ≤ 341 ∧ o % 4 = 1)) : ∀ (n : Nat) (L2 : Int32) (res : Int32), K_isSame_2 c_lab c_par c_hp o_lab o_par o_hp  n L2 = some res → eGs pP X 0 94 (2, [some (.ref c), some (.ref o), some (.int L2)], [], H) (.inl (some (.int res)), H) := by
  intro n
  induction n with
  | zero =>
    intro L2 res hM
    cases hM
  | succ n ih =>
    intro L2 res hM
    rw [K_isSame_2] at hM
    refine eGs.steps 2 (y := (5, [some (.ref c), some (.ref o), some (.int L2)], [.int (6 : Int32), .int L2], H)) rfl ?_
    by_cases hc : (6 : Int32) ≤ L2
    · rw [if_pos hc] at hM
      refine g_icmp (cd := .ge) (t := 62) true rfl (decide_eq_true hc) rfl ?_
      refine eGs.steps 1 (y := (63, [some (.ref c), some (.ref o), some (.int L2)], [.ref c], H)) rfl ?_
      refine g_getf rfl rfl (by omega) hc_c rfl ?_
      refine eGs.steps 0 (y := (66, [some (.ref c), some (.ref o), some (.int L2)], [.ref (c + 3)], H)) rfl ?_
      refine eGs.steps 1 (y := (68, [some (.ref c), some (.ref o), some (.int L2)], [.int (6 : Int32), .ref (c + 3)], H)) rfl ?_
      obtain ⟨hg1, hM⟩ := dg_none hM
      refine g_lald rfl (by omega) hc_ch hg1 ?_
      refine eGs.steps 0 (y := (69, [some (.ref c), some (.ref o), some (.int L2)], [.long (c_hp ((6 : Int32)).toNatClampNeg)], H)) rfl ?_
      refine eGs.steps 1 (y := (70, [some (.ref c), some (.ref o), some (.int L2)], [.ref o, .long (c_hp ((6 : Int32)).toNatClampNeg)], H)) rfl ?_
      refine g_getf rfl rfl (by omega) hc_o rfl ?_
      refine eGs.steps 0 (y := (73, [some (.ref c), some (.ref o), some (.int L2)], [.ref (o + 3), .long (c_hp ((6 : Int32)).toNatClampNeg)], H)) rfl ?_
      refine eGs.steps 1 (y := (75, [some (.ref c), some (.ref o), some (.int L2)], [.int (6 : Int32), .ref (o + 3), .long (c_hp ((6 : Int32)).toNatClampNeg)], H)) rfl ?_
      obtain ⟨hg2, hM⟩ := dg_none hM
      refine g_lald rfl (by omega) hc_oh hg2 ?_
      refine eGs.steps 0 (y := (76, [some (.ref c), some (.ref o), some (.int L2)], [.long (o_hp ((6 : Int32)).toNatClampNeg), .long (c_hp ((6 : Int32)).toNatClampNeg)], H)) rfl ?_
      refine eGs.steps 1 (y := (77, [some (.ref c), some (.ref o), some (.int L2)], [.int (lg_cmp (c_hp ((6 : Int32)).toNatClampNeg) (o_hp ((6 : Int32)).toNatClampNeg))], H)) rfl ?_
      by_cases hc : (lg_cmp (c_hp ((6 : Int32)).toNatClampNeg) (o_hp ((6 : Int32)).toNatClampNeg)) = 0
      · rw [if_pos hc] at hM
        refine g_if (cd := .ne) (t := 84) false rfl (decide_eq_false (fun z => z hc)) rfl ?_
        refine eGs.steps 2 (y := (85, [some (.ref c), some (.ref o), some (.int L2)], [.int (1 : Int32)], H)) rfl ?_
        cases hM
        exact eGs.fin rfl rfl rfl
      · rw [if_neg hc] at hM
        refine g_if (cd := .ne) (t := 84) true rfl (decide_eq_true hc) rfl ?_
        refine eGs.steps 1 (y := (85, [some (.ref c), some (.ref o), some (.int L2)], [.int (0 : Int32)], H)) rfl ?_
        cases hM
        exact eGs.fin rfl rfl rfl
    · rw [if_neg hc] at hM
      refine g_icmp (cd := .ge) (t := 62) false rfl (decide_eq_false hc) rfl ?_
      refine eGs.steps 1 (y := (9, [some (.ref c), some (.ref o), some (.int L2)], [.ref c], H)) rfl ?_
      refine g_getf rfl rfl (by omega) hc_c rfl ?_
      refine eGs.steps 0 (y := (12, [some (.ref c), some (.ref o), some (.int L2)], [.ref (c + 3)], H)) rfl ?_
      refine eGs.steps 1 (y := (13, [some (.ref c), some (.ref o), some (.int L2)], [.int L2, .ref (c + 3)], H)) rfl ?_
      obtain ⟨hg3, hM⟩ := dg_none hM
      refine g_lald rfl (by omega) hc_ch hg3 ?_
      refine eGs.steps 0 (y := (14, [some (.ref c), some (.ref o), some (.int L2)], [.long (c_hp (L2).toNatClampNeg)], H)) rfl ?_
      refine eGs.steps 1 (y := (15, [some (.ref c), some (.ref o), some (.int L2)], [.ref o, .long (c_hp (L2).toNatClampNeg)], H)) rfl ?_
      refine g_getf rfl rfl (by omega) hc_o rfl ?_
      refine eGs.steps 0 (y := (18, [some (.ref c), some (.ref o), some (.int L2)], [.ref (o + 3), .long (c_hp (L2).toNatClampNeg)], H)) rfl ?_
      refine eGs.steps 1 (y := (19, [some (.ref c), some (.ref o), some (.int L2)], [.int L2, .ref (o + 3), .long (c_hp (L2).toNatClampNeg)], H)) rfl ?_
      obtain ⟨hg4, hM⟩ := dg_none hM
      refine g_lald rfl (by omega) hc_oh hg4 ?_
      refine eGs.steps 0 (y := (20, [some (.ref c), some (.ref o), some (.int L2)], [.long (o_hp (L2).toNatClampNeg), .long (c_hp (L2).toNatClampNeg)], H)) rfl ?_
      refine eGs.steps 1 (y := (21, [some (.ref c), some (.ref o), some (.int L2)], [.int (lg_cmp (c_hp (L2).toNatClampNeg) (o_hp (L2).toNatClampNeg))], H)) rfl ?_
      by_cases hc : (lg_cmp (c_hp (L2).toNatClampNeg) (o_hp (L2).toNatClampNeg)) = 0
      · rw [if_pos hc] at hM
        refine g_if (cd := .ne) (t := 54) false rfl (decide_eq_false (fun z => z hc)) rfl ?_
        refine eGs.steps 1 (y := (25, [some (.ref c), some (.ref o), some (.int L2)], [.ref c], H)) rfl ?_
        refine g_getf rfl rfl (by omega) hc_c rfl ?_
        refine eGs.steps 0 (y := (28, [some (.ref c), some (.ref o), some (.int L2)], [.ref (c + 1)], H)) rfl ?_
        refine eGs.steps 1 (y := (29, [some (.ref c), some (.ref o), some (.int L2)], [.int L2, .ref (c + 1)], H)) rfl ?_
        obtain ⟨hg5, hM⟩ := dg_none hM
        refine g_iald rfl (by omega) hc_cl hg5 ?_
        refine eGs.steps 0 (y := (30, [some (.ref c), some (.ref o), some (.int L2)], [.int (c_lab (L2).toNatClampNeg)], H)) rfl ?_
        refine eGs.steps 1 (y := (31, [some (.ref c), some (.ref o), some (.int L2)], [.ref o, .int (c_lab (L2).toNatClampNeg)], H)) rfl ?_
        refine g_getf rfl rfl (by omega) hc_o rfl ?_
        refine eGs.steps 0 (y := (34, [some (.ref c), some (.ref o), some (.int L2)], [.ref (o + 1), .int (c_lab (L2).toNatClampNeg)], H)) rfl ?_
        refine eGs.steps 1 (y := (35, [some (.ref c), some (.ref o), some (.int L2)], [.int L2, .ref (o + 1), .int (c_lab (L2).toNatClampNeg)], H)) rfl ?_
        obtain ⟨hg6, hM⟩ := dg_none hM
        refine g_iald rfl (by omega) hc_ol hg6 ?_
        refine eGs.steps 0 (y := (36, [some (.ref c), some (.ref o), some (.int L2)], [.int (o_lab (L2).toNatClampNeg), .int (c_lab (L2).toNatClampNeg)], H)) rfl ?_
        by_cases hc : (c_lab (L2).toNatClampNeg) = (o_lab (L2).toNatClampNeg)
        · rw [if_pos hc] at hM
          refine g_icmp (cd := .ne) (t := 54) false rfl (decide_eq_false (fun z => z hc)) rfl ?_
          refine eGs.steps 1 (y := (40, [some (.ref c), some (.ref o), some (.int L2)], [.ref c], H)) rfl ?_
          refine g_getf rfl rfl (by omega) hc_c rfl ?_
          refine eGs.steps 0 (y := (43, [some (.ref c), some (.ref o), some (.int L2)], [.ref (c + 2)], H)) rfl ?_
          refine eGs.steps 1 (y := (44, [some (.ref c), some (.ref o), some (.int L2)], [.int L2, .ref (c + 2)], H)) rfl ?_
          obtain ⟨hg7, hM⟩ := dg_none hM
          refine g_iald rfl (by omega) hc_cp hg7 ?_
          refine eGs.steps 0 (y := (45, [some (.ref c), some (.ref o), some (.int L2)], [.int (c_par (L2).toNatClampNeg)], H)) rfl ?_
          refine eGs.steps 1 (y := (46, [some (.ref c), some (.ref o), some (.int L2)], [.ref o, .int (c_par (L2).toNatClampNeg)], H)) rfl ?_
          refine g_getf rfl rfl (by omega) hc_o rfl ?_
          refine eGs.steps 0 (y := (49, [some (.ref c), some (.ref o), some (.int L2)], [.ref (o + 2), .int (c_par (L2).toNatClampNeg)], H)) rfl ?_
          refine eGs.steps 1 (y := (50, [some (.ref c), some (.ref o), some (.int L2)], [.int L2, .ref (o + 2), .int (c_par (L2).toNatClampNeg)], H)) rfl ?_
          obtain ⟨hg8, hM⟩ := dg_none hM
          refine g_iald rfl (by omega) hc_op hg8 ?_
          refine eGs.steps 0 (y := (51, [some (.ref c), some (.ref o), some (.int L2)], [.int (o_par (L2).toNatClampNeg), .int (c_par (L2).toNatClampNeg)], H)) rfl ?_
          by_cases hc : (c_par (L2).toNatClampNeg) = (o_par (L2).toNatClampNeg)
          · rw [if_pos hc] at hM
            refine g_icmp (cd := .eq) (t := 56) true rfl (decide_eq_true hc) rfl ?_
            refine eGs.steps 2 (y := (2, [some (.ref c), some (.ref o), some (.int (L2 + (1 : Int32)))], [], H)) rfl ?_
            exact ih _ _ hM
          · rw [if_neg hc] at hM
            refine g_icmp (cd := .eq) (t := 56) false rfl (decide_eq_false hc) rfl ?_
            refine eGs.steps 1 (y := (55, [some (.ref c), some (.ref o), some (.int L2)], [.int (0 : Int32)], H)) rfl ?_
            cases hM
            exact eGs.fin rfl rfl rfl
        · rw [if_neg hc] at hM
          refine g_icmp (cd := .ne) (t := 54) true rfl (decide_eq_true hc) rfl ?_
          refine eGs.steps 1 (y := (55, [some (.ref c), some (.ref o), some (.int L2)], [.int (0 : Int32)], H)) rfl ?_
          cases hM
          exact eGs.fin rfl rfl rfl
      · rw [if_neg hc] at hM
        refine g_if (cd := .ne) (t := 54) true rfl (decide_eq_true hc) rfl ?_
        refine eGs.steps 1 (y := (55, [some (.ref c), some (.ref o), some (.int L2)], [.int (0 : Int32)], H)) rfl ?_
        cases hM
        exact eGs.fin rfl rfl rfl
theorem T_K_isSame {X : Nat × (Nat → Int32)} {H : eH} {c : Nat} {o : Nat} {c_lab : Nat → Int32} {c_par : Nat → Int32} {c_hp : Nat → Int64} {o_lab : Nat → Int32} {o_par : Nat → Int32} {o_hp : Nat → Int64} {n : Nat} {res : Int32} (hc_c : H.1 c = some (.inr (3, [.ref (c + 1), .ref (c + 2), .ref (c + 3)]))) (hc_cl : H.1 (c + 1) = some (.inl (0, 6, .inl c_lab))) (hc_cp : H.1 (c + 2) = some (.inl (0, 6, .inl c_par))) (hc_ch : H.1 (c + 3) = some (.inl (1, 7, .inr (.inl c_hp)))) (hc_o : H.1 o = some (.inr (3, [.ref (o + 1), .ref (o + 2), .ref (o + 3)]))) (hc_ol : H.1 (o + 1) = some (.inl (0, 6, .inl o_lab))) (hc_op : H.1 (o + 2) = some (.inl (0, 6, .inl o_par))) (hc_oh : H.1 (o + 3) = some (.inl (1, 7, .inr (.inl o_hp)))) (hok_c : c = 20 ∨ c = 348 ∨ c = 352 ∨ (25 ≤ c ∧ c ≤ 341 ∧ c % 4 = 1)) (hok_o : o = 20 ∨ o = 348 ∨ o = 352 ∨ (25 ≤ o ∧ o ≤ 341 ∧ o % 4 = 1)) (hM : K_isSame n c_lab c_par c_hp o_lab o_par o_hp = some res) : eEv pP X 1 94 [.ref c, .ref o] H (.inl (some (.int res)), H) := by
  refine eEv.of (Nat.not_lt.mpr (Nat.le_of_ble_eq_true rfl)) ?_
  refine eGs.steps 0 (y := (0, [some (.ref c), some (.ref o), none], [], H)) rfl ?_
  unfold K_isSame at hM
  refine eGs.steps 2 (y := (2, [some (.ref c), some (.ref o), some (.int (0 : Int32))], [], H)) rfl ?_
  exact T_K_isSame_2 (c := c) (o := o) (c_lab := c_lab) (c_par := c_par) (c_hp := c_hp) (o_lab := o_lab) (o_par := o_par) (o_hp := o_hp) (hc_c := hc_c) (hc_cl := hc_cl) (hc_cp := hc_cp) (hc_ch := hc_ch) (hc_o := hc_o) (hc_ol := hc_ol) (hc_op := hc_op) (hc_oh := hc_oh) (hok_c := hok_c) (hok_o := hok_o) n _ _ hM
def K_has (n : Nat) (mm : Int32) (c_lab : Nat → Int32) : Option (Int32) :=
  if mm < 0 then (some ((0 : Int32) &&& 1)) else (if (6 : Int32) ≤ mm then (some ((0 : Int32) &&& 1)) else (if mm < 0 ∨ 6 ≤ (mm).toNatClampNeg then none else (if (c_lab (mm).toNatClampNeg) = (-1 : Int32) then (some ((0 : Int32) &&& 1)) else (some ((1 : Int32) &&& 1)))))
theorem T_K_has {X : Nat × (Nat → Int32)} {H : eH} {c : Nat} {mm : Int32} {c_lab : Nat → Int32} {n : Nat} {res : Int32} (hc_c : H.1 c = some (.inr (3, [.ref (c + 1), .ref (c + 2), .ref (c + 3)]))) (hc_cl : H.1 (c + 1) = some (.inl (0, 6, .inl c_lab))) (hok_c : c = 20 ∨ c = 348 ∨ c = 352 ∨ (25 ≤ c ∧ c ≤ 341 ∧ c % 4 = 1)) (hM : K_has n mm c_lab = some res) : eEv pP X 1 95 [.ref c, .int mm] H (.inl (some (.int res)), H) := by
  refine eEv.of (Nat.not_lt.mpr (Nat.le_of_ble_eq_true rfl)) ?_
  refine eGs.steps 0 (y := (0, [some (.ref c), some (.int mm)], [], H)) rfl ?_
  unfold K_has at hM
  refine eGs.steps 1 (y := (1, [some (.ref c), some (.int mm)], [.int mm], H)) rfl ?_
  by_cases hc : mm < 0
  · rw [if_pos hc] at hM
    refine g_if (cd := .lt) (t := 24) true rfl (decide_eq_true hc) rfl ?_
    refine eGs.steps 1 (y := (25, [some (.ref c), some (.int mm)], [.int (0 : Int32)], H)) rfl ?_
    cases hM
    exact eGs.fin rfl rfl rfl
  · rw [if_neg hc] at hM
    refine g_if (cd := .lt) (t := 24) false rfl (decide_eq_false hc) rfl ?_
    refine eGs.steps 2 (y := (7, [some (.ref c), some (.int mm)], [.int (6 : Int32), .int mm], H)) rfl ?_
    by_cases hc : (6 : Int32) ≤ mm
    · rw [if_pos hc] at hM
      refine g_icmp (cd := .ge) (t := 24) true rfl (decide_eq_true hc) rfl ?_
      refine eGs.steps 1 (y := (25, [some (.ref c), some (.int mm)], [.int (0 : Int32)], H)) rfl ?_
      cases hM
      exact eGs.fin rfl rfl rfl
    · rw [if_neg hc] at hM
      refine g_icmp (cd := .ge) (t := 24) false rfl (decide_eq_false hc) rfl ?_
      refine eGs.steps 1 (y := (11, [some (.ref c), some (.int mm)], [.ref c], H)) rfl ?_
      refine g_getf rfl rfl (by omega) hc_c rfl ?_
      refine eGs.steps 0 (y := (14, [some (.ref c), some (.int mm)], [.ref (c + 1)], H)) rfl ?_
      refine eGs.steps 1 (y := (15, [some (.ref c), some (.int mm)], [.int mm, .ref (c + 1)], H)) rfl ?_
      obtain ⟨hg1, hM⟩ := dg_none hM
      refine g_iald rfl (by omega) hc_cl hg1 ?_
      refine eGs.steps 0 (y := (16, [some (.ref c), some (.int mm)], [.int (c_lab (mm).toNatClampNeg)], H)) rfl ?_
      refine eGs.steps 1 (y := (17, [some (.ref c), some (.int mm)], [.int (-1 : Int32), .int (c_lab (mm).toNatClampNeg)], H)) rfl ?_
      by_cases hc : (c_lab (mm).toNatClampNeg) = (-1 : Int32)
      · rw [if_pos hc] at hM
        refine g_icmp (cd := .eq) (t := 24) true rfl (decide_eq_true hc) rfl ?_
        refine eGs.steps 1 (y := (25, [some (.ref c), some (.int mm)], [.int (0 : Int32)], H)) rfl ?_
        cases hM
        exact eGs.fin rfl rfl rfl
      · rw [if_neg hc] at hM
        refine g_icmp (cd := .eq) (t := 24) false rfl (decide_eq_false hc) rfl ?_
        refine eGs.steps 2 (y := (25, [some (.ref c), some (.int mm)], [.int (1 : Int32)], H)) rfl ?_
        cases hM
        exact eGs.fin rfl rfl rfl
def K_leastFree_2 (c_lab : Nat → Int32)  : Nat → (Int32) → Option (Int32)
  | 0, _ => none
  | n + 1, L1 =>
    if (6 : Int32) ≤ L1 then (some (-1 : Int32)) else (if L1 < 0 ∨ 6 ≤ (L1).toNatClampNeg then none else (if (c_lab (L1).toNatClampNeg) = (-1 : Int32) then (some L1) else (K_leastFree_2 c_lab n (L1 + (1 : Int32)))))
def K_leastFree (n : Nat) (c_lab : Nat → Int32) : Option (Int32) :=
  K_leastFree_2 c_lab n (0 : Int32)
theorem T_K_leastFree_2 {X : Nat × (Nat → Int32)} {H : eH} {c : Nat} {c_lab : Nat → Int32} (hc_c : H.1 c = some (.inr (3, [.ref (c + 1), .ref (c + 2), .ref (c + 3)]))) (hc_cl : H.1 (c + 1) = some (.inl (0, 6, .inl c_lab))) (hok_c : c = 20 ∨ c = 348 ∨ c = 352 ∨ (25 ≤ c ∧ c ≤ 341 ∧ c % 4 = 1)) : ∀ (n : Nat) (L1 : Int32) (res : Int32), K_leastFree_2 c_lab  n L1 = some res → eGs pP X 0 96 (2, [some (.ref c), some (.int L1)], [], H) (.inl (some (.int res)), H) := by
  intro n
  induction n with
  | zero =>
    intro L1 res hM
    cases hM
  | succ n ih =>
    intro L1 res hM
    rw [K_leastFree_2] at hM
    refine eGs.steps 2 (y := (5, [some (.ref c), some (.int L1)], [.int (6 : Int32), .int L1], H)) rfl ?_
    by_cases hc : (6 : Int32) ≤ L1
    · rw [if_pos hc] at hM
      refine g_icmp (cd := .ge) (t := 26) true rfl (decide_eq_true hc) rfl ?_
      refine eGs.steps 1 (y := (27, [some (.ref c), some (.int L1)], [.int (-1 : Int32)], H)) rfl ?_
      cases hM
      exact eGs.fin rfl rfl rfl
    · rw [if_neg hc] at hM
      refine g_icmp (cd := .ge) (t := 26) false rfl (decide_eq_false hc) rfl ?_
      refine eGs.steps 1 (y := (9, [some (.ref c), some (.int L1)], [.ref c], H)) rfl ?_
      refine g_getf rfl rfl (by omega) hc_c rfl ?_
      refine eGs.steps 0 (y := (12, [some (.ref c), some (.int L1)], [.ref (c + 1)], H)) rfl ?_
      refine eGs.steps 1 (y := (13, [some (.ref c), some (.int L1)], [.int L1, .ref (c + 1)], H)) rfl ?_
      obtain ⟨hg1, hM⟩ := dg_none hM
      refine g_iald rfl (by omega) hc_cl hg1 ?_
      refine eGs.steps 0 (y := (14, [some (.ref c), some (.int L1)], [.int (c_lab (L1).toNatClampNeg)], H)) rfl ?_
      refine eGs.steps 1 (y := (15, [some (.ref c), some (.int L1)], [.int (-1 : Int32), .int (c_lab (L1).toNatClampNeg)], H)) rfl ?_
      by_cases hc : (c_lab (L1).toNatClampNeg) = (-1 : Int32)
      · rw [if_pos hc] at hM
        refine g_icmp (cd := .ne) (t := 20) false rfl (decide_eq_false (fun z => z hc)) rfl ?_
        refine eGs.steps 1 (y := (19, [some (.ref c), some (.int L1)], [.int L1], H)) rfl ?_
        cases hM
        exact eGs.fin rfl rfl rfl
      · rw [if_neg hc] at hM
        refine g_icmp (cd := .ne) (t := 20) true rfl (decide_eq_true hc) rfl ?_
        refine eGs.steps 2 (y := (2, [some (.ref c), some (.int (L1 + (1 : Int32)))], [], H)) rfl ?_
        exact ih _ _ hM
theorem T_K_leastFree {X : Nat × (Nat → Int32)} {H : eH} {c : Nat} {c_lab : Nat → Int32} {n : Nat} {res : Int32} (hc_c : H.1 c = some (.inr (3, [.ref (c + 1), .ref (c + 2), .ref (c + 3)]))) (hc_cl : H.1 (c + 1) = some (.inl (0, 6, .inl c_lab))) (hok_c : c = 20 ∨ c = 348 ∨ c = 352 ∨ (25 ≤ c ∧ c ≤ 341 ∧ c % 4 = 1)) (hM : K_leastFree n c_lab = some res) : eEv pP X 1 96 [.ref c] H (.inl (some (.int res)), H) := by
  refine eEv.of (Nat.not_lt.mpr (Nat.le_of_ble_eq_true rfl)) ?_
  refine eGs.steps 0 (y := (0, [some (.ref c), none], [], H)) rfl ?_
  unfold K_leastFree at hM
  refine eGs.steps 2 (y := (2, [some (.ref c), some (.int (0 : Int32))], [], H)) rfl ?_
  exact T_K_leastFree_2 (c := c) (c_lab := c_lab) (hc_c := hc_c) (hc_cl := hc_cl) (hok_c := hok_c) n _ _ hM
def K_countChildren_4 (mm : Int32) (c_par : Nat → Int32)  : Nat → (Int32) → (Int32) → Option (Int32)
  | 0, _, _ => none
  | n + 1, L2, L3 =>
    if (6 : Int32) ≤ L3 then (some L2) else (if L3 < 0 ∨ 6 ≤ (L3).toNatClampNeg then none else (if (c_par (L3).toNatClampNeg) = mm then (K_countChildren_4 mm c_par n (L2 + (1 : Int32)) (L3 + (1 : Int32))) else (K_countChildren_4 mm c_par n L2 (L3 + (1 : Int32)))))
def K_countChildren (n : Nat) (mm : Int32) (c_par : Nat → Int32) : Option (Int32) :=
  K_countChildren_4 mm c_par n (0 : Int32) (0 : Int32)
theorem T_K_countChildren_4 {X : Nat × (Nat → Int32)} {H : eH} {c : Nat} {mm : Int32} {c_par : Nat → Int32} (hc_c : H.1 c = some (.inr (3, [.ref (c + 1), .ref (c + 2), .ref (c + 3)]))) (hc_cp : H.1 (c + 2) = some (.inl (0, 6, .inl c_par))) (hok_c : c = 20 ∨ c = 348 ∨ c = 352 ∨ (25 ≤ c ∧ c ≤ 341 ∧ c % 4 = 1)) : ∀ (n : Nat) (L2 : Int32) (L3 : Int32) (res : Int32), K_countChildren_4 mm c_par  n L2 L3 = some res → eGs pP X 0 97 (4, [some (.ref c), some (.int mm), some (.int L2), some (.int L3)], [], H) (.inl (some (.int res)), H) := by
  intro n
  induction n with
  | zero =>
    intro L2 L3 res hM
    cases hM
  | succ n ih =>
    intro L2 L3 res hM
    rw [K_countChildren_4] at hM
    refine eGs.steps 2 (y := (7, [some (.ref c), some (.int mm), some (.int L2), some (.int L3)], [.int (6 : Int32), .int L3], H)) rfl ?_
    by_cases hc : (6 : Int32) ≤ L3
    · rw [if_pos hc] at hM
      refine g_icmp (cd := .ge) (t := 29) true rfl (decide_eq_true hc) rfl ?_
      refine eGs.steps 1 (y := (30, [some (.ref c), some (.int mm), some (.int L2), some (.int L3)], [.int L2], H)) rfl ?_
      cases hM
      exact eGs.fin rfl rfl rfl
    · rw [if_neg hc] at hM
      refine g_icmp (cd := .ge) (t := 29) false rfl (decide_eq_false hc) rfl ?_
      refine eGs.steps 1 (y := (11, [some (.ref c), some (.int mm), some (.int L2), some (.int L3)], [.ref c], H)) rfl ?_
      refine g_getf rfl rfl (by omega) hc_c rfl ?_
      refine eGs.steps 0 (y := (14, [some (.ref c), some (.int mm), some (.int L2), some (.int L3)], [.ref (c + 2)], H)) rfl ?_
      refine eGs.steps 1 (y := (15, [some (.ref c), some (.int mm), some (.int L2), some (.int L3)], [.int L3, .ref (c + 2)], H)) rfl ?_
      obtain ⟨hg1, hM⟩ := dg_none hM
      refine g_iald rfl (by omega) hc_cp hg1 ?_
      refine eGs.steps 0 (y := (16, [some (.ref c), some (.int mm), some (.int L2), some (.int L3)], [.int (c_par (L3).toNatClampNeg)], H)) rfl ?_
      refine eGs.steps 1 (y := (17, [some (.ref c), some (.int mm), some (.int L2), some (.int L3)], [.int mm, .int (c_par (L3).toNatClampNeg)], H)) rfl ?_
      by_cases hc : (c_par (L3).toNatClampNeg) = mm
      · rw [if_pos hc] at hM
        refine g_icmp (cd := .ne) (t := 23) false rfl (decide_eq_false (fun z => z hc)) rfl ?_
        refine eGs.steps 3 (y := (4, [some (.ref c), some (.int mm), some (.int (L2 + (1 : Int32))), some (.int (L3 + (1 : Int32)))], [], H)) rfl ?_
        exact ih _ _ _ hM
      · rw [if_neg hc] at hM
        refine g_icmp (cd := .ne) (t := 23) true rfl (decide_eq_true hc) rfl ?_
        refine eGs.steps 2 (y := (4, [some (.ref c), some (.int mm), some (.int L2), some (.int (L3 + (1 : Int32)))], [], H)) rfl ?_
        exact ih _ _ _ hM
theorem T_K_countChildren {X : Nat × (Nat → Int32)} {H : eH} {c : Nat} {mm : Int32} {c_par : Nat → Int32} {n : Nat} {res : Int32} (hc_c : H.1 c = some (.inr (3, [.ref (c + 1), .ref (c + 2), .ref (c + 3)]))) (hc_cp : H.1 (c + 2) = some (.inl (0, 6, .inl c_par))) (hok_c : c = 20 ∨ c = 348 ∨ c = 352 ∨ (25 ≤ c ∧ c ≤ 341 ∧ c % 4 = 1)) (hM : K_countChildren n mm c_par = some res) : eEv pP X 1 97 [.ref c, .int mm] H (.inl (some (.int res)), H) := by
  refine eEv.of (Nat.not_lt.mpr (Nat.le_of_ble_eq_true rfl)) ?_
  refine eGs.steps 0 (y := (0, [some (.ref c), some (.int mm), none, none], [], H)) rfl ?_
  unfold K_countChildren at hM
  refine eGs.steps 4 (y := (4, [some (.ref c), some (.int mm), some (.int (0 : Int32)), some (.int (0 : Int32))], [], H)) rfl ?_
  exact T_K_countChildren_4 (c := c) (mm := mm) (c_par := c_par) (hc_c := hc_c) (hc_cp := hc_cp) (hok_c := hok_c) n _ _ _ hM
def K_firstChildWith_2 (mm : Int32) (label : Int32) (c_lab : Nat → Int32) (c_par : Nat → Int32)  : Nat → (Int32) → Option (Int32)
  | 0, _ => none
  | n + 1, L3 =>
    if (6 : Int32) ≤ L3 then (some (-1 : Int32)) else (if L3 < 0 ∨ 6 ≤ (L3).toNatClampNeg then none else (if (c_par (L3).toNatClampNeg) = mm then (if L3 < 0 ∨ 6 ≤ (L3).toNatClampNeg then none else (if (c_lab (L3).toNatClampNeg) = label then (some L3) else (K_firstChildWith_2 mm label c_lab c_par n (L3 + (1 : Int32))))) else (K_firstChildWith_2 mm label c_lab c_par n (L3 + (1 : Int32)))))
def K_firstChildWith (n : Nat) (mm : Int32) (label : Int32) (c_lab : Nat → Int32) (c_par : Nat → Int32) : Option (Int32) :=
  K_firstChildWith_2 mm label c_lab c_par n (0 : Int32)
theorem T_K_firstChildWith_2 {X : Nat × (Nat → Int32)} {H : eH} {c : Nat} {mm : Int32} {label : Int32} {c_lab : Nat → Int32} {c_par : Nat → Int32} (hc_c : H.1 c = some (.inr (3, [.ref (c + 1), .ref (c + 2), .ref (c + 3)]))) (hc_cl : H.1 (c + 1) = some (.inl (0, 6, .inl c_lab))) (hc_cp : H.1 (c + 2) = some (.inl (0, 6, .inl c_par))) (hok_c : c = 20 ∨ c = 348 ∨ c = 352 ∨ (25 ≤ c ∧ c ≤ 341 ∧ c % 4 = 1)) : ∀ (n : Nat) (L3 : Int32) (res : Int32), K_firstChildWith_2 mm label c_lab c_par  n L3 = some res → eGs pP X 0 98 (2, [some (.ref c), some (.int mm), some (.int label), some (.int L3)], [], H) (.inl (some (.int res)), H) := by
  intro n
  induction n with
  | zero =>
    intro L3 res hM
    cases hM
  | succ n ih =>
    intro L3 res hM
    rw [K_firstChildWith_2] at hM
    refine eGs.steps 2 (y := (5, [some (.ref c), some (.int mm), some (.int label), some (.int L3)], [.int (6 : Int32), .int L3], H)) rfl ?_
    by_cases hc : (6 : Int32) ≤ L3
    · rw [if_pos hc] at hM
      refine g_icmp (cd := .ge) (t := 36) true rfl (decide_eq_true hc) rfl ?_
      refine eGs.steps 1 (y := (37, [some (.ref c), some (.int mm), some (.int label), some (.int L3)], [.int (-1 : Int32)], H)) rfl ?_
      cases hM
      exact eGs.fin rfl rfl rfl
    · rw [if_neg hc] at hM
      refine g_icmp (cd := .ge) (t := 36) false rfl (decide_eq_false hc) rfl ?_
      refine eGs.steps 1 (y := (9, [some (.ref c), some (.int mm), some (.int label), some (.int L3)], [.ref c], H)) rfl ?_
      refine g_getf rfl rfl (by omega) hc_c rfl ?_
      refine eGs.steps 0 (y := (12, [some (.ref c), some (.int mm), some (.int label), some (.int L3)], [.ref (c + 2)], H)) rfl ?_
      refine eGs.steps 1 (y := (13, [some (.ref c), some (.int mm), some (.int label), some (.int L3)], [.int L3, .ref (c + 2)], H)) rfl ?_
      obtain ⟨hg1, hM⟩ := dg_none hM
      refine g_iald rfl (by omega) hc_cp hg1 ?_
      refine eGs.steps 0 (y := (14, [some (.ref c), some (.int mm), some (.int label), some (.int L3)], [.int (c_par (L3).toNatClampNeg)], H)) rfl ?_
      refine eGs.steps 1 (y := (15, [some (.ref c), some (.int mm), some (.int label), some (.int L3)], [.int mm, .int (c_par (L3).toNatClampNeg)], H)) rfl ?_
      by_cases hc : (c_par (L3).toNatClampNeg) = mm
      · rw [if_pos hc] at hM
        refine g_icmp (cd := .ne) (t := 30) false rfl (decide_eq_false (fun z => z hc)) rfl ?_
        refine eGs.steps 1 (y := (19, [some (.ref c), some (.int mm), some (.int label), some (.int L3)], [.ref c], H)) rfl ?_
        refine g_getf rfl rfl (by omega) hc_c rfl ?_
        refine eGs.steps 0 (y := (22, [some (.ref c), some (.int mm), some (.int label), some (.int L3)], [.ref (c + 1)], H)) rfl ?_
        refine eGs.steps 1 (y := (23, [some (.ref c), some (.int mm), some (.int label), some (.int L3)], [.int L3, .ref (c + 1)], H)) rfl ?_
        obtain ⟨hg2, hM⟩ := dg_none hM
        refine g_iald rfl (by omega) hc_cl hg2 ?_
        refine eGs.steps 0 (y := (24, [some (.ref c), some (.int mm), some (.int label), some (.int L3)], [.int (c_lab (L3).toNatClampNeg)], H)) rfl ?_
        refine eGs.steps 1 (y := (25, [some (.ref c), some (.int mm), some (.int label), some (.int L3)], [.int label, .int (c_lab (L3).toNatClampNeg)], H)) rfl ?_
        by_cases hc : (c_lab (L3).toNatClampNeg) = label
        · rw [if_pos hc] at hM
          refine g_icmp (cd := .ne) (t := 30) false rfl (decide_eq_false (fun z => z hc)) rfl ?_
          refine eGs.steps 1 (y := (29, [some (.ref c), some (.int mm), some (.int label), some (.int L3)], [.int L3], H)) rfl ?_
          cases hM
          exact eGs.fin rfl rfl rfl
        · rw [if_neg hc] at hM
          refine g_icmp (cd := .ne) (t := 30) true rfl (decide_eq_true hc) rfl ?_
          refine eGs.steps 2 (y := (2, [some (.ref c), some (.int mm), some (.int label), some (.int (L3 + (1 : Int32)))], [], H)) rfl ?_
          exact ih _ _ hM
      · rw [if_neg hc] at hM
        refine g_icmp (cd := .ne) (t := 30) true rfl (decide_eq_true hc) rfl ?_
        refine eGs.steps 2 (y := (2, [some (.ref c), some (.int mm), some (.int label), some (.int (L3 + (1 : Int32)))], [], H)) rfl ?_
        exact ih _ _ hM
theorem T_K_firstChildWith {X : Nat × (Nat → Int32)} {H : eH} {c : Nat} {mm : Int32} {label : Int32} {c_lab : Nat → Int32} {c_par : Nat → Int32} {n : Nat} {res : Int32} (hc_c : H.1 c = some (.inr (3, [.ref (c + 1), .ref (c + 2), .ref (c + 3)]))) (hc_cl : H.1 (c + 1) = some (.inl (0, 6, .inl c_lab))) (hc_cp : H.1 (c + 2) = some (.inl (0, 6, .inl c_par))) (hok_c : c = 20 ∨ c = 348 ∨ c = 352 ∨ (25 ≤ c ∧ c ≤ 341 ∧ c % 4 = 1)) (hM : K_firstChildWith n mm label c_lab c_par = some res) : eEv pP X 1 98 [.ref c, .int mm, .int label] H (.inl (some (.int res)), H) := by
  refine eEv.of (Nat.not_lt.mpr (Nat.le_of_ble_eq_true rfl)) ?_
  refine eGs.steps 0 (y := (0, [some (.ref c), some (.int mm), some (.int label), none], [], H)) rfl ?_
  unfold K_firstChildWith at hM
  refine eGs.steps 2 (y := (2, [some (.ref c), some (.int mm), some (.int label), some (.int (0 : Int32))], [], H)) rfl ?_
  exact T_K_firstChildWith_2 (c := c) (mm := mm) (label := label) (c_lab := c_lab) (c_par := c_par) (hc_c := hc_c) (hc_cl := hc_cl) (hc_cp := hc_cp) (hok_c := hok_c) n _ _ hM
def K_isTooMuch_2 (c_hp : Nat → Int64)  : Nat → (Int32) → Option (Int32)
  | 0, _ => none
  | n + 1, L1 =>
    if (6 : Int32) ≤ L1 then (if (6 : Int32) < 0 ∨ 7 ≤ ((6 : Int32)).toNatClampNeg then none else ((H_within n (c_hp ((6 : Int32)).toNatClampNeg) (281262169255736295 : Int64)).bind fun v2 => (if v2 = 0 then (some ((1 : Int32) &&& 1)) else (some ((0 : Int32) &&& 1))))) else (if L1 < 0 ∨ 7 ≤ (L1).toNatClampNeg then none else ((H_within n (c_hp (L1).toNatClampNeg) (3378524555624460 : Int64)).bind fun v4 => (if v4 = 0 then (some ((1 : Int32) &&& 1)) else (K_isTooMuch_2 c_hp n (L1 + (1 : Int32))))))
def K_isTooMuch (n : Nat) (c_hp : Nat → Int64) : Option (Int32) :=
  K_isTooMuch_2 c_hp n (0 : Int32)
theorem T_K_isTooMuch_2 {X : Nat × (Nat → Int32)} {H : eH} {c : Nat} {c_hp : Nat → Int64} (hc_c : H.1 c = some (.inr (3, [.ref (c + 1), .ref (c + 2), .ref (c + 3)]))) (hc_ch : H.1 (c + 3) = some (.inl (1, 7, .inr (.inl c_hp)))) (hok_c : c = 20 ∨ c = 348 ∨ c = 352 ∨ (25 ≤ c ∧ c ≤ 341 ∧ c % 4 = 1)) : ∀ (n : Nat) (L1 : Int32) (res : Int32), K_isTooMuch_2 c_hp  n L1 = some res → eGs pP X 2 99 (2, [some (.ref c), some (.int L1)], [], H) (.inl (some (.int res)), H) := by
  intro n
  induction n with
  | zero =>
    intro L1 res hM
    cases hM
  | succ n ih =>
    intro L1 res hM
    rw [K_isTooMuch_2] at hM
    refine eGs.steps 2 (y := (5, [some (.ref c), some (.int L1)], [.int (6 : Int32), .int L1], H)) rfl ?_
    by_cases hc : (6 : Int32) ≤ L1
    · rw [if_pos hc] at hM
      refine g_icmp (cd := .ge) (t := 31) true rfl (decide_eq_true hc) rfl ?_
      refine eGs.steps 1 (y := (32, [some (.ref c), some (.int L1)], [.ref c], H)) rfl ?_
      refine g_getf rfl rfl (by omega) hc_c rfl ?_
      refine eGs.steps 0 (y := (35, [some (.ref c), some (.int L1)], [.ref (c + 3)], H)) rfl ?_
      refine eGs.steps 1 (y := (37, [some (.ref c), some (.int L1)], [.int (6 : Int32), .ref (c + 3)], H)) rfl ?_
      obtain ⟨hg1, hM⟩ := dg_none hM
      refine g_lald rfl (by omega) hc_ch hg1 ?_
      refine eGs.steps 0 (y := (38, [some (.ref c), some (.int L1)], [.long (c_hp ((6 : Int32)).toNatClampNeg)], H)) rfl ?_
      refine eGs.steps 1 (y := (41, [some (.ref c), some (.int L1)], [.long (281262169255736295 : Int64), .long (c_hp ((6 : Int32)).toNatClampNeg)], H)) rfl ?_
      obtain ⟨v2, hv, hM⟩ := dg_bind hM
      have hE := T_H_within (X := X) (H := H)  hv
      refine g_callS rfl rfl rfl rfl rfl (hE.mono (by first | decide | omega)) ?_
      refine eGs.steps 0 (y := (44, [some (.ref c), some (.int L1)], [.int v2], H)) rfl ?_
      by_cases hc : v2 = 0
      · rw [if_pos hc] at hM
        refine g_if (cd := .ne) (t := 51) false rfl (decide_eq_false (fun z => z hc)) rfl ?_
        refine eGs.steps 2 (y := (52, [some (.ref c), some (.int L1)], [.int (1 : Int32)], H)) rfl ?_
        cases hM
        exact eGs.fin rfl rfl rfl
      · rw [if_neg hc] at hM
        refine g_if (cd := .ne) (t := 51) true rfl (decide_eq_true hc) rfl ?_
        refine eGs.steps 1 (y := (52, [some (.ref c), some (.int L1)], [.int (0 : Int32)], H)) rfl ?_
        cases hM
        exact eGs.fin rfl rfl rfl
    · rw [if_neg hc] at hM
      refine g_icmp (cd := .ge) (t := 31) false rfl (decide_eq_false hc) rfl ?_
      refine eGs.steps 1 (y := (9, [some (.ref c), some (.int L1)], [.ref c], H)) rfl ?_
      refine g_getf rfl rfl (by omega) hc_c rfl ?_
      refine eGs.steps 0 (y := (12, [some (.ref c), some (.int L1)], [.ref (c + 3)], H)) rfl ?_
      refine eGs.steps 1 (y := (13, [some (.ref c), some (.int L1)], [.int L1, .ref (c + 3)], H)) rfl ?_
      obtain ⟨hg3, hM⟩ := dg_none hM
      refine g_lald rfl (by omega) hc_ch hg3 ?_
      refine eGs.steps 0 (y := (14, [some (.ref c), some (.int L1)], [.long (c_hp (L1).toNatClampNeg)], H)) rfl ?_
      refine eGs.steps 1 (y := (17, [some (.ref c), some (.int L1)], [.long (3378524555624460 : Int64), .long (c_hp (L1).toNatClampNeg)], H)) rfl ?_
      obtain ⟨v4, hv, hM⟩ := dg_bind hM
      have hE := T_H_within (X := X) (H := H)  hv
      refine g_callS rfl rfl rfl rfl rfl (hE.mono (by first | decide | omega)) ?_
      refine eGs.steps 0 (y := (20, [some (.ref c), some (.int L1)], [.int v4], H)) rfl ?_
      by_cases hc : v4 = 0
      · rw [if_pos hc] at hM
        refine g_if (cd := .ne) (t := 25) false rfl (decide_eq_false (fun z => z hc)) rfl ?_
        refine eGs.steps 1 (y := (24, [some (.ref c), some (.int L1)], [.int (1 : Int32)], H)) rfl ?_
        cases hM
        exact eGs.fin rfl rfl rfl
      · rw [if_neg hc] at hM
        refine g_if (cd := .ne) (t := 25) true rfl (decide_eq_true hc) rfl ?_
        refine eGs.steps 2 (y := (2, [some (.ref c), some (.int (L1 + (1 : Int32)))], [], H)) rfl ?_
        exact ih _ _ hM
theorem T_K_isTooMuch {X : Nat × (Nat → Int32)} {H : eH} {c : Nat} {c_hp : Nat → Int64} {n : Nat} {res : Int32} (hc_c : H.1 c = some (.inr (3, [.ref (c + 1), .ref (c + 2), .ref (c + 3)]))) (hc_ch : H.1 (c + 3) = some (.inl (1, 7, .inr (.inl c_hp)))) (hok_c : c = 20 ∨ c = 348 ∨ c = 352 ∨ (25 ≤ c ∧ c ≤ 341 ∧ c % 4 = 1)) (hM : K_isTooMuch n c_hp = some res) : eEv pP X 3 99 [.ref c] H (.inl (some (.int res)), H) := by
  refine eEv.of (Nat.not_lt.mpr (Nat.le_of_ble_eq_true rfl)) ?_
  refine eGs.steps 0 (y := (0, [some (.ref c), none], [], H)) rfl ?_
  unfold K_isTooMuch at hM
  refine eGs.steps 2 (y := (2, [some (.ref c), some (.int (0 : Int32))], [], H)) rfl ?_
  exact T_K_isTooMuch_2 (c := c) (c_hp := c_hp) (hc_c := hc_c) (hc_ch := hc_ch) (hok_c := hok_c) n _ _ hM
def K_copy (n : Nat) (c_lab : Nat → Int32) (c_par : Nat → Int32) (c_hp : Nat → Int64) (o_lab : Nat → Int32) (o_par : Nat → Int32) (o_hp : Nat → Int64) : Option ((Nat → Int32) × (Nat → Int32) × (Nat → Int64)) :=
  some ((eCpy o_lab c_lab ((0 : Int32)).toNatClampNeg ((0 : Int32)).toNatClampNeg ((6 : Int32)).toNatClampNeg), (eCpy o_par c_par ((0 : Int32)).toNatClampNeg ((0 : Int32)).toNatClampNeg ((6 : Int32)).toNatClampNeg), (eCpy o_hp c_hp ((0 : Int32)).toNatClampNeg ((0 : Int32)).toNatClampNeg ((7 : Int32)).toNatClampNeg))
theorem T_K_copy {X : Nat × (Nat → Int32)} {H : eH} {c : Nat} {o : Nat} {c_lab : Nat → Int32} {c_par : Nat → Int32} {c_hp : Nat → Int64} {o_lab : Nat → Int32} {o_par : Nat → Int32} {o_hp : Nat → Int64} {n : Nat} {res : (Nat → Int32) × (Nat → Int32) × (Nat → Int64)} (hc_c : H.1 c = some (.inr (3, [.ref (c + 1), .ref (c + 2), .ref (c + 3)]))) (hc_cl : H.1 (c + 1) = some (.inl (0, 6, .inl c_lab))) (hc_cp : H.1 (c + 2) = some (.inl (0, 6, .inl c_par))) (hc_ch : H.1 (c + 3) = some (.inl (1, 7, .inr (.inl c_hp)))) (hc_o : H.1 o = some (.inr (3, [.ref (o + 1), .ref (o + 2), .ref (o + 3)]))) (hc_ol : H.1 (o + 1) = some (.inl (0, 6, .inl o_lab))) (hc_op : H.1 (o + 2) = some (.inl (0, 6, .inl o_par))) (hc_oh : H.1 (o + 3) = some (.inl (1, 7, .inr (.inl o_hp)))) (hok_c : c = 20 ∨ c = 348 ∨ c = 352 ∨ (25 ≤ c ∧ c ≤ 341 ∧ c % 4 = 1)) (hok_o : o = 20 ∨ o = 348 ∨ o = 352 ∨ (25 ≤ o ∧ o ≤ 341 ∧ o % 4 = 1)) (hne : ¬ c = o) (hM : K_copy n c_lab c_par c_hp o_lab o_par o_hp = some res) : eEv pP X 1 93 [.ref c, .ref o] H (.inl (none), (eW2 H [(c + 1, .inl (0, 6, .inl res.1)), (c + 2, .inl (0, 6, .inl res.2.1)), (c + 3, .inl (1, 7, .inr (.inl res.2.2)))])) := by
  have hN : ([c + 1, c + 2, c + 3] : List Nat).Nodup := by first | decide | (simp <;> omega)
  have hO_c : c ∉ ([c + 1, c + 2, c + 3] : List Nat) := by first | decide | (simp <;> omega)
  have hO_o : o ∉ ([c + 1, c + 2, c + 3] : List Nat) := by first | decide | (simp <;> omega)
  have hO_ol : o + 1 ∉ ([c + 1, c + 2, c + 3] : List Nat) := by first | decide | (simp <;> omega)
  have hO_op : o + 2 ∉ ([c + 1, c + 2, c + 3] : List Nat) := by first | decide | (simp <;> omega)
  have hO_oh : o + 3 ∉ ([c + 1, c + 2, c + 3] : List Nat) := by first | decide | (simp <;> omega)
  have h0 : (eW2 H [(c + 1, .inl (0, 6, .inl c_lab)), (c + 2, .inl (0, 6, .inl c_par)), (c + 3, .inl (1, 7, .inr (.inl c_hp)))]) = H := eW2_self (by simp only [List.forall_mem_cons]; exact ⟨hc_cl, hc_cp, hc_ch, fun _ h => absurd h List.not_mem_nil⟩)
  rw [show eEv pP X 1 93 _ H = eEv pP X 1 93 _ (eW2 H [(c + 1, .inl (0, 6, .inl c_lab)), (c + 2, .inl (0, 6, .inl c_par)), (c + 3, .inl (1, 7, .inr (.inl c_hp)))]) by rw [h0]]
  refine eEv.of (Nat.not_lt.mpr (Nat.le_of_ble_eq_true rfl)) ?_
  refine eGs.steps 0 (y := (0, [some (.ref c), some (.ref o)], [], (eW2 H [(c + 1, .inl (0, 6, .inl c_lab)), (c + 2, .inl (0, 6, .inl c_par)), (c + 3, .inl (1, 7, .inr (.inl c_hp)))]))) rfl ?_
  unfold K_copy at hM
  refine eGs.steps 1 (y := (1, [some (.ref c), some (.ref o)], [.ref o], (eW2 H [(c + 1, .inl (0, 6, .inl c_lab)), (c + 2, .inl (0, 6, .inl c_par)), (c + 3, .inl (1, 7, .inr (.inl c_hp)))]))) rfl ?_
  refine g_getf rfl rfl (by omega) ((eW2_offA hO_o rfl).trans hc_o) rfl ?_
  refine eGs.steps 0 (y := (4, [some (.ref c), some (.ref o)], [.ref (o + 1)], (eW2 H [(c + 1, .inl (0, 6, .inl c_lab)), (c + 2, .inl (0, 6, .inl c_par)), (c + 3, .inl (1, 7, .inr (.inl c_hp)))]))) rfl ?_
  refine eGs.steps 2 (y := (6, [some (.ref c), some (.ref o)], [.ref c, .int (0 : Int32), .ref (o + 1)], (eW2 H [(c + 1, .inl (0, 6, .inl c_lab)), (c + 2, .inl (0, 6, .inl c_par)), (c + 3, .inl (1, 7, .inr (.inl c_hp)))]))) rfl ?_
  refine g_getf rfl rfl (by omega) ((eW2_offA hO_c rfl).trans hc_c) rfl ?_
  refine eGs.steps 0 (y := (9, [some (.ref c), some (.ref o)], [.ref (c + 1), .int (0 : Int32), .ref (o + 1)], (eW2 H [(c + 1, .inl (0, 6, .inl c_lab)), (c + 2, .inl (0, 6, .inl c_par)), (c + 3, .inl (1, 7, .inr (.inl c_hp)))]))) rfl ?_
  refine eGs.steps 2 (y := (12, [some (.ref c), some (.ref o)], [.int (6 : Int32), .int (0 : Int32), .ref (c + 1), .int (0 : Int32), .ref (o + 1)], (eW2 H [(c + 1, .inl (0, 6, .inl c_lab)), (c + 2, .inl (0, 6, .inl c_par)), (c + 3, .inl (1, 7, .inr (.inl c_hp)))]))) rfl ?_
  refine g_copyI rfl rfl rfl (by omega) (by omega) ((eW2_offA hO_ol rfl).trans hc_ol) (eW2_getA hN 0 rfl rfl) (by decide) (by decide) (eW2_setA hN 0 rfl rfl) ?_
  refine eGs.steps 0 (y := (15, [some (.ref c), some (.ref o)], [], (eW2 H [(c + 1, .inl (0, 6, .inl (eCpy o_lab c_lab ((0 : Int32)).toNatClampNeg ((0 : Int32)).toNatClampNeg ((6 : Int32)).toNatClampNeg))), (c + 2, .inl (0, 6, .inl c_par)), (c + 3, .inl (1, 7, .inr (.inl c_hp)))]))) rfl ?_
  refine eGs.steps 1 (y := (16, [some (.ref c), some (.ref o)], [.ref o], (eW2 H [(c + 1, .inl (0, 6, .inl (eCpy o_lab c_lab ((0 : Int32)).toNatClampNeg ((0 : Int32)).toNatClampNeg ((6 : Int32)).toNatClampNeg))), (c + 2, .inl (0, 6, .inl c_par)), (c + 3, .inl (1, 7, .inr (.inl c_hp)))]))) rfl ?_
  refine g_getf rfl rfl (by omega) ((eW2_offA hO_o rfl).trans hc_o) rfl ?_
  refine eGs.steps 0 (y := (19, [some (.ref c), some (.ref o)], [.ref (o + 2)], (eW2 H [(c + 1, .inl (0, 6, .inl (eCpy o_lab c_lab ((0 : Int32)).toNatClampNeg ((0 : Int32)).toNatClampNeg ((6 : Int32)).toNatClampNeg))), (c + 2, .inl (0, 6, .inl c_par)), (c + 3, .inl (1, 7, .inr (.inl c_hp)))]))) rfl ?_
  refine eGs.steps 2 (y := (21, [some (.ref c), some (.ref o)], [.ref c, .int (0 : Int32), .ref (o + 2)], (eW2 H [(c + 1, .inl (0, 6, .inl (eCpy o_lab c_lab ((0 : Int32)).toNatClampNeg ((0 : Int32)).toNatClampNeg ((6 : Int32)).toNatClampNeg))), (c + 2, .inl (0, 6, .inl c_par)), (c + 3, .inl (1, 7, .inr (.inl c_hp)))]))) rfl ?_
  refine g_getf rfl rfl (by omega) ((eW2_offA hO_c rfl).trans hc_c) rfl ?_
  refine eGs.steps 0 (y := (24, [some (.ref c), some (.ref o)], [.ref (c + 2), .int (0 : Int32), .ref (o + 2)], (eW2 H [(c + 1, .inl (0, 6, .inl (eCpy o_lab c_lab ((0 : Int32)).toNatClampNeg ((0 : Int32)).toNatClampNeg ((6 : Int32)).toNatClampNeg))), (c + 2, .inl (0, 6, .inl c_par)), (c + 3, .inl (1, 7, .inr (.inl c_hp)))]))) rfl ?_
  refine eGs.steps 2 (y := (27, [some (.ref c), some (.ref o)], [.int (6 : Int32), .int (0 : Int32), .ref (c + 2), .int (0 : Int32), .ref (o + 2)], (eW2 H [(c + 1, .inl (0, 6, .inl (eCpy o_lab c_lab ((0 : Int32)).toNatClampNeg ((0 : Int32)).toNatClampNeg ((6 : Int32)).toNatClampNeg))), (c + 2, .inl (0, 6, .inl c_par)), (c + 3, .inl (1, 7, .inr (.inl c_hp)))]))) rfl ?_
  refine g_copyI rfl rfl rfl (by omega) (by omega) ((eW2_offA hO_op rfl).trans hc_op) (eW2_getA hN 1 rfl rfl) (by decide) (by decide) (eW2_setA hN 1 rfl rfl) ?_
  refine eGs.steps 0 (y := (30, [some (.ref c), some (.ref o)], [], (eW2 H [(c + 1, .inl (0, 6, .inl (eCpy o_lab c_lab ((0 : Int32)).toNatClampNeg ((0 : Int32)).toNatClampNeg ((6 : Int32)).toNatClampNeg))), (c + 2, .inl (0, 6, .inl (eCpy o_par c_par ((0 : Int32)).toNatClampNeg ((0 : Int32)).toNatClampNeg ((6 : Int32)).toNatClampNeg))), (c + 3, .inl (1, 7, .inr (.inl c_hp)))]))) rfl ?_
  refine eGs.steps 1 (y := (31, [some (.ref c), some (.ref o)], [.ref o], (eW2 H [(c + 1, .inl (0, 6, .inl (eCpy o_lab c_lab ((0 : Int32)).toNatClampNeg ((0 : Int32)).toNatClampNeg ((6 : Int32)).toNatClampNeg))), (c + 2, .inl (0, 6, .inl (eCpy o_par c_par ((0 : Int32)).toNatClampNeg ((0 : Int32)).toNatClampNeg ((6 : Int32)).toNatClampNeg))), (c + 3, .inl (1, 7, .inr (.inl c_hp)))]))) rfl ?_
  refine g_getf rfl rfl (by omega) ((eW2_offA hO_o rfl).trans hc_o) rfl ?_
  refine eGs.steps 0 (y := (34, [some (.ref c), some (.ref o)], [.ref (o + 3)], (eW2 H [(c + 1, .inl (0, 6, .inl (eCpy o_lab c_lab ((0 : Int32)).toNatClampNeg ((0 : Int32)).toNatClampNeg ((6 : Int32)).toNatClampNeg))), (c + 2, .inl (0, 6, .inl (eCpy o_par c_par ((0 : Int32)).toNatClampNeg ((0 : Int32)).toNatClampNeg ((6 : Int32)).toNatClampNeg))), (c + 3, .inl (1, 7, .inr (.inl c_hp)))]))) rfl ?_
  refine eGs.steps 2 (y := (36, [some (.ref c), some (.ref o)], [.ref c, .int (0 : Int32), .ref (o + 3)], (eW2 H [(c + 1, .inl (0, 6, .inl (eCpy o_lab c_lab ((0 : Int32)).toNatClampNeg ((0 : Int32)).toNatClampNeg ((6 : Int32)).toNatClampNeg))), (c + 2, .inl (0, 6, .inl (eCpy o_par c_par ((0 : Int32)).toNatClampNeg ((0 : Int32)).toNatClampNeg ((6 : Int32)).toNatClampNeg))), (c + 3, .inl (1, 7, .inr (.inl c_hp)))]))) rfl ?_
  refine g_getf rfl rfl (by omega) ((eW2_offA hO_c rfl).trans hc_c) rfl ?_
  refine eGs.steps 0 (y := (39, [some (.ref c), some (.ref o)], [.ref (c + 3), .int (0 : Int32), .ref (o + 3)], (eW2 H [(c + 1, .inl (0, 6, .inl (eCpy o_lab c_lab ((0 : Int32)).toNatClampNeg ((0 : Int32)).toNatClampNeg ((6 : Int32)).toNatClampNeg))), (c + 2, .inl (0, 6, .inl (eCpy o_par c_par ((0 : Int32)).toNatClampNeg ((0 : Int32)).toNatClampNeg ((6 : Int32)).toNatClampNeg))), (c + 3, .inl (1, 7, .inr (.inl c_hp)))]))) rfl ?_
  refine eGs.steps 2 (y := (42, [some (.ref c), some (.ref o)], [.int (7 : Int32), .int (0 : Int32), .ref (c + 3), .int (0 : Int32), .ref (o + 3)], (eW2 H [(c + 1, .inl (0, 6, .inl (eCpy o_lab c_lab ((0 : Int32)).toNatClampNeg ((0 : Int32)).toNatClampNeg ((6 : Int32)).toNatClampNeg))), (c + 2, .inl (0, 6, .inl (eCpy o_par c_par ((0 : Int32)).toNatClampNeg ((0 : Int32)).toNatClampNeg ((6 : Int32)).toNatClampNeg))), (c + 3, .inl (1, 7, .inr (.inl c_hp)))]))) rfl ?_
  refine g_copyJ rfl rfl rfl (by omega) (by omega) ((eW2_offA hO_oh rfl).trans hc_oh) (eW2_getA hN 2 rfl rfl) (by decide) (by decide) (eW2_setA hN 2 rfl rfl) ?_
  refine eGs.steps 0 (y := (45, [some (.ref c), some (.ref o)], [], (eW2 H [(c + 1, .inl (0, 6, .inl (eCpy o_lab c_lab ((0 : Int32)).toNatClampNeg ((0 : Int32)).toNatClampNeg ((6 : Int32)).toNatClampNeg))), (c + 2, .inl (0, 6, .inl (eCpy o_par c_par ((0 : Int32)).toNatClampNeg ((0 : Int32)).toNatClampNeg ((6 : Int32)).toNatClampNeg))), (c + 3, .inl (1, 7, .inr (.inl (eCpy o_hp c_hp ((0 : Int32)).toNatClampNeg ((0 : Int32)).toNatClampNeg ((7 : Int32)).toNatClampNeg))))]))) rfl ?_
  cases hM
  exact eGs.fin rfl rfl rfl

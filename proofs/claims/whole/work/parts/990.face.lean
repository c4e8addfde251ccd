def P_checkLabel (n : Nat) (label : Int32) : Option (Nat × (Unit)) :=
  if label < 0 then (some (9, ())) else (if label < (4 : Int32) then (some (0, ())) else (some (9, ())))
theorem T_P_checkLabel {X : Nat × (Nat → Int32)} {H : eH} {label : Int32} {n : Nat} {res : Nat × (Unit)} (hnz : ¬ H.2.1 = 0) (hM : P_checkLabel n label = some res) : eEv pP X 1 21 [.int label] H (eTw pP res.1 (none) H) := by
  refine eEv.of (Nat.not_lt.mpr (Nat.le_of_ble_eq_true rfl)) ?_
  refine eGs.steps 0 (y := (0, [some (.int label)], [], H)) rfl ?_
  unfold P_checkLabel at hM
  refine eGs.steps 1 (y := (1, [some (.int label)], [.int label], H)) rfl ?_
  by_cases hc : label < 0
  · rw [if_pos hc] at hM
    refine g_if (cd := .lt) (t := 9) true rfl (decide_eq_true hc) rfl ?_
    cases hM
    exact g_tnew rfl rfl rfl rfl rfl
  · rw [if_neg hc] at hM
    refine g_if (cd := .lt) (t := 9) false rfl (decide_eq_false hc) rfl ?_
    refine eGs.steps 2 (y := (6, [some (.int label)], [.int (4 : Int32), .int label], H)) rfl ?_
    by_cases hc : label < (4 : Int32)
    · rw [if_pos hc] at hM
      refine g_icmp (cd := .lt) (t := 19) true rfl (decide_eq_true hc) rfl ?_
      cases hM
      exact eGs.fin rfl rfl rfl
    · rw [if_neg hc] at hM
      refine g_icmp (cd := .lt) (t := 19) false rfl (decide_eq_false hc) rfl ?_
      cases hM
      exact g_tnew rfl rfl rfl rfl rfl
def P_checkHandful (n : Nat) (handful : Int32) : Option (Nat × (Unit)) :=
  if handful < 0 then (some (9, ())) else (if handful < (1024 : Int32) then (some (0, ())) else (some (9, ())))
theorem T_P_checkHandful {X : Nat × (Nat → Int32)} {H : eH} {handful : Int32} {n : Nat} {res : Nat × (Unit)} (hnz : ¬ H.2.1 = 0) (hM : P_checkHandful n handful = some res) : eEv pP X 1 22 [.int handful] H (eTw pP res.1 (none) H) := by
  refine eEv.of (Nat.not_lt.mpr (Nat.le_of_ble_eq_true rfl)) ?_
  refine eGs.steps 0 (y := (0, [some (.int handful)], [], H)) rfl ?_
  unfold P_checkHandful at hM
  refine eGs.steps 1 (y := (1, [some (.int handful)], [.int handful], H)) rfl ?_
  by_cases hc : handful < 0
  · rw [if_pos hc] at hM
    refine g_if (cd := .lt) (t := 11) true rfl (decide_eq_true hc) rfl ?_
    cases hM
    exact g_tnew rfl rfl rfl rfl rfl
  · rw [if_neg hc] at hM
    refine g_if (cd := .lt) (t := 11) false rfl (decide_eq_false hc) rfl ?_
    refine eGs.steps 2 (y := (8, [some (.int handful)], [.int (1024 : Int32), .int handful], H)) rfl ?_
    by_cases hc : handful < (1024 : Int32)
    · rw [if_pos hc] at hM
      refine g_icmp (cd := .lt) (t := 21) true rfl (decide_eq_true hc) rfl ?_
      cases hM
      exact eGs.fin rfl rfl rfl
    · rw [if_neg hc] at hM
      refine g_icmp (cd := .lt) (t := 21) false rfl (decide_eq_false hc) rfl ?_
      cases hM
      exact g_tnew rfl rfl rfl rfl rfl
def P_checkNotEmpty (n : Nat) (handful : Int32) : Option (Nat × (Unit)) :=
  if handful = 0 then (some (9, ())) else (some (0, ()))
theorem T_P_checkNotEmpty {X : Nat × (Nat → Int32)} {H : eH} {handful : Int32} {n : Nat} {res : Nat × (Unit)} (hnz : ¬ H.2.1 = 0) (hM : P_checkNotEmpty n handful = some res) : eEv pP X 1 23 [.int handful] H (eTw pP res.1 (none) H) := by
  refine eEv.of (Nat.not_lt.mpr (Nat.le_of_ble_eq_true rfl)) ?_
  refine eGs.steps 0 (y := (0, [some (.int handful)], [], H)) rfl ?_
  unfold P_checkNotEmpty at hM
  refine eGs.steps 1 (y := (1, [some (.int handful)], [.int handful], H)) rfl ?_
  by_cases hc : handful = 0
  · rw [if_pos hc] at hM
    refine g_if (cd := .ne) (t := 14) false rfl (decide_eq_false (fun z => z hc)) rfl ?_
    cases hM
    exact g_tnew rfl rfl rfl rfl rfl
  · rw [if_neg hc] at hM
    refine g_if (cd := .ne) (t := 14) true rfl (decide_eq_true hc) rfl ?_
    cases hM
    exact eGs.fin rfl rfl rfl
def P_checkWhat (n : Nat) (what : Int32) (last : Int32) : Option (Nat × (Unit)) :=
  if what < 0 then (some (9, ())) else (if what ≤ last then (some (0, ())) else (some (9, ())))
theorem T_P_checkWhat {X : Nat × (Nat → Int32)} {H : eH} {what : Int32} {last : Int32} {n : Nat} {res : Nat × (Unit)} (hnz : ¬ H.2.1 = 0) (hM : P_checkWhat n what last = some res) : eEv pP X 1 24 [.int what, .int last] H (eTw pP res.1 (none) H) := by
  refine eEv.of (Nat.not_lt.mpr (Nat.le_of_ble_eq_true rfl)) ?_
  refine eGs.steps 0 (y := (0, [some (.int what), some (.int last)], [], H)) rfl ?_
  unfold P_checkWhat at hM
  refine eGs.steps 1 (y := (1, [some (.int what), some (.int last)], [.int what], H)) rfl ?_
  by_cases hc : what < 0
  · rw [if_pos hc] at hM
    refine g_if (cd := .lt) (t := 9) true rfl (decide_eq_true hc) rfl ?_
    cases hM
    exact g_tnew rfl rfl rfl rfl rfl
  · rw [if_neg hc] at hM
    refine g_if (cd := .lt) (t := 9) false rfl (decide_eq_false hc) rfl ?_
    refine eGs.steps 2 (y := (6, [some (.int what), some (.int last)], [.int last, .int what], H)) rfl ?_
    by_cases hc : what ≤ last
    · rw [if_pos hc] at hM
      refine g_icmp (cd := .le) (t := 19) true rfl (decide_eq_true hc) rfl ?_
      cases hM
      exact eGs.fin rfl rfl rfl
    · rw [if_neg hc] at hM
      refine g_icmp (cd := .le) (t := 19) false rfl (decide_eq_false hc) rfl ?_
      cases hM
      exact g_tnew rfl rfl rfl rfl rfl
def P_checkMembrane (n : Nat) (number : Int32) (c_lab : Nat → Int32) : Option (Nat × (Unit)) :=
  (K_has n number c_lab).bind fun v1 => (if v1 = 0 then (some (10, ())) else (some (0, ())))
theorem T_P_checkMembrane {X : Nat × (Nat → Int32)} {H : eH} {c : Nat} {tr : Nat} {number : Int32} {c_lab : Nat → Int32} {n : Nat} {res : Nat × (Unit)} (hc_c : H.1 c = some (.inr (3, [.ref (c + 1), .ref (c + 2), .ref (c + 3)]))) (hc_cl : H.1 (c + 1) = some (.inl (0, 6, .inl c_lab))) (hc_x : H.1 1 = some (.inr (0, [.ref 2, .ref 10, .ref 15, .ref 17, .ref 345, .ref 347, .ref c, .ref tr]))) (hok_c : c = 20 ∨ c = 348 ∨ c = 352 ∨ (25 ≤ c ∧ c ≤ 341 ∧ c % 4 = 1)) (hnz : ¬ H.2.1 = 0) (hM : P_checkMembrane n number c_lab = some res) : eEv pP X 2 18 [.ref 1, .int number] H (eTw pP res.1 (none) H) := by
  refine eEv.of (Nat.not_lt.mpr (Nat.le_of_ble_eq_true rfl)) ?_
  refine eGs.steps 0 (y := (0, [some (.ref 1), some (.int number)], [], H)) rfl ?_
  unfold P_checkMembrane at hM
  refine eGs.steps 1 (y := (1, [some (.ref 1), some (.int number)], [.ref 1], H)) rfl ?_
  refine g_getf rfl rfl (by omega) hc_x rfl ?_
  refine eGs.steps 0 (y := (4, [some (.ref 1), some (.int number)], [.ref c], H)) rfl ?_
  refine eGs.steps 1 (y := (5, [some (.ref 1), some (.int number)], [.int number, .ref c], H)) rfl ?_
  obtain ⟨v1, hv, hM⟩ := dg_bind hM
  have hE := T_K_has (X := X) (H := H) (hc_c := hc_c) (hc_cl := hc_cl) (hok_c := by first | assumption | omega) hv
  refine g_callV rfl rfl rfl rfl rfl (by omega) hc_c rfl (hE.mono (by first | decide | omega)) ?_
  refine eGs.steps 0 (y := (8, [some (.ref 1), some (.int number)], [.int v1], H)) rfl ?_
  by_cases hc : v1 = 0
  · rw [if_pos hc] at hM
    refine g_if (cd := .ne) (t := 21) false rfl (decide_eq_false (fun z => z hc)) rfl ?_
    cases hM
    exact g_tnew rfl rfl rfl rfl rfl
  · rw [if_neg hc] at hM
    refine g_if (cd := .ne) (t := 21) true rfl (decide_eq_true hc) rfl ?_
    cases hM
    exact eGs.fin rfl rfl rfl
def P_checkRule (n : Nat) (number : Int32) (b_count : Int32) : Option (Nat × (Unit)) :=
  if number < 0 then (some (10, ())) else (if number < b_count then (some (0, ())) else (some (10, ())))
theorem T_P_checkRule {X : Nat × (Nat → Int32)} {H : eH} {c : Nat} {tr : Nat} {number : Int32} {b_count : Int32} {n : Nat} {res : Nat × (Unit)} (hc_b : H.1 2 = some (.inr (6, [.ref 3, .int b_count]))) (hc_x : H.1 1 = some (.inr (0, [.ref 2, .ref 10, .ref 15, .ref 17, .ref 345, .ref 347, .ref c, .ref tr]))) (hok_c : c = 20 ∨ c = 348 ∨ c = 352 ∨ (25 ≤ c ∧ c ≤ 341 ∧ c % 4 = 1)) (hnz : ¬ H.2.1 = 0) (hM : P_checkRule n number b_count = some res) : eEv pP X 1 19 [.ref 1, .int number] H (eTw pP res.1 (none) H) := by
  refine eEv.of (Nat.not_lt.mpr (Nat.le_of_ble_eq_true rfl)) ?_
  refine eGs.steps 0 (y := (0, [some (.ref 1), some (.int number)], [], H)) rfl ?_
  unfold P_checkRule at hM
  refine eGs.steps 1 (y := (1, [some (.ref 1), some (.int number)], [.int number], H)) rfl ?_
  by_cases hc : number < 0
  · rw [if_pos hc] at hM
    refine g_if (cd := .lt) (t := 15) true rfl (decide_eq_true hc) rfl ?_
    cases hM
    exact g_tnew rfl rfl rfl rfl rfl
  · rw [if_neg hc] at hM
    refine g_if (cd := .lt) (t := 15) false rfl (decide_eq_false hc) rfl ?_
    refine eGs.steps 2 (y := (6, [some (.ref 1), some (.int number)], [.ref 1, .int number], H)) rfl ?_
    refine g_getf rfl rfl (by omega) hc_x rfl ?_
    refine eGs.steps 0 (y := (9, [some (.ref 1), some (.int number)], [.ref 2, .int number], H)) rfl ?_
    refine g_getf rfl rfl (by omega) hc_b rfl ?_
    refine eGs.steps 0 (y := (12, [some (.ref 1), some (.int number)], [.int b_count, .int number], H)) rfl ?_
    by_cases hc : number < b_count
    · rw [if_pos hc] at hM
      refine g_icmp (cd := .lt) (t := 25) true rfl (decide_eq_true hc) rfl ?_
      cases hM
      exact eGs.fin rfl rfl rfl
    · rw [if_neg hc] at hM
      refine g_icmp (cd := .lt) (t := 25) false rfl (decide_eq_false hc) rfl ?_
      cases hM
      exact g_tnew rfl rfl rfl rfl rfl
def P_checkOutcome (n : Nat) (number : Int32) (j_count : Int32) : Option (Nat × (Unit)) :=
  if number < 0 then (some (10, ())) else (if number < j_count then (some (0, ())) else (some (10, ())))
theorem T_P_checkOutcome {X : Nat × (Nat → Int32)} {H : eH} {c : Nat} {tr : Nat} {fa : Nat} {ga : Nat} {number : Int32} {j_count : Int32} {n : Nat} {res : Nat × (Unit)} (hc_x : H.1 1 = some (.inr (0, [.ref 2, .ref 10, .ref 15, .ref 17, .ref 345, .ref 347, .ref c, .ref tr]))) (hc_j : H.1 17 = some (.inr (4, [.ref fa, .int j_count, .ref ga, .ref 20, .ref 24]))) (hok_c : c = 20 ∨ c = 348 ∨ c = 352 ∨ (25 ≤ c ∧ c ≤ 341 ∧ c % 4 = 1)) (hnz : ¬ H.2.1 = 0) (hM : P_checkOutcome n number j_count = some res) : eEv pP X 1 20 [.ref 1, .int number] H (eTw pP res.1 (none) H) := by
  refine eEv.of (Nat.not_lt.mpr (Nat.le_of_ble_eq_true rfl)) ?_
  refine eGs.steps 0 (y := (0, [some (.ref 1), some (.int number)], [], H)) rfl ?_
  unfold P_checkOutcome at hM
  refine eGs.steps 1 (y := (1, [some (.ref 1), some (.int number)], [.int number], H)) rfl ?_
  by_cases hc : number < 0
  · rw [if_pos hc] at hM
    refine g_if (cd := .lt) (t := 15) true rfl (decide_eq_true hc) rfl ?_
    cases hM
    exact g_tnew rfl rfl rfl rfl rfl
  · rw [if_neg hc] at hM
    refine g_if (cd := .lt) (t := 15) false rfl (decide_eq_false hc) rfl ?_
    refine eGs.steps 2 (y := (6, [some (.ref 1), some (.int number)], [.ref 1, .int number], H)) rfl ?_
    refine g_getf rfl rfl (by omega) hc_x rfl ?_
    refine eGs.steps 0 (y := (9, [some (.ref 1), some (.int number)], [.ref 17, .int number], H)) rfl ?_
    refine g_getf rfl rfl (by omega) hc_j rfl ?_
    refine eGs.steps 0 (y := (12, [some (.ref 1), some (.int number)], [.int j_count, .int number], H)) rfl ?_
    by_cases hc : number < j_count
    · rw [if_pos hc] at hM
      refine g_icmp (cd := .lt) (t := 25) true rfl (decide_eq_true hc) rfl ?_
      cases hM
      exact eGs.fin rfl rfl rfl
    · rw [if_neg hc] at hM
      refine g_icmp (cd := .lt) (t := 25) false rfl (decide_eq_false hc) rfl ?_
      cases hM
      exact g_tnew rfl rfl rfl rfl rfl
def P_checkEndsNothing (n : Nat) (rule : Int32) (r_dissolves : Int32) (r_divides : Int32) : Option (Nat × (Unit)) :=
  if rule < 0 ∨ 6 ≤ (rule).toNatClampNeg then none else ((R_isOnce n r_dissolves r_divides).bind fun v2 => (if v2 = 0 then (some (0, ())) else (some (11, ()))))
theorem T_P_checkEndsNothing {X : Nat × (Nat → Int32)} {H : eH} {c : Nat} {r : Nat} {tr : Nat} {rule : Int32} {r_number : Int32} {r_label : Int32} {r_left : Int64} {r_leftKinds : Int64} {r_here : Int64} {r_out : Int64} {r_into : Int64} {r_intoLabel : Int32} {r_dissolves : Int32} {r_divides : Int32} {r_other : Int64} {b_count : Int32} {n : Nat} {res : Nat × (Unit)} (hc_r : H.1 r = some (.inr (5, [.int r_number, .int r_label, .long r_left, .long r_leftKinds, .long r_here, .long r_out, .long r_into, .int r_intoLabel, .int r_dissolves, .int r_divides, .long r_other]))) (hc_b : H.1 2 = some (.inr (6, [.ref 3, .int b_count]))) (hc_ba : H.1 3 = some (.inl (3, 6, .inr (.inr fun i => if i < 6 then some (4 + i) else none)))) (hc_x : H.1 1 = some (.inr (0, [.ref 2, .ref 10, .ref 15, .ref 17, .ref 345, .ref 347, .ref c, .ref tr]))) (hok_c : c = 20 ∨ c = 348 ∨ c = 352 ∨ (25 ≤ c ∧ c ≤ 341 ∧ c % 4 = 1)) (hz_r : ¬ r = 0) (hr9 : (rule < 0 ∨ 6 ≤ (rule).toNatClampNeg) ∨ r = 4 + (rule).toNatClampNeg) (hr4 : 4 ≤ r) (hnz : ¬ H.2.1 = 0) (hM : P_checkEndsNothing n rule r_dissolves r_divides = some res) : eEv pP X 2 25 [.ref 1, .int rule] H (eTw pP res.1 (none) H) := by
  refine eEv.of (Nat.not_lt.mpr (Nat.le_of_ble_eq_true rfl)) ?_
  refine eGs.steps 0 (y := (0, [some (.ref 1), some (.int rule)], [], H)) rfl ?_
  unfold P_checkEndsNothing at hM
  refine eGs.steps 1 (y := (1, [some (.ref 1), some (.int rule)], [.ref 1], H)) rfl ?_
  refine g_getf rfl rfl (by omega) hc_x rfl ?_
  refine eGs.steps 0 (y := (4, [some (.ref 1), some (.int rule)], [.ref 2], H)) rfl ?_
  refine g_getf rfl rfl (by omega) hc_b rfl ?_
  refine eGs.steps 0 (y := (7, [some (.ref 1), some (.int rule)], [.ref 3], H)) rfl ?_
  refine eGs.steps 1 (y := (8, [some (.ref 1), some (.int rule)], [.int rule, .ref 3], H)) rfl ?_
  obtain ⟨hg1, hM⟩ := dg_none hM
  refine g_aald rfl (by omega) hc_ba rfl hg1 ?_
  rw [if_pos (Nat.not_le.mp fun z => hg1 (Or.inr z))]
  refine eGs.steps 0 (y := (9, [some (.ref 1), some (.int rule)], [.ref (4 + (rule).toNatClampNeg)], H)) rfl ?_
  rw [← (hr9.resolve_left hg1)]
  refine eGs.steps 0 (y := (9, [some (.ref 1), some (.int rule)], [.ref r], H)) rfl ?_
  obtain ⟨v2, hv, hM⟩ := dg_bind hM
  have hE := T_R_isOnce (X := X) (H := H) (hc_r := hc_r) (hz_r := by first | assumption | omega) hv
  refine g_callV rfl rfl rfl rfl rfl (by omega) hc_r rfl (hE.mono (by first | decide | omega)) ?_
  refine eGs.steps 0 (y := (12, [some (.ref 1), some (.int rule)], [.int v2], H)) rfl ?_
  by_cases hc : v2 = 0
  · rw [if_pos hc] at hM
    refine g_if (cd := .eq) (t := 25) true rfl (decide_eq_true hc) rfl ?_
    cases hM
    exact eGs.fin rfl rfl rfl
  · rw [if_neg hc] at hM
    refine g_if (cd := .eq) (t := 25) false rfl (decide_eq_false hc) rfl ?_
    cases hM
    exact g_tnew rfl rfl rfl rfl rfl
def P_clear (n : Nat) (label : Int32) (c_lab : Nat → Int32) (c_par : Nat → Int32) (c_hp : Nat → Int64) (b_count : Int32) (j_count : Int32) : Option (Nat × ((Nat → Int32) × (Nat → Int32) × (Nat → Int64) × Int32 × Int32)) :=
  (P_checkLabel n label).bind fun v1 => (match v1.1 with | 0 => ((K_reset n label c_lab c_par c_hp).bind fun v2 => (some (0, (v2.1, v2.2.1, v2.2.2, (0 : Int32), (0 : Int32))))) | cc + 1 => some (cc + 1, (c_lab, c_par, c_hp, b_count, j_count)))
theorem T_P_clear {X : Nat × (Nat → Int32)} {H : eH} {c : Nat} {tr : Nat} {fa : Nat} {ga : Nat} {label : Int32} {c_lab : Nat → Int32} {c_par : Nat → Int32} {c_hp : Nat → Int64} {b_count : Int32} {j_count : Int32} {n : Nat} {res : Nat × ((Nat → Int32) × (Nat → Int32) × (Nat → Int64) × Int32 × Int32)} (hc_c : H.1 c = some (.inr (3, [.ref (c + 1), .ref (c + 2), .ref (c + 3)]))) (hc_cl : H.1 (c + 1) = some (.inl (0, 6, .inl c_lab))) (hc_cp : H.1 (c + 2) = some (.inl (0, 6, .inl c_par))) (hc_ch : H.1 (c + 3) = some (.inl (1, 7, .inr (.inl c_hp)))) (hc_b : H.1 2 = some (.inr (6, [.ref 3, .int b_count]))) (hc_x : H.1 1 = some (.inr (0, [.ref 2, .ref 10, .ref 15, .ref 17, .ref 345, .ref 347, .ref c, .ref tr]))) (hc_j : H.1 17 = some (.inr (4, [.ref fa, .int j_count, .ref ga, .ref 20, .ref 24]))) (hok_c : c = 20 ∨ c = 348 ∨ c = 352 ∨ (25 ≤ c ∧ c ≤ 341 ∧ c % 4 = 1)) (hnz : ¬ H.2.1 = 0) (hM : P_clear n label c_lab c_par c_hp b_count j_count = some res) : eEv pP X 4 1 [.ref 1, .int label] H (eTw pP res.1 (none) (eW2 H [(c + 1, .inl (0, 6, .inl res.2.1)), (c + 2, .inl (0, 6, .inl res.2.2.1)), (c + 3, .inl (1, 7, .inr (.inl res.2.2.2.1))), (2, .inr (6, [.ref 3, .int res.2.2.2.2.1])), (17, .inr (4, [.ref fa, .int res.2.2.2.2.2, .ref ga, .ref 20, .ref 24]))])) := by
  have hN : ([c + 1, c + 2, c + 3, 2, 17] : List Nat).Nodup := by first | decide | (simp <;> omega)
  have hO_c : c ∉ ([c + 1, c + 2, c + 3, 2, 17] : List Nat) := by first | decide | (simp <;> omega)
  have hO_x : 1 ∉ ([c + 1, c + 2, c + 3, 2, 17] : List Nat) := by first | decide | (simp <;> omega)
  have h0 : (eW2 H [(c + 1, .inl (0, 6, .inl c_lab)), (c + 2, .inl (0, 6, .inl c_par)), (c + 3, .inl (1, 7, .inr (.inl c_hp))), (2, .inr (6, [.ref 3, .int b_count])), (17, .inr (4, [.ref fa, .int j_count, .ref ga, .ref 20, .ref 24]))]) = H := eW2_self (by simp only [List.forall_mem_cons]; exact ⟨hc_cl, hc_cp, hc_ch, hc_b, hc_j, fun _ h => absurd h List.not_mem_nil⟩)
  rw [show eEv pP X 4 1 _ H = eEv pP X 4 1 _ (eW2 H [(c + 1, .inl (0, 6, .inl c_lab)), (c + 2, .inl (0, 6, .inl c_par)), (c + 3, .inl (1, 7, .inr (.inl c_hp))), (2, .inr (6, [.ref 3, .int b_count])), (17, .inr (4, [.ref fa, .int j_count, .ref ga, .ref 20, .ref 24]))]) by rw [h0]]
  refine eEv.of (Nat.not_lt.mpr (Nat.le_of_ble_eq_true rfl)) ?_
  refine eGs.steps 0 (y := (0, [some (.ref 1), some (.int label)], [], (eW2 H [(c + 1, .inl (0, 6, .inl c_lab)), (c + 2, .inl (0, 6, .inl c_par)), (c + 3, .inl (1, 7, .inr (.inl c_hp))), (2, .inr (6, [.ref 3, .int b_count])), (17, .inr (4, [.ref fa, .int j_count, .ref ga, .ref 20, .ref 24]))]))) rfl ?_
  unfold P_clear at hM
  refine eGs.steps 1 (y := (1, [some (.ref 1), some (.int label)], [.int label], (eW2 H [(c + 1, .inl (0, 6, .inl c_lab)), (c + 2, .inl (0, 6, .inl c_par)), (c + 3, .inl (1, 7, .inr (.inl c_hp))), (2, .inr (6, [.ref 3, .int b_count])), (17, .inr (4, [.ref fa, .int j_count, .ref ga, .ref 20, .ref 24]))]))) rfl ?_
  obtain ⟨v1, hv, hM⟩ := dg_bind hM
  have hE := T_P_checkLabel (X := X) (H := (eW2 H [(c + 1, .inl (0, 6, .inl c_lab)), (c + 2, .inl (0, 6, .inl c_par)), (c + 3, .inl (1, 7, .inr (.inl c_hp))), (2, .inr (6, [.ref 3, .int b_count])), (17, .inr (4, [.ref fa, .int j_count, .ref ga, .ref 20, .ref 24]))])) (hnz := by first | assumption | omega) hv
  cases hth : v1.1 with
  | zero =>
    rw [hth] at hM hE
    dsimp only at hM
    refine g_callS rfl rfl rfl rfl rfl (hE.mono (by first | decide | omega)) ?_
    refine eGs.steps 0 (y := (4, [some (.ref 1), some (.int label)], [], (eW2 H [(c + 1, .inl (0, 6, .inl c_lab)), (c + 2, .inl (0, 6, .inl c_par)), (c + 3, .inl (1, 7, .inr (.inl c_hp))), (2, .inr (6, [.ref 3, .int b_count])), (17, .inr (4, [.ref fa, .int j_count, .ref ga, .ref 20, .ref 24]))]))) rfl ?_
    refine eGs.steps 1 (y := (5, [some (.ref 1), some (.int label)], [.ref 1], (eW2 H [(c + 1, .inl (0, 6, .inl c_lab)), (c + 2, .inl (0, 6, .inl c_par)), (c + 3, .inl (1, 7, .inr (.inl c_hp))), (2, .inr (6, [.ref 3, .int b_count])), (17, .inr (4, [.ref fa, .int j_count, .ref ga, .ref 20, .ref 24]))]))) rfl ?_
    refine g_getf rfl rfl (by omega) ((eW2_offA hO_x rfl).trans hc_x) rfl ?_
    refine eGs.steps 0 (y := (8, [some (.ref 1), some (.int label)], [.ref c], (eW2 H [(c + 1, .inl (0, 6, .inl c_lab)), (c + 2, .inl (0, 6, .inl c_par)), (c + 3, .inl (1, 7, .inr (.inl c_hp))), (2, .inr (6, [.ref 3, .int b_count])), (17, .inr (4, [.ref fa, .int j_count, .ref ga, .ref 20, .ref 24]))]))) rfl ?_
    refine eGs.steps 1 (y := (9, [some (.ref 1), some (.int label)], [.int label, .ref c], (eW2 H [(c + 1, .inl (0, 6, .inl c_lab)), (c + 2, .inl (0, 6, .inl c_par)), (c + 3, .inl (1, 7, .inr (.inl c_hp))), (2, .inr (6, [.ref 3, .int b_count])), (17, .inr (4, [.ref fa, .int j_count, .ref ga, .ref 20, .ref 24]))]))) rfl ?_
    obtain ⟨v2, hv, hM⟩ := dg_bind hM
    have hE := eEv_putA (T_K_reset (X := X) (H := (eW2 H [(c + 1, .inl (0, 6, .inl c_lab)), (c + 2, .inl (0, 6, .inl c_par)), (c + 3, .inl (1, 7, .inr (.inl c_hp))), (2, .inr (6, [.ref 3, .int b_count])), (17, .inr (4, [.ref fa, .int j_count, .ref ga, .ref 20, .ref 24]))])) (hc_c := ((eW2_offA hO_c rfl).trans hc_c)) (hc_cl := (eW2_getA hN 0 rfl rfl)) (hc_cp := (eW2_getA hN 1 rfl rfl)) (hc_ch := (eW2_getA hN 2 rfl rfl)) (hok_c := by first | assumption | omega) hv) [0, 1, 2] hN rfl (by first | decide | (simp <;> omega)) rfl (eFor2_ok rfl)
    refine g_callV rfl rfl rfl rfl rfl (by omega) ((eW2_offA hO_c rfl).trans hc_c) rfl (hE.mono (by first | decide | omega)) ?_
    refine eGs.steps 0 (y := (12, [some (.ref 1), some (.int label)], [], (eW2 H [(c + 1, .inl (0, 6, .inl v2.1)), (c + 2, .inl (0, 6, .inl v2.2.1)), (c + 3, .inl (1, 7, .inr (.inl v2.2.2))), (2, .inr (6, [.ref 3, .int b_count])), (17, .inr (4, [.ref fa, .int j_count, .ref ga, .ref 20, .ref 24]))]))) rfl ?_
    refine eGs.steps 1 (y := (13, [some (.ref 1), some (.int label)], [.ref 1], (eW2 H [(c + 1, .inl (0, 6, .inl v2.1)), (c + 2, .inl (0, 6, .inl v2.2.1)), (c + 3, .inl (1, 7, .inr (.inl v2.2.2))), (2, .inr (6, [.ref 3, .int b_count])), (17, .inr (4, [.ref fa, .int j_count, .ref ga, .ref 20, .ref 24]))]))) rfl ?_
    refine g_getf rfl rfl (by omega) ((eW2_offA hO_x rfl).trans hc_x) rfl ?_
    refine eGs.steps 0 (y := (16, [some (.ref 1), some (.int label)], [.ref 2], (eW2 H [(c + 1, .inl (0, 6, .inl v2.1)), (c + 2, .inl (0, 6, .inl v2.2.1)), (c + 3, .inl (1, 7, .inr (.inl v2.2.2))), (2, .inr (6, [.ref 3, .int b_count])), (17, .inr (4, [.ref fa, .int j_count, .ref ga, .ref 20, .ref 24]))]))) rfl ?_
    refine eGs.steps 1 (y := (17, [some (.ref 1), some (.int label)], [.int (0 : Int32), .ref 2], (eW2 H [(c + 1, .inl (0, 6, .inl v2.1)), (c + 2, .inl (0, 6, .inl v2.2.1)), (c + 3, .inl (1, 7, .inr (.inl v2.2.2))), (2, .inr (6, [.ref 3, .int b_count])), (17, .inr (4, [.ref fa, .int j_count, .ref ga, .ref 20, .ref 24]))]))) rfl ?_
    refine g_putfW rfl rfl (by omega) (eW2_getA hN 3 rfl rfl) rfl (Nat.le_of_ble_eq_true rfl) rfl (eW2_setA hN 3 rfl rfl) ?_
    refine eGs.steps 0 (y := (20, [some (.ref 1), some (.int label)], [], (eW2 H [(c + 1, .inl (0, 6, .inl v2.1)), (c + 2, .inl (0, 6, .inl v2.2.1)), (c + 3, .inl (1, 7, .inr (.inl v2.2.2))), (2, .inr (6, [.ref 3, .int (0 : Int32)])), (17, .inr (4, [.ref fa, .int j_count, .ref ga, .ref 20, .ref 24]))]))) rfl ?_
    refine eGs.steps 1 (y := (21, [some (.ref 1), some (.int label)], [.ref 1], (eW2 H [(c + 1, .inl (0, 6, .inl v2.1)), (c + 2, .inl (0, 6, .inl v2.2.1)), (c + 3, .inl (1, 7, .inr (.inl v2.2.2))), (2, .inr (6, [.ref 3, .int (0 : Int32)])), (17, .inr (4, [.ref fa, .int j_count, .ref ga, .ref 20, .ref 24]))]))) rfl ?_
    refine g_getf rfl rfl (by omega) ((eW2_offA hO_x rfl).trans hc_x) rfl ?_
    refine eGs.steps 0 (y := (24, [some (.ref 1), some (.int label)], [.ref 17], (eW2 H [(c + 1, .inl (0, 6, .inl v2.1)), (c + 2, .inl (0, 6, .inl v2.2.1)), (c + 3, .inl (1, 7, .inr (.inl v2.2.2))), (2, .inr (6, [.ref 3, .int (0 : Int32)])), (17, .inr (4, [.ref fa, .int j_count, .ref ga, .ref 20, .ref 24]))]))) rfl ?_
    refine eGs.steps 1 (y := (25, [some (.ref 1), some (.int label)], [.int (0 : Int32), .ref 17], (eW2 H [(c + 1, .inl (0, 6, .inl v2.1)), (c + 2, .inl (0, 6, .inl v2.2.1)), (c + 3, .inl (1, 7, .inr (.inl v2.2.2))), (2, .inr (6, [.ref 3, .int (0 : Int32)])), (17, .inr (4, [.ref fa, .int j_count, .ref ga, .ref 20, .ref 24]))]))) rfl ?_
    refine g_putfW rfl rfl (by omega) (eW2_getA hN 4 rfl rfl) rfl (Nat.le_of_ble_eq_true rfl) rfl (eW2_setA hN 4 rfl rfl) ?_
    refine eGs.steps 0 (y := (28, [some (.ref 1), some (.int label)], [], (eW2 H [(c + 1, .inl (0, 6, .inl v2.1)), (c + 2, .inl (0, 6, .inl v2.2.1)), (c + 3, .inl (1, 7, .inr (.inl v2.2.2))), (2, .inr (6, [.ref 3, .int (0 : Int32)])), (17, .inr (4, [.ref fa, .int (0 : Int32), .ref ga, .ref 20, .ref 24]))]))) rfl ?_
    cases hM
    exact eGs.fin rfl rfl rfl
  | succ cc =>
    rw [hth] at hM hE
    dsimp only at hM
    cases hM
    exact g_thrS rfl rfl rfl rfl rfl (hE.mono (by first | decide | omega)) hnz rfl rfl rfl
def P_membrane (n : Nat) (parent : Int32) (label : Int32) (c_lab : Nat → Int32) (c_par : Nat → Int32) (c_hp : Nat → Int64) : Option (Nat × (Int32 × (Nat → Int32) × (Nat → Int32) × (Nat → Int64))) :=
  (P_checkMembrane n parent c_lab).bind fun v1 => (match v1.1 with | 0 => ((P_checkLabel n label).bind fun v2 => (match v2.1 with | 0 => ((K_leastFree n c_lab).bind fun v3 => (if v3 = (-1 : Int32) then (some (11, (0, c_lab, c_par, c_hp))) else ((K_open n v3 parent label (0 : Int64) c_lab c_par c_hp).bind fun v4 => (some (0, (v3, v4.1, v4.2.1, v4.2.2)))))) | cc + 1 => some (cc + 1, (0, c_lab, c_par, c_hp)))) | cc + 1 => some (cc + 1, (0, c_lab, c_par, c_hp)))
theorem T_P_membrane {X : Nat × (Nat → Int32)} {H : eH} {c : Nat} {tr : Nat} {parent : Int32} {label : Int32} {c_lab : Nat → Int32} {c_par : Nat → Int32} {c_hp : Nat → Int64} {n : Nat} {res : Nat × (Int32 × (Nat → Int32) × (Nat → Int32) × (Nat → Int64))} (hc_c : H.1 c = some (.inr (3, [.ref (c + 1), .ref (c + 2), .ref (c + 3)]))) (hc_cl : H.1 (c + 1) = some (.inl (0, 6, .inl c_lab))) (hc_cp : H.1 (c + 2) = some (.inl (0, 6, .inl c_par))) (hc_ch : H.1 (c + 3) = some (.inl (1, 7, .inr (.inl c_hp)))) (hc_x : H.1 1 = some (.inr (0, [.ref 2, .ref 10, .ref 15, .ref 17, .ref 345, .ref 347, .ref c, .ref tr]))) (hok_c : c = 20 ∨ c = 348 ∨ c = 352 ∨ (25 ≤ c ∧ c ≤ 341 ∧ c % 4 = 1)) (hnz : ¬ H.2.1 = 0) (hM : P_membrane n parent label c_lab c_par c_hp = some res) : eEv pP X 3 2 [.ref 1, .int parent, .int label] H (eTw pP res.1 (some (.int res.2.1)) (eW2 H [(c + 1, .inl (0, 6, .inl res.2.2.1)), (c + 2, .inl (0, 6, .inl res.2.2.2.1)), (c + 3, .inl (1, 7, .inr (.inl res.2.2.2.2)))])) := by
  have hN : ([c + 1, c + 2, c + 3] : List Nat).Nodup := by first | decide | (simp <;> omega)
  have hO_c : c ∉ ([c + 1, c + 2, c + 3] : List Nat) := by first | decide | (simp <;> omega)
  have hO_x : 1 ∉ ([c + 1, c + 2, c + 3] : List Nat) := by first | decide | (simp <;> omega)
  have h0 : (eW2 H [(c + 1, .inl (0, 6, .inl c_lab)), (c + 2, .inl (0, 6, .inl c_par)), (c + 3, .inl (1, 7, .inr (.inl c_hp)))]) = H := eW2_self (by simp only [List.forall_mem_cons]; exact ⟨hc_cl, hc_cp, hc_ch, fun _ h => absurd h List.not_mem_nil⟩)
  rw [show eEv pP X 3 2 _ H = eEv pP X 3 2 _ (eW2 H [(c + 1, .inl (0, 6, .inl c_lab)), (c + 2, .inl (0, 6, .inl c_par)), (c + 3, .inl (1, 7, .inr (.inl c_hp)))]) by rw [h0]]
  refine eEv.of (Nat.not_lt.mpr (Nat.le_of_ble_eq_true rfl)) ?_
  refine eGs.steps 0 (y := (0, [some (.ref 1), some (.int parent), some (.int label), none], [], (eW2 H [(c + 1, .inl (0, 6, .inl c_lab)), (c + 2, .inl (0, 6, .inl c_par)), (c + 3, .inl (1, 7, .inr (.inl c_hp)))]))) rfl ?_
  unfold P_membrane at hM
  refine eGs.steps 2 (y := (2, [some (.ref 1), some (.int parent), some (.int label), none], [.int parent, .ref 1], (eW2 H [(c + 1, .inl (0, 6, .inl c_lab)), (c + 2, .inl (0, 6, .inl c_par)), (c + 3, .inl (1, 7, .inr (.inl c_hp)))]))) rfl ?_
  obtain ⟨v1, hv, hM⟩ := dg_bind hM
  have hE := T_P_checkMembrane (X := X) (H := (eW2 H [(c + 1, .inl (0, 6, .inl c_lab)), (c + 2, .inl (0, 6, .inl c_par)), (c + 3, .inl (1, 7, .inr (.inl c_hp)))])) (hc_c := ((eW2_offA hO_c rfl).trans hc_c)) (hc_cl := (eW2_getA hN 0 rfl rfl)) (hc_x := ((eW2_offA hO_x rfl).trans hc_x)) (hok_c := by first | assumption | omega) (hnz := by first | assumption | omega) hv
  cases hth : v1.1 with
  | zero =>
    rw [hth] at hM hE
    dsimp only at hM
    refine g_callV rfl rfl rfl rfl rfl (by omega) ((eW2_offA hO_x rfl).trans hc_x) rfl (hE.mono (by first | decide | omega)) ?_
    refine eGs.steps 0 (y := (5, [some (.ref 1), some (.int parent), some (.int label), none], [], (eW2 H [(c + 1, .inl (0, 6, .inl c_lab)), (c + 2, .inl (0, 6, .inl c_par)), (c + 3, .inl (1, 7, .inr (.inl c_hp)))]))) rfl ?_
    refine eGs.steps 1 (y := (6, [some (.ref 1), some (.int parent), some (.int label), none], [.int label], (eW2 H [(c + 1, .inl (0, 6, .inl c_lab)), (c + 2, .inl (0, 6, .inl c_par)), (c + 3, .inl (1, 7, .inr (.inl c_hp)))]))) rfl ?_
    obtain ⟨v2, hv, hM⟩ := dg_bind hM
    have hE := T_P_checkLabel (X := X) (H := (eW2 H [(c + 1, .inl (0, 6, .inl c_lab)), (c + 2, .inl (0, 6, .inl c_par)), (c + 3, .inl (1, 7, .inr (.inl c_hp)))])) (hnz := by first | assumption | omega) hv
    cases hth : v2.1 with
    | zero =>
      rw [hth] at hM hE
      dsimp only at hM
      refine g_callS rfl rfl rfl rfl rfl (hE.mono (by first | decide | omega)) ?_
      refine eGs.steps 0 (y := (9, [some (.ref 1), some (.int parent), some (.int label), none], [], (eW2 H [(c + 1, .inl (0, 6, .inl c_lab)), (c + 2, .inl (0, 6, .inl c_par)), (c + 3, .inl (1, 7, .inr (.inl c_hp)))]))) rfl ?_
      refine eGs.steps 1 (y := (10, [some (.ref 1), some (.int parent), some (.int label), none], [.ref 1], (eW2 H [(c + 1, .inl (0, 6, .inl c_lab)), (c + 2, .inl (0, 6, .inl c_par)), (c + 3, .inl (1, 7, .inr (.inl c_hp)))]))) rfl ?_
      refine g_getf rfl rfl (by omega) ((eW2_offA hO_x rfl).trans hc_x) rfl ?_
      refine eGs.steps 0 (y := (13, [some (.ref 1), some (.int parent), some (.int label), none], [.ref c], (eW2 H [(c + 1, .inl (0, 6, .inl c_lab)), (c + 2, .inl (0, 6, .inl c_par)), (c + 3, .inl (1, 7, .inr (.inl c_hp)))]))) rfl ?_
      obtain ⟨v3, hv, hM⟩ := dg_bind hM
      have hE := T_K_leastFree (X := X) (H := (eW2 H [(c + 1, .inl (0, 6, .inl c_lab)), (c + 2, .inl (0, 6, .inl c_par)), (c + 3, .inl (1, 7, .inr (.inl c_hp)))])) (hc_c := ((eW2_offA hO_c rfl).trans hc_c)) (hc_cl := (eW2_getA hN 0 rfl rfl)) (hok_c := by first | assumption | omega) hv
      refine g_callV rfl rfl rfl rfl rfl (by omega) ((eW2_offA hO_c rfl).trans hc_c) rfl (hE.mono (by first | decide | omega)) ?_
      refine eGs.steps 0 (y := (16, [some (.ref 1), some (.int parent), some (.int label), none], [.int v3], (eW2 H [(c + 1, .inl (0, 6, .inl c_lab)), (c + 2, .inl (0, 6, .inl c_par)), (c + 3, .inl (1, 7, .inr (.inl c_hp)))]))) rfl ?_
      refine eGs.steps 3 (y := (19, [some (.ref 1), some (.int parent), some (.int label), some (.int v3)], [.int (-1 : Int32), .int v3], (eW2 H [(c + 1, .inl (0, 6, .inl c_lab)), (c + 2, .inl (0, 6, .inl c_par)), (c + 3, .inl (1, 7, .inr (.inl c_hp)))]))) rfl ?_
      by_cases hc : v3 = (-1 : Int32)
      · rw [if_pos hc] at hM
        refine g_icmp (cd := .ne) (t := 32) false rfl (decide_eq_false (fun z => z hc)) rfl ?_
        cases hM
        exact g_tnew rfl rfl rfl rfl rfl
      · rw [if_neg hc] at hM
        refine g_icmp (cd := .ne) (t := 32) true rfl (decide_eq_true hc) rfl ?_
        refine eGs.steps 1 (y := (33, [some (.ref 1), some (.int parent), some (.int label), some (.int v3)], [.ref 1], (eW2 H [(c + 1, .inl (0, 6, .inl c_lab)), (c + 2, .inl (0, 6, .inl c_par)), (c + 3, .inl (1, 7, .inr (.inl c_hp)))]))) rfl ?_
        refine g_getf rfl rfl (by omega) ((eW2_offA hO_x rfl).trans hc_x) rfl ?_
        refine eGs.steps 0 (y := (36, [some (.ref 1), some (.int parent), some (.int label), some (.int v3)], [.ref c], (eW2 H [(c + 1, .inl (0, 6, .inl c_lab)), (c + 2, .inl (0, 6, .inl c_par)), (c + 3, .inl (1, 7, .inr (.inl c_hp)))]))) rfl ?_
        refine eGs.steps 4 (y := (40, [some (.ref 1), some (.int parent), some (.int label), some (.int v3)], [.long (0 : Int64), .int label, .int parent, .int v3, .ref c], (eW2 H [(c + 1, .inl (0, 6, .inl c_lab)), (c + 2, .inl (0, 6, .inl c_par)), (c + 3, .inl (1, 7, .inr (.inl c_hp)))]))) rfl ?_
        obtain ⟨v4, hv, hM⟩ := dg_bind hM
        have hE := eEv_putA (T_K_open (X := X) (H := (eW2 H [(c + 1, .inl (0, 6, .inl c_lab)), (c + 2, .inl (0, 6, .inl c_par)), (c + 3, .inl (1, 7, .inr (.inl c_hp)))])) (hc_c := ((eW2_offA hO_c rfl).trans hc_c)) (hc_cl := (eW2_getA hN 0 rfl rfl)) (hc_cp := (eW2_getA hN 1 rfl rfl)) (hc_ch := (eW2_getA hN 2 rfl rfl)) (hok_c := by first | assumption | omega) hv) [0, 1, 2] hN rfl (by first | decide | (simp <;> omega)) rfl (eFor2_ok rfl)
        refine g_callV rfl rfl rfl rfl rfl (by omega) ((eW2_offA hO_c rfl).trans hc_c) rfl (hE.mono (by first | decide | omega)) ?_
        refine eGs.steps 0 (y := (43, [some (.ref 1), some (.int parent), some (.int label), some (.int v3)], [], (eW2 H [(c + 1, .inl (0, 6, .inl v4.1)), (c + 2, .inl (0, 6, .inl v4.2.1)), (c + 3, .inl (1, 7, .inr (.inl v4.2.2)))]))) rfl ?_
        refine eGs.steps 1 (y := (44, [some (.ref 1), some (.int parent), some (.int label), some (.int v3)], [.int v3], (eW2 H [(c + 1, .inl (0, 6, .inl v4.1)), (c + 2, .inl (0, 6, .inl v4.2.1)), (c + 3, .inl (1, 7, .inr (.inl v4.2.2)))]))) rfl ?_
        cases hM
        exact eGs.fin rfl rfl rfl
    | succ cc =>
      rw [hth] at hM hE
      dsimp only at hM
      cases hM
      exact g_thrS rfl rfl rfl rfl rfl (hE.mono (by first | decide | omega)) hnz rfl rfl rfl
  | succ cc =>
    rw [hth] at hM hE
    dsimp only at hM
    cases hM
    exact g_thrV rfl rfl rfl rfl rfl (by omega) ((eW2_offA hO_x rfl).trans hc_x) rfl (hE.mono (by first | decide | omega)) hnz rfl rfl rfl
def P_put (n : Nat) (membrane : Int32) (handful : Int32) (c_lab : Nat → Int32) (c_hp : Nat → Int64) : Option (Nat × ((Nat → Int64))) :=
  (P_checkMembrane n membrane c_lab).bind fun v1 => (match v1.1 with | 0 => ((P_checkHandful n handful).bind fun v2 => (match v2.1 with | 0 => (if membrane < 0 ∨ 7 ≤ (membrane).toNatClampNeg then none else ((H_ofHandful n handful).bind fun v4 => ((H_within n ((c_hp (membrane).toNatClampNeg) + v4) (3378524555624460 : Int64)).bind fun v5 => (if v5 = 0 then (some (11, c_hp)) else (if membrane < 0 ∨ 7 ≤ (membrane).toNatClampNeg then none else (some (0, (eUp c_hp (membrane).toNatClampNeg ((c_hp (membrane).toNatClampNeg) + v4))))))))) | cc + 1 => some (cc + 1, c_hp))) | cc + 1 => some (cc + 1, c_hp))
theorem T_P_put {X : Nat × (Nat → Int32)} {H : eH} {c : Nat} {tr : Nat} {membrane : Int32} {handful : Int32} {c_lab : Nat → Int32} {c_hp : Nat → Int64} {n : Nat} {res : Nat × ((Nat → Int64))} (hc_c : H.1 c = some (.inr (3, [.ref (c + 1), .ref (c + 2), .ref (c + 3)]))) (hc_cl : H.1 (c + 1) = some (.inl (0, 6, .inl c_lab))) (hc_ch : H.1 (c + 3) = some (.inl (1, 7, .inr (.inl c_hp)))) (hc_x : H.1 1 = some (.inr (0, [.ref 2, .ref 10, .ref 15, .ref 17, .ref 345, .ref 347, .ref c, .ref tr]))) (hok_c : c = 20 ∨ c = 348 ∨ c = 352 ∨ (25 ≤ c ∧ c ≤ 341 ∧ c % 4 = 1)) (hnz : ¬ H.2.1 = 0) (hM : P_put n membrane handful c_lab c_hp = some res) : eEv pP X 3 3 [.ref 1, .int membrane, .int handful] H (eTw pP res.1 (none) (eW2 H [(c + 3, .inl (1, 7, .inr (.inl res.2)))])) := by
  have hN : ([c + 3] : List Nat).Nodup := by first | decide | (simp <;> omega)
  have hO_c : c ∉ ([c + 3] : List Nat) := by first | decide | (simp <;> omega)
  have hO_cl : c + 1 ∉ ([c + 3] : List Nat) := by first | decide | (simp <;> omega)
  have hO_x : 1 ∉ ([c + 3] : List Nat) := by first | decide | (simp <;> omega)
  have h0 : (eW2 H [(c + 3, .inl (1, 7, .inr (.inl c_hp)))]) = H := eW2_self (by simp only [List.forall_mem_cons]; exact ⟨hc_ch, fun _ h => absurd h List.not_mem_nil⟩)
  rw [show eEv pP X 3 3 _ H = eEv pP X 3 3 _ (eW2 H [(c + 3, .inl (1, 7, .inr (.inl c_hp)))]) by rw [h0]]
  refine eEv.of (Nat.not_lt.mpr (Nat.le_of_ble_eq_true rfl)) ?_
  refine eGs.steps 0 (y := (0, [some (.ref 1), some (.int membrane), some (.int handful), none, none], [], (eW2 H [(c + 3, .inl (1, 7, .inr (.inl c_hp)))]))) rfl ?_
  unfold P_put at hM
  refine eGs.steps 2 (y := (2, [some (.ref 1), some (.int membrane), some (.int handful), none, none], [.int membrane, .ref 1], (eW2 H [(c + 3, .inl (1, 7, .inr (.inl c_hp)))]))) rfl ?_
  obtain ⟨v1, hv, hM⟩ := dg_bind hM
  have hE := T_P_checkMembrane (X := X) (H := (eW2 H [(c + 3, .inl (1, 7, .inr (.inl c_hp)))])) (hc_c := ((eW2_offA hO_c rfl).trans hc_c)) (hc_cl := ((eW2_offA hO_cl rfl).trans hc_cl)) (hc_x := ((eW2_offA hO_x rfl).trans hc_x)) (hok_c := by first | assumption | omega) (hnz := by first | assumption | omega) hv
  cases hth : v1.1 with
  | zero =>
    rw [hth] at hM hE
    dsimp only at hM
    refine g_callV rfl rfl rfl rfl rfl (by omega) ((eW2_offA hO_x rfl).trans hc_x) rfl (hE.mono (by first | decide | omega)) ?_
    refine eGs.steps 0 (y := (5, [some (.ref 1), some (.int membrane), some (.int handful), none, none], [], (eW2 H [(c + 3, .inl (1, 7, .inr (.inl c_hp)))]))) rfl ?_
    refine eGs.steps 1 (y := (6, [some (.ref 1), some (.int membrane), some (.int handful), none, none], [.int handful], (eW2 H [(c + 3, .inl (1, 7, .inr (.inl c_hp)))]))) rfl ?_
    obtain ⟨v2, hv, hM⟩ := dg_bind hM
    have hE := T_P_checkHandful (X := X) (H := (eW2 H [(c + 3, .inl (1, 7, .inr (.inl c_hp)))])) (hnz := by first | assumption | omega) hv
    cases hth : v2.1 with
    | zero =>
      rw [hth] at hM hE
      dsimp only at hM
      refine g_callS rfl rfl rfl rfl rfl (hE.mono (by first | decide | omega)) ?_
      refine eGs.steps 0 (y := (9, [some (.ref 1), some (.int membrane), some (.int handful), none, none], [], (eW2 H [(c + 3, .inl (1, 7, .inr (.inl c_hp)))]))) rfl ?_
      refine eGs.steps 1 (y := (10, [some (.ref 1), some (.int membrane), some (.int handful), none, none], [.ref 1], (eW2 H [(c + 3, .inl (1, 7, .inr (.inl c_hp)))]))) rfl ?_
      refine g_getf rfl rfl (by omega) ((eW2_offA hO_x rfl).trans hc_x) rfl ?_
      refine eGs.steps 0 (y := (13, [some (.ref 1), some (.int membrane), some (.int handful), none, none], [.ref c], (eW2 H [(c + 3, .inl (1, 7, .inr (.inl c_hp)))]))) rfl ?_
      refine g_getf rfl rfl (by omega) ((eW2_offA hO_c rfl).trans hc_c) rfl ?_
      refine eGs.steps 0 (y := (16, [some (.ref 1), some (.int membrane), some (.int handful), none, none], [.ref (c + 3)], (eW2 H [(c + 3, .inl (1, 7, .inr (.inl c_hp)))]))) rfl ?_
      refine eGs.steps 1 (y := (17, [some (.ref 1), some (.int membrane), some (.int handful), none, none], [.int membrane, .ref (c + 3)], (eW2 H [(c + 3, .inl (1, 7, .inr (.inl c_hp)))]))) rfl ?_
      obtain ⟨hg3, hM⟩ := dg_none hM
      refine g_lald rfl (by omega) (eW2_getA hN 0 rfl rfl) hg3 ?_
      refine eGs.steps 0 (y := (18, [some (.ref 1), some (.int membrane), some (.int handful), none, none], [.long (c_hp (membrane).toNatClampNeg)], (eW2 H [(c + 3, .inl (1, 7, .inr (.inl c_hp)))]))) rfl ?_
      refine eGs.steps 1 (y := (19, [some (.ref 1), some (.int membrane), some (.int handful), none, none], [.int handful, .long (c_hp (membrane).toNatClampNeg)], (eW2 H [(c + 3, .inl (1, 7, .inr (.inl c_hp)))]))) rfl ?_
      obtain ⟨v4, hv, hM⟩ := dg_bind hM
      have hE := T_H_ofHandful (X := X) (H := (eW2 H [(c + 3, .inl (1, 7, .inr (.inl c_hp)))]))  hv
      refine g_callS rfl rfl rfl rfl rfl (hE.mono (by first | decide | omega)) ?_
      refine eGs.steps 0 (y := (22, [some (.ref 1), some (.int membrane), some (.int handful), none, none], [.long v4, .long (c_hp (membrane).toNatClampNeg)], (eW2 H [(c + 3, .inl (1, 7, .inr (.inl c_hp)))]))) rfl ?_
      refine eGs.steps 4 (y := (28, [some (.ref 1), some (.int membrane), some (.int handful), some (.long ((c_hp (membrane).toNatClampNeg) + v4)), none], [.long (3378524555624460 : Int64), .long ((c_hp (membrane).toNatClampNeg) + v4)], (eW2 H [(c + 3, .inl (1, 7, .inr (.inl c_hp)))]))) rfl ?_
      obtain ⟨v5, hv, hM⟩ := dg_bind hM
      have hE := T_H_within (X := X) (H := (eW2 H [(c + 3, .inl (1, 7, .inr (.inl c_hp)))]))  hv
      refine g_callS rfl rfl rfl rfl rfl (hE.mono (by first | decide | omega)) ?_
      refine eGs.steps 0 (y := (31, [some (.ref 1), some (.int membrane), some (.int handful), some (.long ((c_hp (membrane).toNatClampNeg) + v4)), none], [.int v5], (eW2 H [(c + 3, .inl (1, 7, .inr (.inl c_hp)))]))) rfl ?_
      by_cases hc : v5 = 0
      · rw [if_pos hc] at hM
        refine g_if (cd := .ne) (t := 44) false rfl (decide_eq_false (fun z => z hc)) rfl ?_
        cases hM
        exact g_tnew rfl rfl rfl rfl rfl
      · rw [if_neg hc] at hM
        refine g_if (cd := .ne) (t := 44) true rfl (decide_eq_true hc) rfl ?_
        refine eGs.steps 1 (y := (45, [some (.ref 1), some (.int membrane), some (.int handful), some (.long ((c_hp (membrane).toNatClampNeg) + v4)), none], [.ref 1], (eW2 H [(c + 3, .inl (1, 7, .inr (.inl c_hp)))]))) rfl ?_
        refine g_getf rfl rfl (by omega) ((eW2_offA hO_x rfl).trans hc_x) rfl ?_
        refine eGs.steps 0 (y := (48, [some (.ref 1), some (.int membrane), some (.int handful), some (.long ((c_hp (membrane).toNatClampNeg) + v4)), none], [.ref c], (eW2 H [(c + 3, .inl (1, 7, .inr (.inl c_hp)))]))) rfl ?_
        refine g_getf rfl rfl (by omega) ((eW2_offA hO_c rfl).trans hc_c) rfl ?_
        refine eGs.steps 0 (y := (51, [some (.ref 1), some (.int membrane), some (.int handful), some (.long ((c_hp (membrane).toNatClampNeg) + v4)), none], [.ref (c + 3)], (eW2 H [(c + 3, .inl (1, 7, .inr (.inl c_hp)))]))) rfl ?_
        refine eGs.steps 2 (y := (53, [some (.ref 1), some (.int membrane), some (.int handful), some (.long ((c_hp (membrane).toNatClampNeg) + v4)), none], [.long ((c_hp (membrane).toNatClampNeg) + v4), .int membrane, .ref (c + 3)], (eW2 H [(c + 3, .inl (1, 7, .inr (.inl c_hp)))]))) rfl ?_
        obtain ⟨hg6, hM⟩ := dg_none hM
        refine g_lastW rfl (by omega) (eW2_getA hN 0 rfl rfl) hg6 (eW2_setA hN 0 rfl rfl) ?_
        refine eGs.steps 0 (y := (54, [some (.ref 1), some (.int membrane), some (.int handful), some (.long ((c_hp (membrane).toNatClampNeg) + v4)), none], [], (eW2 H [(c + 3, .inl (1, 7, .inr (.inl (eUp c_hp (membrane).toNatClampNeg ((c_hp (membrane).toNatClampNeg) + v4)))))]))) rfl ?_
        cases hM
        exact eGs.fin rfl rfl rfl
    | succ cc =>
      rw [hth] at hM hE
      dsimp only at hM
      cases hM
      exact g_thrS rfl rfl rfl rfl rfl (hE.mono (by first | decide | omega)) hnz rfl rfl rfl
  | succ cc =>
    rw [hth] at hM hE
    dsimp only at hM
    cases hM
    exact g_thrV rfl rfl rfl rfl rfl (by omega) ((eW2_offA hO_x rfl).trans hc_x) rfl (hE.mono (by first | decide | omega)) hnz rfl rfl rfl
def P_uses (n : Nat) (membrane : Int32) (rule : Int32) (c_lab : Nat → Int32) (c_par : Nat → Int32) (c_hp : Nat → Int64) (h_opens : Int32) (h_open : Nat → Option Nat) (u_label : Nat → Int32) (u_left : Nat → Int64) (u_into : Nat → Int64) (u_intoLabel : Nat → Int32) (u_dissolves : Nat → Int32) (u_divides : Nat → Int32) (b_count : Int32) : Option (Nat × (Int32 × Int32 × (Nat → Option Nat))) :=
  (P_checkMembrane n membrane c_lab).bind fun v1 => (match v1.1 with | 0 => ((P_checkRule n rule b_count).bind fun v2 => (match v2.1 with | 0 => ((O_machineChoice n membrane h_open u_label u_left u_into u_intoLabel u_dissolves u_divides b_count c_lab c_par c_hp).bind fun v3 => ((Ch_usesOf n v3.1 rule).bind fun v4 => (some (0, (v4, v3.2.1, v3.2.2))))) | cc + 1 => some (cc + 1, (0, h_opens, h_open)))) | cc + 1 => some (cc + 1, (0, h_opens, h_open)))
theorem T_P_uses {X : Nat × (Nat → Int32)} {H : eH} {c : Nat} {tr : Nat} {membrane : Int32} {rule : Int32} {c_lab : Nat → Int32} {c_par : Nat → Int32} {c_hp : Nat → Int64} {h_opens : Int32} {h_start : Int32} {h_end : Int32} {h_open : Nat → Option Nat} {u_label : Nat → Int32} {u_left : Nat → Int64} {u_leftKinds : Nat → Int64} {u_here : Nat → Int64} {u_out : Nat → Int64} {u_into : Nat → Int64} {u_intoLabel : Nat → Int32} {u_dissolves : Nat → Int32} {u_divides : Nat → Int32} {u_other : Nat → Int64} {b_count : Int32} {n : Nat} {res : Nat × (Int32 × Int32 × (Nat → Option Nat))} (hc_c : H.1 c = some (.inr (3, [.ref (c + 1), .ref (c + 2), .ref (c + 3)]))) (hc_cl : H.1 (c + 1) = some (.inl (0, 6, .inl c_lab))) (hc_cp : H.1 (c + 2) = some (.inl (0, 6, .inl c_par))) (hc_ch : H.1 (c + 3) = some (.inl (1, 7, .inr (.inl c_hp)))) (hc_h : H.1 10 = some (.inr (2, [.ref 11, .int h_opens, .ref 12, .int h_start, .int h_end, .ref 13, .ref 14]))) (hc_ho : H.1 11 = some (.inl (3, 6, .inr (.inr fun i => (h_open i).map fun j => 4 + j)))) (hc_b : H.1 2 = some (.inr (6, [.ref 3, .int b_count]))) (hc_ba : H.1 3 = some (.inl (3, 6, .inr (.inr fun i => if i < 6 then some (4 + i) else none)))) (hc_x : H.1 1 = some (.inr (0, [.ref 2, .ref 10, .ref 15, .ref 17, .ref 345, .ref 347, .ref c, .ref tr]))) (hu : ∀ i, i < 6 → H.1 (4 + i) = some (.inr (5, [.int (nI i), .int (u_label i), .long (u_left i), .long (u_leftKinds i), .long (u_here i), .long (u_out i), .long (u_into i), .int (u_intoLabel i), .int (u_dissolves i), .int (u_divides i), .long (u_other i)]))) (hok_c : c = 20 ∨ c = 348 ∨ c = 352 ∨ (25 ≤ c ∧ c ≤ 341 ∧ c % 4 = 1)) (hnz : ¬ H.2.1 = 0) (hM : P_uses n membrane rule c_lab c_par c_hp h_opens h_open u_label u_left u_into u_intoLabel u_dissolves u_divides b_count = some res) : eEv pP X 5 9 [.ref 1, .int membrane, .int rule] H (eTw pP res.1 (some (.int res.2.1)) (eW2 H [(10, .inr (2, [.ref 11, .int res.2.2.1, .ref 12, .int h_start, .int h_end, .ref 13, .ref 14])), (11, .inl (3, 6, .inr (.inr fun i => (res.2.2.2 i).map fun j => 4 + j)))])) := by
  have hN : ([10, 11] : List Nat).Nodup := by first | decide | (simp <;> omega)
  have hO_c : c ∉ ([10, 11] : List Nat) := by first | decide | (simp <;> omega)
  have hO_cl : c + 1 ∉ ([10, 11] : List Nat) := by first | decide | (simp <;> omega)
  have hO_cp : c + 2 ∉ ([10, 11] : List Nat) := by first | decide | (simp <;> omega)
  have hO_ch : c + 3 ∉ ([10, 11] : List Nat) := by first | decide | (simp <;> omega)
  have hO_b : 2 ∉ ([10, 11] : List Nat) := by first | decide | (simp <;> omega)
  have hO_ba : 3 ∉ ([10, 11] : List Nat) := by first | decide | (simp <;> omega)
  have hO_x : 1 ∉ ([10, 11] : List Nat) := by first | decide | (simp <;> omega)
  have hOu : ∀ i, i < 6 → 4 + i ∉ ([10, 11] : List Nat) := fun i hi => by simp <;> omega
  have h0 : (eW2 H [(10, .inr (2, [.ref 11, .int h_opens, .ref 12, .int h_start, .int h_end, .ref 13, .ref 14])), (11, .inl (3, 6, .inr (.inr fun i => (h_open i).map fun j => 4 + j)))]) = H := eW2_self (by simp only [List.forall_mem_cons]; exact ⟨hc_h, hc_ho, fun _ h => absurd h List.not_mem_nil⟩)
  rw [show eEv pP X 5 9 _ H = eEv pP X 5 9 _ (eW2 H [(10, .inr (2, [.ref 11, .int h_opens, .ref 12, .int h_start, .int h_end, .ref 13, .ref 14])), (11, .inl (3, 6, .inr (.inr fun i => (h_open i).map fun j => 4 + j)))]) by rw [h0]]
  refine eEv.of (Nat.not_lt.mpr (Nat.le_of_ble_eq_true rfl)) ?_
  refine eGs.steps 0 (y := (0, [some (.ref 1), some (.int membrane), some (.int rule)], [], (eW2 H [(10, .inr (2, [.ref 11, .int h_opens, .ref 12, .int h_start, .int h_end, .ref 13, .ref 14])), (11, .inl (3, 6, .inr (.inr fun i => (h_open i).map fun j => 4 + j)))]))) rfl ?_
  unfold P_uses at hM
  refine eGs.steps 2 (y := (2, [some (.ref 1), some (.int membrane), some (.int rule)], [.int membrane, .ref 1], (eW2 H [(10, .inr (2, [.ref 11, .int h_opens, .ref 12, .int h_start, .int h_end, .ref 13, .ref 14])), (11, .inl (3, 6, .inr (.inr fun i => (h_open i).map fun j => 4 + j)))]))) rfl ?_
  obtain ⟨v1, hv, hM⟩ := dg_bind hM
  have hE := T_P_checkMembrane (X := X) (H := (eW2 H [(10, .inr (2, [.ref 11, .int h_opens, .ref 12, .int h_start, .int h_end, .ref 13, .ref 14])), (11, .inl (3, 6, .inr (.inr fun i => (h_open i).map fun j => 4 + j)))])) (hc_c := ((eW2_offA hO_c rfl).trans hc_c)) (hc_cl := ((eW2_offA hO_cl rfl).trans hc_cl)) (hc_x := ((eW2_offA hO_x rfl).trans hc_x)) (hok_c := by first | assumption | omega) (hnz := by first | assumption | omega) hv
  cases hth : v1.1 with
  | zero =>
    rw [hth] at hM hE
    dsimp only at hM
    refine g_callV rfl rfl rfl rfl rfl (by omega) ((eW2_offA hO_x rfl).trans hc_x) rfl (hE.mono (by first | decide | omega)) ?_
    refine eGs.steps 0 (y := (5, [some (.ref 1), some (.int membrane), some (.int rule)], [], (eW2 H [(10, .inr (2, [.ref 11, .int h_opens, .ref 12, .int h_start, .int h_end, .ref 13, .ref 14])), (11, .inl (3, 6, .inr (.inr fun i => (h_open i).map fun j => 4 + j)))]))) rfl ?_
    refine eGs.steps 2 (y := (7, [some (.ref 1), some (.int membrane), some (.int rule)], [.int rule, .ref 1], (eW2 H [(10, .inr (2, [.ref 11, .int h_opens, .ref 12, .int h_start, .int h_end, .ref 13, .ref 14])), (11, .inl (3, 6, .inr (.inr fun i => (h_open i).map fun j => 4 + j)))]))) rfl ?_
    obtain ⟨v2, hv, hM⟩ := dg_bind hM
    have hE := T_P_checkRule (X := X) (H := (eW2 H [(10, .inr (2, [.ref 11, .int h_opens, .ref 12, .int h_start, .int h_end, .ref 13, .ref 14])), (11, .inl (3, 6, .inr (.inr fun i => (h_open i).map fun j => 4 + j)))])) (hc_b := ((eW2_offA hO_b rfl).trans hc_b)) (hc_x := ((eW2_offA hO_x rfl).trans hc_x)) (hok_c := by first | assumption | omega) (hnz := by first | assumption | omega) hv
    cases hth : v2.1 with
    | zero =>
      rw [hth] at hM hE
      dsimp only at hM
      refine g_callV rfl rfl rfl rfl rfl (by omega) ((eW2_offA hO_x rfl).trans hc_x) rfl (hE.mono (by first | decide | omega)) ?_
      refine eGs.steps 0 (y := (10, [some (.ref 1), some (.int membrane), some (.int rule)], [], (eW2 H [(10, .inr (2, [.ref 11, .int h_opens, .ref 12, .int h_start, .int h_end, .ref 13, .ref 14])), (11, .inl (3, 6, .inr (.inr fun i => (h_open i).map fun j => 4 + j)))]))) rfl ?_
      refine eGs.steps 1 (y := (11, [some (.ref 1), some (.int membrane), some (.int rule)], [.ref 1], (eW2 H [(10, .inr (2, [.ref 11, .int h_opens, .ref 12, .int h_start, .int h_end, .ref 13, .ref 14])), (11, .inl (3, 6, .inr (.inr fun i => (h_open i).map fun j => 4 + j)))]))) rfl ?_
      refine g_getf rfl rfl (by omega) ((eW2_offA hO_x rfl).trans hc_x) rfl ?_
      refine eGs.steps 0 (y := (14, [some (.ref 1), some (.int membrane), some (.int rule)], [.ref 10], (eW2 H [(10, .inr (2, [.ref 11, .int h_opens, .ref 12, .int h_start, .int h_end, .ref 13, .ref 14])), (11, .inl (3, 6, .inr (.inr fun i => (h_open i).map fun j => 4 + j)))]))) rfl ?_
      refine eGs.steps 1 (y := (15, [some (.ref 1), some (.int membrane), some (.int rule)], [.ref 1, .ref 10], (eW2 H [(10, .inr (2, [.ref 11, .int h_opens, .ref 12, .int h_start, .int h_end, .ref 13, .ref 14])), (11, .inl (3, 6, .inr (.inr fun i => (h_open i).map fun j => 4 + j)))]))) rfl ?_
      refine g_getf rfl rfl (by omega) ((eW2_offA hO_x rfl).trans hc_x) rfl ?_
      refine eGs.steps 0 (y := (18, [some (.ref 1), some (.int membrane), some (.int rule)], [.ref 2, .ref 10], (eW2 H [(10, .inr (2, [.ref 11, .int h_opens, .ref 12, .int h_start, .int h_end, .ref 13, .ref 14])), (11, .inl (3, 6, .inr (.inr fun i => (h_open i).map fun j => 4 + j)))]))) rfl ?_
      refine eGs.steps 1 (y := (19, [some (.ref 1), some (.int membrane), some (.int rule)], [.ref 1, .ref 2, .ref 10], (eW2 H [(10, .inr (2, [.ref 11, .int h_opens, .ref 12, .int h_start, .int h_end, .ref 13, .ref 14])), (11, .inl (3, 6, .inr (.inr fun i => (h_open i).map fun j => 4 + j)))]))) rfl ?_
      refine g_getf rfl rfl (by omega) ((eW2_offA hO_x rfl).trans hc_x) rfl ?_
      refine eGs.steps 0 (y := (22, [some (.ref 1), some (.int membrane), some (.int rule)], [.ref c, .ref 2, .ref 10], (eW2 H [(10, .inr (2, [.ref 11, .int h_opens, .ref 12, .int h_start, .int h_end, .ref 13, .ref 14])), (11, .inl (3, 6, .inr (.inr fun i => (h_open i).map fun j => 4 + j)))]))) rfl ?_
      refine eGs.steps 1 (y := (23, [some (.ref 1), some (.int membrane), some (.int rule)], [.int membrane, .ref c, .ref 2, .ref 10], (eW2 H [(10, .inr (2, [.ref 11, .int h_opens, .ref 12, .int h_start, .int h_end, .ref 13, .ref 14])), (11, .inl (3, 6, .inr (.inr fun i => (h_open i).map fun j => 4 + j)))]))) rfl ?_
      obtain ⟨v3, hv, hM⟩ := dg_bind hM
      have hE := eEv_putA (T_O_machineChoice (X := X) (H := (eW2 H [(10, .inr (2, [.ref 11, .int h_opens, .ref 12, .int h_start, .int h_end, .ref 13, .ref 14])), (11, .inl (3, 6, .inr (.inr fun i => (h_open i).map fun j => 4 + j)))])) (hc_h := (eW2_getA hN 0 rfl rfl)) (hc_ho := (eW2_getA hN 1 rfl rfl)) (hc_b := ((eW2_offA hO_b rfl).trans hc_b)) (hc_ba := ((eW2_offA hO_ba rfl).trans hc_ba)) (hc_c := ((eW2_offA hO_c rfl).trans hc_c)) (hc_cl := ((eW2_offA hO_cl rfl).trans hc_cl)) (hc_cp := ((eW2_offA hO_cp rfl).trans hc_cp)) (hc_ch := ((eW2_offA hO_ch rfl).trans hc_ch)) (hu := fun i hi => (eW2_offA (hOu i hi) rfl).trans (hu i hi)) (hok_c := by first | assumption | omega) hv) [0, 1] hN rfl (by first | decide | (simp <;> omega)) rfl (eFor2_ok rfl)
      refine g_callV rfl rfl rfl rfl rfl (by omega) (eW2_getA hN 0 rfl rfl) rfl (hE.mono (by first | decide | omega)) ?_
      refine eGs.steps 0 (y := (26, [some (.ref 1), some (.int membrane), some (.int rule)], [.int v3.1], (eW2 H [(10, .inr (2, [.ref 11, .int v3.2.1, .ref 12, .int h_start, .int h_end, .ref 13, .ref 14])), (11, .inl (3, 6, .inr (.inr fun i => (v3.2.2 i).map fun j => 4 + j)))]))) rfl ?_
      refine eGs.steps 1 (y := (27, [some (.ref 1), some (.int membrane), some (.int rule)], [.int rule, .int v3.1], (eW2 H [(10, .inr (2, [.ref 11, .int v3.2.1, .ref 12, .int h_start, .int h_end, .ref 13, .ref 14])), (11, .inl (3, 6, .inr (.inr fun i => (v3.2.2 i).map fun j => 4 + j)))]))) rfl ?_
      obtain ⟨v4, hv, hM⟩ := dg_bind hM
      have hE := T_Ch_usesOf (X := X) (H := (eW2 H [(10, .inr (2, [.ref 11, .int v3.2.1, .ref 12, .int h_start, .int h_end, .ref 13, .ref 14])), (11, .inl (3, 6, .inr (.inr fun i => (v3.2.2 i).map fun j => 4 + j)))]))  hv
      refine g_callS rfl rfl rfl rfl rfl (hE.mono (by first | decide | omega)) ?_
      refine eGs.steps 0 (y := (30, [some (.ref 1), some (.int membrane), some (.int rule)], [.int v4], (eW2 H [(10, .inr (2, [.ref 11, .int v3.2.1, .ref 12, .int h_start, .int h_end, .ref 13, .ref 14])), (11, .inl (3, 6, .inr (.inr fun i => (v3.2.2 i).map fun j => 4 + j)))]))) rfl ?_
      cases hM
      exact eGs.fin rfl rfl rfl
    | succ cc =>
      rw [hth] at hM hE
      dsimp only at hM
      cases hM
      exact g_thrV rfl rfl rfl rfl rfl (by omega) ((eW2_offA hO_x rfl).trans hc_x) rfl (hE.mono (by first | decide | omega)) hnz rfl rfl rfl
  | succ cc =>
    rw [hth] at hM hE
    dsimp only at hM
    cases hM
    exact g_thrV rfl rfl rfl rfl rfl (by omega) ((eW2_offA hO_x rfl).trans hc_x) rfl (hE.mono (by first | decide | omega)) hnz rfl rfl rfl
def P_choices (n : Nat) (membrane : Int32) (c_lab : Nat → Int32) (c_par : Nat → Int32) (c_hp : Nat → Int64) (h_opens : Int32) (h_start : Int32) (h_end : Int32) (h_open : Nat → Option Nat) (h_row : Nat → Int32) (u_label : Nat → Int32) (u_left : Nat → Int64) (u_leftKinds : Nat → Int64) (u_into : Nat → Int64) (u_intoLabel : Nat → Int32) (u_dissolves : Nat → Int32) (u_divides : Nat → Int32) (b_count : Int32) : Option (Nat × (Int32 × Int32 × Int32 × Int32 × (Nat → Option Nat) × (Nat → Int32))) :=
  (P_checkMembrane n membrane c_lab).bind fun v1 => (match v1.1 with | 0 => ((O_count n membrane h_open h_row u_label u_left u_leftKinds u_into u_intoLabel u_dissolves u_divides b_count c_lab c_par c_hp).bind fun v2 => (some (0, ((if (1000 : Int32) < v2.1 then (1000 : Int32) else v2.1), v2.2.1, v2.2.2.1, v2.2.2.2.1, v2.2.2.2.2.1, v2.2.2.2.2.2)))) | cc + 1 => some (cc + 1, (0, h_opens, h_start, h_end, h_open, h_row)))
theorem T_P_choices {X : Nat × (Nat → Int32)} {H : eH} {c : Nat} {tr : Nat} {membrane : Int32} {c_lab : Nat → Int32} {c_par : Nat → Int32} {c_hp : Nat → Int64} {h_opens : Int32} {h_start : Int32} {h_end : Int32} {h_open : Nat → Option Nat} {h_row : Nat → Int32} {h_starts : Nat → Int32} {h_places : Nat → Int32} {u_label : Nat → Int32} {u_left : Nat → Int64} {u_leftKinds : Nat → Int64} {u_here : Nat → Int64} {u_out : Nat → Int64} {u_into : Nat → Int64} {u_intoLabel : Nat → Int32} {u_dissolves : Nat → Int32} {u_divides : Nat → Int32} {u_other : Nat → Int64} {b_count : Int32} {n : Nat} {res : Nat × (Int32 × Int32 × Int32 × Int32 × (Nat → Option Nat) × (Nat → Int32))} (hc_c : H.1 c = some (.inr (3, [.ref (c + 1), .ref (c + 2), .ref (c + 3)]))) (hc_cl : H.1 (c + 1) = some (.inl (0, 6, .inl c_lab))) (hc_cp : H.1 (c + 2) = some (.inl (0, 6, .inl c_par))) (hc_ch : H.1 (c + 3) = some (.inl (1, 7, .inr (.inl c_hp)))) (hc_h : H.1 10 = some (.inr (2, [.ref 11, .int h_opens, .ref 12, .int h_start, .int h_end, .ref 13, .ref 14]))) (hc_ho : H.1 11 = some (.inl (3, 6, .inr (.inr fun i => (h_open i).map fun j => 4 + j)))) (hc_hr : H.1 12 = some (.inl (0, 2012, .inl h_row))) (hc_hs : H.1 13 = some (.inl (0, 7, .inl h_starts))) (hc_hq : H.1 14 = some (.inl (0, 6, .inl h_places))) (hc_b : H.1 2 = some (.inr (6, [.ref 3, .int b_count]))) (hc_ba : H.1 3 = some (.inl (3, 6, .inr (.inr fun i => if i < 6 then some (4 + i) else none)))) (hc_x : H.1 1 = some (.inr (0, [.ref 2, .ref 10, .ref 15, .ref 17, .ref 345, .ref 347, .ref c, .ref tr]))) (hu : ∀ i, i < 6 → H.1 (4 + i) = some (.inr (5, [.int (nI i), .int (u_label i), .long (u_left i), .long (u_leftKinds i), .long (u_here i), .long (u_out i), .long (u_into i), .int (u_intoLabel i), .int (u_dissolves i), .int (u_divides i), .long (u_other i)]))) (hok_c : c = 20 ∨ c = 348 ∨ c = 352 ∨ (25 ≤ c ∧ c ≤ 341 ∧ c % 4 = 1)) (hnz : ¬ H.2.1 = 0) (hM : P_choices n membrane c_lab c_par c_hp h_opens h_start h_end h_open h_row u_label u_left u_leftKinds u_into u_intoLabel u_dissolves u_divides b_count = some res) : eEv pP X 15 10 [.ref 1, .int membrane] H (eTw pP res.1 (some (.int res.2.1)) (eW2 H [(10, .inr (2, [.ref 11, .int res.2.2.1, .ref 12, .int res.2.2.2.1, .int res.2.2.2.2.1, .ref 13, .ref 14])), (11, .inl (3, 6, .inr (.inr fun i => (res.2.2.2.2.2.1 i).map fun j => 4 + j))), (12, .inl (0, 2012, .inl res.2.2.2.2.2.2))])) := by
  have hN : ([10, 11, 12] : List Nat).Nodup := by first | decide | (simp <;> omega)
  have hO_c : c ∉ ([10, 11, 12] : List Nat) := by first | decide | (simp <;> omega)
  have hO_cl : c + 1 ∉ ([10, 11, 12] : List Nat) := by first | decide | (simp <;> omega)
  have hO_cp : c + 2 ∉ ([10, 11, 12] : List Nat) := by first | decide | (simp <;> omega)
  have hO_ch : c + 3 ∉ ([10, 11, 12] : List Nat) := by first | decide | (simp <;> omega)
  have hO_hs : 13 ∉ ([10, 11, 12] : List Nat) := by first | decide | (simp <;> omega)
  have hO_hq : 14 ∉ ([10, 11, 12] : List Nat) := by first | decide | (simp <;> omega)
  have hO_b : 2 ∉ ([10, 11, 12] : List Nat) := by first | decide | (simp <;> omega)
  have hO_ba : 3 ∉ ([10, 11, 12] : List Nat) := by first | decide | (simp <;> omega)
  have hO_x : 1 ∉ ([10, 11, 12] : List Nat) := by first | decide | (simp <;> omega)
  have hOu : ∀ i, i < 6 → 4 + i ∉ ([10, 11, 12] : List Nat) := fun i hi => by simp <;> omega
  have h0 : (eW2 H [(10, .inr (2, [.ref 11, .int h_opens, .ref 12, .int h_start, .int h_end, .ref 13, .ref 14])), (11, .inl (3, 6, .inr (.inr fun i => (h_open i).map fun j => 4 + j))), (12, .inl (0, 2012, .inl h_row))]) = H := eW2_self (by simp only [List.forall_mem_cons]; exact ⟨hc_h, hc_ho, hc_hr, fun _ h => absurd h List.not_mem_nil⟩)
  rw [show eEv pP X 15 10 _ H = eEv pP X 15 10 _ (eW2 H [(10, .inr (2, [.ref 11, .int h_opens, .ref 12, .int h_start, .int h_end, .ref 13, .ref 14])), (11, .inl (3, 6, .inr (.inr fun i => (h_open i).map fun j => 4 + j))), (12, .inl (0, 2012, .inl h_row))]) by rw [h0]]
  refine eEv.of (Nat.not_lt.mpr (Nat.le_of_ble_eq_true rfl)) ?_
  refine eGs.steps 0 (y := (0, [some (.ref 1), some (.int membrane)], [], (eW2 H [(10, .inr (2, [.ref 11, .int h_opens, .ref 12, .int h_start, .int h_end, .ref 13, .ref 14])), (11, .inl (3, 6, .inr (.inr fun i => (h_open i).map fun j => 4 + j))), (12, .inl (0, 2012, .inl h_row))]))) rfl ?_
  unfold P_choices at hM
  refine eGs.steps 2 (y := (2, [some (.ref 1), some (.int membrane)], [.int membrane, .ref 1], (eW2 H [(10, .inr (2, [.ref 11, .int h_opens, .ref 12, .int h_start, .int h_end, .ref 13, .ref 14])), (11, .inl (3, 6, .inr (.inr fun i => (h_open i).map fun j => 4 + j))), (12, .inl (0, 2012, .inl h_row))]))) rfl ?_
  obtain ⟨v1, hv, hM⟩ := dg_bind hM
  have hE := T_P_checkMembrane (X := X) (H := (eW2 H [(10, .inr (2, [.ref 11, .int h_opens, .ref 12, .int h_start, .int h_end, .ref 13, .ref 14])), (11, .inl (3, 6, .inr (.inr fun i => (h_open i).map fun j => 4 + j))), (12, .inl (0, 2012, .inl h_row))])) (hc_c := ((eW2_offA hO_c rfl).trans hc_c)) (hc_cl := ((eW2_offA hO_cl rfl).trans hc_cl)) (hc_x := ((eW2_offA hO_x rfl).trans hc_x)) (hok_c := by first | assumption | omega) (hnz := by first | assumption | omega) hv
  cases hth : v1.1 with
  | zero =>
    rw [hth] at hM hE
    dsimp only at hM
    refine g_callV rfl rfl rfl rfl rfl (by omega) ((eW2_offA hO_x rfl).trans hc_x) rfl (hE.mono (by first | decide | omega)) ?_
    refine eGs.steps 0 (y := (5, [some (.ref 1), some (.int membrane)], [], (eW2 H [(10, .inr (2, [.ref 11, .int h_opens, .ref 12, .int h_start, .int h_end, .ref 13, .ref 14])), (11, .inl (3, 6, .inr (.inr fun i => (h_open i).map fun j => 4 + j))), (12, .inl (0, 2012, .inl h_row))]))) rfl ?_
    refine eGs.steps 1 (y := (6, [some (.ref 1), some (.int membrane)], [.ref 1], (eW2 H [(10, .inr (2, [.ref 11, .int h_opens, .ref 12, .int h_start, .int h_end, .ref 13, .ref 14])), (11, .inl (3, 6, .inr (.inr fun i => (h_open i).map fun j => 4 + j))), (12, .inl (0, 2012, .inl h_row))]))) rfl ?_
    refine g_getf rfl rfl (by omega) ((eW2_offA hO_x rfl).trans hc_x) rfl ?_
    refine eGs.steps 0 (y := (9, [some (.ref 1), some (.int membrane)], [.ref 10], (eW2 H [(10, .inr (2, [.ref 11, .int h_opens, .ref 12, .int h_start, .int h_end, .ref 13, .ref 14])), (11, .inl (3, 6, .inr (.inr fun i => (h_open i).map fun j => 4 + j))), (12, .inl (0, 2012, .inl h_row))]))) rfl ?_
    refine eGs.steps 1 (y := (10, [some (.ref 1), some (.int membrane)], [.ref 1, .ref 10], (eW2 H [(10, .inr (2, [.ref 11, .int h_opens, .ref 12, .int h_start, .int h_end, .ref 13, .ref 14])), (11, .inl (3, 6, .inr (.inr fun i => (h_open i).map fun j => 4 + j))), (12, .inl (0, 2012, .inl h_row))]))) rfl ?_
    refine g_getf rfl rfl (by omega) ((eW2_offA hO_x rfl).trans hc_x) rfl ?_
    refine eGs.steps 0 (y := (13, [some (.ref 1), some (.int membrane)], [.ref 2, .ref 10], (eW2 H [(10, .inr (2, [.ref 11, .int h_opens, .ref 12, .int h_start, .int h_end, .ref 13, .ref 14])), (11, .inl (3, 6, .inr (.inr fun i => (h_open i).map fun j => 4 + j))), (12, .inl (0, 2012, .inl h_row))]))) rfl ?_
    refine eGs.steps 1 (y := (14, [some (.ref 1), some (.int membrane)], [.ref 1, .ref 2, .ref 10], (eW2 H [(10, .inr (2, [.ref 11, .int h_opens, .ref 12, .int h_start, .int h_end, .ref 13, .ref 14])), (11, .inl (3, 6, .inr (.inr fun i => (h_open i).map fun j => 4 + j))), (12, .inl (0, 2012, .inl h_row))]))) rfl ?_
    refine g_getf rfl rfl (by omega) ((eW2_offA hO_x rfl).trans hc_x) rfl ?_
    refine eGs.steps 0 (y := (17, [some (.ref 1), some (.int membrane)], [.ref c, .ref 2, .ref 10], (eW2 H [(10, .inr (2, [.ref 11, .int h_opens, .ref 12, .int h_start, .int h_end, .ref 13, .ref 14])), (11, .inl (3, 6, .inr (.inr fun i => (h_open i).map fun j => 4 + j))), (12, .inl (0, 2012, .inl h_row))]))) rfl ?_
    refine eGs.steps 1 (y := (18, [some (.ref 1), some (.int membrane)], [.int membrane, .ref c, .ref 2, .ref 10], (eW2 H [(10, .inr (2, [.ref 11, .int h_opens, .ref 12, .int h_start, .int h_end, .ref 13, .ref 14])), (11, .inl (3, 6, .inr (.inr fun i => (h_open i).map fun j => 4 + j))), (12, .inl (0, 2012, .inl h_row))]))) rfl ?_
    obtain ⟨v2, hv, hM⟩ := dg_bind hM
    have hE := eEv_putA (T_O_count (X := X) (H := (eW2 H [(10, .inr (2, [.ref 11, .int h_opens, .ref 12, .int h_start, .int h_end, .ref 13, .ref 14])), (11, .inl (3, 6, .inr (.inr fun i => (h_open i).map fun j => 4 + j))), (12, .inl (0, 2012, .inl h_row))])) (hc_h := (eW2_getA hN 0 rfl rfl)) (hc_ho := (eW2_getA hN 1 rfl rfl)) (hc_hr := (eW2_getA hN 2 rfl rfl)) (hc_hs := ((eW2_offA hO_hs rfl).trans hc_hs)) (hc_hq := ((eW2_offA hO_hq rfl).trans hc_hq)) (hc_b := ((eW2_offA hO_b rfl).trans hc_b)) (hc_ba := ((eW2_offA hO_ba rfl).trans hc_ba)) (hc_c := ((eW2_offA hO_c rfl).trans hc_c)) (hc_cl := ((eW2_offA hO_cl rfl).trans hc_cl)) (hc_cp := ((eW2_offA hO_cp rfl).trans hc_cp)) (hc_ch := ((eW2_offA hO_ch rfl).trans hc_ch)) (hu := fun i hi => (eW2_offA (hOu i hi) rfl).trans (hu i hi)) (hok_c := by first | assumption | omega) hv) [0, 1, 2] hN rfl (by first | decide | (simp <;> omega)) rfl (eFor2_ok rfl)
    refine g_callV rfl rfl rfl rfl rfl (by omega) (eW2_getA hN 0 rfl rfl) rfl (hE.mono (by first | decide | omega)) ?_
    refine eGs.steps 0 (y := (21, [some (.ref 1), some (.int membrane)], [.int v2.1], (eW2 H [(10, .inr (2, [.ref 11, .int v2.2.1, .ref 12, .int v2.2.2.1, .int v2.2.2.2.1, .ref 13, .ref 14])), (11, .inl (3, 6, .inr (.inr fun i => (v2.2.2.2.2.1 i).map fun j => 4 + j))), (12, .inl (0, 2012, .inl v2.2.2.2.2.2))]))) rfl ?_
    refine eGs.steps 1 (y := (24, [some (.ref 1), some (.int membrane)], [.int (1000 : Int32), .int v2.1], (eW2 H [(10, .inr (2, [.ref 11, .int v2.2.1, .ref 12, .int v2.2.2.1, .int v2.2.2.2.1, .ref 13, .ref 14])), (11, .inl (3, 6, .inr (.inr fun i => (v2.2.2.2.2.1 i).map fun j => 4 + j))), (12, .inl (0, 2012, .inl v2.2.2.2.2.2))]))) rfl ?_
    refine eGs.own (y := (27, [some (.ref 1), some (.int membrane)], [.int (if (1000 : Int32) < v2.1 then (1000 : Int32) else v2.1)], (eW2 H [(10, .inr (2, [.ref 11, .int v2.2.1, .ref 12, .int v2.2.2.1, .int v2.2.2.2.1, .ref 13, .ref 14])), (11, .inl (3, 6, .inr (.inr fun i => (v2.2.2.2.2.1 i).map fun j => 4 + j))), (12, .inl (0, 2012, .inl v2.2.2.2.2.2))]))) rfl rfl rfl (by decide) (of_decide_eq_false rfl) rfl ?_
    cases hM
    exact eGs.fin rfl rfl rfl
  | succ cc =>
    rw [hth] at hM hE
    dsimp only at hM
    cases hM
    exact g_thrV rfl rfl rfl rfl rfl (by omega) ((eW2_offA hO_x rfl).trans hc_x) rfl (hE.mono (by first | decide | omega)) hnz rfl rfl rfl
def P_at (n : Nat) (membrane : Int32) (what : Int32) (c_lab : Nat → Int32) (c_par : Nat → Int32) (c_hp : Nat → Int64) : Option (Nat × (Int32)) :=
  (P_checkMembrane n membrane c_lab).bind fun v1 => (match v1.1 with | 0 => ((P_checkWhat n what (7 : Int32)).bind fun v2 => (match v2.1 with | 0 => (if what = (5 : Int32) then (if membrane < 0 ∨ 6 ≤ (membrane).toNatClampNeg then none else (some (0, (c_lab (membrane).toNatClampNeg)))) else (if what = (6 : Int32) then (if membrane = 0 then (some (0, (-1 : Int32))) else (if membrane < 0 ∨ 6 ≤ (membrane).toNatClampNeg then none else (some (0, (c_par (membrane).toNatClampNeg))))) else (if what = (7 : Int32) then ((K_countChildren n membrane c_par).bind fun v5 => (some (0, v5))) else (if membrane < 0 ∨ 7 ≤ (membrane).toNatClampNeg then none else ((H_count n (c_hp (membrane).toNatClampNeg) what).bind fun v4 => (some (0, v4))))))) | cc + 1 => some (cc + 1, 0))) | cc + 1 => some (cc + 1, 0))
theorem T_P_at {X : Nat × (Nat → Int32)} {H : eH} {c : Nat} {tr : Nat} {membrane : Int32} {what : Int32} {c_lab : Nat → Int32} {c_par : Nat → Int32} {c_hp : Nat → Int64} {n : Nat} {res : Nat × (Int32)} (hc_c : H.1 c = some (.inr (3, [.ref (c + 1), .ref (c + 2), .ref (c + 3)]))) (hc_cl : H.1 (c + 1) = some (.inl (0, 6, .inl c_lab))) (hc_cp : H.1 (c + 2) = some (.inl (0, 6, .inl c_par))) (hc_ch : H.1 (c + 3) = some (.inl (1, 7, .inr (.inl c_hp)))) (hc_x : H.1 1 = some (.inr (0, [.ref 2, .ref 10, .ref 15, .ref 17, .ref 345, .ref 347, .ref c, .ref tr]))) (hok_c : c = 20 ∨ c = 348 ∨ c = 352 ∨ (25 ≤ c ∧ c ≤ 341 ∧ c % 4 = 1)) (hnz : ¬ H.2.1 = 0) (hM : P_at n membrane what c_lab c_par c_hp = some res) : eEv pP X 3 11 [.ref 1, .int membrane, .int what] H (eTw pP res.1 (some (.int res.2)) H) := by
  refine eEv.of (Nat.not_lt.mpr (Nat.le_of_ble_eq_true rfl)) ?_
  refine eGs.steps 0 (y := (0, [some (.ref 1), some (.int membrane), some (.int what)], [], H)) rfl ?_
  unfold P_at at hM
  refine eGs.steps 2 (y := (2, [some (.ref 1), some (.int membrane), some (.int what)], [.int membrane, .ref 1], H)) rfl ?_
  obtain ⟨v1, hv, hM⟩ := dg_bind hM
  have hE := T_P_checkMembrane (X := X) (H := H) (hc_c := hc_c) (hc_cl := hc_cl) (hc_x := hc_x) (hok_c := by first | assumption | omega) (hnz := by first | assumption | omega) hv
  cases hth : v1.1 with
  | zero =>
    rw [hth] at hM hE
    dsimp only at hM
    refine g_callV rfl rfl rfl rfl rfl (by omega) hc_x rfl (hE.mono (by first | decide | omega)) ?_
    refine eGs.steps 0 (y := (5, [some (.ref 1), some (.int membrane), some (.int what)], [], H)) rfl ?_
    refine eGs.steps 2 (y := (8, [some (.ref 1), some (.int membrane), some (.int what)], [.int (7 : Int32), .int what], H)) rfl ?_
    obtain ⟨v2, hv, hM⟩ := dg_bind hM
    have hE := T_P_checkWhat (X := X) (H := H) (hnz := by first | assumption | omega) hv
    cases hth : v2.1 with
    | zero =>
      rw [hth] at hM hE
      dsimp only at hM
      refine g_callS rfl rfl rfl rfl rfl (hE.mono (by first | decide | omega)) ?_
      refine eGs.steps 0 (y := (11, [some (.ref 1), some (.int membrane), some (.int what)], [], H)) rfl ?_
      refine eGs.steps 2 (y := (13, [some (.ref 1), some (.int membrane), some (.int what)], [.int (5 : Int32), .int what], H)) rfl ?_
      by_cases hc : what = (5 : Int32)
      · rw [if_pos hc] at hM
        refine g_icmp (cd := .ne) (t := 26) false rfl (decide_eq_false (fun z => z hc)) rfl ?_
        refine eGs.steps 1 (y := (17, [some (.ref 1), some (.int membrane), some (.int what)], [.ref 1], H)) rfl ?_
        refine g_getf rfl rfl (by omega) hc_x rfl ?_
        refine eGs.steps 0 (y := (20, [some (.ref 1), some (.int membrane), some (.int what)], [.ref c], H)) rfl ?_
        refine g_getf rfl rfl (by omega) hc_c rfl ?_
        refine eGs.steps 0 (y := (23, [some (.ref 1), some (.int membrane), some (.int what)], [.ref (c + 1)], H)) rfl ?_
        refine eGs.steps 1 (y := (24, [some (.ref 1), some (.int membrane), some (.int what)], [.int membrane, .ref (c + 1)], H)) rfl ?_
        obtain ⟨hg7, hM⟩ := dg_none hM
        refine g_iald rfl (by omega) hc_cl hg7 ?_
        refine eGs.steps 0 (y := (25, [some (.ref 1), some (.int membrane), some (.int what)], [.int (c_lab (membrane).toNatClampNeg)], H)) rfl ?_
        cases hM
        exact eGs.fin rfl rfl rfl
      · rw [if_neg hc] at hM
        refine g_icmp (cd := .ne) (t := 26) true rfl (decide_eq_true hc) rfl ?_
        refine eGs.steps 2 (y := (29, [some (.ref 1), some (.int membrane), some (.int what)], [.int (6 : Int32), .int what], H)) rfl ?_
        by_cases hc : what = (6 : Int32)
        · rw [if_pos hc] at hM
          refine g_icmp (cd := .ne) (t := 50) false rfl (decide_eq_false (fun z => z hc)) rfl ?_
          refine eGs.steps 1 (y := (33, [some (.ref 1), some (.int membrane), some (.int what)], [.int membrane], H)) rfl ?_
          by_cases hc : membrane = 0
          · rw [if_pos hc] at hM
            refine g_if (cd := .ne) (t := 40) false rfl (decide_eq_false (fun z => z hc)) rfl ?_
            refine eGs.steps 2 (y := (49, [some (.ref 1), some (.int membrane), some (.int what)], [.int (-1 : Int32)], H)) rfl ?_
            cases hM
            exact eGs.fin rfl rfl rfl
          · rw [if_neg hc] at hM
            refine g_if (cd := .ne) (t := 40) true rfl (decide_eq_true hc) rfl ?_
            refine eGs.steps 1 (y := (41, [some (.ref 1), some (.int membrane), some (.int what)], [.ref 1], H)) rfl ?_
            refine g_getf rfl rfl (by omega) hc_x rfl ?_
            refine eGs.steps 0 (y := (44, [some (.ref 1), some (.int membrane), some (.int what)], [.ref c], H)) rfl ?_
            refine g_getf rfl rfl (by omega) hc_c rfl ?_
            refine eGs.steps 0 (y := (47, [some (.ref 1), some (.int membrane), some (.int what)], [.ref (c + 2)], H)) rfl ?_
            refine eGs.steps 1 (y := (48, [some (.ref 1), some (.int membrane), some (.int what)], [.int membrane, .ref (c + 2)], H)) rfl ?_
            obtain ⟨hg6, hM⟩ := dg_none hM
            refine g_iald rfl (by omega) hc_cp hg6 ?_
            refine eGs.steps 0 (y := (49, [some (.ref 1), some (.int membrane), some (.int what)], [.int (c_par (membrane).toNatClampNeg)], H)) rfl ?_
            cases hM
            exact eGs.fin rfl rfl rfl
        · rw [if_neg hc] at hM
          refine g_icmp (cd := .ne) (t := 50) true rfl (decide_eq_true hc) rfl ?_
          refine eGs.steps 2 (y := (53, [some (.ref 1), some (.int membrane), some (.int what)], [.int (7 : Int32), .int what], H)) rfl ?_
          by_cases hc : what = (7 : Int32)
          · rw [if_pos hc] at hM
            refine g_icmp (cd := .ne) (t := 65) false rfl (decide_eq_false (fun z => z hc)) rfl ?_
            refine eGs.steps 1 (y := (57, [some (.ref 1), some (.int membrane), some (.int what)], [.ref 1], H)) rfl ?_
            refine g_getf rfl rfl (by omega) hc_x rfl ?_
            refine eGs.steps 0 (y := (60, [some (.ref 1), some (.int membrane), some (.int what)], [.ref c], H)) rfl ?_
            refine eGs.steps 1 (y := (61, [some (.ref 1), some (.int membrane), some (.int what)], [.int membrane, .ref c], H)) rfl ?_
            obtain ⟨v5, hv, hM⟩ := dg_bind hM
            have hE := T_K_countChildren (X := X) (H := H) (hc_c := hc_c) (hc_cp := hc_cp) (hok_c := by first | assumption | omega) hv
            refine g_callV rfl rfl rfl rfl rfl (by omega) hc_c rfl (hE.mono (by first | decide | omega)) ?_
            refine eGs.steps 0 (y := (64, [some (.ref 1), some (.int membrane), some (.int what)], [.int v5], H)) rfl ?_
            cases hM
            exact eGs.fin rfl rfl rfl
          · rw [if_neg hc] at hM
            refine g_icmp (cd := .ne) (t := 65) true rfl (decide_eq_true hc) rfl ?_
            refine eGs.steps 1 (y := (66, [some (.ref 1), some (.int membrane), some (.int what)], [.ref 1], H)) rfl ?_
            refine g_getf rfl rfl (by omega) hc_x rfl ?_
            refine eGs.steps 0 (y := (69, [some (.ref 1), some (.int membrane), some (.int what)], [.ref c], H)) rfl ?_
            refine g_getf rfl rfl (by omega) hc_c rfl ?_
            refine eGs.steps 0 (y := (72, [some (.ref 1), some (.int membrane), some (.int what)], [.ref (c + 3)], H)) rfl ?_
            refine eGs.steps 1 (y := (73, [some (.ref 1), some (.int membrane), some (.int what)], [.int membrane, .ref (c + 3)], H)) rfl ?_
            obtain ⟨hg3, hM⟩ := dg_none hM
            refine g_lald rfl (by omega) hc_ch hg3 ?_
            refine eGs.steps 0 (y := (74, [some (.ref 1), some (.int membrane), some (.int what)], [.long (c_hp (membrane).toNatClampNeg)], H)) rfl ?_
            refine eGs.steps 1 (y := (75, [some (.ref 1), some (.int membrane), some (.int what)], [.int what, .long (c_hp (membrane).toNatClampNeg)], H)) rfl ?_
            obtain ⟨v4, hv, hM⟩ := dg_bind hM
            have hE := T_H_count (X := X) (H := H)  hv
            refine g_callS rfl rfl rfl rfl rfl (hE.mono (by first | decide | omega)) ?_
            refine eGs.steps 0 (y := (78, [some (.ref 1), some (.int membrane), some (.int what)], [.int v4], H)) rfl ?_
            cases hM
            exact eGs.fin rfl rfl rfl
    | succ cc =>
      rw [hth] at hM hE
      dsimp only at hM
      cases hM
      exact g_thrS rfl rfl rfl rfl rfl (hE.mono (by first | decide | omega)) hnz rfl rfl rfl
  | succ cc =>
    rw [hth] at hM hE
    dsimp only at hM
    cases hM
    exact g_thrV rfl rfl rfl rfl rfl (by omega) hc_x rfl (hE.mono (by first | decide | omega)) hnz rfl rfl rfl
def P_there (n : Nat) (membrane : Int32) (c_lab : Nat → Int32) : Option (Int32) :=
  (K_has n membrane c_lab).bind fun v1 => (some (v1 &&& 1))
theorem T_P_there {X : Nat × (Nat → Int32)} {H : eH} {c : Nat} {tr : Nat} {membrane : Int32} {c_lab : Nat → Int32} {n : Nat} {res : Int32} (hc_c : H.1 c = some (.inr (3, [.ref (c + 1), .ref (c + 2), .ref (c + 3)]))) (hc_cl : H.1 (c + 1) = some (.inl (0, 6, .inl c_lab))) (hc_x : H.1 1 = some (.inr (0, [.ref 2, .ref 10, .ref 15, .ref 17, .ref 345, .ref 347, .ref c, .ref tr]))) (hok_c : c = 20 ∨ c = 348 ∨ c = 352 ∨ (25 ≤ c ∧ c ≤ 341 ∧ c % 4 = 1)) (hM : P_there n membrane c_lab = some res) : eEv pP X 2 12 [.ref 1, .int membrane] H (.inl (some (.int res)), H) := by
  refine eEv.of (Nat.not_lt.mpr (Nat.le_of_ble_eq_true rfl)) ?_
  refine eGs.steps 0 (y := (0, [some (.ref 1), some (.int membrane)], [], H)) rfl ?_
  unfold P_there at hM
  refine eGs.steps 1 (y := (1, [some (.ref 1), some (.int membrane)], [.ref 1], H)) rfl ?_
  refine g_getf rfl rfl (by omega) hc_x rfl ?_
  refine eGs.steps 0 (y := (4, [some (.ref 1), some (.int membrane)], [.ref c], H)) rfl ?_
  refine eGs.steps 1 (y := (5, [some (.ref 1), some (.int membrane)], [.int membrane, .ref c], H)) rfl ?_
  obtain ⟨v1, hv, hM⟩ := dg_bind hM
  have hE := T_K_has (X := X) (H := H) (hc_c := hc_c) (hc_cl := hc_cl) (hok_c := by first | assumption | omega) hv
  refine g_callV rfl rfl rfl rfl rfl (by omega) hc_c rfl (hE.mono (by first | decide | omega)) ?_
  refine eGs.steps 0 (y := (8, [some (.ref 1), some (.int membrane)], [.int v1], H)) rfl ?_
  cases hM
  exact eGs.fin rfl rfl rfl
def P_outside (n : Nat) (kind : Int32) (c_hp : Nat → Int64) : Option (Nat × (Int32)) :=
  if kind < 0 then (some (10, 0)) else (if kind < (5 : Int32) then (if (6 : Int32) < 0 ∨ 7 ≤ ((6 : Int32)).toNatClampNeg then none else ((H_count n (c_hp ((6 : Int32)).toNatClampNeg) kind).bind fun v2 => (some (0, v2)))) else (some (10, 0)))
theorem T_P_outside {X : Nat × (Nat → Int32)} {H : eH} {c : Nat} {tr : Nat} {kind : Int32} {c_hp : Nat → Int64} {n : Nat} {res : Nat × (Int32)} (hc_c : H.1 c = some (.inr (3, [.ref (c + 1), .ref (c + 2), .ref (c + 3)]))) (hc_ch : H.1 (c + 3) = some (.inl (1, 7, .inr (.inl c_hp)))) (hc_x : H.1 1 = some (.inr (0, [.ref 2, .ref 10, .ref 15, .ref 17, .ref 345, .ref 347, .ref c, .ref tr]))) (hok_c : c = 20 ∨ c = 348 ∨ c = 352 ∨ (25 ≤ c ∧ c ≤ 341 ∧ c % 4 = 1)) (hnz : ¬ H.2.1 = 0) (hM : P_outside n kind c_hp = some res) : eEv pP X 2 13 [.ref 1, .int kind] H (eTw pP res.1 (some (.int res.2)) H) := by
  refine eEv.of (Nat.not_lt.mpr (Nat.le_of_ble_eq_true rfl)) ?_
  refine eGs.steps 0 (y := (0, [some (.ref 1), some (.int kind)], [], H)) rfl ?_
  unfold P_outside at hM
  refine eGs.steps 1 (y := (1, [some (.ref 1), some (.int kind)], [.int kind], H)) rfl ?_
  by_cases hc : kind < 0
  · rw [if_pos hc] at hM
    refine g_if (cd := .lt) (t := 9) true rfl (decide_eq_true hc) rfl ?_
    cases hM
    exact g_tnew rfl rfl rfl rfl rfl
  · rw [if_neg hc] at hM
    refine g_if (cd := .lt) (t := 9) false rfl (decide_eq_false hc) rfl ?_
    refine eGs.steps 2 (y := (6, [some (.ref 1), some (.int kind)], [.int (5 : Int32), .int kind], H)) rfl ?_
    by_cases hc : kind < (5 : Int32)
    · rw [if_pos hc] at hM
      refine g_icmp (cd := .lt) (t := 19) true rfl (decide_eq_true hc) rfl ?_
      refine eGs.steps 1 (y := (20, [some (.ref 1), some (.int kind)], [.ref 1], H)) rfl ?_
      refine g_getf rfl rfl (by omega) hc_x rfl ?_
      refine eGs.steps 0 (y := (23, [some (.ref 1), some (.int kind)], [.ref c], H)) rfl ?_
      refine g_getf rfl rfl (by omega) hc_c rfl ?_
      refine eGs.steps 0 (y := (26, [some (.ref 1), some (.int kind)], [.ref (c + 3)], H)) rfl ?_
      refine eGs.steps 1 (y := (28, [some (.ref 1), some (.int kind)], [.int (6 : Int32), .ref (c + 3)], H)) rfl ?_
      obtain ⟨hg1, hM⟩ := dg_none hM
      refine g_lald rfl (by omega) hc_ch hg1 ?_
      refine eGs.steps 0 (y := (29, [some (.ref 1), some (.int kind)], [.long (c_hp ((6 : Int32)).toNatClampNeg)], H)) rfl ?_
      refine eGs.steps 1 (y := (30, [some (.ref 1), some (.int kind)], [.int kind, .long (c_hp ((6 : Int32)).toNatClampNeg)], H)) rfl ?_
      obtain ⟨v2, hv, hM⟩ := dg_bind hM
      have hE := T_H_count (X := X) (H := H)  hv
      refine g_callS rfl rfl rfl rfl rfl (hE.mono (by first | decide | omega)) ?_
      refine eGs.steps 0 (y := (33, [some (.ref 1), some (.int kind)], [.int v2], H)) rfl ?_
      cases hM
      exact eGs.fin rfl rfl rfl
    · rw [if_neg hc] at hM
      refine g_icmp (cd := .lt) (t := 19) false rfl (decide_eq_false hc) rfl ?_
      cases hM
      exact g_tnew rfl rfl rfl rfl rfl
def P_written (n : Nat) (ii : Int32) (c_lab : Nat → Int32) (c_par : Nat → Int32) (c_hp : Nat → Int64) (s_row : Nat → Int32) : Option (Int32 × Int32 × (Nat → Int32)) :=
  (Sc_character n ii s_row c_lab c_par c_hp).bind fun v1 => (some (v1.1, v1.2.1, v1.2.2))
theorem T_P_written {X : Nat × (Nat → Int32)} {H : eH} {c : Nat} {tr : Nat} {ii : Int32} {c_lab : Nat → Int32} {c_par : Nat → Int32} {c_hp : Nat → Int64} {s_length : Int32} {s_row : Nat → Int32} {n : Nat} {res : Int32 × Int32 × (Nat → Int32)} (hc_c : H.1 c = some (.inr (3, [.ref (c + 1), .ref (c + 2), .ref (c + 3)]))) (hc_cl : H.1 (c + 1) = some (.inl (0, 6, .inl c_lab))) (hc_cp : H.1 (c + 2) = some (.inl (0, 6, .inl c_par))) (hc_ch : H.1 (c + 3) = some (.inl (1, 7, .inr (.inl c_hp)))) (hc_s : H.1 345 = some (.inr (7, [.ref 346, .int s_length]))) (hc_sr : H.1 346 = some (.inl (2, 378, .inl s_row))) (hc_x : H.1 1 = some (.inr (0, [.ref 2, .ref 10, .ref 15, .ref 17, .ref 345, .ref 347, .ref c, .ref tr]))) (hok_c : c = 20 ∨ c = 348 ∨ c = 352 ∨ (25 ≤ c ∧ c ≤ 341 ∧ c % 4 = 1)) (hM : P_written n ii c_lab c_par c_hp s_row = some res) : eEv pP X 12 17 [.ref 1, .int ii] H (.inl (some (.int res.1)), (eW2 H [(345, .inr (7, [.ref 346, .int res.2.1])), (346, .inl (2, 378, .inl res.2.2))])) := by
  have hN : ([345, 346] : List Nat).Nodup := by first | decide | (simp <;> omega)
  have hO_c : c ∉ ([345, 346] : List Nat) := by first | decide | (simp <;> omega)
  have hO_cl : c + 1 ∉ ([345, 346] : List Nat) := by first | decide | (simp <;> omega)
  have hO_cp : c + 2 ∉ ([345, 346] : List Nat) := by first | decide | (simp <;> omega)
  have hO_ch : c + 3 ∉ ([345, 346] : List Nat) := by first | decide | (simp <;> omega)
  have hO_x : 1 ∉ ([345, 346] : List Nat) := by first | decide | (simp <;> omega)
  have h0 : (eW2 H [(345, .inr (7, [.ref 346, .int s_length])), (346, .inl (2, 378, .inl s_row))]) = H := eW2_self (by simp only [List.forall_mem_cons]; exact ⟨hc_s, hc_sr, fun _ h => absurd h List.not_mem_nil⟩)
  rw [show eEv pP X 12 17 _ H = eEv pP X 12 17 _ (eW2 H [(345, .inr (7, [.ref 346, .int s_length])), (346, .inl (2, 378, .inl s_row))]) by rw [h0]]
  refine eEv.of (Nat.not_lt.mpr (Nat.le_of_ble_eq_true rfl)) ?_
  refine eGs.steps 0 (y := (0, [some (.ref 1), some (.int ii)], [], (eW2 H [(345, .inr (7, [.ref 346, .int s_length])), (346, .inl (2, 378, .inl s_row))]))) rfl ?_
  unfold P_written at hM
  refine eGs.steps 1 (y := (1, [some (.ref 1), some (.int ii)], [.ref 1], (eW2 H [(345, .inr (7, [.ref 346, .int s_length])), (346, .inl (2, 378, .inl s_row))]))) rfl ?_
  refine g_getf rfl rfl (by omega) ((eW2_offA hO_x rfl).trans hc_x) rfl ?_
  refine eGs.steps 0 (y := (4, [some (.ref 1), some (.int ii)], [.ref 345], (eW2 H [(345, .inr (7, [.ref 346, .int s_length])), (346, .inl (2, 378, .inl s_row))]))) rfl ?_
  refine eGs.steps 1 (y := (5, [some (.ref 1), some (.int ii)], [.ref 1, .ref 345], (eW2 H [(345, .inr (7, [.ref 346, .int s_length])), (346, .inl (2, 378, .inl s_row))]))) rfl ?_
  refine g_getf rfl rfl (by omega) ((eW2_offA hO_x rfl).trans hc_x) rfl ?_
  refine eGs.steps 0 (y := (8, [some (.ref 1), some (.int ii)], [.ref c, .ref 345], (eW2 H [(345, .inr (7, [.ref 346, .int s_length])), (346, .inl (2, 378, .inl s_row))]))) rfl ?_
  refine eGs.steps 1 (y := (9, [some (.ref 1), some (.int ii)], [.int ii, .ref c, .ref 345], (eW2 H [(345, .inr (7, [.ref 346, .int s_length])), (346, .inl (2, 378, .inl s_row))]))) rfl ?_
  obtain ⟨v1, hv, hM⟩ := dg_bind hM
  have hE := eEv_putA (T_Sc_character (X := X) (H := (eW2 H [(345, .inr (7, [.ref 346, .int s_length])), (346, .inl (2, 378, .inl s_row))])) (hc_s := (eW2_getA hN 0 rfl rfl)) (hc_sr := (eW2_getA hN 1 rfl rfl)) (hc_c := ((eW2_offA hO_c rfl).trans hc_c)) (hc_cl := ((eW2_offA hO_cl rfl).trans hc_cl)) (hc_cp := ((eW2_offA hO_cp rfl).trans hc_cp)) (hc_ch := ((eW2_offA hO_ch rfl).trans hc_ch)) (hok_c := by first | assumption | omega) hv) [0, 1] hN rfl (by first | decide | (simp <;> omega)) rfl (eFor2_ok rfl)
  refine g_callV rfl rfl rfl rfl rfl (by omega) (eW2_getA hN 0 rfl rfl) rfl (hE.mono (by first | decide | omega)) ?_
  refine eGs.steps 0 (y := (12, [some (.ref 1), some (.int ii)], [.int v1.1], (eW2 H [(345, .inr (7, [.ref 346, .int v1.2.1])), (346, .inl (2, 378, .inl v1.2.2))]))) rfl ?_
  cases hM
  exact eGs.fin rfl rfl rfl
def B_add (n : Nat) (label : Int32) (left : Int64) (here : Int64) (out : Int64) (r_number : Int32) (b_count : Int32) : Option (Int32 × Int32 × Int64 × Int64 × Int64 × Int64 × Int64 × Int32 × Int32 × Int32 × Int64 × Int32) :=
  if b_count < 0 ∨ 6 ≤ (b_count).toNatClampNeg then none else ((H_kindsOf n left).bind fun v2 => (if ¬ ((0 : Int32) = 0 ∨ (0 : Int32) = 1) then none else (if ¬ ((0 : Int32) = 0 ∨ (0 : Int32) = 1) then none else (some (r_number, label, left, v2, here, out, (0 : Int64), (-1 : Int32), (0 : Int32), (0 : Int32), (0 : Int64), (b_count + (1 : Int32)))))))
theorem T_B_add {X : Nat × (Nat → Int32)} {H : eH} {r : Nat} {label : Int32} {left : Int64} {here : Int64} {out : Int64} {r_number : Int32} {r_label : Int32} {r_left : Int64} {r_leftKinds : Int64} {r_here : Int64} {r_out : Int64} {r_into : Int64} {r_intoLabel : Int32} {r_dissolves : Int32} {r_divides : Int32} {r_other : Int64} {b_count : Int32} {n : Nat} {res : Int32 × Int32 × Int64 × Int64 × Int64 × Int64 × Int64 × Int32 × Int32 × Int32 × Int64 × Int32} (hc_r : H.1 r = some (.inr (5, [.int r_number, .int r_label, .long r_left, .long r_leftKinds, .long r_here, .long r_out, .long r_into, .int r_intoLabel, .int r_dissolves, .int r_divides, .long r_other]))) (hc_b : H.1 2 = some (.inr (6, [.ref 3, .int b_count]))) (hc_ba : H.1 3 = some (.inl (3, 6, .inr (.inr fun i => if i < 6 then some (4 + i) else none)))) (hz_r : ¬ r = 0) (hr9 : (b_count < 0 ∨ 6 ≤ (b_count).toNatClampNeg) ∨ r = 4 + (b_count).toNatClampNeg) (hr4 : 4 ≤ r) (hM : B_add n label left here out r_number b_count = some res) : eEv pP X 3 113 [.ref 2, .int label, .long left, .long here, .long out] H (.inl (some (.int res.1)), (eW2 H [(r, .inr (5, [.int r_number, .int res.2.1, .long res.2.2.1, .long res.2.2.2.1, .long res.2.2.2.2.1, .long res.2.2.2.2.2.1, .long res.2.2.2.2.2.2.1, .int res.2.2.2.2.2.2.2.1, .int res.2.2.2.2.2.2.2.2.1, .int res.2.2.2.2.2.2.2.2.2.1, .long res.2.2.2.2.2.2.2.2.2.2.1])), (2, .inr (6, [.ref 3, .int res.2.2.2.2.2.2.2.2.2.2.2]))])) := by
  have hN : ([r, 2] : List Nat).Nodup := by first | decide | (simp <;> omega)
  have hO_ba : 3 ∉ ([r, 2] : List Nat) := by first | decide | (simp <;> omega)
  have h0 : (eW2 H [(r, .inr (5, [.int r_number, .int r_label, .long r_left, .long r_leftKinds, .long r_here, .long r_out, .long r_into, .int r_intoLabel, .int r_dissolves, .int r_divides, .long r_other])), (2, .inr (6, [.ref 3, .int b_count]))]) = H := eW2_self (by simp only [List.forall_mem_cons]; exact ⟨hc_r, hc_b, fun _ h => absurd h List.not_mem_nil⟩)
  rw [show eEv pP X 3 113 _ H = eEv pP X 3 113 _ (eW2 H [(r, .inr (5, [.int r_number, .int r_label, .long r_left, .long r_leftKinds, .long r_here, .long r_out, .long r_into, .int r_intoLabel, .int r_dissolves, .int r_divides, .long r_other])), (2, .inr (6, [.ref 3, .int b_count]))]) by rw [h0]]
  refine eEv.of (Nat.not_lt.mpr (Nat.le_of_ble_eq_true rfl)) ?_
  refine eGs.steps 0 (y := (0, [some (.ref 2), some (.int label), some (.long left), none, some (.long here), none, some (.long out), none, none], [], (eW2 H [(r, .inr (5, [.int r_number, .int r_label, .long r_left, .long r_leftKinds, .long r_here, .long r_out, .long r_into, .int r_intoLabel, .int r_dissolves, .int r_divides, .long r_other])), (2, .inr (6, [.ref 3, .int b_count]))]))) rfl ?_
  unfold B_add at hM
  refine eGs.steps 1 (y := (1, [some (.ref 2), some (.int label), some (.long left), none, some (.long here), none, some (.long out), none, none], [.ref 2], (eW2 H [(r, .inr (5, [.int r_number, .int r_label, .long r_left, .long r_leftKinds, .long r_here, .long r_out, .long r_into, .int r_intoLabel, .int r_dissolves, .int r_divides, .long r_other])), (2, .inr (6, [.ref 3, .int b_count]))]))) rfl ?_
  refine g_getf rfl rfl (by omega) (eW2_getA hN 1 rfl rfl) rfl ?_
  refine eGs.steps 0 (y := (4, [some (.ref 2), some (.int label), some (.long left), none, some (.long here), none, some (.long out), none, none], [.ref 3], (eW2 H [(r, .inr (5, [.int r_number, .int r_label, .long r_left, .long r_leftKinds, .long r_here, .long r_out, .long r_into, .int r_intoLabel, .int r_dissolves, .int r_divides, .long r_other])), (2, .inr (6, [.ref 3, .int b_count]))]))) rfl ?_
  refine eGs.steps 1 (y := (5, [some (.ref 2), some (.int label), some (.long left), none, some (.long here), none, some (.long out), none, none], [.ref 2, .ref 3], (eW2 H [(r, .inr (5, [.int r_number, .int r_label, .long r_left, .long r_leftKinds, .long r_here, .long r_out, .long r_into, .int r_intoLabel, .int r_dissolves, .int r_divides, .long r_other])), (2, .inr (6, [.ref 3, .int b_count]))]))) rfl ?_
  refine g_getf rfl rfl (by omega) (eW2_getA hN 1 rfl rfl) rfl ?_
  refine eGs.steps 0 (y := (8, [some (.ref 2), some (.int label), some (.long left), none, some (.long here), none, some (.long out), none, none], [.int b_count, .ref 3], (eW2 H [(r, .inr (5, [.int r_number, .int r_label, .long r_left, .long r_leftKinds, .long r_here, .long r_out, .long r_into, .int r_intoLabel, .int r_dissolves, .int r_divides, .long r_other])), (2, .inr (6, [.ref 3, .int b_count]))]))) rfl ?_
  obtain ⟨hg1, hM⟩ := dg_none hM
  refine g_aald rfl (by omega) ((eW2_offA hO_ba rfl).trans hc_ba) rfl hg1 ?_
  rw [if_pos (Nat.not_le.mp fun z => hg1 (Or.inr z))]
  refine eGs.steps 0 (y := (9, [some (.ref 2), some (.int label), some (.long left), none, some (.long here), none, some (.long out), none, none], [.ref (4 + (b_count).toNatClampNeg)], (eW2 H [(r, .inr (5, [.int r_number, .int r_label, .long r_left, .long r_leftKinds, .long r_here, .long r_out, .long r_into, .int r_intoLabel, .int r_dissolves, .int r_divides, .long r_other])), (2, .inr (6, [.ref 3, .int b_count]))]))) rfl ?_
  rw [← (hr9.resolve_left hg1)]
  refine eGs.steps 0 (y := (9, [some (.ref 2), some (.int label), some (.long left), none, some (.long here), none, some (.long out), none, none], [.ref r], (eW2 H [(r, .inr (5, [.int r_number, .int r_label, .long r_left, .long r_leftKinds, .long r_here, .long r_out, .long r_into, .int r_intoLabel, .int r_dissolves, .int r_divides, .long r_other])), (2, .inr (6, [.ref 3, .int b_count]))]))) rfl ?_
  refine eGs.steps 3 (y := (14, [some (.ref 2), some (.int label), some (.long left), none, some (.long here), none, some (.long out), none, some (.ref r)], [.int label, .ref r], (eW2 H [(r, .inr (5, [.int r_number, .int r_label, .long r_left, .long r_leftKinds, .long r_here, .long r_out, .long r_into, .int r_intoLabel, .int r_dissolves, .int r_divides, .long r_other])), (2, .inr (6, [.ref 3, .int b_count]))]))) rfl ?_
  refine g_putfW rfl rfl (by omega) (eW2_getA hN 0 rfl rfl) rfl (Nat.le_of_ble_eq_true rfl) rfl (eW2_setA hN 0 rfl rfl) ?_
  refine eGs.steps 0 (y := (17, [some (.ref 2), some (.int label), some (.long left), none, some (.long here), none, some (.long out), none, some (.ref r)], [], (eW2 H [(r, .inr (5, [.int r_number, .int label, .long r_left, .long r_leftKinds, .long r_here, .long r_out, .long r_into, .int r_intoLabel, .int r_dissolves, .int r_divides, .long r_other])), (2, .inr (6, [.ref 3, .int b_count]))]))) rfl ?_
  refine eGs.steps 2 (y := (20, [some (.ref 2), some (.int label), some (.long left), none, some (.long here), none, some (.long out), none, some (.ref r)], [.long left, .ref r], (eW2 H [(r, .inr (5, [.int r_number, .int label, .long r_left, .long r_leftKinds, .long r_here, .long r_out, .long r_into, .int r_intoLabel, .int r_dissolves, .int r_divides, .long r_other])), (2, .inr (6, [.ref 3, .int b_count]))]))) rfl ?_
  refine g_putfW rfl rfl (by omega) (eW2_getA hN 0 rfl rfl) rfl (Nat.le_of_ble_eq_true rfl) rfl (eW2_setA hN 0 rfl rfl) ?_
  refine eGs.steps 0 (y := (23, [some (.ref 2), some (.int label), some (.long left), none, some (.long here), none, some (.long out), none, some (.ref r)], [], (eW2 H [(r, .inr (5, [.int r_number, .int label, .long left, .long r_leftKinds, .long r_here, .long r_out, .long r_into, .int r_intoLabel, .int r_dissolves, .int r_divides, .long r_other])), (2, .inr (6, [.ref 3, .int b_count]))]))) rfl ?_
  refine eGs.steps 2 (y := (26, [some (.ref 2), some (.int label), some (.long left), none, some (.long here), none, some (.long out), none, some (.ref r)], [.long left, .ref r], (eW2 H [(r, .inr (5, [.int r_number, .int label, .long left, .long r_leftKinds, .long r_here, .long r_out, .long r_into, .int r_intoLabel, .int r_dissolves, .int r_divides, .long r_other])), (2, .inr (6, [.ref 3, .int b_count]))]))) rfl ?_
  obtain ⟨v2, hv, hM⟩ := dg_bind hM
  have hE := T_H_kindsOf (X := X) (H := (eW2 H [(r, .inr (5, [.int r_number, .int label, .long left, .long r_leftKinds, .long r_here, .long r_out, .long r_into, .int r_intoLabel, .int r_dissolves, .int r_divides, .long r_other])), (2, .inr (6, [.ref 3, .int b_count]))]))  hv
  refine g_callS rfl rfl rfl rfl rfl (hE.mono (by first | decide | omega)) ?_
  refine eGs.steps 0 (y := (29, [some (.ref 2), some (.int label), some (.long left), none, some (.long here), none, some (.long out), none, some (.ref r)], [.long v2, .ref r], (eW2 H [(r, .inr (5, [.int r_number, .int label, .long left, .long r_leftKinds, .long r_here, .long r_out, .long r_into, .int r_intoLabel, .int r_dissolves, .int r_divides, .long r_other])), (2, .inr (6, [.ref 3, .int b_count]))]))) rfl ?_
  refine g_putfW rfl rfl (by omega) (eW2_getA hN 0 rfl rfl) rfl (Nat.le_of_ble_eq_true rfl) rfl (eW2_setA hN 0 rfl rfl) ?_
  refine eGs.steps 0 (y := (32, [some (.ref 2), some (.int label), some (.long left), none, some (.long here), none, some (.long out), none, some (.ref r)], [], (eW2 H [(r, .inr (5, [.int r_number, .int label, .long left, .long v2, .long r_here, .long r_out, .long r_into, .int r_intoLabel, .int r_dissolves, .int r_divides, .long r_other])), (2, .inr (6, [.ref 3, .int b_count]))]))) rfl ?_
  refine eGs.steps 2 (y := (36, [some (.ref 2), some (.int label), some (.long left), none, some (.long here), none, some (.long out), none, some (.ref r)], [.long here, .ref r], (eW2 H [(r, .inr (5, [.int r_number, .int label, .long left, .long v2, .long r_here, .long r_out, .long r_into, .int r_intoLabel, .int r_dissolves, .int r_divides, .long r_other])), (2, .inr (6, [.ref 3, .int b_count]))]))) rfl ?_
  refine g_putfW rfl rfl (by omega) (eW2_getA hN 0 rfl rfl) rfl (Nat.le_of_ble_eq_true rfl) rfl (eW2_setA hN 0 rfl rfl) ?_
  refine eGs.steps 0 (y := (39, [some (.ref 2), some (.int label), some (.long left), none, some (.long here), none, some (.long out), none, some (.ref r)], [], (eW2 H [(r, .inr (5, [.int r_number, .int label, .long left, .long v2, .long here, .long r_out, .long r_into, .int r_intoLabel, .int r_dissolves, .int r_divides, .long r_other])), (2, .inr (6, [.ref 3, .int b_count]))]))) rfl ?_
  refine eGs.steps 2 (y := (43, [some (.ref 2), some (.int label), some (.long left), none, some (.long here), none, some (.long out), none, some (.ref r)], [.long out, .ref r], (eW2 H [(r, .inr (5, [.int r_number, .int label, .long left, .long v2, .long here, .long r_out, .long r_into, .int r_intoLabel, .int r_dissolves, .int r_divides, .long r_other])), (2, .inr (6, [.ref 3, .int b_count]))]))) rfl ?_
  refine g_putfW rfl rfl (by omega) (eW2_getA hN 0 rfl rfl) rfl (Nat.le_of_ble_eq_true rfl) rfl (eW2_setA hN 0 rfl rfl) ?_
  refine eGs.steps 0 (y := (46, [some (.ref 2), some (.int label), some (.long left), none, some (.long here), none, some (.long out), none, some (.ref r)], [], (eW2 H [(r, .inr (5, [.int r_number, .int label, .long left, .long v2, .long here, .long out, .long r_into, .int r_intoLabel, .int r_dissolves, .int r_divides, .long r_other])), (2, .inr (6, [.ref 3, .int b_count]))]))) rfl ?_
  refine eGs.steps 2 (y := (49, [some (.ref 2), some (.int label), some (.long left), none, some (.long here), none, some (.long out), none, some (.ref r)], [.long (0 : Int64), .ref r], (eW2 H [(r, .inr (5, [.int r_number, .int label, .long left, .long v2, .long here, .long out, .long r_into, .int r_intoLabel, .int r_dissolves, .int r_divides, .long r_other])), (2, .inr (6, [.ref 3, .int b_count]))]))) rfl ?_
  refine g_putfW rfl rfl (by omega) (eW2_getA hN 0 rfl rfl) rfl (Nat.le_of_ble_eq_true rfl) rfl (eW2_setA hN 0 rfl rfl) ?_
  refine eGs.steps 0 (y := (52, [some (.ref 2), some (.int label), some (.long left), none, some (.long here), none, some (.long out), none, some (.ref r)], [], (eW2 H [(r, .inr (5, [.int r_number, .int label, .long left, .long v2, .long here, .long out, .long (0 : Int64), .int r_intoLabel, .int r_dissolves, .int r_divides, .long r_other])), (2, .inr (6, [.ref 3, .int b_count]))]))) rfl ?_
  refine eGs.steps 2 (y := (55, [some (.ref 2), some (.int label), some (.long left), none, some (.long here), none, some (.long out), none, some (.ref r)], [.int (-1 : Int32), .ref r], (eW2 H [(r, .inr (5, [.int r_number, .int label, .long left, .long v2, .long here, .long out, .long (0 : Int64), .int r_intoLabel, .int r_dissolves, .int r_divides, .long r_other])), (2, .inr (6, [.ref 3, .int b_count]))]))) rfl ?_
  refine g_putfW rfl rfl (by omega) (eW2_getA hN 0 rfl rfl) rfl (Nat.le_of_ble_eq_true rfl) rfl (eW2_setA hN 0 rfl rfl) ?_
  refine eGs.steps 0 (y := (58, [some (.ref 2), some (.int label), some (.long left), none, some (.long here), none, some (.long out), none, some (.ref r)], [], (eW2 H [(r, .inr (5, [.int r_number, .int label, .long left, .long v2, .long here, .long out, .long (0 : Int64), .int (-1 : Int32), .int r_dissolves, .int r_divides, .long r_other])), (2, .inr (6, [.ref 3, .int b_count]))]))) rfl ?_
  refine eGs.steps 2 (y := (61, [some (.ref 2), some (.int label), some (.long left), none, some (.long here), none, some (.long out), none, some (.ref r)], [.int (0 : Int32), .ref r], (eW2 H [(r, .inr (5, [.int r_number, .int label, .long left, .long v2, .long here, .long out, .long (0 : Int64), .int (-1 : Int32), .int r_dissolves, .int r_divides, .long r_other])), (2, .inr (6, [.ref 3, .int b_count]))]))) rfl ?_
  obtain ⟨hg, hM⟩ := dg_none hM
  have hz : eFit .boolean (.int (0 : Int32)) = true := by rcases Decidable.of_not_not hg with z | z <;> (rw [z]; rfl)
  refine g_putfW rfl rfl (by omega) (eW2_getA hN 0 rfl rfl) hz (Nat.le_of_ble_eq_true rfl) rfl (eW2_setA hN 0 rfl rfl) ?_
  refine eGs.steps 0 (y := (64, [some (.ref 2), some (.int label), some (.long left), none, some (.long here), none, some (.long out), none, some (.ref r)], [], (eW2 H [(r, .inr (5, [.int r_number, .int label, .long left, .long v2, .long here, .long out, .long (0 : Int64), .int (-1 : Int32), .int (0 : Int32), .int r_divides, .long r_other])), (2, .inr (6, [.ref 3, .int b_count]))]))) rfl ?_
  refine eGs.steps 2 (y := (67, [some (.ref 2), some (.int label), some (.long left), none, some (.long here), none, some (.long out), none, some (.ref r)], [.int (0 : Int32), .ref r], (eW2 H [(r, .inr (5, [.int r_number, .int label, .long left, .long v2, .long here, .long out, .long (0 : Int64), .int (-1 : Int32), .int (0 : Int32), .int r_divides, .long r_other])), (2, .inr (6, [.ref 3, .int b_count]))]))) rfl ?_
  obtain ⟨hg, hM⟩ := dg_none hM
  have hz : eFit .boolean (.int (0 : Int32)) = true := by rcases Decidable.of_not_not hg with z | z <;> (rw [z]; rfl)
  refine g_putfW rfl rfl (by omega) (eW2_getA hN 0 rfl rfl) hz (Nat.le_of_ble_eq_true rfl) rfl (eW2_setA hN 0 rfl rfl) ?_
  refine eGs.steps 0 (y := (70, [some (.ref 2), some (.int label), some (.long left), none, some (.long here), none, some (.long out), none, some (.ref r)], [], (eW2 H [(r, .inr (5, [.int r_number, .int label, .long left, .long v2, .long here, .long out, .long (0 : Int64), .int (-1 : Int32), .int (0 : Int32), .int (0 : Int32), .long r_other])), (2, .inr (6, [.ref 3, .int b_count]))]))) rfl ?_
  refine eGs.steps 2 (y := (73, [some (.ref 2), some (.int label), some (.long left), none, some (.long here), none, some (.long out), none, some (.ref r)], [.long (0 : Int64), .ref r], (eW2 H [(r, .inr (5, [.int r_number, .int label, .long left, .long v2, .long here, .long out, .long (0 : Int64), .int (-1 : Int32), .int (0 : Int32), .int (0 : Int32), .long r_other])), (2, .inr (6, [.ref 3, .int b_count]))]))) rfl ?_
  refine g_putfW rfl rfl (by omega) (eW2_getA hN 0 rfl rfl) rfl (Nat.le_of_ble_eq_true rfl) rfl (eW2_setA hN 0 rfl rfl) ?_
  refine eGs.steps 0 (y := (76, [some (.ref 2), some (.int label), some (.long left), none, some (.long here), none, some (.long out), none, some (.ref r)], [], (eW2 H [(r, .inr (5, [.int r_number, .int label, .long left, .long v2, .long here, .long out, .long (0 : Int64), .int (-1 : Int32), .int (0 : Int32), .int (0 : Int32), .long (0 : Int64)])), (2, .inr (6, [.ref 3, .int b_count]))]))) rfl ?_
  refine eGs.steps 2 (y := (78, [some (.ref 2), some (.int label), some (.long left), none, some (.long here), none, some (.long out), none, some (.ref r)], [.ref 2, .ref 2], (eW2 H [(r, .inr (5, [.int r_number, .int label, .long left, .long v2, .long here, .long out, .long (0 : Int64), .int (-1 : Int32), .int (0 : Int32), .int (0 : Int32), .long (0 : Int64)])), (2, .inr (6, [.ref 3, .int b_count]))]))) rfl ?_
  refine g_getf rfl rfl (by omega) (eW2_getA hN 1 rfl rfl) rfl ?_
  refine eGs.steps 0 (y := (81, [some (.ref 2), some (.int label), some (.long left), none, some (.long here), none, some (.long out), none, some (.ref r)], [.int b_count, .ref 2], (eW2 H [(r, .inr (5, [.int r_number, .int label, .long left, .long v2, .long here, .long out, .long (0 : Int64), .int (-1 : Int32), .int (0 : Int32), .int (0 : Int32), .long (0 : Int64)])), (2, .inr (6, [.ref 3, .int b_count]))]))) rfl ?_
  refine eGs.steps 2 (y := (83, [some (.ref 2), some (.int label), some (.long left), none, some (.long here), none, some (.long out), none, some (.ref r)], [.int (b_count + (1 : Int32)), .ref 2], (eW2 H [(r, .inr (5, [.int r_number, .int label, .long left, .long v2, .long here, .long out, .long (0 : Int64), .int (-1 : Int32), .int (0 : Int32), .int (0 : Int32), .long (0 : Int64)])), (2, .inr (6, [.ref 3, .int b_count]))]))) rfl ?_
  refine g_putfW rfl rfl (by omega) (eW2_getA hN 1 rfl rfl) rfl (Nat.le_of_ble_eq_true rfl) rfl (eW2_setA hN 1 rfl rfl) ?_
  refine eGs.steps 0 (y := (86, [some (.ref 2), some (.int label), some (.long left), none, some (.long here), none, some (.long out), none, some (.ref r)], [], (eW2 H [(r, .inr (5, [.int r_number, .int label, .long left, .long v2, .long here, .long out, .long (0 : Int64), .int (-1 : Int32), .int (0 : Int32), .int (0 : Int32), .long (0 : Int64)])), (2, .inr (6, [.ref 3, .int (b_count + (1 : Int32))]))]))) rfl ?_
  refine eGs.steps 1 (y := (88, [some (.ref 2), some (.int label), some (.long left), none, some (.long here), none, some (.long out), none, some (.ref r)], [.ref r], (eW2 H [(r, .inr (5, [.int r_number, .int label, .long left, .long v2, .long here, .long out, .long (0 : Int64), .int (-1 : Int32), .int (0 : Int32), .int (0 : Int32), .long (0 : Int64)])), (2, .inr (6, [.ref 3, .int (b_count + (1 : Int32))]))]))) rfl ?_
  refine g_getf rfl rfl (by omega) (eW2_getA hN 0 rfl rfl) rfl ?_
  refine eGs.steps 0 (y := (91, [some (.ref 2), some (.int label), some (.long left), none, some (.long here), none, some (.long out), none, some (.ref r)], [.int r_number], (eW2 H [(r, .inr (5, [.int r_number, .int label, .long left, .long v2, .long here, .long out, .long (0 : Int64), .int (-1 : Int32), .int (0 : Int32), .int (0 : Int32), .long (0 : Int64)])), (2, .inr (6, [.ref 3, .int (b_count + (1 : Int32))]))]))) rfl ?_
  cases hM
  exact eGs.fin rfl rfl rfl
def P_rule (n : Nat) (label : Int32) (left : Int32) (here : Int32) (out : Int32) (r_number : Int32) (r_label : Int32) (r_left : Int64) (r_leftKinds : Int64) (r_here : Int64) (r_out : Int64) (r_into : Int64) (r_intoLabel : Int32) (r_dissolves : Int32) (r_divides : Int32) (r_other : Int64) (b_count : Int32) : Option (Nat × (Int32 × Int32 × Int64 × Int64 × Int64 × Int64 × Int64 × Int32 × Int32 × Int32 × Int64 × Int32)) :=
  (P_checkLabel n label).bind fun v1 => (match v1.1 with | 0 => ((P_checkHandful n left).bind fun v2 => (match v2.1 with | 0 => ((P_checkHandful n here).bind fun v3 => (match v3.1 with | 0 => ((P_checkHandful n out).bind fun v4 => (match v4.1 with | 0 => ((P_checkNotEmpty n left).bind fun v5 => (match v5.1 with | 0 => (if b_count = (6 : Int32) then (some (11, (0, r_label, r_left, r_leftKinds, r_here, r_out, r_into, r_intoLabel, r_dissolves, r_divides, r_other, b_count))) else ((H_ofHandful n left).bind fun v6 => ((H_ofHandful n here).bind fun v7 => ((H_ofHandful n out).bind fun v8 => ((B_add n label v6 v7 v8 r_number b_count).bind fun v9 => (some (0, (v9.1, v9.2.1, v9.2.2.1, v9.2.2.2.1, v9.2.2.2.2.1, v9.2.2.2.2.2.1, v9.2.2.2.2.2.2.1, v9.2.2.2.2.2.2.2.1, v9.2.2.2.2.2.2.2.2.1, v9.2.2.2.2.2.2.2.2.2.1, v9.2.2.2.2.2.2.2.2.2.2.1, v9.2.2.2.2.2.2.2.2.2.2.2)))))))) | cc + 1 => some (cc + 1, (0, r_label, r_left, r_leftKinds, r_here, r_out, r_into, r_intoLabel, r_dissolves, r_divides, r_other, b_count)))) | cc + 1 => some (cc + 1, (0, r_label, r_left, r_leftKinds, r_here, r_out, r_into, r_intoLabel, r_dissolves, r_divides, r_other, b_count)))) | cc + 1 => some (cc + 1, (0, r_label, r_left, r_leftKinds, r_here, r_out, r_into, r_intoLabel, r_dissolves, r_divides, r_other, b_count)))) | cc + 1 => some (cc + 1, (0, r_label, r_left, r_leftKinds, r_here, r_out, r_into, r_intoLabel, r_dissolves, r_divides, r_other, b_count)))) | cc + 1 => some (cc + 1, (0, r_label, r_left, r_leftKinds, r_here, r_out, r_into, r_intoLabel, r_dissolves, r_divides, r_other, b_count)))
theorem T_P_rule {X : Nat × (Nat → Int32)} {H : eH} {c : Nat} {r : Nat} {tr : Nat} {label : Int32} {left : Int32} {here : Int32} {out : Int32} {r_number : Int32} {r_label : Int32} {r_left : Int64} {r_leftKinds : Int64} {r_here : Int64} {r_out : Int64} {r_into : Int64} {r_intoLabel : Int32} {r_dissolves : Int32} {r_divides : Int32} {r_other : Int64} {b_count : Int32} {n : Nat} {res : Nat × (Int32 × Int32 × Int64 × Int64 × Int64 × Int64 × Int64 × Int32 × Int32 × Int32 × Int64 × Int32)} (hc_r : H.1 r = some (.inr (5, [.int r_number, .int r_label, .long r_left, .long r_leftKinds, .long r_here, .long r_out, .long r_into, .int r_intoLabel, .int r_dissolves, .int r_divides, .long r_other]))) (hc_b : H.1 2 = some (.inr (6, [.ref 3, .int b_count]))) (hc_ba : H.1 3 = some (.inl (3, 6, .inr (.inr fun i => if i < 6 then some (4 + i) else none)))) (hc_x : H.1 1 = some (.inr (0, [.ref 2, .ref 10, .ref 15, .ref 17, .ref 345, .ref 347, .ref c, .ref tr]))) (hok_c : c = 20 ∨ c = 348 ∨ c = 352 ∨ (25 ≤ c ∧ c ≤ 341 ∧ c % 4 = 1)) (hz_r : ¬ r = 0) (hr9 : (b_count < 0 ∨ 6 ≤ (b_count).toNatClampNeg) ∨ r = 4 + (b_count).toNatClampNeg) (hr4 : 4 ≤ r) (hnz : ¬ H.2.1 = 0) (hM : P_rule n label left here out r_number r_label r_left r_leftKinds r_here r_out r_into r_intoLabel r_dissolves r_divides r_other b_count = some res) : eEv pP X 4 4 [.ref 1, .int label, .int left, .int here, .int out] H (eTw pP res.1 (some (.int res.2.1)) (eW2 H [(r, .inr (5, [.int r_number, .int res.2.2.1, .long res.2.2.2.1, .long res.2.2.2.2.1, .long res.2.2.2.2.2.1, .long res.2.2.2.2.2.2.1, .long res.2.2.2.2.2.2.2.1, .int res.2.2.2.2.2.2.2.2.1, .int res.2.2.2.2.2.2.2.2.2.1, .int res.2.2.2.2.2.2.2.2.2.2.1, .long res.2.2.2.2.2.2.2.2.2.2.2.1])), (2, .inr (6, [.ref 3, .int res.2.2.2.2.2.2.2.2.2.2.2.2]))])) := by
  have hN : ([r, 2] : List Nat).Nodup := by first | decide | (simp <;> omega)
  have hO_ba : 3 ∉ ([r, 2] : List Nat) := by first | decide | (simp <;> omega)
  have hO_x : 1 ∉ ([r, 2] : List Nat) := by first | decide | (simp <;> omega)
  have h0 : (eW2 H [(r, .inr (5, [.int r_number, .int r_label, .long r_left, .long r_leftKinds, .long r_here, .long r_out, .long r_into, .int r_intoLabel, .int r_dissolves, .int r_divides, .long r_other])), (2, .inr (6, [.ref 3, .int b_count]))]) = H := eW2_self (by simp only [List.forall_mem_cons]; exact ⟨hc_r, hc_b, fun _ h => absurd h List.not_mem_nil⟩)
  rw [show eEv pP X 4 4 _ H = eEv pP X 4 4 _ (eW2 H [(r, .inr (5, [.int r_number, .int r_label, .long r_left, .long r_leftKinds, .long r_here, .long r_out, .long r_into, .int r_intoLabel, .int r_dissolves, .int r_divides, .long r_other])), (2, .inr (6, [.ref 3, .int b_count]))]) by rw [h0]]
  refine eEv.of (Nat.not_lt.mpr (Nat.le_of_ble_eq_true rfl)) ?_
  refine eGs.steps 0 (y := (0, [some (.ref 1), some (.int label), some (.int left), some (.int here), some (.int out)], [], (eW2 H [(r, .inr (5, [.int r_number, .int r_label, .long r_left, .long r_leftKinds, .long r_here, .long r_out, .long r_into, .int r_intoLabel, .int r_dissolves, .int r_divides, .long r_other])), (2, .inr (6, [.ref 3, .int b_count]))]))) rfl ?_
  unfold P_rule at hM
  refine eGs.steps 1 (y := (1, [some (.ref 1), some (.int label), some (.int left), some (.int here), some (.int out)], [.int label], (eW2 H [(r, .inr (5, [.int r_number, .int r_label, .long r_left, .long r_leftKinds, .long r_here, .long r_out, .long r_into, .int r_intoLabel, .int r_dissolves, .int r_divides, .long r_other])), (2, .inr (6, [.ref 3, .int b_count]))]))) rfl ?_
  obtain ⟨v1, hv, hM⟩ := dg_bind hM
  have hE := T_P_checkLabel (X := X) (H := (eW2 H [(r, .inr (5, [.int r_number, .int r_label, .long r_left, .long r_leftKinds, .long r_here, .long r_out, .long r_into, .int r_intoLabel, .int r_dissolves, .int r_divides, .long r_other])), (2, .inr (6, [.ref 3, .int b_count]))])) (hnz := by first | assumption | omega) hv
  cases hth : v1.1 with
  | zero =>
    rw [hth] at hM hE
    dsimp only at hM
    refine g_callS rfl rfl rfl rfl rfl (hE.mono (by first | decide | omega)) ?_
    refine eGs.steps 0 (y := (4, [some (.ref 1), some (.int label), some (.int left), some (.int here), some (.int out)], [], (eW2 H [(r, .inr (5, [.int r_number, .int r_label, .long r_left, .long r_leftKinds, .long r_here, .long r_out, .long r_into, .int r_intoLabel, .int r_dissolves, .int r_divides, .long r_other])), (2, .inr (6, [.ref 3, .int b_count]))]))) rfl ?_
    refine eGs.steps 1 (y := (5, [some (.ref 1), some (.int label), some (.int left), some (.int here), some (.int out)], [.int left], (eW2 H [(r, .inr (5, [.int r_number, .int r_label, .long r_left, .long r_leftKinds, .long r_here, .long r_out, .long r_into, .int r_intoLabel, .int r_dissolves, .int r_divides, .long r_other])), (2, .inr (6, [.ref 3, .int b_count]))]))) rfl ?_
    obtain ⟨v2, hv, hM⟩ := dg_bind hM
    have hE := T_P_checkHandful (X := X) (H := (eW2 H [(r, .inr (5, [.int r_number, .int r_label, .long r_left, .long r_leftKinds, .long r_here, .long r_out, .long r_into, .int r_intoLabel, .int r_dissolves, .int r_divides, .long r_other])), (2, .inr (6, [.ref 3, .int b_count]))])) (hnz := by first | assumption | omega) hv
    cases hth : v2.1 with
    | zero =>
      rw [hth] at hM hE
      dsimp only at hM
      refine g_callS rfl rfl rfl rfl rfl (hE.mono (by first | decide | omega)) ?_
      refine eGs.steps 0 (y := (8, [some (.ref 1), some (.int label), some (.int left), some (.int here), some (.int out)], [], (eW2 H [(r, .inr (5, [.int r_number, .int r_label, .long r_left, .long r_leftKinds, .long r_here, .long r_out, .long r_into, .int r_intoLabel, .int r_dissolves, .int r_divides, .long r_other])), (2, .inr (6, [.ref 3, .int b_count]))]))) rfl ?_
      refine eGs.steps 1 (y := (9, [some (.ref 1), some (.int label), some (.int left), some (.int here), some (.int out)], [.int here], (eW2 H [(r, .inr (5, [.int r_number, .int r_label, .long r_left, .long r_leftKinds, .long r_here, .long r_out, .long r_into, .int r_intoLabel, .int r_dissolves, .int r_divides, .long r_other])), (2, .inr (6, [.ref 3, .int b_count]))]))) rfl ?_
      obtain ⟨v3, hv, hM⟩ := dg_bind hM
      have hE := T_P_checkHandful (X := X) (H := (eW2 H [(r, .inr (5, [.int r_number, .int r_label, .long r_left, .long r_leftKinds, .long r_here, .long r_out, .long r_into, .int r_intoLabel, .int r_dissolves, .int r_divides, .long r_other])), (2, .inr (6, [.ref 3, .int b_count]))])) (hnz := by first | assumption | omega) hv
      cases hth : v3.1 with
      | zero =>
        rw [hth] at hM hE
        dsimp only at hM
        refine g_callS rfl rfl rfl rfl rfl (hE.mono (by first | decide | omega)) ?_
        refine eGs.steps 0 (y := (12, [some (.ref 1), some (.int label), some (.int left), some (.int here), some (.int out)], [], (eW2 H [(r, .inr (5, [.int r_number, .int r_label, .long r_left, .long r_leftKinds, .long r_here, .long r_out, .long r_into, .int r_intoLabel, .int r_dissolves, .int r_divides, .long r_other])), (2, .inr (6, [.ref 3, .int b_count]))]))) rfl ?_
        refine eGs.steps 1 (y := (14, [some (.ref 1), some (.int label), some (.int left), some (.int here), some (.int out)], [.int out], (eW2 H [(r, .inr (5, [.int r_number, .int r_label, .long r_left, .long r_leftKinds, .long r_here, .long r_out, .long r_into, .int r_intoLabel, .int r_dissolves, .int r_divides, .long r_other])), (2, .inr (6, [.ref 3, .int b_count]))]))) rfl ?_
        obtain ⟨v4, hv, hM⟩ := dg_bind hM
        have hE := T_P_checkHandful (X := X) (H := (eW2 H [(r, .inr (5, [.int r_number, .int r_label, .long r_left, .long r_leftKinds, .long r_here, .long r_out, .long r_into, .int r_intoLabel, .int r_dissolves, .int r_divides, .long r_other])), (2, .inr (6, [.ref 3, .int b_count]))])) (hnz := by first | assumption | omega) hv
        cases hth : v4.1 with
        | zero =>
          rw [hth] at hM hE
          dsimp only at hM
          refine g_callS rfl rfl rfl rfl rfl (hE.mono (by first | decide | omega)) ?_
          refine eGs.steps 0 (y := (17, [some (.ref 1), some (.int label), some (.int left), some (.int here), some (.int out)], [], (eW2 H [(r, .inr (5, [.int r_number, .int r_label, .long r_left, .long r_leftKinds, .long r_here, .long r_out, .long r_into, .int r_intoLabel, .int r_dissolves, .int r_divides, .long r_other])), (2, .inr (6, [.ref 3, .int b_count]))]))) rfl ?_
          refine eGs.steps 1 (y := (18, [some (.ref 1), some (.int label), some (.int left), some (.int here), some (.int out)], [.int left], (eW2 H [(r, .inr (5, [.int r_number, .int r_label, .long r_left, .long r_leftKinds, .long r_here, .long r_out, .long r_into, .int r_intoLabel, .int r_dissolves, .int r_divides, .long r_other])), (2, .inr (6, [.ref 3, .int b_count]))]))) rfl ?_
          obtain ⟨v5, hv, hM⟩ := dg_bind hM
          have hE := T_P_checkNotEmpty (X := X) (H := (eW2 H [(r, .inr (5, [.int r_number, .int r_label, .long r_left, .long r_leftKinds, .long r_here, .long r_out, .long r_into, .int r_intoLabel, .int r_dissolves, .int r_divides, .long r_other])), (2, .inr (6, [.ref 3, .int b_count]))])) (hnz := by first | assumption | omega) hv
          cases hth : v5.1 with
          | zero =>
            rw [hth] at hM hE
            dsimp only at hM
            refine g_callS rfl rfl rfl rfl rfl (hE.mono (by first | decide | omega)) ?_
            refine eGs.steps 0 (y := (21, [some (.ref 1), some (.int label), some (.int left), some (.int here), some (.int out)], [], (eW2 H [(r, .inr (5, [.int r_number, .int r_label, .long r_left, .long r_leftKinds, .long r_here, .long r_out, .long r_into, .int r_intoLabel, .int r_dissolves, .int r_divides, .long r_other])), (2, .inr (6, [.ref 3, .int b_count]))]))) rfl ?_
            refine eGs.steps 1 (y := (22, [some (.ref 1), some (.int label), some (.int left), some (.int here), some (.int out)], [.ref 1], (eW2 H [(r, .inr (5, [.int r_number, .int r_label, .long r_left, .long r_leftKinds, .long r_here, .long r_out, .long r_into, .int r_intoLabel, .int r_dissolves, .int r_divides, .long r_other])), (2, .inr (6, [.ref 3, .int b_count]))]))) rfl ?_
            refine g_getf rfl rfl (by omega) ((eW2_offA hO_x rfl).trans hc_x) rfl ?_
            refine eGs.steps 0 (y := (25, [some (.ref 1), some (.int label), some (.int left), some (.int here), some (.int out)], [.ref 2], (eW2 H [(r, .inr (5, [.int r_number, .int r_label, .long r_left, .long r_leftKinds, .long r_here, .long r_out, .long r_into, .int r_intoLabel, .int r_dissolves, .int r_divides, .long r_other])), (2, .inr (6, [.ref 3, .int b_count]))]))) rfl ?_
            refine g_getf rfl rfl (by omega) (eW2_getA hN 1 rfl rfl) rfl ?_
            refine eGs.steps 0 (y := (28, [some (.ref 1), some (.int label), some (.int left), some (.int here), some (.int out)], [.int b_count], (eW2 H [(r, .inr (5, [.int r_number, .int r_label, .long r_left, .long r_leftKinds, .long r_here, .long r_out, .long r_into, .int r_intoLabel, .int r_dissolves, .int r_divides, .long r_other])), (2, .inr (6, [.ref 3, .int b_count]))]))) rfl ?_
            refine eGs.steps 1 (y := (30, [some (.ref 1), some (.int label), some (.int left), some (.int here), some (.int out)], [.int (6 : Int32), .int b_count], (eW2 H [(r, .inr (5, [.int r_number, .int r_label, .long r_left, .long r_leftKinds, .long r_here, .long r_out, .long r_into, .int r_intoLabel, .int r_dissolves, .int r_divides, .long r_other])), (2, .inr (6, [.ref 3, .int b_count]))]))) rfl ?_
            by_cases hc : b_count = (6 : Int32)
            · rw [if_pos hc] at hM
              refine g_icmp (cd := .ne) (t := 43) false rfl (decide_eq_false (fun z => z hc)) rfl ?_
              cases hM
              exact g_tnew rfl rfl rfl rfl rfl
            · rw [if_neg hc] at hM
              refine g_icmp (cd := .ne) (t := 43) true rfl (decide_eq_true hc) rfl ?_
              refine eGs.steps 1 (y := (44, [some (.ref 1), some (.int label), some (.int left), some (.int here), some (.int out)], [.ref 1], (eW2 H [(r, .inr (5, [.int r_number, .int r_label, .long r_left, .long r_leftKinds, .long r_here, .long r_out, .long r_into, .int r_intoLabel, .int r_dissolves, .int r_divides, .long r_other])), (2, .inr (6, [.ref 3, .int b_count]))]))) rfl ?_
              refine g_getf rfl rfl (by omega) ((eW2_offA hO_x rfl).trans hc_x) rfl ?_
              refine eGs.steps 0 (y := (47, [some (.ref 1), some (.int label), some (.int left), some (.int here), some (.int out)], [.ref 2], (eW2 H [(r, .inr (5, [.int r_number, .int r_label, .long r_left, .long r_leftKinds, .long r_here, .long r_out, .long r_into, .int r_intoLabel, .int r_dissolves, .int r_divides, .long r_other])), (2, .inr (6, [.ref 3, .int b_count]))]))) rfl ?_
              refine eGs.steps 2 (y := (49, [some (.ref 1), some (.int label), some (.int left), some (.int here), some (.int out)], [.int left, .int label, .ref 2], (eW2 H [(r, .inr (5, [.int r_number, .int r_label, .long r_left, .long r_leftKinds, .long r_here, .long r_out, .long r_into, .int r_intoLabel, .int r_dissolves, .int r_divides, .long r_other])), (2, .inr (6, [.ref 3, .int b_count]))]))) rfl ?_
              obtain ⟨v6, hv, hM⟩ := dg_bind hM
              have hE := T_H_ofHandful (X := X) (H := (eW2 H [(r, .inr (5, [.int r_number, .int r_label, .long r_left, .long r_leftKinds, .long r_here, .long r_out, .long r_into, .int r_intoLabel, .int r_dissolves, .int r_divides, .long r_other])), (2, .inr (6, [.ref 3, .int b_count]))]))  hv
              refine g_callS rfl rfl rfl rfl rfl (hE.mono (by first | decide | omega)) ?_
              refine eGs.steps 0 (y := (52, [some (.ref 1), some (.int label), some (.int left), some (.int here), some (.int out)], [.long v6, .int label, .ref 2], (eW2 H [(r, .inr (5, [.int r_number, .int r_label, .long r_left, .long r_leftKinds, .long r_here, .long r_out, .long r_into, .int r_intoLabel, .int r_dissolves, .int r_divides, .long r_other])), (2, .inr (6, [.ref 3, .int b_count]))]))) rfl ?_
              refine eGs.steps 1 (y := (53, [some (.ref 1), some (.int label), some (.int left), some (.int here), some (.int out)], [.int here, .long v6, .int label, .ref 2], (eW2 H [(r, .inr (5, [.int r_number, .int r_label, .long r_left, .long r_leftKinds, .long r_here, .long r_out, .long r_into, .int r_intoLabel, .int r_dissolves, .int r_divides, .long r_other])), (2, .inr (6, [.ref 3, .int b_count]))]))) rfl ?_
              obtain ⟨v7, hv, hM⟩ := dg_bind hM
              have hE := T_H_ofHandful (X := X) (H := (eW2 H [(r, .inr (5, [.int r_number, .int r_label, .long r_left, .long r_leftKinds, .long r_here, .long r_out, .long r_into, .int r_intoLabel, .int r_dissolves, .int r_divides, .long r_other])), (2, .inr (6, [.ref 3, .int b_count]))]))  hv
              refine g_callS rfl rfl rfl rfl rfl (hE.mono (by first | decide | omega)) ?_
              refine eGs.steps 0 (y := (56, [some (.ref 1), some (.int label), some (.int left), some (.int here), some (.int out)], [.long v7, .long v6, .int label, .ref 2], (eW2 H [(r, .inr (5, [.int r_number, .int r_label, .long r_left, .long r_leftKinds, .long r_here, .long r_out, .long r_into, .int r_intoLabel, .int r_dissolves, .int r_divides, .long r_other])), (2, .inr (6, [.ref 3, .int b_count]))]))) rfl ?_
              refine eGs.steps 1 (y := (58, [some (.ref 1), some (.int label), some (.int left), some (.int here), some (.int out)], [.int out, .long v7, .long v6, .int label, .ref 2], (eW2 H [(r, .inr (5, [.int r_number, .int r_label, .long r_left, .long r_leftKinds, .long r_here, .long r_out, .long r_into, .int r_intoLabel, .int r_dissolves, .int r_divides, .long r_other])), (2, .inr (6, [.ref 3, .int b_count]))]))) rfl ?_
              obtain ⟨v8, hv, hM⟩ := dg_bind hM
              have hE := T_H_ofHandful (X := X) (H := (eW2 H [(r, .inr (5, [.int r_number, .int r_label, .long r_left, .long r_leftKinds, .long r_here, .long r_out, .long r_into, .int r_intoLabel, .int r_dissolves, .int r_divides, .long r_other])), (2, .inr (6, [.ref 3, .int b_count]))]))  hv
              refine g_callS rfl rfl rfl rfl rfl (hE.mono (by first | decide | omega)) ?_
              refine eGs.steps 0 (y := (61, [some (.ref 1), some (.int label), some (.int left), some (.int here), some (.int out)], [.long v8, .long v7, .long v6, .int label, .ref 2], (eW2 H [(r, .inr (5, [.int r_number, .int r_label, .long r_left, .long r_leftKinds, .long r_here, .long r_out, .long r_into, .int r_intoLabel, .int r_dissolves, .int r_divides, .long r_other])), (2, .inr (6, [.ref 3, .int b_count]))]))) rfl ?_
              obtain ⟨v9, hv, hM⟩ := dg_bind hM
              have hE := eEv_putA (T_B_add (X := X) (H := (eW2 H [(r, .inr (5, [.int r_number, .int r_label, .long r_left, .long r_leftKinds, .long r_here, .long r_out, .long r_into, .int r_intoLabel, .int r_dissolves, .int r_divides, .long r_other])), (2, .inr (6, [.ref 3, .int b_count]))])) (hc_r := (eW2_getA hN 0 rfl rfl)) (hc_b := (eW2_getA hN 1 rfl rfl)) (hc_ba := ((eW2_offA hO_ba rfl).trans hc_ba)) (hz_r := by first | assumption | omega) (hr9 := by first | assumption | exact hr9.resolve_left (by assumption) | omega) (hr4 := by first | assumption | omega) hv) [0, 1] hN rfl (by first | decide | (simp <;> omega)) rfl (eFor2_ok rfl)
              refine g_callV rfl rfl rfl rfl rfl (by omega) (eW2_getA hN 1 rfl rfl) rfl (hE.mono (by first | decide | omega)) ?_
              refine eGs.steps 0 (y := (64, [some (.ref 1), some (.int label), some (.int left), some (.int here), some (.int out)], [.int v9.1], (eW2 H [(r, .inr (5, [.int r_number, .int v9.2.1, .long v9.2.2.1, .long v9.2.2.2.1, .long v9.2.2.2.2.1, .long v9.2.2.2.2.2.1, .long v9.2.2.2.2.2.2.1, .int v9.2.2.2.2.2.2.2.1, .int v9.2.2.2.2.2.2.2.2.1, .int v9.2.2.2.2.2.2.2.2.2.1, .long v9.2.2.2.2.2.2.2.2.2.2.1])), (2, .inr (6, [.ref 3, .int v9.2.2.2.2.2.2.2.2.2.2.2]))]))) rfl ?_
              cases hM
              exact eGs.fin rfl rfl rfl
          | succ cc =>
            rw [hth] at hM hE
            dsimp only at hM
            cases hM
            exact g_thrS rfl rfl rfl rfl rfl (hE.mono (by first | decide | omega)) hnz rfl rfl rfl
        | succ cc =>
          rw [hth] at hM hE
          dsimp only at hM
          cases hM
          exact g_thrS rfl rfl rfl rfl rfl (hE.mono (by first | decide | omega)) hnz rfl rfl rfl
      | succ cc =>
        rw [hth] at hM hE
        dsimp only at hM
        cases hM
        exact g_thrS rfl rfl rfl rfl rfl (hE.mono (by first | decide | omega)) hnz rfl rfl rfl
    | succ cc =>
      rw [hth] at hM hE
      dsimp only at hM
      cases hM
      exact g_thrS rfl rfl rfl rfl rfl (hE.mono (by first | decide | omega)) hnz rfl rfl rfl
  | succ cc =>
    rw [hth] at hM hE
    dsimp only at hM
    cases hM
    exact g_thrS rfl rfl rfl rfl rfl (hE.mono (by first | decide | omega)) hnz rfl rfl rfl
def P_into (n : Nat) (rule : Int32) (label : Int32) (handful : Int32) (r_into : Int64) (r_intoLabel : Int32) (b_count : Int32) : Option (Nat × (Int64 × Int32)) :=
  (P_checkRule n rule b_count).bind fun v1 => (match v1.1 with | 0 => ((P_checkLabel n label).bind fun v2 => (match v2.1 with | 0 => ((P_checkHandful n handful).bind fun v3 => (match v3.1 with | 0 => ((P_checkNotEmpty n handful).bind fun v4 => (match v4.1 with | 0 => (if rule < 0 ∨ 6 ≤ (rule).toNatClampNeg then none else ((H_ofHandful n handful).bind fun v6 => (if rule < 0 ∨ 6 ≤ (rule).toNatClampNeg then none else (some (0, (v6, label)))))) | cc + 1 => some (cc + 1, (r_into, r_intoLabel)))) | cc + 1 => some (cc + 1, (r_into, r_intoLabel)))) | cc + 1 => some (cc + 1, (r_into, r_intoLabel)))) | cc + 1 => some (cc + 1, (r_into, r_intoLabel)))
theorem T_P_into {X : Nat × (Nat → Int32)} {H : eH} {c : Nat} {r : Nat} {tr : Nat} {rule : Int32} {label : Int32} {handful : Int32} {r_number : Int32} {r_label : Int32} {r_left : Int64} {r_leftKinds : Int64} {r_here : Int64} {r_out : Int64} {r_into : Int64} {r_intoLabel : Int32} {r_dissolves : Int32} {r_divides : Int32} {r_other : Int64} {b_count : Int32} {n : Nat} {res : Nat × (Int64 × Int32)} (hc_r : H.1 r = some (.inr (5, [.int r_number, .int r_label, .long r_left, .long r_leftKinds, .long r_here, .long r_out, .long r_into, .int r_intoLabel, .int r_dissolves, .int r_divides, .long r_other]))) (hc_b : H.1 2 = some (.inr (6, [.ref 3, .int b_count]))) (hc_ba : H.1 3 = some (.inl (3, 6, .inr (.inr fun i => if i < 6 then some (4 + i) else none)))) (hc_x : H.1 1 = some (.inr (0, [.ref 2, .ref 10, .ref 15, .ref 17, .ref 345, .ref 347, .ref c, .ref tr]))) (hok_c : c = 20 ∨ c = 348 ∨ c = 352 ∨ (25 ≤ c ∧ c ≤ 341 ∧ c % 4 = 1)) (hz_r : ¬ r = 0) (hr9 : (rule < 0 ∨ 6 ≤ (rule).toNatClampNeg) ∨ r = 4 + (rule).toNatClampNeg) (hr4 : 4 ≤ r) (hnz : ¬ H.2.1 = 0) (hM : P_into n rule label handful r_into r_intoLabel b_count = some res) : eEv pP X 2 5 [.ref 1, .int rule, .int label, .int handful] H (eTw pP res.1 (none) (eW2 H [(r, .inr (5, [.int r_number, .int r_label, .long r_left, .long r_leftKinds, .long r_here, .long r_out, .long res.2.1, .int res.2.2, .int r_dissolves, .int r_divides, .long r_other]))])) := by
  have hN : ([r] : List Nat).Nodup := by first | decide | (simp <;> omega)
  have hO_b : 2 ∉ ([r] : List Nat) := by first | decide | (simp <;> omega)
  have hO_ba : 3 ∉ ([r] : List Nat) := by first | decide | (simp <;> omega)
  have hO_x : 1 ∉ ([r] : List Nat) := by first | decide | (simp <;> omega)
  have h0 : (eW2 H [(r, .inr (5, [.int r_number, .int r_label, .long r_left, .long r_leftKinds, .long r_here, .long r_out, .long r_into, .int r_intoLabel, .int r_dissolves, .int r_divides, .long r_other]))]) = H := eW2_self (by simp only [List.forall_mem_cons]; exact ⟨hc_r, fun _ h => absurd h List.not_mem_nil⟩)
  rw [show eEv pP X 2 5 _ H = eEv pP X 2 5 _ (eW2 H [(r, .inr (5, [.int r_number, .int r_label, .long r_left, .long r_leftKinds, .long r_here, .long r_out, .long r_into, .int r_intoLabel, .int r_dissolves, .int r_divides, .long r_other]))]) by rw [h0]]
  refine eEv.of (Nat.not_lt.mpr (Nat.le_of_ble_eq_true rfl)) ?_
  refine eGs.steps 0 (y := (0, [some (.ref 1), some (.int rule), some (.int label), some (.int handful)], [], (eW2 H [(r, .inr (5, [.int r_number, .int r_label, .long r_left, .long r_leftKinds, .long r_here, .long r_out, .long r_into, .int r_intoLabel, .int r_dissolves, .int r_divides, .long r_other]))]))) rfl ?_
  unfold P_into at hM
  refine eGs.steps 2 (y := (2, [some (.ref 1), some (.int rule), some (.int label), some (.int handful)], [.int rule, .ref 1], (eW2 H [(r, .inr (5, [.int r_number, .int r_label, .long r_left, .long r_leftKinds, .long r_here, .long r_out, .long r_into, .int r_intoLabel, .int r_dissolves, .int r_divides, .long r_other]))]))) rfl ?_
  obtain ⟨v1, hv, hM⟩ := dg_bind hM
  have hE := T_P_checkRule (X := X) (H := (eW2 H [(r, .inr (5, [.int r_number, .int r_label, .long r_left, .long r_leftKinds, .long r_here, .long r_out, .long r_into, .int r_intoLabel, .int r_dissolves, .int r_divides, .long r_other]))])) (hc_b := ((eW2_offA hO_b rfl).trans hc_b)) (hc_x := ((eW2_offA hO_x rfl).trans hc_x)) (hok_c := by first | assumption | omega) (hnz := by first | assumption | omega) hv
  cases hth : v1.1 with
  | zero =>
    rw [hth] at hM hE
    dsimp only at hM
    refine g_callV rfl rfl rfl rfl rfl (by omega) ((eW2_offA hO_x rfl).trans hc_x) rfl (hE.mono (by first | decide | omega)) ?_
    refine eGs.steps 0 (y := (5, [some (.ref 1), some (.int rule), some (.int label), some (.int handful)], [], (eW2 H [(r, .inr (5, [.int r_number, .int r_label, .long r_left, .long r_leftKinds, .long r_here, .long r_out, .long r_into, .int r_intoLabel, .int r_dissolves, .int r_divides, .long r_other]))]))) rfl ?_
    refine eGs.steps 1 (y := (6, [some (.ref 1), some (.int rule), some (.int label), some (.int handful)], [.int label], (eW2 H [(r, .inr (5, [.int r_number, .int r_label, .long r_left, .long r_leftKinds, .long r_here, .long r_out, .long r_into, .int r_intoLabel, .int r_dissolves, .int r_divides, .long r_other]))]))) rfl ?_
    obtain ⟨v2, hv, hM⟩ := dg_bind hM
    have hE := T_P_checkLabel (X := X) (H := (eW2 H [(r, .inr (5, [.int r_number, .int r_label, .long r_left, .long r_leftKinds, .long r_here, .long r_out, .long r_into, .int r_intoLabel, .int r_dissolves, .int r_divides, .long r_other]))])) (hnz := by first | assumption | omega) hv
    cases hth : v2.1 with
    | zero =>
      rw [hth] at hM hE
      dsimp only at hM
      refine g_callS rfl rfl rfl rfl rfl (hE.mono (by first | decide | omega)) ?_
      refine eGs.steps 0 (y := (9, [some (.ref 1), some (.int rule), some (.int label), some (.int handful)], [], (eW2 H [(r, .inr (5, [.int r_number, .int r_label, .long r_left, .long r_leftKinds, .long r_here, .long r_out, .long r_into, .int r_intoLabel, .int r_dissolves, .int r_divides, .long r_other]))]))) rfl ?_
      refine eGs.steps 1 (y := (10, [some (.ref 1), some (.int rule), some (.int label), some (.int handful)], [.int handful], (eW2 H [(r, .inr (5, [.int r_number, .int r_label, .long r_left, .long r_leftKinds, .long r_here, .long r_out, .long r_into, .int r_intoLabel, .int r_dissolves, .int r_divides, .long r_other]))]))) rfl ?_
      obtain ⟨v3, hv, hM⟩ := dg_bind hM
      have hE := T_P_checkHandful (X := X) (H := (eW2 H [(r, .inr (5, [.int r_number, .int r_label, .long r_left, .long r_leftKinds, .long r_here, .long r_out, .long r_into, .int r_intoLabel, .int r_dissolves, .int r_divides, .long r_other]))])) (hnz := by first | assumption | omega) hv
      cases hth : v3.1 with
      | zero =>
        rw [hth] at hM hE
        dsimp only at hM
        refine g_callS rfl rfl rfl rfl rfl (hE.mono (by first | decide | omega)) ?_
        refine eGs.steps 0 (y := (13, [some (.ref 1), some (.int rule), some (.int label), some (.int handful)], [], (eW2 H [(r, .inr (5, [.int r_number, .int r_label, .long r_left, .long r_leftKinds, .long r_here, .long r_out, .long r_into, .int r_intoLabel, .int r_dissolves, .int r_divides, .long r_other]))]))) rfl ?_
        refine eGs.steps 1 (y := (14, [some (.ref 1), some (.int rule), some (.int label), some (.int handful)], [.int handful], (eW2 H [(r, .inr (5, [.int r_number, .int r_label, .long r_left, .long r_leftKinds, .long r_here, .long r_out, .long r_into, .int r_intoLabel, .int r_dissolves, .int r_divides, .long r_other]))]))) rfl ?_
        obtain ⟨v4, hv, hM⟩ := dg_bind hM
        have hE := T_P_checkNotEmpty (X := X) (H := (eW2 H [(r, .inr (5, [.int r_number, .int r_label, .long r_left, .long r_leftKinds, .long r_here, .long r_out, .long r_into, .int r_intoLabel, .int r_dissolves, .int r_divides, .long r_other]))])) (hnz := by first | assumption | omega) hv
        cases hth : v4.1 with
        | zero =>
          rw [hth] at hM hE
          dsimp only at hM
          refine g_callS rfl rfl rfl rfl rfl (hE.mono (by first | decide | omega)) ?_
          refine eGs.steps 0 (y := (17, [some (.ref 1), some (.int rule), some (.int label), some (.int handful)], [], (eW2 H [(r, .inr (5, [.int r_number, .int r_label, .long r_left, .long r_leftKinds, .long r_here, .long r_out, .long r_into, .int r_intoLabel, .int r_dissolves, .int r_divides, .long r_other]))]))) rfl ?_
          refine eGs.steps 1 (y := (18, [some (.ref 1), some (.int rule), some (.int label), some (.int handful)], [.ref 1], (eW2 H [(r, .inr (5, [.int r_number, .int r_label, .long r_left, .long r_leftKinds, .long r_here, .long r_out, .long r_into, .int r_intoLabel, .int r_dissolves, .int r_divides, .long r_other]))]))) rfl ?_
          refine g_getf rfl rfl (by omega) ((eW2_offA hO_x rfl).trans hc_x) rfl ?_
          refine eGs.steps 0 (y := (21, [some (.ref 1), some (.int rule), some (.int label), some (.int handful)], [.ref 2], (eW2 H [(r, .inr (5, [.int r_number, .int r_label, .long r_left, .long r_leftKinds, .long r_here, .long r_out, .long r_into, .int r_intoLabel, .int r_dissolves, .int r_divides, .long r_other]))]))) rfl ?_
          refine g_getf rfl rfl (by omega) ((eW2_offA hO_b rfl).trans hc_b) rfl ?_
          refine eGs.steps 0 (y := (24, [some (.ref 1), some (.int rule), some (.int label), some (.int handful)], [.ref 3], (eW2 H [(r, .inr (5, [.int r_number, .int r_label, .long r_left, .long r_leftKinds, .long r_here, .long r_out, .long r_into, .int r_intoLabel, .int r_dissolves, .int r_divides, .long r_other]))]))) rfl ?_
          refine eGs.steps 1 (y := (25, [some (.ref 1), some (.int rule), some (.int label), some (.int handful)], [.int rule, .ref 3], (eW2 H [(r, .inr (5, [.int r_number, .int r_label, .long r_left, .long r_leftKinds, .long r_here, .long r_out, .long r_into, .int r_intoLabel, .int r_dissolves, .int r_divides, .long r_other]))]))) rfl ?_
          obtain ⟨hg5, hM⟩ := dg_none hM
          refine g_aald rfl (by omega) ((eW2_offA hO_ba rfl).trans hc_ba) rfl hg5 ?_
          rw [if_pos (Nat.not_le.mp fun z => hg5 (Or.inr z))]
          refine eGs.steps 0 (y := (26, [some (.ref 1), some (.int rule), some (.int label), some (.int handful)], [.ref (4 + (rule).toNatClampNeg)], (eW2 H [(r, .inr (5, [.int r_number, .int r_label, .long r_left, .long r_leftKinds, .long r_here, .long r_out, .long r_into, .int r_intoLabel, .int r_dissolves, .int r_divides, .long r_other]))]))) rfl ?_
          rw [← (hr9.resolve_left hg5)]
          refine eGs.steps 0 (y := (26, [some (.ref 1), some (.int rule), some (.int label), some (.int handful)], [.ref r], (eW2 H [(r, .inr (5, [.int r_number, .int r_label, .long r_left, .long r_leftKinds, .long r_here, .long r_out, .long r_into, .int r_intoLabel, .int r_dissolves, .int r_divides, .long r_other]))]))) rfl ?_
          refine eGs.steps 1 (y := (27, [some (.ref 1), some (.int rule), some (.int label), some (.int handful)], [.int handful, .ref r], (eW2 H [(r, .inr (5, [.int r_number, .int r_label, .long r_left, .long r_leftKinds, .long r_here, .long r_out, .long r_into, .int r_intoLabel, .int r_dissolves, .int r_divides, .long r_other]))]))) rfl ?_
          obtain ⟨v6, hv, hM⟩ := dg_bind hM
          have hE := T_H_ofHandful (X := X) (H := (eW2 H [(r, .inr (5, [.int r_number, .int r_label, .long r_left, .long r_leftKinds, .long r_here, .long r_out, .long r_into, .int r_intoLabel, .int r_dissolves, .int r_divides, .long r_other]))]))  hv
          refine g_callS rfl rfl rfl rfl rfl (hE.mono (by first | decide | omega)) ?_
          refine eGs.steps 0 (y := (30, [some (.ref 1), some (.int rule), some (.int label), some (.int handful)], [.long v6, .ref r], (eW2 H [(r, .inr (5, [.int r_number, .int r_label, .long r_left, .long r_leftKinds, .long r_here, .long r_out, .long r_into, .int r_intoLabel, .int r_dissolves, .int r_divides, .long r_other]))]))) rfl ?_
          refine g_putfW rfl rfl (by omega) (eW2_getA hN 0 rfl rfl) rfl (Nat.le_of_ble_eq_true rfl) rfl (eW2_setA hN 0 rfl rfl) ?_
          refine eGs.steps 0 (y := (33, [some (.ref 1), some (.int rule), some (.int label), some (.int handful)], [], (eW2 H [(r, .inr (5, [.int r_number, .int r_label, .long r_left, .long r_leftKinds, .long r_here, .long r_out, .long v6, .int r_intoLabel, .int r_dissolves, .int r_divides, .long r_other]))]))) rfl ?_
          refine eGs.steps 1 (y := (34, [some (.ref 1), some (.int rule), some (.int label), some (.int handful)], [.ref 1], (eW2 H [(r, .inr (5, [.int r_number, .int r_label, .long r_left, .long r_leftKinds, .long r_here, .long r_out, .long v6, .int r_intoLabel, .int r_dissolves, .int r_divides, .long r_other]))]))) rfl ?_
          refine g_getf rfl rfl (by omega) ((eW2_offA hO_x rfl).trans hc_x) rfl ?_
          refine eGs.steps 0 (y := (37, [some (.ref 1), some (.int rule), some (.int label), some (.int handful)], [.ref 2], (eW2 H [(r, .inr (5, [.int r_number, .int r_label, .long r_left, .long r_leftKinds, .long r_here, .long r_out, .long v6, .int r_intoLabel, .int r_dissolves, .int r_divides, .long r_other]))]))) rfl ?_
          refine g_getf rfl rfl (by omega) ((eW2_offA hO_b rfl).trans hc_b) rfl ?_
          refine eGs.steps 0 (y := (40, [some (.ref 1), some (.int rule), some (.int label), some (.int handful)], [.ref 3], (eW2 H [(r, .inr (5, [.int r_number, .int r_label, .long r_left, .long r_leftKinds, .long r_here, .long r_out, .long v6, .int r_intoLabel, .int r_dissolves, .int r_divides, .long r_other]))]))) rfl ?_
          refine eGs.steps 1 (y := (41, [some (.ref 1), some (.int rule), some (.int label), some (.int handful)], [.int rule, .ref 3], (eW2 H [(r, .inr (5, [.int r_number, .int r_label, .long r_left, .long r_leftKinds, .long r_here, .long r_out, .long v6, .int r_intoLabel, .int r_dissolves, .int r_divides, .long r_other]))]))) rfl ?_
          obtain ⟨hg7, hM⟩ := dg_none hM
          refine g_aald rfl (by omega) ((eW2_offA hO_ba rfl).trans hc_ba) rfl hg7 ?_
          rw [if_pos (Nat.not_le.mp fun z => hg7 (Or.inr z))]
          refine eGs.steps 0 (y := (42, [some (.ref 1), some (.int rule), some (.int label), some (.int handful)], [.ref (4 + (rule).toNatClampNeg)], (eW2 H [(r, .inr (5, [.int r_number, .int r_label, .long r_left, .long r_leftKinds, .long r_here, .long r_out, .long v6, .int r_intoLabel, .int r_dissolves, .int r_divides, .long r_other]))]))) rfl ?_
          rw [← (hr9.resolve_left hg7)]
          refine eGs.steps 0 (y := (42, [some (.ref 1), some (.int rule), some (.int label), some (.int handful)], [.ref r], (eW2 H [(r, .inr (5, [.int r_number, .int r_label, .long r_left, .long r_leftKinds, .long r_here, .long r_out, .long v6, .int r_intoLabel, .int r_dissolves, .int r_divides, .long r_other]))]))) rfl ?_
          refine eGs.steps 1 (y := (43, [some (.ref 1), some (.int rule), some (.int label), some (.int handful)], [.int label, .ref r], (eW2 H [(r, .inr (5, [.int r_number, .int r_label, .long r_left, .long r_leftKinds, .long r_here, .long r_out, .long v6, .int r_intoLabel, .int r_dissolves, .int r_divides, .long r_other]))]))) rfl ?_
          refine g_putfW rfl rfl (by omega) (eW2_getA hN 0 rfl rfl) rfl (Nat.le_of_ble_eq_true rfl) rfl (eW2_setA hN 0 rfl rfl) ?_
          refine eGs.steps 0 (y := (46, [some (.ref 1), some (.int rule), some (.int label), some (.int handful)], [], (eW2 H [(r, .inr (5, [.int r_number, .int r_label, .long r_left, .long r_leftKinds, .long r_here, .long r_out, .long v6, .int label, .int r_dissolves, .int r_divides, .long r_other]))]))) rfl ?_
          cases hM
          exact eGs.fin rfl rfl rfl
        | succ cc =>
          rw [hth] at hM hE
          dsimp only at hM
          cases hM
          exact g_thrS rfl rfl rfl rfl rfl (hE.mono (by first | decide | omega)) hnz rfl rfl rfl
      | succ cc =>
        rw [hth] at hM hE
        dsimp only at hM
        cases hM
        exact g_thrS rfl rfl rfl rfl rfl (hE.mono (by first | decide | omega)) hnz rfl rfl rfl
    | succ cc =>
      rw [hth] at hM hE
      dsimp only at hM
      cases hM
      exact g_thrS rfl rfl rfl rfl rfl (hE.mono (by first | decide | omega)) hnz rfl rfl rfl
  | succ cc =>
    rw [hth] at hM hE
    dsimp only at hM
    cases hM
    exact g_thrV rfl rfl rfl rfl rfl (by omega) ((eW2_offA hO_x rfl).trans hc_x) rfl (hE.mono (by first | decide | omega)) hnz rfl rfl rfl
def P_dissolve (n : Nat) (rule : Int32) (r_dissolves : Int32) (r_divides : Int32) (b_count : Int32) : Option (Nat × (Int32)) :=
  (P_checkRule n rule b_count).bind fun v1 => (match v1.1 with | 0 => ((P_checkEndsNothing n rule r_dissolves r_divides).bind fun v2 => (match v2.1 with | 0 => (if rule < 0 ∨ 6 ≤ (rule).toNatClampNeg then none else (if ¬ ((1 : Int32) = 0 ∨ (1 : Int32) = 1) then none else (some (0, (1 : Int32))))) | cc + 1 => some (cc + 1, r_dissolves))) | cc + 1 => some (cc + 1, r_dissolves))
theorem T_P_dissolve {X : Nat × (Nat → Int32)} {H : eH} {c : Nat} {r : Nat} {tr : Nat} {rule : Int32} {r_number : Int32} {r_label : Int32} {r_left : Int64} {r_leftKinds : Int64} {r_here : Int64} {r_out : Int64} {r_into : Int64} {r_intoLabel : Int32} {r_dissolves : Int32} {r_divides : Int32} {r_other : Int64} {b_count : Int32} {n : Nat} {res : Nat × (Int32)} (hc_r : H.1 r = some (.inr (5, [.int r_number, .int r_label, .long r_left, .long r_leftKinds, .long r_here, .long r_out, .long r_into, .int r_intoLabel, .int r_dissolves, .int r_divides, .long r_other]))) (hc_b : H.1 2 = some (.inr (6, [.ref 3, .int b_count]))) (hc_ba : H.1 3 = some (.inl (3, 6, .inr (.inr fun i => if i < 6 then some (4 + i) else none)))) (hc_x : H.1 1 = some (.inr (0, [.ref 2, .ref 10, .ref 15, .ref 17, .ref 345, .ref 347, .ref c, .ref tr]))) (hok_c : c = 20 ∨ c = 348 ∨ c = 352 ∨ (25 ≤ c ∧ c ≤ 341 ∧ c % 4 = 1)) (hz_r : ¬ r = 0) (hr9 : (rule < 0 ∨ 6 ≤ (rule).toNatClampNeg) ∨ r = 4 + (rule).toNatClampNeg) (hr4 : 4 ≤ r) (hnz : ¬ H.2.1 = 0) (hM : P_dissolve n rule r_dissolves r_divides b_count = some res) : eEv pP X 3 6 [.ref 1, .int rule] H (eTw pP res.1 (none) (eW2 H [(r, .inr (5, [.int r_number, .int r_label, .long r_left, .long r_leftKinds, .long r_here, .long r_out, .long r_into, .int r_intoLabel, .int res.2, .int r_divides, .long r_other]))])) := by
  have hN : ([r] : List Nat).Nodup := by first | decide | (simp <;> omega)
  have hO_b : 2 ∉ ([r] : List Nat) := by first | decide | (simp <;> omega)
  have hO_ba : 3 ∉ ([r] : List Nat) := by first | decide | (simp <;> omega)
  have hO_x : 1 ∉ ([r] : List Nat) := by first | decide | (simp <;> omega)
  have h0 : (eW2 H [(r, .inr (5, [.int r_number, .int r_label, .long r_left, .long r_leftKinds, .long r_here, .long r_out, .long r_into, .int r_intoLabel, .int r_dissolves, .int r_divides, .long r_other]))]) = H := eW2_self (by simp only [List.forall_mem_cons]; exact ⟨hc_r, fun _ h => absurd h List.not_mem_nil⟩)
  rw [show eEv pP X 3 6 _ H = eEv pP X 3 6 _ (eW2 H [(r, .inr (5, [.int r_number, .int r_label, .long r_left, .long r_leftKinds, .long r_here, .long r_out, .long r_into, .int r_intoLabel, .int r_dissolves, .int r_divides, .long r_other]))]) by rw [h0]]
  refine eEv.of (Nat.not_lt.mpr (Nat.le_of_ble_eq_true rfl)) ?_
  refine eGs.steps 0 (y := (0, [some (.ref 1), some (.int rule)], [], (eW2 H [(r, .inr (5, [.int r_number, .int r_label, .long r_left, .long r_leftKinds, .long r_here, .long r_out, .long r_into, .int r_intoLabel, .int r_dissolves, .int r_divides, .long r_other]))]))) rfl ?_
  unfold P_dissolve at hM
  refine eGs.steps 2 (y := (2, [some (.ref 1), some (.int rule)], [.int rule, .ref 1], (eW2 H [(r, .inr (5, [.int r_number, .int r_label, .long r_left, .long r_leftKinds, .long r_here, .long r_out, .long r_into, .int r_intoLabel, .int r_dissolves, .int r_divides, .long r_other]))]))) rfl ?_
  obtain ⟨v1, hv, hM⟩ := dg_bind hM
  have hE := T_P_checkRule (X := X) (H := (eW2 H [(r, .inr (5, [.int r_number, .int r_label, .long r_left, .long r_leftKinds, .long r_here, .long r_out, .long r_into, .int r_intoLabel, .int r_dissolves, .int r_divides, .long r_other]))])) (hc_b := ((eW2_offA hO_b rfl).trans hc_b)) (hc_x := ((eW2_offA hO_x rfl).trans hc_x)) (hok_c := by first | assumption | omega) (hnz := by first | assumption | omega) hv
  cases hth : v1.1 with
  | zero =>
    rw [hth] at hM hE
    dsimp only at hM
    refine g_callV rfl rfl rfl rfl rfl (by omega) ((eW2_offA hO_x rfl).trans hc_x) rfl (hE.mono (by first | decide | omega)) ?_
    refine eGs.steps 0 (y := (5, [some (.ref 1), some (.int rule)], [], (eW2 H [(r, .inr (5, [.int r_number, .int r_label, .long r_left, .long r_leftKinds, .long r_here, .long r_out, .long r_into, .int r_intoLabel, .int r_dissolves, .int r_divides, .long r_other]))]))) rfl ?_
    refine eGs.steps 2 (y := (7, [some (.ref 1), some (.int rule)], [.int rule, .ref 1], (eW2 H [(r, .inr (5, [.int r_number, .int r_label, .long r_left, .long r_leftKinds, .long r_here, .long r_out, .long r_into, .int r_intoLabel, .int r_dissolves, .int r_divides, .long r_other]))]))) rfl ?_
    obtain ⟨v2, hv, hM⟩ := dg_bind hM
    have hE := T_P_checkEndsNothing (X := X) (H := (eW2 H [(r, .inr (5, [.int r_number, .int r_label, .long r_left, .long r_leftKinds, .long r_here, .long r_out, .long r_into, .int r_intoLabel, .int r_dissolves, .int r_divides, .long r_other]))])) (hc_r := (eW2_getA hN 0 rfl rfl)) (hc_b := ((eW2_offA hO_b rfl).trans hc_b)) (hc_ba := ((eW2_offA hO_ba rfl).trans hc_ba)) (hc_x := ((eW2_offA hO_x rfl).trans hc_x)) (hok_c := by first | assumption | omega) (hz_r := by first | assumption | omega) (hr9 := by first | assumption | exact hr9.resolve_left (by assumption) | omega) (hr4 := by first | assumption | omega) (hnz := by first | assumption | omega) hv
    cases hth : v2.1 with
    | zero =>
      rw [hth] at hM hE
      dsimp only at hM
      refine g_callV rfl rfl rfl rfl rfl (by omega) ((eW2_offA hO_x rfl).trans hc_x) rfl (hE.mono (by first | decide | omega)) ?_
      refine eGs.steps 0 (y := (10, [some (.ref 1), some (.int rule)], [], (eW2 H [(r, .inr (5, [.int r_number, .int r_label, .long r_left, .long r_leftKinds, .long r_here, .long r_out, .long r_into, .int r_intoLabel, .int r_dissolves, .int r_divides, .long r_other]))]))) rfl ?_
      refine eGs.steps 1 (y := (11, [some (.ref 1), some (.int rule)], [.ref 1], (eW2 H [(r, .inr (5, [.int r_number, .int r_label, .long r_left, .long r_leftKinds, .long r_here, .long r_out, .long r_into, .int r_intoLabel, .int r_dissolves, .int r_divides, .long r_other]))]))) rfl ?_
      refine g_getf rfl rfl (by omega) ((eW2_offA hO_x rfl).trans hc_x) rfl ?_
      refine eGs.steps 0 (y := (14, [some (.ref 1), some (.int rule)], [.ref 2], (eW2 H [(r, .inr (5, [.int r_number, .int r_label, .long r_left, .long r_leftKinds, .long r_here, .long r_out, .long r_into, .int r_intoLabel, .int r_dissolves, .int r_divides, .long r_other]))]))) rfl ?_
      refine g_getf rfl rfl (by omega) ((eW2_offA hO_b rfl).trans hc_b) rfl ?_
      refine eGs.steps 0 (y := (17, [some (.ref 1), some (.int rule)], [.ref 3], (eW2 H [(r, .inr (5, [.int r_number, .int r_label, .long r_left, .long r_leftKinds, .long r_here, .long r_out, .long r_into, .int r_intoLabel, .int r_dissolves, .int r_divides, .long r_other]))]))) rfl ?_
      refine eGs.steps 1 (y := (18, [some (.ref 1), some (.int rule)], [.int rule, .ref 3], (eW2 H [(r, .inr (5, [.int r_number, .int r_label, .long r_left, .long r_leftKinds, .long r_here, .long r_out, .long r_into, .int r_intoLabel, .int r_dissolves, .int r_divides, .long r_other]))]))) rfl ?_
      obtain ⟨hg3, hM⟩ := dg_none hM
      refine g_aald rfl (by omega) ((eW2_offA hO_ba rfl).trans hc_ba) rfl hg3 ?_
      rw [if_pos (Nat.not_le.mp fun z => hg3 (Or.inr z))]
      refine eGs.steps 0 (y := (19, [some (.ref 1), some (.int rule)], [.ref (4 + (rule).toNatClampNeg)], (eW2 H [(r, .inr (5, [.int r_number, .int r_label, .long r_left, .long r_leftKinds, .long r_here, .long r_out, .long r_into, .int r_intoLabel, .int r_dissolves, .int r_divides, .long r_other]))]))) rfl ?_
      rw [← (hr9.resolve_left hg3)]
      refine eGs.steps 0 (y := (19, [some (.ref 1), some (.int rule)], [.ref r], (eW2 H [(r, .inr (5, [.int r_number, .int r_label, .long r_left, .long r_leftKinds, .long r_here, .long r_out, .long r_into, .int r_intoLabel, .int r_dissolves, .int r_divides, .long r_other]))]))) rfl ?_
      refine eGs.steps 1 (y := (20, [some (.ref 1), some (.int rule)], [.int (1 : Int32), .ref r], (eW2 H [(r, .inr (5, [.int r_number, .int r_label, .long r_left, .long r_leftKinds, .long r_here, .long r_out, .long r_into, .int r_intoLabel, .int r_dissolves, .int r_divides, .long r_other]))]))) rfl ?_
      obtain ⟨hg, hM⟩ := dg_none hM
      have hz : eFit .boolean (.int (1 : Int32)) = true := by rcases Decidable.of_not_not hg with z | z <;> (rw [z]; rfl)
      refine g_putfW rfl rfl (by omega) (eW2_getA hN 0 rfl rfl) hz (Nat.le_of_ble_eq_true rfl) rfl (eW2_setA hN 0 rfl rfl) ?_
      refine eGs.steps 0 (y := (23, [some (.ref 1), some (.int rule)], [], (eW2 H [(r, .inr (5, [.int r_number, .int r_label, .long r_left, .long r_leftKinds, .long r_here, .long r_out, .long r_into, .int r_intoLabel, .int (1 : Int32), .int r_divides, .long r_other]))]))) rfl ?_
      cases hM
      exact eGs.fin rfl rfl rfl
    | succ cc =>
      rw [hth] at hM hE
      dsimp only at hM
      cases hM
      exact g_thrV rfl rfl rfl rfl rfl (by omega) ((eW2_offA hO_x rfl).trans hc_x) rfl (hE.mono (by first | decide | omega)) hnz rfl rfl rfl
  | succ cc =>
    rw [hth] at hM hE
    dsimp only at hM
    cases hM
    exact g_thrV rfl rfl rfl rfl rfl (by omega) ((eW2_offA hO_x rfl).trans hc_x) rfl (hE.mono (by first | decide | omega)) hnz rfl rfl rfl
def P_divide (n : Nat) (rule : Int32) (other : Int32) (r_dissolves : Int32) (r_divides : Int32) (r_other : Int64) (b_count : Int32) : Option (Nat × (Int32 × Int64)) :=
  (P_checkRule n rule b_count).bind fun v1 => (match v1.1 with | 0 => ((P_checkHandful n other).bind fun v2 => (match v2.1 with | 0 => ((P_checkEndsNothing n rule r_dissolves r_divides).bind fun v3 => (match v3.1 with | 0 => (if rule < 0 ∨ 6 ≤ (rule).toNatClampNeg then none else (if ¬ ((1 : Int32) = 0 ∨ (1 : Int32) = 1) then none else (if rule < 0 ∨ 6 ≤ (rule).toNatClampNeg then none else ((H_ofHandful n other).bind fun v6 => (some (0, ((1 : Int32), v6))))))) | cc + 1 => some (cc + 1, (r_divides, r_other)))) | cc + 1 => some (cc + 1, (r_divides, r_other)))) | cc + 1 => some (cc + 1, (r_divides, r_other)))
theorem T_P_divide {X : Nat × (Nat → Int32)} {H : eH} {c : Nat} {r : Nat} {tr : Nat} {rule : Int32} {other : Int32} {r_number : Int32} {r_label : Int32} {r_left : Int64} {r_leftKinds : Int64} {r_here : Int64} {r_out : Int64} {r_into : Int64} {r_intoLabel : Int32} {r_dissolves : Int32} {r_divides : Int32} {r_other : Int64} {b_count : Int32} {n : Nat} {res : Nat × (Int32 × Int64)} (hc_r : H.1 r = some (.inr (5, [.int r_number, .int r_label, .long r_left, .long r_leftKinds, .long r_here, .long r_out, .long r_into, .int r_intoLabel, .int r_dissolves, .int r_divides, .long r_other]))) (hc_b : H.1 2 = some (.inr (6, [.ref 3, .int b_count]))) (hc_ba : H.1 3 = some (.inl (3, 6, .inr (.inr fun i => if i < 6 then some (4 + i) else none)))) (hc_x : H.1 1 = some (.inr (0, [.ref 2, .ref 10, .ref 15, .ref 17, .ref 345, .ref 347, .ref c, .ref tr]))) (hok_c : c = 20 ∨ c = 348 ∨ c = 352 ∨ (25 ≤ c ∧ c ≤ 341 ∧ c % 4 = 1)) (hz_r : ¬ r = 0) (hr9 : (rule < 0 ∨ 6 ≤ (rule).toNatClampNeg) ∨ r = 4 + (rule).toNatClampNeg) (hr4 : 4 ≤ r) (hnz : ¬ H.2.1 = 0) (hM : P_divide n rule other r_dissolves r_divides r_other b_count = some res) : eEv pP X 3 7 [.ref 1, .int rule, .int other] H (eTw pP res.1 (none) (eW2 H [(r, .inr (5, [.int r_number, .int r_label, .long r_left, .long r_leftKinds, .long r_here, .long r_out, .long r_into, .int r_intoLabel, .int r_dissolves, .int res.2.1, .long res.2.2]))])) := by
  have hN : ([r] : List Nat).Nodup := by first | decide | (simp <;> omega)
  have hO_b : 2 ∉ ([r] : List Nat) := by first | decide | (simp <;> omega)
  have hO_ba : 3 ∉ ([r] : List Nat) := by first | decide | (simp <;> omega)
  have hO_x : 1 ∉ ([r] : List Nat) := by first | decide | (simp <;> omega)
  have h0 : (eW2 H [(r, .inr (5, [.int r_number, .int r_label, .long r_left, .long r_leftKinds, .long r_here, .long r_out, .long r_into, .int r_intoLabel, .int r_dissolves, .int r_divides, .long r_other]))]) = H := eW2_self (by simp only [List.forall_mem_cons]; exact ⟨hc_r, fun _ h => absurd h List.not_mem_nil⟩)
  rw [show eEv pP X 3 7 _ H = eEv pP X 3 7 _ (eW2 H [(r, .inr (5, [.int r_number, .int r_label, .long r_left, .long r_leftKinds, .long r_here, .long r_out, .long r_into, .int r_intoLabel, .int r_dissolves, .int r_divides, .long r_other]))]) by rw [h0]]
  refine eEv.of (Nat.not_lt.mpr (Nat.le_of_ble_eq_true rfl)) ?_
  refine eGs.steps 0 (y := (0, [some (.ref 1), some (.int rule), some (.int other)], [], (eW2 H [(r, .inr (5, [.int r_number, .int r_label, .long r_left, .long r_leftKinds, .long r_here, .long r_out, .long r_into, .int r_intoLabel, .int r_dissolves, .int r_divides, .long r_other]))]))) rfl ?_
  unfold P_divide at hM
  refine eGs.steps 2 (y := (2, [some (.ref 1), some (.int rule), some (.int other)], [.int rule, .ref 1], (eW2 H [(r, .inr (5, [.int r_number, .int r_label, .long r_left, .long r_leftKinds, .long r_here, .long r_out, .long r_into, .int r_intoLabel, .int r_dissolves, .int r_divides, .long r_other]))]))) rfl ?_
  obtain ⟨v1, hv, hM⟩ := dg_bind hM
  have hE := T_P_checkRule (X := X) (H := (eW2 H [(r, .inr (5, [.int r_number, .int r_label, .long r_left, .long r_leftKinds, .long r_here, .long r_out, .long r_into, .int r_intoLabel, .int r_dissolves, .int r_divides, .long r_other]))])) (hc_b := ((eW2_offA hO_b rfl).trans hc_b)) (hc_x := ((eW2_offA hO_x rfl).trans hc_x)) (hok_c := by first | assumption | omega) (hnz := by first | assumption | omega) hv
  cases hth : v1.1 with
  | zero =>
    rw [hth] at hM hE
    dsimp only at hM
    refine g_callV rfl rfl rfl rfl rfl (by omega) ((eW2_offA hO_x rfl).trans hc_x) rfl (hE.mono (by first | decide | omega)) ?_
    refine eGs.steps 0 (y := (5, [some (.ref 1), some (.int rule), some (.int other)], [], (eW2 H [(r, .inr (5, [.int r_number, .int r_label, .long r_left, .long r_leftKinds, .long r_here, .long r_out, .long r_into, .int r_intoLabel, .int r_dissolves, .int r_divides, .long r_other]))]))) rfl ?_
    refine eGs.steps 1 (y := (6, [some (.ref 1), some (.int rule), some (.int other)], [.int other], (eW2 H [(r, .inr (5, [.int r_number, .int r_label, .long r_left, .long r_leftKinds, .long r_here, .long r_out, .long r_into, .int r_intoLabel, .int r_dissolves, .int r_divides, .long r_other]))]))) rfl ?_
    obtain ⟨v2, hv, hM⟩ := dg_bind hM
    have hE := T_P_checkHandful (X := X) (H := (eW2 H [(r, .inr (5, [.int r_number, .int r_label, .long r_left, .long r_leftKinds, .long r_here, .long r_out, .long r_into, .int r_intoLabel, .int r_dissolves, .int r_divides, .long r_other]))])) (hnz := by first | assumption | omega) hv
    cases hth : v2.1 with
    | zero =>
      rw [hth] at hM hE
      dsimp only at hM
      refine g_callS rfl rfl rfl rfl rfl (hE.mono (by first | decide | omega)) ?_
      refine eGs.steps 0 (y := (9, [some (.ref 1), some (.int rule), some (.int other)], [], (eW2 H [(r, .inr (5, [.int r_number, .int r_label, .long r_left, .long r_leftKinds, .long r_here, .long r_out, .long r_into, .int r_intoLabel, .int r_dissolves, .int r_divides, .long r_other]))]))) rfl ?_
      refine eGs.steps 2 (y := (11, [some (.ref 1), some (.int rule), some (.int other)], [.int rule, .ref 1], (eW2 H [(r, .inr (5, [.int r_number, .int r_label, .long r_left, .long r_leftKinds, .long r_here, .long r_out, .long r_into, .int r_intoLabel, .int r_dissolves, .int r_divides, .long r_other]))]))) rfl ?_
      obtain ⟨v3, hv, hM⟩ := dg_bind hM
      have hE := T_P_checkEndsNothing (X := X) (H := (eW2 H [(r, .inr (5, [.int r_number, .int r_label, .long r_left, .long r_leftKinds, .long r_here, .long r_out, .long r_into, .int r_intoLabel, .int r_dissolves, .int r_divides, .long r_other]))])) (hc_r := (eW2_getA hN 0 rfl rfl)) (hc_b := ((eW2_offA hO_b rfl).trans hc_b)) (hc_ba := ((eW2_offA hO_ba rfl).trans hc_ba)) (hc_x := ((eW2_offA hO_x rfl).trans hc_x)) (hok_c := by first | assumption | omega) (hz_r := by first | assumption | omega) (hr9 := by first | assumption | exact hr9.resolve_left (by assumption) | omega) (hr4 := by first | assumption | omega) (hnz := by first | assumption | omega) hv
      cases hth : v3.1 with
      | zero =>
        rw [hth] at hM hE
        dsimp only at hM
        refine g_callV rfl rfl rfl rfl rfl (by omega) ((eW2_offA hO_x rfl).trans hc_x) rfl (hE.mono (by first | decide | omega)) ?_
        refine eGs.steps 0 (y := (14, [some (.ref 1), some (.int rule), some (.int other)], [], (eW2 H [(r, .inr (5, [.int r_number, .int r_label, .long r_left, .long r_leftKinds, .long r_here, .long r_out, .long r_into, .int r_intoLabel, .int r_dissolves, .int r_divides, .long r_other]))]))) rfl ?_
        refine eGs.steps 1 (y := (15, [some (.ref 1), some (.int rule), some (.int other)], [.ref 1], (eW2 H [(r, .inr (5, [.int r_number, .int r_label, .long r_left, .long r_leftKinds, .long r_here, .long r_out, .long r_into, .int r_intoLabel, .int r_dissolves, .int r_divides, .long r_other]))]))) rfl ?_
        refine g_getf rfl rfl (by omega) ((eW2_offA hO_x rfl).trans hc_x) rfl ?_
        refine eGs.steps 0 (y := (18, [some (.ref 1), some (.int rule), some (.int other)], [.ref 2], (eW2 H [(r, .inr (5, [.int r_number, .int r_label, .long r_left, .long r_leftKinds, .long r_here, .long r_out, .long r_into, .int r_intoLabel, .int r_dissolves, .int r_divides, .long r_other]))]))) rfl ?_
        refine g_getf rfl rfl (by omega) ((eW2_offA hO_b rfl).trans hc_b) rfl ?_
        refine eGs.steps 0 (y := (21, [some (.ref 1), some (.int rule), some (.int other)], [.ref 3], (eW2 H [(r, .inr (5, [.int r_number, .int r_label, .long r_left, .long r_leftKinds, .long r_here, .long r_out, .long r_into, .int r_intoLabel, .int r_dissolves, .int r_divides, .long r_other]))]))) rfl ?_
        refine eGs.steps 1 (y := (22, [some (.ref 1), some (.int rule), some (.int other)], [.int rule, .ref 3], (eW2 H [(r, .inr (5, [.int r_number, .int r_label, .long r_left, .long r_leftKinds, .long r_here, .long r_out, .long r_into, .int r_intoLabel, .int r_dissolves, .int r_divides, .long r_other]))]))) rfl ?_
        obtain ⟨hg4, hM⟩ := dg_none hM
        refine g_aald rfl (by omega) ((eW2_offA hO_ba rfl).trans hc_ba) rfl hg4 ?_
        rw [if_pos (Nat.not_le.mp fun z => hg4 (Or.inr z))]
        refine eGs.steps 0 (y := (23, [some (.ref 1), some (.int rule), some (.int other)], [.ref (4 + (rule).toNatClampNeg)], (eW2 H [(r, .inr (5, [.int r_number, .int r_label, .long r_left, .long r_leftKinds, .long r_here, .long r_out, .long r_into, .int r_intoLabel, .int r_dissolves, .int r_divides, .long r_other]))]))) rfl ?_
        rw [← (hr9.resolve_left hg4)]
        refine eGs.steps 0 (y := (23, [some (.ref 1), some (.int rule), some (.int other)], [.ref r], (eW2 H [(r, .inr (5, [.int r_number, .int r_label, .long r_left, .long r_leftKinds, .long r_here, .long r_out, .long r_into, .int r_intoLabel, .int r_dissolves, .int r_divides, .long r_other]))]))) rfl ?_
        refine eGs.steps 1 (y := (24, [some (.ref 1), some (.int rule), some (.int other)], [.int (1 : Int32), .ref r], (eW2 H [(r, .inr (5, [.int r_number, .int r_label, .long r_left, .long r_leftKinds, .long r_here, .long r_out, .long r_into, .int r_intoLabel, .int r_dissolves, .int r_divides, .long r_other]))]))) rfl ?_
        obtain ⟨hg, hM⟩ := dg_none hM
        have hz : eFit .boolean (.int (1 : Int32)) = true := by rcases Decidable.of_not_not hg with z | z <;> (rw [z]; rfl)
        refine g_putfW rfl rfl (by omega) (eW2_getA hN 0 rfl rfl) hz (Nat.le_of_ble_eq_true rfl) rfl (eW2_setA hN 0 rfl rfl) ?_
        refine eGs.steps 0 (y := (27, [some (.ref 1), some (.int rule), some (.int other)], [], (eW2 H [(r, .inr (5, [.int r_number, .int r_label, .long r_left, .long r_leftKinds, .long r_here, .long r_out, .long r_into, .int r_intoLabel, .int r_dissolves, .int (1 : Int32), .long r_other]))]))) rfl ?_
        refine eGs.steps 1 (y := (28, [some (.ref 1), some (.int rule), some (.int other)], [.ref 1], (eW2 H [(r, .inr (5, [.int r_number, .int r_label, .long r_left, .long r_leftKinds, .long r_here, .long r_out, .long r_into, .int r_intoLabel, .int r_dissolves, .int (1 : Int32), .long r_other]))]))) rfl ?_
        refine g_getf rfl rfl (by omega) ((eW2_offA hO_x rfl).trans hc_x) rfl ?_
        refine eGs.steps 0 (y := (31, [some (.ref 1), some (.int rule), some (.int other)], [.ref 2], (eW2 H [(r, .inr (5, [.int r_number, .int r_label, .long r_left, .long r_leftKinds, .long r_here, .long r_out, .long r_into, .int r_intoLabel, .int r_dissolves, .int (1 : Int32), .long r_other]))]))) rfl ?_
        refine g_getf rfl rfl (by omega) ((eW2_offA hO_b rfl).trans hc_b) rfl ?_
        refine eGs.steps 0 (y := (34, [some (.ref 1), some (.int rule), some (.int other)], [.ref 3], (eW2 H [(r, .inr (5, [.int r_number, .int r_label, .long r_left, .long r_leftKinds, .long r_here, .long r_out, .long r_into, .int r_intoLabel, .int r_dissolves, .int (1 : Int32), .long r_other]))]))) rfl ?_
        refine eGs.steps 1 (y := (35, [some (.ref 1), some (.int rule), some (.int other)], [.int rule, .ref 3], (eW2 H [(r, .inr (5, [.int r_number, .int r_label, .long r_left, .long r_leftKinds, .long r_here, .long r_out, .long r_into, .int r_intoLabel, .int r_dissolves, .int (1 : Int32), .long r_other]))]))) rfl ?_
        obtain ⟨hg5, hM⟩ := dg_none hM
        refine g_aald rfl (by omega) ((eW2_offA hO_ba rfl).trans hc_ba) rfl hg5 ?_
        rw [if_pos (Nat.not_le.mp fun z => hg5 (Or.inr z))]
        refine eGs.steps 0 (y := (36, [some (.ref 1), some (.int rule), some (.int other)], [.ref (4 + (rule).toNatClampNeg)], (eW2 H [(r, .inr (5, [.int r_number, .int r_label, .long r_left, .long r_leftKinds, .long r_here, .long r_out, .long r_into, .int r_intoLabel, .int r_dissolves, .int (1 : Int32), .long r_other]))]))) rfl ?_
        rw [← (hr9.resolve_left hg5)]
        refine eGs.steps 0 (y := (36, [some (.ref 1), some (.int rule), some (.int other)], [.ref r], (eW2 H [(r, .inr (5, [.int r_number, .int r_label, .long r_left, .long r_leftKinds, .long r_here, .long r_out, .long r_into, .int r_intoLabel, .int r_dissolves, .int (1 : Int32), .long r_other]))]))) rfl ?_
        refine eGs.steps 1 (y := (37, [some (.ref 1), some (.int rule), some (.int other)], [.int other, .ref r], (eW2 H [(r, .inr (5, [.int r_number, .int r_label, .long r_left, .long r_leftKinds, .long r_here, .long r_out, .long r_into, .int r_intoLabel, .int r_dissolves, .int (1 : Int32), .long r_other]))]))) rfl ?_
        obtain ⟨v6, hv, hM⟩ := dg_bind hM
        have hE := T_H_ofHandful (X := X) (H := (eW2 H [(r, .inr (5, [.int r_number, .int r_label, .long r_left, .long r_leftKinds, .long r_here, .long r_out, .long r_into, .int r_intoLabel, .int r_dissolves, .int (1 : Int32), .long r_other]))]))  hv
        refine g_callS rfl rfl rfl rfl rfl (hE.mono (by first | decide | omega)) ?_
        refine eGs.steps 0 (y := (40, [some (.ref 1), some (.int rule), some (.int other)], [.long v6, .ref r], (eW2 H [(r, .inr (5, [.int r_number, .int r_label, .long r_left, .long r_leftKinds, .long r_here, .long r_out, .long r_into, .int r_intoLabel, .int r_dissolves, .int (1 : Int32), .long r_other]))]))) rfl ?_
        refine g_putfW rfl rfl (by omega) (eW2_getA hN 0 rfl rfl) rfl (Nat.le_of_ble_eq_true rfl) rfl (eW2_setA hN 0 rfl rfl) ?_
        refine eGs.steps 0 (y := (43, [some (.ref 1), some (.int rule), some (.int other)], [], (eW2 H [(r, .inr (5, [.int r_number, .int r_label, .long r_left, .long r_leftKinds, .long r_here, .long r_out, .long r_into, .int r_intoLabel, .int r_dissolves, .int (1 : Int32), .long v6]))]))) rfl ?_
        cases hM
        exact eGs.fin rfl rfl rfl
      | succ cc =>
        rw [hth] at hM hE
        dsimp only at hM
        cases hM
        exact g_thrV rfl rfl rfl rfl rfl (by omega) ((eW2_offA hO_x rfl).trans hc_x) rfl (hE.mono (by first | decide | omega)) hnz rfl rfl rfl
    | succ cc =>
      rw [hth] at hM hE
      dsimp only at hM
      cases hM
      exact g_thrS rfl rfl rfl rfl rfl (hE.mono (by first | decide | omega)) hnz rfl rfl rfl
  | succ cc =>
    rw [hth] at hM hE
    dsimp only at hM
    cases hM
    exact g_thrV rfl rfl rfl rfl rfl (by omega) ((eW2_offA hO_x rfl).trans hc_x) rfl (hE.mono (by first | decide | omega)) hnz rfl rfl rfl
def P_outcome (n : Nat) (ii : Int32) (mm : Int32) (what : Int32) (o_lab : Nat → Int32) (o_hp : Nat → Int64) (j_count : Int32) : Option (Nat × (Int32)) :=
  (P_checkOutcome n ii j_count).bind fun v1 => (match v1.1 with | 0 => (if mm < 0 then (some (10, 0)) else (if mm < (6 : Int32) then ((P_checkWhat n what (10 : Int32)).bind fun v2 => (match v2.1 with | 0 => (if ii < 0 ∨ 40 ≤ (ii).toNatClampNeg then none else (if what < (6 : Int32) then (if what = (5 : Int32) then (if mm < 0 ∨ 6 ≤ (mm).toNatClampNeg then none else (some (0, (o_lab (mm).toNatClampNeg)))) else ((K_has n mm o_lab).bind fun v5 => (if v5 = 0 then (if mm < 0 ∨ 6 ≤ (mm).toNatClampNeg then none else (some (0, (o_lab (mm).toNatClampNeg)))) else (if mm < 0 ∨ 7 ≤ (mm).toNatClampNeg then none else ((H_count n (o_hp (mm).toNatClampNeg) what).bind fun v7 => (some (0, v7))))))) else (if (6 : Int32) < 0 ∨ 7 ≤ ((6 : Int32)).toNatClampNeg then none else ((H_count n (o_hp ((6 : Int32)).toNatClampNeg) (what - (6 : Int32))).bind fun v10 => (some (0, v10)))))) | cc + 1 => some (cc + 1, 0))) else (some (10, 0)))) | cc + 1 => some (cc + 1, 0))
theorem T_P_outcome {X : Nat × (Nat → Int32)} {H : eH} {c : Nat} {o : Nat} {pf : Nat} {tr : Nat} {fa : Nat} {ga : Nat} {ii : Int32} {mm : Int32} {what : Int32} {o_lab : Nat → Int32} {o_hp : Nat → Int64} {j_count : Int32} {n : Nat} {res : Nat × (Int32)} (hc_o : H.1 o = some (.inr (3, [.ref (o + 1), .ref (o + 2), .ref (o + 3)]))) (hc_ol : H.1 (o + 1) = some (.inl (0, 6, .inl o_lab))) (hc_oh : H.1 (o + 3) = some (.inl (1, 7, .inr (.inl o_hp)))) (hc_x : H.1 1 = some (.inr (0, [.ref 2, .ref 10, .ref 15, .ref 17, .ref 345, .ref 347, .ref c, .ref tr]))) (hc_jf : H.1 fa = some (.inl (4, 40, .inr (.inr fun i => if i < 40 then some (pf + 8 * i) else none)))) (hc_j : H.1 17 = some (.inr (4, [.ref fa, .int j_count, .ref ga, .ref 20, .ref 24]))) (hok_c : c = 20 ∨ c = 348 ∨ c = 352 ∨ (25 ≤ c ∧ c ≤ 341 ∧ c % 4 = 1)) (hok_o : o = 20 ∨ o = 348 ∨ o = 352 ∨ (25 ≤ o ∧ o ≤ 341 ∧ o % 4 = 1)) (ho9 : (ii < 0 ∨ 40 ≤ (ii).toNatClampNeg) ∨ o = pf + 8 * (ii).toNatClampNeg) (hf9 : (fa = 18 ∧ pf = 25) ∨ (fa = 19 ∧ pf = 29)) (hnz : ¬ H.2.1 = 0) (hM : P_outcome n ii mm what o_lab o_hp j_count = some res) : eEv pP X 2 15 [.ref 1, .int ii, .int mm, .int what] H (eTw pP res.1 (some (.int res.2)) H) := by
  refine eEv.of (Nat.not_lt.mpr (Nat.le_of_ble_eq_true rfl)) ?_
  refine eGs.steps 0 (y := (0, [some (.ref 1), some (.int ii), some (.int mm), some (.int what), none], [], H)) rfl ?_
  unfold P_outcome at hM
  refine eGs.steps 2 (y := (2, [some (.ref 1), some (.int ii), some (.int mm), some (.int what), none], [.int ii, .ref 1], H)) rfl ?_
  obtain ⟨v1, hv, hM⟩ := dg_bind hM
  have hE := T_P_checkOutcome (X := X) (H := H) (hc_x := hc_x) (hc_j := hc_j) (hok_c := by first | assumption | omega) (hnz := by first | assumption | omega) hv
  cases hth : v1.1 with
  | zero =>
    rw [hth] at hM hE
    dsimp only at hM
    refine g_callV rfl rfl rfl rfl rfl (by omega) hc_x rfl (hE.mono (by first | decide | omega)) ?_
    refine eGs.steps 0 (y := (5, [some (.ref 1), some (.int ii), some (.int mm), some (.int what), none], [], H)) rfl ?_
    refine eGs.steps 1 (y := (6, [some (.ref 1), some (.int ii), some (.int mm), some (.int what), none], [.int mm], H)) rfl ?_
    by_cases hc : mm < 0
    · rw [if_pos hc] at hM
      refine g_if (cd := .lt) (t := 15) true rfl (decide_eq_true hc) rfl ?_
      cases hM
      exact g_tnew rfl rfl rfl rfl rfl
    · rw [if_neg hc] at hM
      refine g_if (cd := .lt) (t := 15) false rfl (decide_eq_false hc) rfl ?_
      refine eGs.steps 2 (y := (12, [some (.ref 1), some (.int ii), some (.int mm), some (.int what), none], [.int (6 : Int32), .int mm], H)) rfl ?_
      by_cases hc : mm < (6 : Int32)
      · rw [if_pos hc] at hM
        refine g_icmp (cd := .lt) (t := 25) true rfl (decide_eq_true hc) rfl ?_
        refine eGs.steps 2 (y := (28, [some (.ref 1), some (.int ii), some (.int mm), some (.int what), none], [.int (10 : Int32), .int what], H)) rfl ?_
        obtain ⟨v2, hv, hM⟩ := dg_bind hM
        have hE := T_P_checkWhat (X := X) (H := H) (hnz := by first | assumption | omega) hv
        cases hth : v2.1 with
        | zero =>
          rw [hth] at hM hE
          dsimp only at hM
          refine g_callS rfl rfl rfl rfl rfl (hE.mono (by first | decide | omega)) ?_
          refine eGs.steps 0 (y := (31, [some (.ref 1), some (.int ii), some (.int mm), some (.int what), none], [], H)) rfl ?_
          refine eGs.steps 1 (y := (32, [some (.ref 1), some (.int ii), some (.int mm), some (.int what), none], [.ref 1], H)) rfl ?_
          refine g_getf rfl rfl (by omega) hc_x rfl ?_
          refine eGs.steps 0 (y := (35, [some (.ref 1), some (.int ii), some (.int mm), some (.int what), none], [.ref 17], H)) rfl ?_
          refine g_getf rfl rfl (by omega) hc_j rfl ?_
          refine eGs.steps 0 (y := (38, [some (.ref 1), some (.int ii), some (.int mm), some (.int what), none], [.ref fa], H)) rfl ?_
          refine eGs.steps 1 (y := (39, [some (.ref 1), some (.int ii), some (.int mm), some (.int what), none], [.int ii, .ref fa], H)) rfl ?_
          obtain ⟨hg3, hM⟩ := dg_none hM
          refine g_aald rfl (by omega) hc_jf rfl hg3 ?_
          rw [if_pos (Nat.not_le.mp fun z => hg3 (Or.inr z))]
          refine eGs.steps 0 (y := (40, [some (.ref 1), some (.int ii), some (.int mm), some (.int what), none], [.ref (pf + 8 * (ii).toNatClampNeg)], H)) rfl ?_
          rw [← (ho9.resolve_left hg3)]
          refine eGs.steps 0 (y := (40, [some (.ref 1), some (.int ii), some (.int mm), some (.int what), none], [.ref o], H)) rfl ?_
          refine eGs.steps 3 (y := (45, [some (.ref 1), some (.int ii), some (.int mm), some (.int what), some (.ref o)], [.int (6 : Int32), .int what], H)) rfl ?_
          by_cases hc : what < (6 : Int32)
          · rw [if_pos hc] at hM
            refine g_icmp (cd := .lt) (t := 64) true rfl (decide_eq_true hc) rfl ?_
            refine eGs.steps 2 (y := (66, [some (.ref 1), some (.int ii), some (.int mm), some (.int what), some (.ref o)], [.int (5 : Int32), .int what], H)) rfl ?_
            by_cases hc : what = (5 : Int32)
            · rw [if_pos hc] at hM
              refine g_icmp (cd := .eq) (t := 78) true rfl (decide_eq_true hc) rfl ?_
              refine eGs.steps 1 (y := (80, [some (.ref 1), some (.int ii), some (.int mm), some (.int what), some (.ref o)], [.ref o], H)) rfl ?_
              refine g_getf rfl rfl (by omega) hc_o rfl ?_
              refine eGs.steps 0 (y := (83, [some (.ref 1), some (.int ii), some (.int mm), some (.int what), some (.ref o)], [.ref (o + 1)], H)) rfl ?_
              refine eGs.steps 1 (y := (84, [some (.ref 1), some (.int ii), some (.int mm), some (.int what), some (.ref o)], [.int mm, .ref (o + 1)], H)) rfl ?_
              obtain ⟨hg4, hM⟩ := dg_none hM
              refine g_iald rfl (by omega) hc_ol hg4 ?_
              refine eGs.steps 0 (y := (85, [some (.ref 1), some (.int ii), some (.int mm), some (.int what), some (.ref o)], [.int (o_lab (mm).toNatClampNeg)], H)) rfl ?_
              cases hM
              exact eGs.fin rfl rfl rfl
            · rw [if_neg hc] at hM
              refine g_icmp (cd := .eq) (t := 78) false rfl (decide_eq_false hc) rfl ?_
              refine eGs.steps 2 (y := (72, [some (.ref 1), some (.int ii), some (.int mm), some (.int what), some (.ref o)], [.int mm, .ref o], H)) rfl ?_
              obtain ⟨v5, hv, hM⟩ := dg_bind hM
              have hE := T_K_has (X := X) (H := H) (hc_c := hc_o) (hc_cl := hc_ol) (hok_c := by first | assumption | omega) hv
              refine g_callV rfl rfl rfl rfl rfl (by omega) hc_o rfl (hE.mono (by first | decide | omega)) ?_
              refine eGs.steps 0 (y := (75, [some (.ref 1), some (.int ii), some (.int mm), some (.int what), some (.ref o)], [.int v5], H)) rfl ?_
              by_cases hc : v5 = 0
              · rw [if_pos hc] at hM
                refine g_if (cd := .ne) (t := 86) false rfl (decide_eq_false (fun z => z hc)) rfl ?_
                refine eGs.steps 1 (y := (80, [some (.ref 1), some (.int ii), some (.int mm), some (.int what), some (.ref o)], [.ref o], H)) rfl ?_
                refine g_getf rfl rfl (by omega) hc_o rfl ?_
                refine eGs.steps 0 (y := (83, [some (.ref 1), some (.int ii), some (.int mm), some (.int what), some (.ref o)], [.ref (o + 1)], H)) rfl ?_
                refine eGs.steps 1 (y := (84, [some (.ref 1), some (.int ii), some (.int mm), some (.int what), some (.ref o)], [.int mm, .ref (o + 1)], H)) rfl ?_
                obtain ⟨hg8, hM⟩ := dg_none hM
                refine g_iald rfl (by omega) hc_ol hg8 ?_
                refine eGs.steps 0 (y := (85, [some (.ref 1), some (.int ii), some (.int mm), some (.int what), some (.ref o)], [.int (o_lab (mm).toNatClampNeg)], H)) rfl ?_
                cases hM
                exact eGs.fin rfl rfl rfl
              · rw [if_neg hc] at hM
                refine g_if (cd := .ne) (t := 86) true rfl (decide_eq_true hc) rfl ?_
                refine eGs.steps 1 (y := (88, [some (.ref 1), some (.int ii), some (.int mm), some (.int what), some (.ref o)], [.ref o], H)) rfl ?_
                refine g_getf rfl rfl (by omega) hc_o rfl ?_
                refine eGs.steps 0 (y := (91, [some (.ref 1), some (.int ii), some (.int mm), some (.int what), some (.ref o)], [.ref (o + 3)], H)) rfl ?_
                refine eGs.steps 1 (y := (92, [some (.ref 1), some (.int ii), some (.int mm), some (.int what), some (.ref o)], [.int mm, .ref (o + 3)], H)) rfl ?_
                obtain ⟨hg6, hM⟩ := dg_none hM
                refine g_lald rfl (by omega) hc_oh hg6 ?_
                refine eGs.steps 0 (y := (93, [some (.ref 1), some (.int ii), some (.int mm), some (.int what), some (.ref o)], [.long (o_hp (mm).toNatClampNeg)], H)) rfl ?_
                refine eGs.steps 1 (y := (94, [some (.ref 1), some (.int ii), some (.int mm), some (.int what), some (.ref o)], [.int what, .long (o_hp (mm).toNatClampNeg)], H)) rfl ?_
                obtain ⟨v7, hv, hM⟩ := dg_bind hM
                have hE := T_H_count (X := X) (H := H)  hv
                refine g_callS rfl rfl rfl rfl rfl (hE.mono (by first | decide | omega)) ?_
                refine eGs.steps 0 (y := (97, [some (.ref 1), some (.int ii), some (.int mm), some (.int what), some (.ref o)], [.int v7], H)) rfl ?_
                cases hM
                exact eGs.fin rfl rfl rfl
          · rw [if_neg hc] at hM
            refine g_icmp (cd := .lt) (t := 64) false rfl (decide_eq_false hc) rfl ?_
            refine eGs.steps 1 (y := (50, [some (.ref 1), some (.int ii), some (.int mm), some (.int what), some (.ref o)], [.ref o], H)) rfl ?_
            refine g_getf rfl rfl (by omega) hc_o rfl ?_
            refine eGs.steps 0 (y := (53, [some (.ref 1), some (.int ii), some (.int mm), some (.int what), some (.ref o)], [.ref (o + 3)], H)) rfl ?_
            refine eGs.steps 1 (y := (55, [some (.ref 1), some (.int ii), some (.int mm), some (.int what), some (.ref o)], [.int (6 : Int32), .ref (o + 3)], H)) rfl ?_
            obtain ⟨hg9, hM⟩ := dg_none hM
            refine g_lald rfl (by omega) hc_oh hg9 ?_
            refine eGs.steps 0 (y := (56, [some (.ref 1), some (.int ii), some (.int mm), some (.int what), some (.ref o)], [.long (o_hp ((6 : Int32)).toNatClampNeg)], H)) rfl ?_
            refine eGs.steps 3 (y := (60, [some (.ref 1), some (.int ii), some (.int mm), some (.int what), some (.ref o)], [.int (what - (6 : Int32)), .long (o_hp ((6 : Int32)).toNatClampNeg)], H)) rfl ?_
            obtain ⟨v10, hv, hM⟩ := dg_bind hM
            have hE := T_H_count (X := X) (H := H)  hv
            refine g_callS rfl rfl rfl rfl rfl (hE.mono (by first | decide | omega)) ?_
            refine eGs.steps 0 (y := (63, [some (.ref 1), some (.int ii), some (.int mm), some (.int what), some (.ref o)], [.int v10], H)) rfl ?_
            cases hM
            exact eGs.fin rfl rfl rfl
        | succ cc =>
          rw [hth] at hM hE
          dsimp only at hM
          cases hM
          exact g_thrS rfl rfl rfl rfl rfl (hE.mono (by first | decide | omega)) hnz rfl rfl rfl
      · rw [if_neg hc] at hM
        refine g_icmp (cd := .lt) (t := 25) false rfl (decide_eq_false hc) rfl ?_
        cases hM
        exact g_tnew rfl rfl rfl rfl rfl
  | succ cc =>
    rw [hth] at hM hE
    dsimp only at hM
    cases hM
    exact g_thrV rfl rfl rfl rfl rfl (by omega) hc_x rfl (hE.mono (by first | decide | omega)) hnz rfl rfl rfl
def P_adopt (n : Nat) (ii : Int32) (c_lab : Nat → Int32) (c_par : Nat → Int32) (c_hp : Nat → Int64) (o_lab : Nat → Int32) (o_par : Nat → Int32) (o_hp : Nat → Int64) (j_count : Int32) : Option (Nat × ((Nat → Int32) × (Nat → Int32) × (Nat → Int64))) :=
  (P_checkOutcome n ii j_count).bind fun v1 => (match v1.1 with | 0 => (if ii < 0 ∨ 40 ≤ (ii).toNatClampNeg then none else ((K_copy n c_lab c_par c_hp o_lab o_par o_hp).bind fun v3 => (some (0, (v3.1, v3.2.1, v3.2.2))))) | cc + 1 => some (cc + 1, (c_lab, c_par, c_hp)))
theorem T_P_adopt {X : Nat × (Nat → Int32)} {H : eH} {c : Nat} {o : Nat} {pf : Nat} {tr : Nat} {fa : Nat} {ga : Nat} {ii : Int32} {c_lab : Nat → Int32} {c_par : Nat → Int32} {c_hp : Nat → Int64} {o_lab : Nat → Int32} {o_par : Nat → Int32} {o_hp : Nat → Int64} {j_count : Int32} {n : Nat} {res : Nat × ((Nat → Int32) × (Nat → Int32) × (Nat → Int64))} (hc_c : H.1 c = some (.inr (3, [.ref (c + 1), .ref (c + 2), .ref (c + 3)]))) (hc_cl : H.1 (c + 1) = some (.inl (0, 6, .inl c_lab))) (hc_cp : H.1 (c + 2) = some (.inl (0, 6, .inl c_par))) (hc_ch : H.1 (c + 3) = some (.inl (1, 7, .inr (.inl c_hp)))) (hc_o : H.1 o = some (.inr (3, [.ref (o + 1), .ref (o + 2), .ref (o + 3)]))) (hc_ol : H.1 (o + 1) = some (.inl (0, 6, .inl o_lab))) (hc_op : H.1 (o + 2) = some (.inl (0, 6, .inl o_par))) (hc_oh : H.1 (o + 3) = some (.inl (1, 7, .inr (.inl o_hp)))) (hc_x : H.1 1 = some (.inr (0, [.ref 2, .ref 10, .ref 15, .ref 17, .ref 345, .ref 347, .ref c, .ref tr]))) (hc_jf : H.1 fa = some (.inl (4, 40, .inr (.inr fun i => if i < 40 then some (pf + 8 * i) else none)))) (hc_j : H.1 17 = some (.inr (4, [.ref fa, .int j_count, .ref ga, .ref 20, .ref 24]))) (hok_c : c = 20 ∨ c = 348 ∨ c = 352 ∨ (25 ≤ c ∧ c ≤ 341 ∧ c % 4 = 1)) (hok_o : o = 20 ∨ o = 348 ∨ o = 352 ∨ (25 ≤ o ∧ o ≤ 341 ∧ o % 4 = 1)) (ho9 : (ii < 0 ∨ 40 ≤ (ii).toNatClampNeg) ∨ o = pf + 8 * (ii).toNatClampNeg) (hf9 : (fa = 18 ∧ pf = 25) ∨ (fa = 19 ∧ pf = 29)) (hne : ¬ c = o) (hnz : ¬ H.2.1 = 0) (hM : P_adopt n ii c_lab c_par c_hp o_lab o_par o_hp j_count = some res) : eEv pP X 2 16 [.ref 1, .int ii] H (eTw pP res.1 (none) (eW2 H [(c + 1, .inl (0, 6, .inl res.2.1)), (c + 2, .inl (0, 6, .inl res.2.2.1)), (c + 3, .inl (1, 7, .inr (.inl res.2.2.2)))])) := by
  have hN : ([c + 1, c + 2, c + 3] : List Nat).Nodup := by first | decide | (simp <;> omega)
  have hO_c : c ∉ ([c + 1, c + 2, c + 3] : List Nat) := by first | decide | (simp <;> omega)
  have hO_o : o ∉ ([c + 1, c + 2, c + 3] : List Nat) := by first | decide | (simp <;> omega)
  have hO_ol : o + 1 ∉ ([c + 1, c + 2, c + 3] : List Nat) := by first | decide | (simp <;> omega)
  have hO_op : o + 2 ∉ ([c + 1, c + 2, c + 3] : List Nat) := by first | decide | (simp <;> omega)
  have hO_oh : o + 3 ∉ ([c + 1, c + 2, c + 3] : List Nat) := by first | decide | (simp <;> omega)
  have hO_x : 1 ∉ ([c + 1, c + 2, c + 3] : List Nat) := by first | decide | (simp <;> omega)
  have hO_jf : fa ∉ ([c + 1, c + 2, c + 3] : List Nat) := by first | decide | (simp <;> omega)
  have hO_j : 17 ∉ ([c + 1, c + 2, c + 3] : List Nat) := by first | decide | (simp <;> omega)
  have h0 : (eW2 H [(c + 1, .inl (0, 6, .inl c_lab)), (c + 2, .inl (0, 6, .inl c_par)), (c + 3, .inl (1, 7, .inr (.inl c_hp)))]) = H := eW2_self (by simp only [List.forall_mem_cons]; exact ⟨hc_cl, hc_cp, hc_ch, fun _ h => absurd h List.not_mem_nil⟩)
  rw [show eEv pP X 2 16 _ H = eEv pP X 2 16 _ (eW2 H [(c + 1, .inl (0, 6, .inl c_lab)), (c + 2, .inl (0, 6, .inl c_par)), (c + 3, .inl (1, 7, .inr (.inl c_hp)))]) by rw [h0]]
  refine eEv.of (Nat.not_lt.mpr (Nat.le_of_ble_eq_true rfl)) ?_
  refine eGs.steps 0 (y := (0, [some (.ref 1), some (.int ii)], [], (eW2 H [(c + 1, .inl (0, 6, .inl c_lab)), (c + 2, .inl (0, 6, .inl c_par)), (c + 3, .inl (1, 7, .inr (.inl c_hp)))]))) rfl ?_
  unfold P_adopt at hM
  refine eGs.steps 2 (y := (2, [some (.ref 1), some (.int ii)], [.int ii, .ref 1], (eW2 H [(c + 1, .inl (0, 6, .inl c_lab)), (c + 2, .inl (0, 6, .inl c_par)), (c + 3, .inl (1, 7, .inr (.inl c_hp)))]))) rfl ?_
  obtain ⟨v1, hv, hM⟩ := dg_bind hM
  have hE := T_P_checkOutcome (X := X) (H := (eW2 H [(c + 1, .inl (0, 6, .inl c_lab)), (c + 2, .inl (0, 6, .inl c_par)), (c + 3, .inl (1, 7, .inr (.inl c_hp)))])) (hc_x := ((eW2_offA hO_x rfl).trans hc_x)) (hc_j := ((eW2_offA hO_j rfl).trans hc_j)) (hok_c := by first | assumption | omega) (hnz := by first | assumption | omega) hv
  cases hth : v1.1 with
  | zero =>
    rw [hth] at hM hE
    dsimp only at hM
    refine g_callV rfl rfl rfl rfl rfl (by omega) ((eW2_offA hO_x rfl).trans hc_x) rfl (hE.mono (by first | decide | omega)) ?_
    refine eGs.steps 0 (y := (5, [some (.ref 1), some (.int ii)], [], (eW2 H [(c + 1, .inl (0, 6, .inl c_lab)), (c + 2, .inl (0, 6, .inl c_par)), (c + 3, .inl (1, 7, .inr (.inl c_hp)))]))) rfl ?_
    refine eGs.steps 1 (y := (6, [some (.ref 1), some (.int ii)], [.ref 1], (eW2 H [(c + 1, .inl (0, 6, .inl c_lab)), (c + 2, .inl (0, 6, .inl c_par)), (c + 3, .inl (1, 7, .inr (.inl c_hp)))]))) rfl ?_
    refine g_getf rfl rfl (by omega) ((eW2_offA hO_x rfl).trans hc_x) rfl ?_
    refine eGs.steps 0 (y := (9, [some (.ref 1), some (.int ii)], [.ref c], (eW2 H [(c + 1, .inl (0, 6, .inl c_lab)), (c + 2, .inl (0, 6, .inl c_par)), (c + 3, .inl (1, 7, .inr (.inl c_hp)))]))) rfl ?_
    refine eGs.steps 1 (y := (10, [some (.ref 1), some (.int ii)], [.ref 1, .ref c], (eW2 H [(c + 1, .inl (0, 6, .inl c_lab)), (c + 2, .inl (0, 6, .inl c_par)), (c + 3, .inl (1, 7, .inr (.inl c_hp)))]))) rfl ?_
    refine g_getf rfl rfl (by omega) ((eW2_offA hO_x rfl).trans hc_x) rfl ?_
    refine eGs.steps 0 (y := (13, [some (.ref 1), some (.int ii)], [.ref 17, .ref c], (eW2 H [(c + 1, .inl (0, 6, .inl c_lab)), (c + 2, .inl (0, 6, .inl c_par)), (c + 3, .inl (1, 7, .inr (.inl c_hp)))]))) rfl ?_
    refine g_getf rfl rfl (by omega) ((eW2_offA hO_j rfl).trans hc_j) rfl ?_
    refine eGs.steps 0 (y := (16, [some (.ref 1), some (.int ii)], [.ref fa, .ref c], (eW2 H [(c + 1, .inl (0, 6, .inl c_lab)), (c + 2, .inl (0, 6, .inl c_par)), (c + 3, .inl (1, 7, .inr (.inl c_hp)))]))) rfl ?_
    refine eGs.steps 1 (y := (17, [some (.ref 1), some (.int ii)], [.int ii, .ref fa, .ref c], (eW2 H [(c + 1, .inl (0, 6, .inl c_lab)), (c + 2, .inl (0, 6, .inl c_par)), (c + 3, .inl (1, 7, .inr (.inl c_hp)))]))) rfl ?_
    obtain ⟨hg2, hM⟩ := dg_none hM
    refine g_aald rfl (by omega) ((eW2_offA hO_jf rfl).trans hc_jf) rfl hg2 ?_
    rw [if_pos (Nat.not_le.mp fun z => hg2 (Or.inr z))]
    refine eGs.steps 0 (y := (18, [some (.ref 1), some (.int ii)], [.ref (pf + 8 * (ii).toNatClampNeg), .ref c], (eW2 H [(c + 1, .inl (0, 6, .inl c_lab)), (c + 2, .inl (0, 6, .inl c_par)), (c + 3, .inl (1, 7, .inr (.inl c_hp)))]))) rfl ?_
    rw [← (ho9.resolve_left hg2)]
    refine eGs.steps 0 (y := (18, [some (.ref 1), some (.int ii)], [.ref o, .ref c], (eW2 H [(c + 1, .inl (0, 6, .inl c_lab)), (c + 2, .inl (0, 6, .inl c_par)), (c + 3, .inl (1, 7, .inr (.inl c_hp)))]))) rfl ?_
    obtain ⟨v3, hv, hM⟩ := dg_bind hM
    have hE := eEv_putA (T_K_copy (X := X) (H := (eW2 H [(c + 1, .inl (0, 6, .inl c_lab)), (c + 2, .inl (0, 6, .inl c_par)), (c + 3, .inl (1, 7, .inr (.inl c_hp)))])) (hc_c := ((eW2_offA hO_c rfl).trans hc_c)) (hc_cl := (eW2_getA hN 0 rfl rfl)) (hc_cp := (eW2_getA hN 1 rfl rfl)) (hc_ch := (eW2_getA hN 2 rfl rfl)) (hc_o := ((eW2_offA hO_o rfl).trans hc_o)) (hc_ol := ((eW2_offA hO_ol rfl).trans hc_ol)) (hc_op := ((eW2_offA hO_op rfl).trans hc_op)) (hc_oh := ((eW2_offA hO_oh rfl).trans hc_oh)) (hok_c := by first | assumption | omega) (hok_o := by first | assumption | omega) (hne := by first | assumption | omega) hv) [0, 1, 2] hN rfl (by first | decide | (simp <;> omega)) rfl (eFor2_ok rfl)
    refine g_callV rfl rfl rfl rfl rfl (by omega) ((eW2_offA hO_c rfl).trans hc_c) rfl (hE.mono (by first | decide | omega)) ?_
    refine eGs.steps 0 (y := (21, [some (.ref 1), some (.int ii)], [], (eW2 H [(c + 1, .inl (0, 6, .inl v3.1)), (c + 2, .inl (0, 6, .inl v3.2.1)), (c + 3, .inl (1, 7, .inr (.inl v3.2.2)))]))) rfl ?_
    cases hM
    exact eGs.fin rfl rfl rfl
  | succ cc =>
    rw [hth] at hM hE
    dsimp only at hM
    cases hM
    exact g_thrV rfl rfl rfl rfl rfl (by omega) ((eW2_offA hO_x rfl).trans hc_x) rfl (hE.mono (by first | decide | omega)) hnz rfl rfl rfl
def P_begin (n : Nat) (c_lab : Nat → Int32) (c_par : Nat → Int32) (c_hp : Nat → Int64) (o_lab : Nat → Int32) (o_par : Nat → Int32) (o_hp : Nat → Int64) : Option ((Nat → Int32) × (Nat → Int32) × (Nat → Int64) × Int32) :=
  if (0 : Int32) < 0 ∨ 40 ≤ ((0 : Int32)).toNatClampNeg then none else ((K_copy n o_lab o_par o_hp c_lab c_par c_hp).bind fun v2 => (some (v2.1, v2.2.1, v2.2.2, (1 : Int32))))
theorem T_P_begin {X : Nat × (Nat → Int32)} {H : eH} {c : Nat} {o : Nat} {pf : Nat} {fa : Nat} {ga : Nat} {c_lab : Nat → Int32} {c_par : Nat → Int32} {c_hp : Nat → Int64} {o_lab : Nat → Int32} {o_par : Nat → Int32} {o_hp : Nat → Int64} {j_count : Int32} {n : Nat} {res : (Nat → Int32) × (Nat → Int32) × (Nat → Int64) × Int32} (hc_c : H.1 c = some (.inr (3, [.ref (c + 1), .ref (c + 2), .ref (c + 3)]))) (hc_cl : H.1 (c + 1) = some (.inl (0, 6, .inl c_lab))) (hc_cp : H.1 (c + 2) = some (.inl (0, 6, .inl c_par))) (hc_ch : H.1 (c + 3) = some (.inl (1, 7, .inr (.inl c_hp)))) (hc_o : H.1 o = some (.inr (3, [.ref (o + 1), .ref (o + 2), .ref (o + 3)]))) (hc_ol : H.1 (o + 1) = some (.inl (0, 6, .inl o_lab))) (hc_op : H.1 (o + 2) = some (.inl (0, 6, .inl o_par))) (hc_oh : H.1 (o + 3) = some (.inl (1, 7, .inr (.inl o_hp)))) (hc_jf : H.1 fa = some (.inl (4, 40, .inr (.inr fun i => if i < 40 then some (pf + 8 * i) else none)))) (hc_j : H.1 17 = some (.inr (4, [.ref fa, .int j_count, .ref ga, .ref 20, .ref 24]))) (hok_c : c = 20 ∨ c = 348 ∨ c = 352 ∨ (25 ≤ c ∧ c ≤ 341 ∧ c % 4 = 1)) (hok_o : o = 20 ∨ o = 348 ∨ o = 352 ∨ (25 ≤ o ∧ o ≤ 341 ∧ o % 4 = 1)) (ho9 : ((0 : Int32) < 0 ∨ 40 ≤ ((0 : Int32)).toNatClampNeg) ∨ o = pf + 8 * ((0 : Int32)).toNatClampNeg) (hf9 : (fa = 18 ∧ pf = 25) ∨ (fa = 19 ∧ pf = 29)) (hne : ¬ c = o) (hM : P_begin n c_lab c_par c_hp o_lab o_par o_hp = some res) : eEv pP X 2 106 [.ref 17, .ref c] H (.inl (none), (eW2 H [(o + 1, .inl (0, 6, .inl res.1)), (o + 2, .inl (0, 6, .inl res.2.1)), (o + 3, .inl (1, 7, .inr (.inl res.2.2.1))), (17, .inr (4, [.ref fa, .int res.2.2.2, .ref ga, .ref 20, .ref 24]))])) := by
  have hN : ([o + 1, o + 2, o + 3, 17] : List Nat).Nodup := by first | decide | (simp <;> omega)
  have hO_c : c ∉ ([o + 1, o + 2, o + 3, 17] : List Nat) := by first | decide | (simp <;> omega)
  have hO_cl : c + 1 ∉ ([o + 1, o + 2, o + 3, 17] : List Nat) := by first | decide | (simp <;> omega)
  have hO_cp : c + 2 ∉ ([o + 1, o + 2, o + 3, 17] : List Nat) := by first | decide | (simp <;> omega)
  have hO_ch : c + 3 ∉ ([o + 1, o + 2, o + 3, 17] : List Nat) := by first | decide | (simp <;> omega)
  have hO_o : o ∉ ([o + 1, o + 2, o + 3, 17] : List Nat) := by first | decide | (simp <;> omega)
  have hO_jf : fa ∉ ([o + 1, o + 2, o + 3, 17] : List Nat) := by first | decide | (simp <;> omega)
  have h0 : (eW2 H [(o + 1, .inl (0, 6, .inl o_lab)), (o + 2, .inl (0, 6, .inl o_par)), (o + 3, .inl (1, 7, .inr (.inl o_hp))), (17, .inr (4, [.ref fa, .int j_count, .ref ga, .ref 20, .ref 24]))]) = H := eW2_self (by simp only [List.forall_mem_cons]; exact ⟨hc_ol, hc_op, hc_oh, hc_j, fun _ h => absurd h List.not_mem_nil⟩)
  rw [show eEv pP X 2 106 _ H = eEv pP X 2 106 _ (eW2 H [(o + 1, .inl (0, 6, .inl o_lab)), (o + 2, .inl (0, 6, .inl o_par)), (o + 3, .inl (1, 7, .inr (.inl o_hp))), (17, .inr (4, [.ref fa, .int j_count, .ref ga, .ref 20, .ref 24]))]) by rw [h0]]
  refine eEv.of (Nat.not_lt.mpr (Nat.le_of_ble_eq_true rfl)) ?_
  refine eGs.steps 0 (y := (0, [some (.ref 17), some (.ref c)], [], (eW2 H [(o + 1, .inl (0, 6, .inl o_lab)), (o + 2, .inl (0, 6, .inl o_par)), (o + 3, .inl (1, 7, .inr (.inl o_hp))), (17, .inr (4, [.ref fa, .int j_count, .ref ga, .ref 20, .ref 24]))]))) rfl ?_
  unfold P_begin at hM
  refine eGs.steps 1 (y := (1, [some (.ref 17), some (.ref c)], [.ref 17], (eW2 H [(o + 1, .inl (0, 6, .inl o_lab)), (o + 2, .inl (0, 6, .inl o_par)), (o + 3, .inl (1, 7, .inr (.inl o_hp))), (17, .inr (4, [.ref fa, .int j_count, .ref ga, .ref 20, .ref 24]))]))) rfl ?_
  refine g_getf rfl rfl (by omega) (eW2_getA hN 3 rfl rfl) rfl ?_
  refine eGs.steps 0 (y := (4, [some (.ref 17), some (.ref c)], [.ref fa], (eW2 H [(o + 1, .inl (0, 6, .inl o_lab)), (o + 2, .inl (0, 6, .inl o_par)), (o + 3, .inl (1, 7, .inr (.inl o_hp))), (17, .inr (4, [.ref fa, .int j_count, .ref ga, .ref 20, .ref 24]))]))) rfl ?_
  refine eGs.steps 1 (y := (5, [some (.ref 17), some (.ref c)], [.int (0 : Int32), .ref fa], (eW2 H [(o + 1, .inl (0, 6, .inl o_lab)), (o + 2, .inl (0, 6, .inl o_par)), (o + 3, .inl (1, 7, .inr (.inl o_hp))), (17, .inr (4, [.ref fa, .int j_count, .ref ga, .ref 20, .ref 24]))]))) rfl ?_
  obtain ⟨hg1, hM⟩ := dg_none hM
  refine g_aald rfl (by omega) ((eW2_offA hO_jf rfl).trans hc_jf) rfl hg1 ?_
  rw [if_pos (Nat.not_le.mp fun z => hg1 (Or.inr z))]
  refine eGs.steps 0 (y := (6, [some (.ref 17), some (.ref c)], [.ref (pf + 8 * ((0 : Int32)).toNatClampNeg)], (eW2 H [(o + 1, .inl (0, 6, .inl o_lab)), (o + 2, .inl (0, 6, .inl o_par)), (o + 3, .inl (1, 7, .inr (.inl o_hp))), (17, .inr (4, [.ref fa, .int j_count, .ref ga, .ref 20, .ref 24]))]))) rfl ?_
  rw [← (ho9.resolve_left hg1)]
  refine eGs.steps 0 (y := (6, [some (.ref 17), some (.ref c)], [.ref o], (eW2 H [(o + 1, .inl (0, 6, .inl o_lab)), (o + 2, .inl (0, 6, .inl o_par)), (o + 3, .inl (1, 7, .inr (.inl o_hp))), (17, .inr (4, [.ref fa, .int j_count, .ref ga, .ref 20, .ref 24]))]))) rfl ?_
  refine eGs.steps 1 (y := (7, [some (.ref 17), some (.ref c)], [.ref c, .ref o], (eW2 H [(o + 1, .inl (0, 6, .inl o_lab)), (o + 2, .inl (0, 6, .inl o_par)), (o + 3, .inl (1, 7, .inr (.inl o_hp))), (17, .inr (4, [.ref fa, .int j_count, .ref ga, .ref 20, .ref 24]))]))) rfl ?_
  obtain ⟨v2, hv, hM⟩ := dg_bind hM
  have hE := eEv_putA (T_K_copy (X := X) (H := (eW2 H [(o + 1, .inl (0, 6, .inl o_lab)), (o + 2, .inl (0, 6, .inl o_par)), (o + 3, .inl (1, 7, .inr (.inl o_hp))), (17, .inr (4, [.ref fa, .int j_count, .ref ga, .ref 20, .ref 24]))])) (hc_c := ((eW2_offA hO_o rfl).trans hc_o)) (hc_cl := (eW2_getA hN 0 rfl rfl)) (hc_cp := (eW2_getA hN 1 rfl rfl)) (hc_ch := (eW2_getA hN 2 rfl rfl)) (hc_o := ((eW2_offA hO_c rfl).trans hc_c)) (hc_ol := ((eW2_offA hO_cl rfl).trans hc_cl)) (hc_op := ((eW2_offA hO_cp rfl).trans hc_cp)) (hc_oh := ((eW2_offA hO_ch rfl).trans hc_ch)) (hok_c := by first | assumption | omega) (hok_o := by first | assumption | omega) (hne := by first | assumption | omega) hv) [0, 1, 2] hN rfl (by first | decide | (simp <;> omega)) rfl (eFor2_ok rfl)
  refine g_callV rfl rfl rfl rfl rfl (by omega) ((eW2_offA hO_o rfl).trans hc_o) rfl (hE.mono (by first | decide | omega)) ?_
  refine eGs.steps 0 (y := (10, [some (.ref 17), some (.ref c)], [], (eW2 H [(o + 1, .inl (0, 6, .inl v2.1)), (o + 2, .inl (0, 6, .inl v2.2.1)), (o + 3, .inl (1, 7, .inr (.inl v2.2.2))), (17, .inr (4, [.ref fa, .int j_count, .ref ga, .ref 20, .ref 24]))]))) rfl ?_
  refine eGs.steps 2 (y := (12, [some (.ref 17), some (.ref c)], [.int (1 : Int32), .ref 17], (eW2 H [(o + 1, .inl (0, 6, .inl v2.1)), (o + 2, .inl (0, 6, .inl v2.2.1)), (o + 3, .inl (1, 7, .inr (.inl v2.2.2))), (17, .inr (4, [.ref fa, .int j_count, .ref ga, .ref 20, .ref 24]))]))) rfl ?_
  refine g_putfW rfl rfl (by omega) (eW2_getA hN 3 rfl rfl) rfl (Nat.le_of_ble_eq_true rfl) rfl (eW2_setA hN 3 rfl rfl) ?_
  refine eGs.steps 0 (y := (15, [some (.ref 17), some (.ref c)], [], (eW2 H [(o + 1, .inl (0, 6, .inl v2.1)), (o + 2, .inl (0, 6, .inl v2.2.1)), (o + 3, .inl (1, 7, .inr (.inl v2.2.2))), (17, .inr (4, [.ref fa, .int (1 : Int32), .ref ga, .ref 20, .ref 24]))]))) rfl ?_
  cases hM
  exact eGs.fin rfl rfl rfl

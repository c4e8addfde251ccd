def O_isOpen_30 (mm : Int32) (r_into : Int64) (r_intoLabel : Int32) (c_lab : Nat → Int32) (c_par : Nat → Int32)  (n : Nat)  : Option (Int32) :=
  if (lg_cmp r_into (0 : Int64)) = 0 then (some ((1 : Int32) &&& 1)) else ((K_firstChildWith n mm r_intoLabel c_lab c_par).bind fun v3 => (if v3 = (-1 : Int32) then (some ((0 : Int32) &&& 1)) else (some ((1 : Int32) &&& 1))))
def O_isOpen_13 (mm : Int32) (r_into : Int64) (r_intoLabel : Int32) (r_divides : Int32) (c_lab : Nat → Int32) (c_par : Nat → Int32)  (n : Nat)  : Option (Int32) :=
  if r_divides = 0 then (O_isOpen_30 mm r_into r_intoLabel c_lab c_par n ) else ((K_countChildren n mm c_par).bind fun v2 => (if v2 ≤ 0 then (O_isOpen_30 mm r_into r_intoLabel c_lab c_par n ) else (some ((0 : Int32) &&& 1))))
def O_isOpen (n : Nat) (mm : Int32) (r_into : Int64) (r_intoLabel : Int32) (r_dissolves : Int32) (r_divides : Int32) (c_lab : Nat → Int32) (c_par : Nat → Int32) : Option (Int32) :=
  (R_isOnce n r_dissolves r_divides).bind fun v1 => (if v1 = 0 then (O_isOpen_13 mm r_into r_intoLabel r_divides c_lab c_par n ) else (if mm = 0 then (some ((0 : Int32) &&& 1)) else (O_isOpen_13 mm r_into r_intoLabel r_divides c_lab c_par n )))
theorem T_O_isOpen_30 {X : Nat × (Nat → Int32)} {H : eH} {r : Nat} {c : Nat} {mm : Int32} {r_number : Int32} {r_label : Int32} {r_left : Int64} {r_leftKinds : Int64} {r_here : Int64} {r_out : Int64} {r_into : Int64} {r_intoLabel : Int32} {r_dissolves : Int32} {r_divides : Int32} {r_other : Int64} {c_lab : Nat → Int32} {c_par : Nat → Int32} (hc_r : H.1 r = some (.inr (5, [.int r_number, .int r_label, .long r_left, .long r_leftKinds, .long r_here, .long r_out, .long r_into, .int r_intoLabel, .int r_dissolves, .int r_divides, .long r_other]))) (hc_c : H.1 c = some (.inr (3, [.ref (c + 1), .ref (c + 2), .ref (c + 3)]))) (hc_cl : H.1 (c + 1) = some (.inl (0, 6, .inl c_lab))) (hc_cp : H.1 (c + 2) = some (.inl (0, 6, .inl c_par))) (hz_r : ¬ r = 0) (hok_c : c = 20 ∨ c = 348 ∨ c = 352 ∨ (25 ≤ c ∧ c ≤ 341 ∧ c % 4 = 1)) : ∀ (n : Nat)  (res : Int32), O_isOpen_30 mm r_into r_intoLabel c_lab c_par  n  = some res → eGs pP X 1 86 (30, [some (.ref r), some (.ref c), some (.int mm)], [], H) (.inl (some (.int res)), H) := by
  intro n  res hM
  unfold O_isOpen_30 at hM
  refine eGs.steps 1 (y := (31, [some (.ref r), some (.ref c), some (.int mm)], [.ref r], H)) rfl ?_
  refine g_getf rfl rfl (by omega) hc_r rfl ?_
  refine eGs.steps 0 (y := (34, [some (.ref r), some (.ref c), some (.int mm)], [.long r_into], H)) rfl ?_
  refine eGs.steps 2 (y := (36, [some (.ref r), some (.ref c), some (.int mm)], [.int (lg_cmp r_into (0 : Int64))], H)) rfl ?_
  by_cases hc : (lg_cmp r_into (0 : Int64)) = 0
  · rw [if_pos hc] at hM
    refine g_if (cd := .eq) (t := 52) true rfl (decide_eq_true hc) rfl ?_
    refine eGs.steps 2 (y := (57, [some (.ref r), some (.ref c), some (.int mm)], [.int (1 : Int32)], H)) rfl ?_
    cases hM
    exact eGs.fin rfl rfl rfl
  · rw [if_neg hc] at hM
    refine g_if (cd := .eq) (t := 52) false rfl (decide_eq_false hc) rfl ?_
    refine eGs.steps 3 (y := (42, [some (.ref r), some (.ref c), some (.int mm)], [.ref r, .int mm, .ref c], H)) rfl ?_
    refine g_getf rfl rfl (by omega) hc_r rfl ?_
    refine eGs.steps 0 (y := (45, [some (.ref r), some (.ref c), some (.int mm)], [.int r_intoLabel, .int mm, .ref c], H)) rfl ?_
    obtain ⟨v3, hv, hM⟩ := dg_bind hM
    have hE := T_K_firstChildWith (X := X) (H := H) (hc_c := hc_c) (hc_cl := hc_cl) (hc_cp := hc_cp) (hok_c := by first | assumption | omega) hv
    refine g_callV rfl rfl rfl rfl rfl (by omega) hc_c rfl (hE.mono (by decide)) ?_
    refine eGs.steps 0 (y := (48, [some (.ref r), some (.ref c), some (.int mm)], [.int v3], H)) rfl ?_
    refine eGs.steps 1 (y := (49, [some (.ref r), some (.ref c), some (.int mm)], [.int (-1 : Int32), .int v3], H)) rfl ?_
    by_cases hc : v3 = (-1 : Int32)
    · rw [if_pos hc] at hM
      refine g_icmp (cd := .eq) (t := 56) true rfl (decide_eq_true hc) rfl ?_
      refine eGs.steps 1 (y := (57, [some (.ref r), some (.ref c), some (.int mm)], [.int (0 : Int32)], H)) rfl ?_
      cases hM
      exact eGs.fin rfl rfl rfl
    · rw [if_neg hc] at hM
      refine g_icmp (cd := .eq) (t := 56) false rfl (decide_eq_false hc) rfl ?_
      refine eGs.steps 2 (y := (57, [some (.ref r), some (.ref c), some (.int mm)], [.int (1 : Int32)], H)) rfl ?_
      cases hM
      exact eGs.fin rfl rfl rfl
theorem T_O_isOpen_13 {X : Nat × (Nat → Int32)} {H : eH} {r : Nat} {c : Nat} {mm : Int32} {r_number : Int32} {r_label : Int32} {r_left : Int64} {r_leftKinds : Int64} {r_here : Int64} {r_out : Int64} {r_into : Int64} {r_intoLabel : Int32} {r_dissolves : Int32} {r_divides : Int32} {r_other : Int64} {c_lab : Nat → Int32} {c_par : Nat → Int32} (hc_r : H.1 r = some (.inr (5, [.int r_number, .int r_label, .long r_left, .long r_leftKinds, .long r_here, .long r_out, .long r_into, .int r_intoLabel, .int r_dissolves, .int r_divides, .long r_other]))) (hc_c : H.1 c = some (.inr (3, [.ref (c + 1), .ref (c + 2), .ref (c + 3)]))) (hc_cl : H.1 (c + 1) = some (.inl (0, 6, .inl c_lab))) (hc_cp : H.1 (c + 2) = some (.inl (0, 6, .inl c_par))) (hz_r : ¬ r = 0) (hok_c : c = 20 ∨ c = 348 ∨ c = 352 ∨ (25 ≤ c ∧ c ≤ 341 ∧ c % 4 = 1)) : ∀ (n : Nat)  (res : Int32), O_isOpen_13 mm r_into r_intoLabel r_divides c_lab c_par  n  = some res → eGs pP X 1 86 (13, [some (.ref r), some (.ref c), some (.int mm)], [], H) (.inl (some (.int res)), H) := by
  intro n  res hM
  unfold O_isOpen_13 at hM
  refine eGs.steps 1 (y := (14, [some (.ref r), some (.ref c), some (.int mm)], [.ref r], H)) rfl ?_
  refine g_getf rfl rfl (by omega) hc_r rfl ?_
  refine eGs.steps 0 (y := (17, [some (.ref r), some (.ref c), some (.int mm)], [.int r_divides], H)) rfl ?_
  by_cases hc : r_divides = 0
  · rw [if_pos hc] at hM
    refine g_if (cd := .eq) (t := 30) true rfl (decide_eq_true hc) rfl ?_
    exact T_O_isOpen_30 (r := r) (c := c) (mm := mm) (r_number := r_number) (r_label := r_label) (r_left := r_left) (r_leftKinds := r_leftKinds) (r_here := r_here) (r_out := r_out) (r_into := r_into) (r_intoLabel := r_intoLabel) (r_dissolves := r_dissolves) (r_divides := r_divides) (r_other := r_other) (c_lab := c_lab) (c_par := c_par) (hc_r := hc_r) (hc_c := hc_c) (hc_cl := hc_cl) (hc_cp := hc_cp) (hz_r := hz_r) (hok_c := hok_c) n  _ hM
  · rw [if_neg hc] at hM
    refine g_if (cd := .eq) (t := 30) false rfl (decide_eq_false hc) rfl ?_
    refine eGs.steps 2 (y := (22, [some (.ref r), some (.ref c), some (.int mm)], [.int mm, .ref c], H)) rfl ?_
    obtain ⟨v2, hv, hM⟩ := dg_bind hM
    have hE := T_K_countChildren (X := X) (H := H) (hc_c := hc_c) (hc_cp := hc_cp) (hok_c := by first | assumption | omega) hv
    refine g_callV rfl rfl rfl rfl rfl (by omega) hc_c rfl (hE.mono (by decide)) ?_
    refine eGs.steps 0 (y := (25, [some (.ref r), some (.ref c), some (.int mm)], [.int v2], H)) rfl ?_
    by_cases hc : v2 ≤ 0
    · rw [if_pos hc] at hM
      refine g_if (cd := .le) (t := 30) true rfl (decide_eq_true hc) rfl ?_
      exact T_O_isOpen_30 (r := r) (c := c) (mm := mm) (r_number := r_number) (r_label := r_label) (r_left := r_left) (r_leftKinds := r_leftKinds) (r_here := r_here) (r_out := r_out) (r_into := r_into) (r_intoLabel := r_intoLabel) (r_dissolves := r_dissolves) (r_divides := r_divides) (r_other := r_other) (c_lab := c_lab) (c_par := c_par) (hc_r := hc_r) (hc_c := hc_c) (hc_cl := hc_cl) (hc_cp := hc_cp) (hz_r := hz_r) (hok_c := hok_c) n  _ hM
    · rw [if_neg hc] at hM
      refine g_if (cd := .le) (t := 30) false rfl (decide_eq_false hc) rfl ?_
      refine eGs.steps 1 (y := (29, [some (.ref r), some (.ref c), some (.int mm)], [.int (0 : Int32)], H)) rfl ?_
      cases hM
      exact eGs.fin rfl rfl rfl
theorem T_O_isOpen {X : Nat × (Nat → Int32)} {H : eH} {r : Nat} {c : Nat} {mm : Int32} {r_number : Int32} {r_label : Int32} {r_left : Int64} {r_leftKinds : Int64} {r_here : Int64} {r_out : Int64} {r_into : Int64} {r_intoLabel : Int32} {r_dissolves : Int32} {r_divides : Int32} {r_other : Int64} {c_lab : Nat → Int32} {c_par : Nat → Int32} {n : Nat} {res : Int32} (hc_r : H.1 r = some (.inr (5, [.int r_number, .int r_label, .long r_left, .long r_leftKinds, .long r_here, .long r_out, .long r_into, .int r_intoLabel, .int r_dissolves, .int r_divides, .long r_other]))) (hc_c : H.1 c = some (.inr (3, [.ref (c + 1), .ref (c + 2), .ref (c + 3)]))) (hc_cl : H.1 (c + 1) = some (.inl (0, 6, .inl c_lab))) (hc_cp : H.1 (c + 2) = some (.inl (0, 6, .inl c_par))) (hz_r : ¬ r = 0) (hok_c : c = 20 ∨ c = 348 ∨ c = 352 ∨ (25 ≤ c ∧ c ≤ 341 ∧ c % 4 = 1)) (hM : O_isOpen n mm r_into r_intoLabel r_dissolves r_divides c_lab c_par = some res) : eEv pP X 2 86 [.ref r, .ref c, .int mm] H (.inl (some (.int res)), H) := by
  refine eEv.of (Nat.not_lt.mpr (Nat.le_of_ble_eq_true rfl)) ?_
  refine eGs.steps 0 (y := (0, [some (.ref r), some (.ref c), some (.int mm)], [], H)) rfl ?_
  unfold O_isOpen at hM
  refine eGs.steps 1 (y := (1, [some (.ref r), some (.ref c), some (.int mm)], [.ref r], H)) rfl ?_
  obtain ⟨v1, hv, hM⟩ := dg_bind hM
  have hE := T_R_isOnce (X := X) (H := H) (hc_r := hc_r) (hz_r := by first | assumption | omega) hv
  refine g_callV rfl rfl rfl rfl rfl (by omega) hc_r rfl (hE.mono (by decide)) ?_
  refine eGs.steps 0 (y := (4, [some (.ref r), some (.ref c), some (.int mm)], [.int v1], H)) rfl ?_
  by_cases hc : v1 = 0
  · rw [if_pos hc] at hM
    refine g_if (cd := .eq) (t := 13) true rfl (decide_eq_true hc) rfl ?_
    exact T_O_isOpen_13 (r := r) (c := c) (mm := mm) (r_number := r_number) (r_label := r_label) (r_left := r_left) (r_leftKinds := r_leftKinds) (r_here := r_here) (r_out := r_out) (r_into := r_into) (r_intoLabel := r_intoLabel) (r_dissolves := r_dissolves) (r_divides := r_divides) (r_other := r_other) (c_lab := c_lab) (c_par := c_par) (hc_r := hc_r) (hc_c := hc_c) (hc_cl := hc_cl) (hc_cp := hc_cp) (hz_r := hz_r) (hok_c := hok_c) n  _ hM
  · rw [if_neg hc] at hM
    refine g_if (cd := .eq) (t := 13) false rfl (decide_eq_false hc) rfl ?_
    refine eGs.steps 1 (y := (8, [some (.ref r), some (.ref c), some (.int mm)], [.int mm], H)) rfl ?_
    by_cases hc : mm = 0
    · rw [if_pos hc] at hM
      refine g_if (cd := .ne) (t := 13) false rfl (decide_eq_false (fun z => z hc)) rfl ?_
      refine eGs.steps 1 (y := (12, [some (.ref r), some (.ref c), some (.int mm)], [.int (0 : Int32)], H)) rfl ?_
      cases hM
      exact eGs.fin rfl rfl rfl
    · rw [if_neg hc] at hM
      refine g_if (cd := .ne) (t := 13) true rfl (decide_eq_true hc) rfl ?_
      exact T_O_isOpen_13 (r := r) (c := c) (mm := mm) (r_number := r_number) (r_label := r_label) (r_left := r_left) (r_leftKinds := r_leftKinds) (r_here := r_here) (r_out := r_out) (r_into := r_into) (r_intoLabel := r_intoLabel) (r_dissolves := r_dissolves) (r_divides := r_divides) (r_other := r_other) (c_lab := c_lab) (c_par := c_par) (hc_r := hc_r) (hc_c := hc_c) (hc_cl := hc_cl) (hc_cp := hc_cp) (hz_r := hz_r) (hok_c := hok_c) n  _ hM
def O_gatherOpen_8 (mm : Int32) (u_label : Nat → Int32) (u_into : Nat → Int64) (u_intoLabel : Nat → Int32) (u_dissolves : Nat → Int32) (u_divides : Nat → Int32) (b_count : Int32) (c_lab : Nat → Int32) (c_par : Nat → Int32)  : Nat → (Int32) → (Int32) → (Nat → Option Nat) → Option (Int32 × (Nat → Option Nat))
  | 0, _, _, _ => none
  | n + 1, L4, h_opens, h_open =>
    if b_count ≤ L4 then (some (h_opens, h_open)) else (if L4 < 0 ∨ 6 ≤ (L4).toNatClampNeg then none else (if mm < 0 ∨ 6 ≤ (mm).toNatClampNeg then none else (if (u_label (L4).toNatClampNeg) = (c_lab (mm).toNatClampNeg) then ((O_isOpen n mm (u_into (L4).toNatClampNeg) (u_intoLabel (L4).toNatClampNeg) (u_dissolves (L4).toNatClampNeg) (u_divides (L4).toNatClampNeg) c_lab c_par).bind fun v3 => (if v3 = 0 then (O_gatherOpen_8 mm u_label u_into u_intoLabel u_dissolves u_divides b_count c_lab c_par n (L4 + (1 : Int32)) h_opens h_open) else (if h_opens < 0 ∨ 6 ≤ (h_opens).toNatClampNeg then none else (O_gatherOpen_8 mm u_label u_into u_intoLabel u_dissolves u_divides b_count c_lab c_par n (L4 + (1 : Int32)) (h_opens + (1 : Int32)) (eUp h_open (h_opens).toNatClampNeg (some (L4).toNatClampNeg)))))) else (O_gatherOpen_8 mm u_label u_into u_intoLabel u_dissolves u_divides b_count c_lab c_par n (L4 + (1 : Int32)) h_opens h_open))))
def O_gatherOpen (n : Nat) (mm : Int32) (h_open : Nat → Option Nat) (u_label : Nat → Int32) (u_into : Nat → Int64) (u_intoLabel : Nat → Int32) (u_dissolves : Nat → Int32) (u_divides : Nat → Int32) (b_count : Int32) (c_lab : Nat → Int32) (c_par : Nat → Int32) : Option (Int32 × (Nat → Option Nat)) :=
  O_gatherOpen_8 mm u_label u_into u_intoLabel u_dissolves u_divides b_count c_lab c_par n (0 : Int32) (0 : Int32) h_open
theorem T_O_gatherOpen_8 {X : Nat × (Nat → Int32)} {H : eH} {c : Nat} {mm : Int32} {h_start : Int32} {h_end : Int32} {u_label : Nat → Int32} {u_left : Nat → Int64} {u_leftKinds : Nat → Int64} {u_here : Nat → Int64} {u_out : Nat → Int64} {u_into : Nat → Int64} {u_intoLabel : Nat → Int32} {u_dissolves : Nat → Int32} {u_divides : Nat → Int32} {u_other : Nat → Int64} {b_count : Int32} {c_lab : Nat → Int32} {c_par : Nat → Int32} (hc_b : H.1 2 = some (.inr (6, [.ref 3, .int b_count]))) (hc_ba : H.1 3 = some (.inl (3, 6, .inr (.inr fun i => some (4 + i))))) (hc_c : H.1 c = some (.inr (3, [.ref (c + 1), .ref (c + 2), .ref (c + 3)]))) (hc_cl : H.1 (c + 1) = some (.inl (0, 6, .inl c_lab))) (hc_cp : H.1 (c + 2) = some (.inl (0, 6, .inl c_par))) (hu : ∀ i, i < 6 → H.1 (4 + i) = some (.inr (5, [.int (nI i), .int (u_label i), .long (u_left i), .long (u_leftKinds i), .long (u_here i), .long (u_out i), .long (u_into i), .int (u_intoLabel i), .int (u_dissolves i), .int (u_divides i), .long (u_other i)]))) (hok_c : c = 20 ∨ c = 348 ∨ c = 352 ∨ (25 ≤ c ∧ c ≤ 341 ∧ c % 4 = 1)) : ∀ (n : Nat) (L4 : Int32) (h_opens : Int32) (h_open : Nat → Option Nat) (res : Int32 × (Nat → Option Nat)), O_gatherOpen_8 mm u_label u_into u_intoLabel u_dissolves u_divides b_count c_lab c_par  n L4 h_opens h_open = some res → eGs pP X 2 85 (8, [some (.ref 10), some (.ref 2), some (.ref c), some (.int mm), some (.int L4), none], [], (eW2 H [(10, .inr (2, [.ref 11, .int h_opens, .ref 12, .int h_start, .int h_end, .ref 13, .ref 14])), (11, .inl (3, 6, .inr (.inr fun i => (h_open i).map fun j => 4 + j)))])) (.inl (none), (eW2 H [(10, .inr (2, [.ref 11, .int res.1, .ref 12, .int h_start, .int h_end, .ref 13, .ref 14])), (11, .inl (3, 6, .inr (.inr fun i => (res.2 i).map fun j => 4 + j)))])) := by
  have hN : ([10, 11] : List Nat).Nodup := by first | decide | (simp <;> omega)
  have hO_b : 2 ∉ ([10, 11] : List Nat) := by first | decide | (simp <;> omega)
  have hO_ba : 3 ∉ ([10, 11] : List Nat) := by first | decide | (simp <;> omega)
  have hO_c : c ∉ ([10, 11] : List Nat) := by first | decide | (simp <;> omega)
  have hO_cl : c + 1 ∉ ([10, 11] : List Nat) := by first | decide | (simp <;> omega)
  have hO_cp : c + 2 ∉ ([10, 11] : List Nat) := by first | decide | (simp <;> omega)
  have hOu : ∀ i, i < 6 → 4 + i ∉ ([10, 11] : List Nat) := fun i hi => by simp <;> omega
  intro n
  induction n with
  | zero =>
    intro L4 h_opens h_open res hM
    cases hM
  | succ n ih =>
    intro L4 h_opens h_open res hM
    rw [O_gatherOpen_8] at hM
    refine eGs.steps 2 (y := (11, [some (.ref 10), some (.ref 2), some (.ref c), some (.int mm), some (.int L4), none], [.ref 2, .int L4], (eW2 H [(10, .inr (2, [.ref 11, .int h_opens, .ref 12, .int h_start, .int h_end, .ref 13, .ref 14])), (11, .inl (3, 6, .inr (.inr fun i => (h_open i).map fun j => 4 + j)))]))) rfl ?_
    refine g_getf rfl rfl (by omega) ((eW2_offA hO_b rfl).trans hc_b) rfl ?_
    refine eGs.steps 0 (y := (14, [some (.ref 10), some (.ref 2), some (.ref c), some (.int mm), some (.int L4), none], [.int b_count, .int L4], (eW2 H [(10, .inr (2, [.ref 11, .int h_opens, .ref 12, .int h_start, .int h_end, .ref 13, .ref 14])), (11, .inl (3, 6, .inr (.inr fun i => (h_open i).map fun j => 4 + j)))]))) rfl ?_
    by_cases hc : b_count ≤ L4
    · rw [if_pos hc] at hM
      refine g_icmp (cd := .ge) (t := 77) true rfl (decide_eq_true hc) rfl ?_
      cases hM
      exact eGs.fin rfl rfl rfl
    · rw [if_neg hc] at hM
      refine g_icmp (cd := .ge) (t := 77) false rfl (decide_eq_false hc) rfl ?_
      refine eGs.steps 1 (y := (18, [some (.ref 10), some (.ref 2), some (.ref c), some (.int mm), some (.int L4), none], [.ref 2], (eW2 H [(10, .inr (2, [.ref 11, .int h_opens, .ref 12, .int h_start, .int h_end, .ref 13, .ref 14])), (11, .inl (3, 6, .inr (.inr fun i => (h_open i).map fun j => 4 + j)))]))) rfl ?_
      refine g_getf rfl rfl (by omega) ((eW2_offA hO_b rfl).trans hc_b) rfl ?_
      refine eGs.steps 0 (y := (21, [some (.ref 10), some (.ref 2), some (.ref c), some (.int mm), some (.int L4), none], [.ref 3], (eW2 H [(10, .inr (2, [.ref 11, .int h_opens, .ref 12, .int h_start, .int h_end, .ref 13, .ref 14])), (11, .inl (3, 6, .inr (.inr fun i => (h_open i).map fun j => 4 + j)))]))) rfl ?_
      refine eGs.steps 1 (y := (23, [some (.ref 10), some (.ref 2), some (.ref c), some (.int mm), some (.int L4), none], [.int L4, .ref 3], (eW2 H [(10, .inr (2, [.ref 11, .int h_opens, .ref 12, .int h_start, .int h_end, .ref 13, .ref 14])), (11, .inl (3, 6, .inr (.inr fun i => (h_open i).map fun j => 4 + j)))]))) rfl ?_
      obtain ⟨hg1, hM⟩ := dg_none hM
      refine g_aald rfl (by omega) ((eW2_offA hO_ba rfl).trans hc_ba) rfl hg1 ?_
      refine eGs.steps 0 (y := (24, [some (.ref 10), some (.ref 2), some (.ref c), some (.int mm), some (.int L4), none], [.ref (4 + (L4).toNatClampNeg)], (eW2 H [(10, .inr (2, [.ref 11, .int h_opens, .ref 12, .int h_start, .int h_end, .ref 13, .ref 14])), (11, .inl (3, 6, .inr (.inr fun i => (h_open i).map fun j => 4 + j)))]))) rfl ?_
      refine eGs.steps 2 (y := (28, [some (.ref 10), some (.ref 2), some (.ref c), some (.int mm), some (.int L4), some (.ref (4 + (L4).toNatClampNeg))], [.ref (4 + (L4).toNatClampNeg)], (eW2 H [(10, .inr (2, [.ref 11, .int h_opens, .ref 12, .int h_start, .int h_end, .ref 13, .ref 14])), (11, .inl (3, 6, .inr (.inr fun i => (h_open i).map fun j => 4 + j)))]))) rfl ?_
      refine g_getf rfl rfl (by omega) ((eW2_offA (hOu _ (Nat.not_le.mp fun z => hg1 (Or.inr z))) rfl).trans (hu _ (Nat.not_le.mp fun z => hg1 (Or.inr z)))) rfl ?_
      refine eGs.steps 0 (y := (31, [some (.ref 10), some (.ref 2), some (.ref c), some (.int mm), some (.int L4), some (.ref (4 + (L4).toNatClampNeg))], [.int (u_label (L4).toNatClampNeg)], (eW2 H [(10, .inr (2, [.ref 11, .int h_opens, .ref 12, .int h_start, .int h_end, .ref 13, .ref 14])), (11, .inl (3, 6, .inr (.inr fun i => (h_open i).map fun j => 4 + j)))]))) rfl ?_
      refine eGs.steps 1 (y := (32, [some (.ref 10), some (.ref 2), some (.ref c), some (.int mm), some (.int L4), some (.ref (4 + (L4).toNatClampNeg))], [.ref c, .int (u_label (L4).toNatClampNeg)], (eW2 H [(10, .inr (2, [.ref 11, .int h_opens, .ref 12, .int h_start, .int h_end, .ref 13, .ref 14])), (11, .inl (3, 6, .inr (.inr fun i => (h_open i).map fun j => 4 + j)))]))) rfl ?_
      refine g_getf rfl rfl (by omega) ((eW2_offA hO_c rfl).trans hc_c) rfl ?_
      refine eGs.steps 0 (y := (35, [some (.ref 10), some (.ref 2), some (.ref c), some (.int mm), some (.int L4), some (.ref (4 + (L4).toNatClampNeg))], [.ref (c + 1), .int (u_label (L4).toNatClampNeg)], (eW2 H [(10, .inr (2, [.ref 11, .int h_opens, .ref 12, .int h_start, .int h_end, .ref 13, .ref 14])), (11, .inl (3, 6, .inr (.inr fun i => (h_open i).map fun j => 4 + j)))]))) rfl ?_
      refine eGs.steps 1 (y := (36, [some (.ref 10), some (.ref 2), some (.ref c), some (.int mm), some (.int L4), some (.ref (4 + (L4).toNatClampNeg))], [.int mm, .ref (c + 1), .int (u_label (L4).toNatClampNeg)], (eW2 H [(10, .inr (2, [.ref 11, .int h_opens, .ref 12, .int h_start, .int h_end, .ref 13, .ref 14])), (11, .inl (3, 6, .inr (.inr fun i => (h_open i).map fun j => 4 + j)))]))) rfl ?_
      obtain ⟨hg2, hM⟩ := dg_none hM
      refine g_iald rfl (by omega) ((eW2_offA hO_cl rfl).trans hc_cl) hg2 ?_
      refine eGs.steps 0 (y := (37, [some (.ref 10), some (.ref 2), some (.ref c), some (.int mm), some (.int L4), some (.ref (4 + (L4).toNatClampNeg))], [.int (c_lab (mm).toNatClampNeg), .int (u_label (L4).toNatClampNeg)], (eW2 H [(10, .inr (2, [.ref 11, .int h_opens, .ref 12, .int h_start, .int h_end, .ref 13, .ref 14])), (11, .inl (3, 6, .inr (.inr fun i => (h_open i).map fun j => 4 + j)))]))) rfl ?_
      by_cases hc : (u_label (L4).toNatClampNeg) = (c_lab (mm).toNatClampNeg)
      · rw [if_pos hc] at hM
        refine g_icmp (cd := .ne) (t := 71) false rfl (decide_eq_false (fun z => z hc)) rfl ?_
        refine eGs.steps 3 (y := (44, [some (.ref 10), some (.ref 2), some (.ref c), some (.int mm), some (.int L4), some (.ref (4 + (L4).toNatClampNeg))], [.int mm, .ref c, .ref (4 + (L4).toNatClampNeg)], (eW2 H [(10, .inr (2, [.ref 11, .int h_opens, .ref 12, .int h_start, .int h_end, .ref 13, .ref 14])), (11, .inl (3, 6, .inr (.inr fun i => (h_open i).map fun j => 4 + j)))]))) rfl ?_
        obtain ⟨v3, hv, hM⟩ := dg_bind hM
        have hE := T_O_isOpen (X := X) (H := (eW2 H [(10, .inr (2, [.ref 11, .int h_opens, .ref 12, .int h_start, .int h_end, .ref 13, .ref 14])), (11, .inl (3, 6, .inr (.inr fun i => (h_open i).map fun j => 4 + j)))])) (hc_r := ((eW2_offA (hOu _ (Nat.not_le.mp fun z => hg1 (Or.inr z))) rfl).trans (hu _ (Nat.not_le.mp fun z => hg1 (Or.inr z))))) (hc_c := ((eW2_offA hO_c rfl).trans hc_c)) (hc_cl := ((eW2_offA hO_cl rfl).trans hc_cl)) (hc_cp := ((eW2_offA hO_cp rfl).trans hc_cp)) (hz_r := by first | assumption | omega) (hok_c := by first | assumption | omega) hv
        refine g_callS rfl rfl rfl rfl rfl (hE.mono (by decide)) ?_
        refine eGs.steps 0 (y := (47, [some (.ref 10), some (.ref 2), some (.ref c), some (.int mm), some (.int L4), some (.ref (4 + (L4).toNatClampNeg))], [.int v3], (eW2 H [(10, .inr (2, [.ref 11, .int h_opens, .ref 12, .int h_start, .int h_end, .ref 13, .ref 14])), (11, .inl (3, 6, .inr (.inr fun i => (h_open i).map fun j => 4 + j)))]))) rfl ?_
        by_cases hc : v3 = 0
        · rw [if_pos hc] at hM
          refine g_if (cd := .eq) (t := 71) true rfl (decide_eq_true hc) rfl ?_
          refine eGs.steps 2 (y := (8, [some (.ref 10), some (.ref 2), some (.ref c), some (.int mm), some (.int (L4 + (1 : Int32))), some (.ref (4 + (L4).toNatClampNeg))], [], (eW2 H [(10, .inr (2, [.ref 11, .int h_opens, .ref 12, .int h_start, .int h_end, .ref 13, .ref 14])), (11, .inl (3, 6, .inr (.inr fun i => (h_open i).map fun j => 4 + j)))]))) rfl ?_
          refine eGs.weak (lo' := [some (.ref 10), some (.ref 2), some (.ref c), some (.int mm), some (.int (L4 + (1 : Int32))), none]) (by repeat' first | exact trivial | exact rfl | constructor) ?_
          exact ih _ _ _ _ hM
        · rw [if_neg hc] at hM
          refine g_if (cd := .eq) (t := 71) false rfl (decide_eq_false hc) rfl ?_
          refine eGs.steps 1 (y := (51, [some (.ref 10), some (.ref 2), some (.ref c), some (.int mm), some (.int L4), some (.ref (4 + (L4).toNatClampNeg))], [.ref 10], (eW2 H [(10, .inr (2, [.ref 11, .int h_opens, .ref 12, .int h_start, .int h_end, .ref 13, .ref 14])), (11, .inl (3, 6, .inr (.inr fun i => (h_open i).map fun j => 4 + j)))]))) rfl ?_
          refine g_getf rfl rfl (by omega) (eW2_getA hN 0 rfl rfl) rfl ?_
          refine eGs.steps 0 (y := (54, [some (.ref 10), some (.ref 2), some (.ref c), some (.int mm), some (.int L4), some (.ref (4 + (L4).toNatClampNeg))], [.ref 11], (eW2 H [(10, .inr (2, [.ref 11, .int h_opens, .ref 12, .int h_start, .int h_end, .ref 13, .ref 14])), (11, .inl (3, 6, .inr (.inr fun i => (h_open i).map fun j => 4 + j)))]))) rfl ?_
          refine eGs.steps 1 (y := (55, [some (.ref 10), some (.ref 2), some (.ref c), some (.int mm), some (.int L4), some (.ref (4 + (L4).toNatClampNeg))], [.ref 10, .ref 11], (eW2 H [(10, .inr (2, [.ref 11, .int h_opens, .ref 12, .int h_start, .int h_end, .ref 13, .ref 14])), (11, .inl (3, 6, .inr (.inr fun i => (h_open i).map fun j => 4 + j)))]))) rfl ?_
          refine g_getf rfl rfl (by omega) (eW2_getA hN 0 rfl rfl) rfl ?_
          refine eGs.steps 0 (y := (58, [some (.ref 10), some (.ref 2), some (.ref c), some (.int mm), some (.int L4), some (.ref (4 + (L4).toNatClampNeg))], [.int h_opens, .ref 11], (eW2 H [(10, .inr (2, [.ref 11, .int h_opens, .ref 12, .int h_start, .int h_end, .ref 13, .ref 14])), (11, .inl (3, 6, .inr (.inr fun i => (h_open i).map fun j => 4 + j)))]))) rfl ?_
          refine eGs.steps 1 (y := (60, [some (.ref 10), some (.ref 2), some (.ref c), some (.int mm), some (.int L4), some (.ref (4 + (L4).toNatClampNeg))], [.ref (4 + (L4).toNatClampNeg), .int h_opens, .ref 11], (eW2 H [(10, .inr (2, [.ref 11, .int h_opens, .ref 12, .int h_start, .int h_end, .ref 13, .ref 14])), (11, .inl (3, 6, .inr (.inr fun i => (h_open i).map fun j => 4 + j)))]))) rfl ?_
          obtain ⟨hg4, hM⟩ := dg_none hM
          refine g_aastW rfl (by omega) (by omega) (eW2_getA hN 1 rfl rfl) ((eW2_offA (hOu _ (Nat.not_le.mp fun z => hg1 (Or.inr z))) rfl).trans (hu _ (Nat.not_le.mp fun z => hg1 (Or.inr z)))) rfl hg4 (eW2_setA hN 1 rfl rfl) ?_
          rw [eUp_mapS h_open ((h_opens).toNatClampNeg) ((L4).toNatClampNeg)]
          refine eGs.steps 0 (y := (61, [some (.ref 10), some (.ref 2), some (.ref c), some (.int mm), some (.int L4), some (.ref (4 + (L4).toNatClampNeg))], [], (eW2 H [(10, .inr (2, [.ref 11, .int h_opens, .ref 12, .int h_start, .int h_end, .ref 13, .ref 14])), (11, .inl (3, 6, .inr (.inr fun i => ((eUp h_open (h_opens).toNatClampNeg (some (L4).toNatClampNeg)) i).map fun j => 4 + j)))]))) rfl ?_
          refine eGs.steps 2 (y := (63, [some (.ref 10), some (.ref 2), some (.ref c), some (.int mm), some (.int L4), some (.ref (4 + (L4).toNatClampNeg))], [.ref 10, .ref 10], (eW2 H [(10, .inr (2, [.ref 11, .int h_opens, .ref 12, .int h_start, .int h_end, .ref 13, .ref 14])), (11, .inl (3, 6, .inr (.inr fun i => ((eUp h_open (h_opens).toNatClampNeg (some (L4).toNatClampNeg)) i).map fun j => 4 + j)))]))) rfl ?_
          refine g_getf rfl rfl (by omega) (eW2_getA hN 0 rfl rfl) rfl ?_
          refine eGs.steps 0 (y := (66, [some (.ref 10), some (.ref 2), some (.ref c), some (.int mm), some (.int L4), some (.ref (4 + (L4).toNatClampNeg))], [.int h_opens, .ref 10], (eW2 H [(10, .inr (2, [.ref 11, .int h_opens, .ref 12, .int h_start, .int h_end, .ref 13, .ref 14])), (11, .inl (3, 6, .inr (.inr fun i => ((eUp h_open (h_opens).toNatClampNeg (some (L4).toNatClampNeg)) i).map fun j => 4 + j)))]))) rfl ?_
          refine eGs.steps 2 (y := (68, [some (.ref 10), some (.ref 2), some (.ref c), some (.int mm), some (.int L4), some (.ref (4 + (L4).toNatClampNeg))], [.int (h_opens + (1 : Int32)), .ref 10], (eW2 H [(10, .inr (2, [.ref 11, .int h_opens, .ref 12, .int h_start, .int h_end, .ref 13, .ref 14])), (11, .inl (3, 6, .inr (.inr fun i => ((eUp h_open (h_opens).toNatClampNeg (some (L4).toNatClampNeg)) i).map fun j => 4 + j)))]))) rfl ?_
          refine g_putfW rfl rfl (by omega) (eW2_getA hN 0 rfl rfl) rfl (Nat.le_of_ble_eq_true rfl) rfl (eW2_setA hN 0 rfl rfl) ?_
          refine eGs.steps 0 (y := (71, [some (.ref 10), some (.ref 2), some (.ref c), some (.int mm), some (.int L4), some (.ref (4 + (L4).toNatClampNeg))], [], (eW2 H [(10, .inr (2, [.ref 11, .int (h_opens + (1 : Int32)), .ref 12, .int h_start, .int h_end, .ref 13, .ref 14])), (11, .inl (3, 6, .inr (.inr fun i => ((eUp h_open (h_opens).toNatClampNeg (some (L4).toNatClampNeg)) i).map fun j => 4 + j)))]))) rfl ?_
          refine eGs.steps 2 (y := (8, [some (.ref 10), some (.ref 2), some (.ref c), some (.int mm), some (.int (L4 + (1 : Int32))), some (.ref (4 + (L4).toNatClampNeg))], [], (eW2 H [(10, .inr (2, [.ref 11, .int (h_opens + (1 : Int32)), .ref 12, .int h_start, .int h_end, .ref 13, .ref 14])), (11, .inl (3, 6, .inr (.inr fun i => ((eUp h_open (h_opens).toNatClampNeg (some (L4).toNatClampNeg)) i).map fun j => 4 + j)))]))) rfl ?_
          refine eGs.weak (lo' := [some (.ref 10), some (.ref 2), some (.ref c), some (.int mm), some (.int (L4 + (1 : Int32))), none]) (by repeat' first | exact trivial | exact rfl | constructor) ?_
          exact ih _ _ _ _ hM
      · rw [if_neg hc] at hM
        refine g_icmp (cd := .ne) (t := 71) true rfl (decide_eq_true hc) rfl ?_
        refine eGs.steps 2 (y := (8, [some (.ref 10), some (.ref 2), some (.ref c), some (.int mm), some (.int (L4 + (1 : Int32))), some (.ref (4 + (L4).toNatClampNeg))], [], (eW2 H [(10, .inr (2, [.ref 11, .int h_opens, .ref 12, .int h_start, .int h_end, .ref 13, .ref 14])), (11, .inl (3, 6, .inr (.inr fun i => (h_open i).map fun j => 4 + j)))]))) rfl ?_
        refine eGs.weak (lo' := [some (.ref 10), some (.ref 2), some (.ref c), some (.int mm), some (.int (L4 + (1 : Int32))), none]) (by repeat' first | exact trivial | exact rfl | constructor) ?_
        exact ih _ _ _ _ hM
theorem T_O_gatherOpen {X : Nat × (Nat → Int32)} {H : eH} {c : Nat} {mm : Int32} {h_opens : Int32} {h_start : Int32} {h_end : Int32} {h_open : Nat → Option Nat} {u_label : Nat → Int32} {u_left : Nat → Int64} {u_leftKinds : Nat → Int64} {u_here : Nat → Int64} {u_out : Nat → Int64} {u_into : Nat → Int64} {u_intoLabel : Nat → Int32} {u_dissolves : Nat → Int32} {u_divides : Nat → Int32} {u_other : Nat → Int64} {b_count : Int32} {c_lab : Nat → Int32} {c_par : Nat → Int32} {n : Nat} {res : Int32 × (Nat → Option Nat)} (hc_h : H.1 10 = some (.inr (2, [.ref 11, .int h_opens, .ref 12, .int h_start, .int h_end, .ref 13, .ref 14]))) (hc_ho : H.1 11 = some (.inl (3, 6, .inr (.inr fun i => (h_open i).map fun j => 4 + j)))) (hc_b : H.1 2 = some (.inr (6, [.ref 3, .int b_count]))) (hc_ba : H.1 3 = some (.inl (3, 6, .inr (.inr fun i => some (4 + i))))) (hc_c : H.1 c = some (.inr (3, [.ref (c + 1), .ref (c + 2), .ref (c + 3)]))) (hc_cl : H.1 (c + 1) = some (.inl (0, 6, .inl c_lab))) (hc_cp : H.1 (c + 2) = some (.inl (0, 6, .inl c_par))) (hu : ∀ i, i < 6 → H.1 (4 + i) = some (.inr (5, [.int (nI i), .int (u_label i), .long (u_left i), .long (u_leftKinds i), .long (u_here i), .long (u_out i), .long (u_into i), .int (u_intoLabel i), .int (u_dissolves i), .int (u_divides i), .long (u_other i)]))) (hok_c : c = 20 ∨ c = 348 ∨ c = 352 ∨ (25 ≤ c ∧ c ≤ 341 ∧ c % 4 = 1)) (hM : O_gatherOpen n mm h_open u_label u_into u_intoLabel u_dissolves u_divides b_count c_lab c_par = some res) : eEv pP X 3 85 [.ref 10, .ref 2, .ref c, .int mm] H (.inl (none), (eW2 H [(10, .inr (2, [.ref 11, .int res.1, .ref 12, .int h_start, .int h_end, .ref 13, .ref 14])), (11, .inl (3, 6, .inr (.inr fun i => (res.2 i).map fun j => 4 + j)))])) := by
  have hN : ([10, 11] : List Nat).Nodup := by first | decide | (simp <;> omega)
  have hO_b : 2 ∉ ([10, 11] : List Nat) := by first | decide | (simp <;> omega)
  have hO_ba : 3 ∉ ([10, 11] : List Nat) := by first | decide | (simp <;> omega)
  have hO_c : c ∉ ([10, 11] : List Nat) := by first | decide | (simp <;> omega)
  have hO_cl : c + 1 ∉ ([10, 11] : List Nat) := by first | decide | (simp <;> omega)
  have hO_cp : c + 2 ∉ ([10, 11] : List Nat) := by first | decide | (simp <;> omega)
  have hOu : ∀ i, i < 6 → 4 + i ∉ ([10, 11] : List Nat) := fun i hi => by simp <;> omega
  have h0 : (eW2 H [(10, .inr (2, [.ref 11, .int h_opens, .ref 12, .int h_start, .int h_end, .ref 13, .ref 14])), (11, .inl (3, 6, .inr (.inr fun i => (h_open i).map fun j => 4 + j)))]) = H := eW2_self (by simp only [List.forall_mem_cons]; exact ⟨hc_h, hc_ho, fun _ h => absurd h List.not_mem_nil⟩)
  rw [show eEv pP X 3 85 _ H = eEv pP X 3 85 _ (eW2 H [(10, .inr (2, [.ref 11, .int h_opens, .ref 12, .int h_start, .int h_end, .ref 13, .ref 14])), (11, .inl (3, 6, .inr (.inr fun i => (h_open i).map fun j => 4 + j)))]) by rw [h0]]
  refine eEv.of (Nat.not_lt.mpr (Nat.le_of_ble_eq_true rfl)) ?_
  refine eGs.steps 0 (y := (0, [some (.ref 10), some (.ref 2), some (.ref c), some (.int mm), none, none], [], (eW2 H [(10, .inr (2, [.ref 11, .int h_opens, .ref 12, .int h_start, .int h_end, .ref 13, .ref 14])), (11, .inl (3, 6, .inr (.inr fun i => (h_open i).map fun j => 4 + j)))]))) rfl ?_
  unfold O_gatherOpen at hM
  refine eGs.steps 2 (y := (2, [some (.ref 10), some (.ref 2), some (.ref c), some (.int mm), none, none], [.int (0 : Int32), .ref 10], (eW2 H [(10, .inr (2, [.ref 11, .int h_opens, .ref 12, .int h_start, .int h_end, .ref 13, .ref 14])), (11, .inl (3, 6, .inr (.inr fun i => (h_open i).map fun j => 4 + j)))]))) rfl ?_
  refine g_putfW rfl rfl (by omega) (eW2_getA hN 0 rfl rfl) rfl (Nat.le_of_ble_eq_true rfl) rfl (eW2_setA hN 0 rfl rfl) ?_
  refine eGs.steps 0 (y := (5, [some (.ref 10), some (.ref 2), some (.ref c), some (.int mm), none, none], [], (eW2 H [(10, .inr (2, [.ref 11, .int (0 : Int32), .ref 12, .int h_start, .int h_end, .ref 13, .ref 14])), (11, .inl (3, 6, .inr (.inr fun i => (h_open i).map fun j => 4 + j)))]))) rfl ?_
  refine eGs.steps 2 (y := (8, [some (.ref 10), some (.ref 2), some (.ref c), some (.int mm), some (.int (0 : Int32)), none], [], (eW2 H [(10, .inr (2, [.ref 11, .int (0 : Int32), .ref 12, .int h_start, .int h_end, .ref 13, .ref 14])), (11, .inl (3, 6, .inr (.inr fun i => (h_open i).map fun j => 4 + j)))]))) rfl ?_
  exact T_O_gatherOpen_8 (c := c) (mm := mm) (h_start := h_start) (h_end := h_end) (u_label := u_label) (u_left := u_left) (u_leftKinds := u_leftKinds) (u_here := u_here) (u_out := u_out) (u_into := u_into) (u_intoLabel := u_intoLabel) (u_dissolves := u_dissolves) (u_divides := u_divides) (u_other := u_other) (b_count := b_count) (c_lab := c_lab) (c_par := c_par) (hc_b := hc_b) (hc_ba := hc_ba) (hc_c := hc_c) (hc_cl := hc_cl) (hc_cp := hc_cp) (hu := hu) (hok_c := hok_c) n _ _ _ _ hM
def O_machineChoice_96  (k24 : (Int64) → (Int32) → (Int32) → (Int32) → (Int32) → (Nat → Option Nat) → Option (Int32 × Int32 × (Nat → Option Nat))) (n : Nat) (L4 : Int64) (L7 : Int32) (L8 : Int32) (L9 : Int32) (S0 : Int32) (h_opens : Int32) (h_open : Nat → Option Nat) : Option (Int32 × Int32 × (Nat → Option Nat)) :=
  if L8 < 0 ∨ 6 ≤ (L8).toNatClampNeg then none else (match (h_open (L8).toNatClampNeg) with | none => (none) | some v10 => if 6 ≤ v10 then none else ((Ch_with n L7 (nI v10) L9).bind fun v11 => (k24 L4 S0 v11 (L8 + (1 : Int32)) h_opens h_open)))
def O_machineChoice_95  (k24 : (Int64) → (Int32) → (Int32) → (Int32) → (Int32) → (Nat → Option Nat) → Option (Int32 × Int32 × (Nat → Option Nat))) (n : Nat) (L4 : Int64) (L7 : Int32) (L8 : Int32) (L9 : Int32) (h_opens : Int32) (h_open : Nat → Option Nat) : Option (Int32 × Int32 × (Nat → Option Nat)) :=
  O_machineChoice_96 k24 n L4 L7 L8 L9 (0 : Int32) h_opens h_open
def O_machineChoice_91  (k24 : (Int64) → (Int32) → (Int32) → (Int32) → (Int32) → (Nat → Option Nat) → Option (Int32 × Int32 × (Nat → Option Nat))) (n : Nat) (L4 : Int64) (L7 : Int32) (L8 : Int32) (L9 : Int32) (h_opens : Int32) (h_open : Nat → Option Nat) : Option (Int32 × Int32 × (Nat → Option Nat)) :=
  O_machineChoice_96 k24 n L4 L7 L8 L9 (1 : Int32) h_opens h_open
def O_machineChoice_24 (u_left : Nat → Int64) (u_dissolves : Nat → Int32) (u_divides : Nat → Int32)  : Nat → (Int64) → (Int32) → (Int32) → (Int32) → (Int32) → (Nat → Option Nat) → Option (Int32 × Int32 × (Nat → Option Nat))
  | 0, _, _, _, _, _, _ => none
  | n + 1, L4, L6, L7, L8, h_opens, h_open =>
    if h_opens ≤ L8 then (some (L7, h_opens, h_open)) else (if L8 < 0 ∨ 6 ≤ (L8).toNatClampNeg then none else (match (h_open (L8).toNatClampNeg) with | none => (none) | some v4 => if 6 ≤ v4 then none else ((R_mostUses n L4 L6 (u_left v4) (u_dissolves v4) (u_divides v4)).bind fun v5 => (if L8 < 0 ∨ 6 ≤ (L8).toNatClampNeg then none else (if L6 = 0 then (if v5 ≤ 0 then (O_machineChoice_95 (O_machineChoice_24 u_left u_dissolves u_divides n) n (L4 - ((v5).toInt64 * (u_left v4))) L7 L8 v5 h_opens h_open) else (if L8 < 0 ∨ 6 ≤ (L8).toNatClampNeg then none else ((R_isOnce n (u_dissolves v4) (u_divides v4)).bind fun v8 => (if v8 = 0 then (O_machineChoice_95 (O_machineChoice_24 u_left u_dissolves u_divides n) n (L4 - ((v5).toInt64 * (u_left v4))) L7 L8 v5 h_opens h_open) else (O_machineChoice_91 (O_machineChoice_24 u_left u_dissolves u_divides n) n (L4 - ((v5).toInt64 * (u_left v4))) L7 L8 v5 h_opens h_open))))) else (O_machineChoice_91 (O_machineChoice_24 u_left u_dissolves u_divides n) n (L4 - ((v5).toInt64 * (u_left v4))) L7 L8 v5 h_opens h_open))))))
def O_machineChoice (n : Nat) (mm : Int32) (h_open : Nat → Option Nat) (u_label : Nat → Int32) (u_left : Nat → Int64) (u_into : Nat → Int64) (u_intoLabel : Nat → Int32) (u_dissolves : Nat → Int32) (u_divides : Nat → Int32) (b_count : Int32) (c_lab : Nat → Int32) (c_par : Nat → Int32) (c_hp : Nat → Int64) : Option (Int32 × Int32 × (Nat → Option Nat)) :=
  (O_gatherOpen n mm h_open u_label u_into u_intoLabel u_dissolves u_divides b_count c_lab c_par).bind fun v1 => (if mm < 0 ∨ 7 ≤ (mm).toNatClampNeg then none else (O_machineChoice_24 u_left u_dissolves u_divides n (c_hp (mm).toNatClampNeg) (0 : Int32) (0 : Int32) (0 : Int32) v1.1 v1.2))
theorem T_O_machineChoice_96 {X : Nat × (Nat → Int32)} {H : eH} {c : Nat} {mm : Int32} {h_start : Int32} {h_end : Int32} {u_label : Nat → Int32} {u_left : Nat → Int64} {u_leftKinds : Nat → Int64} {u_here : Nat → Int64} {u_out : Nat → Int64} {u_into : Nat → Int64} {u_intoLabel : Nat → Int32} {u_dissolves : Nat → Int32} {u_divides : Nat → Int32} {u_other : Nat → Int64} {b_count : Int32} {c_lab : Nat → Int32} {c_par : Nat → Int32} {c_hp : Nat → Int64} {k24 : (Int64) → (Int32) → (Int32) → (Int32) → (Int32) → (Nat → Option Nat) → Option (Int32 × Int32 × (Nat → Option Nat))} (hc_b : H.1 2 = some (.inr (6, [.ref 3, .int b_count]))) (hc_ba : H.1 3 = some (.inl (3, 6, .inr (.inr fun i => some (4 + i))))) (hc_c : H.1 c = some (.inr (3, [.ref (c + 1), .ref (c + 2), .ref (c + 3)]))) (hc_cl : H.1 (c + 1) = some (.inl (0, 6, .inl c_lab))) (hc_cp : H.1 (c + 2) = some (.inl (0, 6, .inl c_par))) (hc_ch : H.1 (c + 3) = some (.inl (1, 7, .inr (.inl c_hp)))) (hu : ∀ i, i < 6 → H.1 (4 + i) = some (.inr (5, [.int (nI i), .int (u_label i), .long (u_left i), .long (u_leftKinds i), .long (u_here i), .long (u_out i), .long (u_into i), .int (u_intoLabel i), .int (u_dissolves i), .int (u_divides i), .long (u_other i)]))) (hok_c : c = 20 ∨ c = 348 ∨ c = 352 ∨ (25 ≤ c ∧ c ≤ 341 ∧ c % 4 = 1)) (hk24 : ∀ (y0 : Int64) (y1 : Int32) (y2 : Int32) (y3 : Int32) (y4 : Int32) (y5 : Nat → Option Nat) (res : Int32 × Int32 × (Nat → Option Nat)), k24 y0 y1 y2 y3 y4 y5 = some res → eGs pP X 3 80 (24, [some (.ref 10), none, none, none, some (.long y0), none, some (.int y1), some (.int y2), some (.int y3), none], [], (eW2 H [(10, .inr (2, [.ref 11, .int y4, .ref 12, .int h_start, .int h_end, .ref 13, .ref 14])), (11, .inl (3, 6, .inr (.inr fun i => (y5 i).map fun j => 4 + j)))])) (.inl (some (.int res.1)), (eW2 H [(10, .inr (2, [.ref 11, .int res.2.1, .ref 12, .int h_start, .int h_end, .ref 13, .ref 14])), (11, .inl (3, 6, .inr (.inr fun i => (res.2.2 i).map fun j => 4 + j)))]))) : ∀ (n : Nat) (L4 : Int64) (L7 : Int32) (L8 : Int32) (L9 : Int32) (S0 : Int32) (h_opens : Int32) (h_open : Nat → Option Nat) (res : Int32 × Int32 × (Nat → Option Nat)), O_machineChoice_96  k24 n L4 L7 L8 L9 S0 h_opens h_open = some res → eGs pP X 3 80 (96, [some (.ref 10), none, none, none, some (.long L4), none, none, some (.int L7), some (.int L8), some (.int L9)], [.int S0], (eW2 H [(10, .inr (2, [.ref 11, .int h_opens, .ref 12, .int h_start, .int h_end, .ref 13, .ref 14])), (11, .inl (3, 6, .inr (.inr fun i => (h_open i).map fun j => 4 + j)))])) (.inl (some (.int res.1)), (eW2 H [(10, .inr (2, [.ref 11, .int res.2.1, .ref 12, .int h_start, .int h_end, .ref 13, .ref 14])), (11, .inl (3, 6, .inr (.inr fun i => (res.2.2 i).map fun j => 4 + j)))])) := by
  have hN : ([10, 11] : List Nat).Nodup := by first | decide | (simp <;> omega)
  have hO_b : 2 ∉ ([10, 11] : List Nat) := by first | decide | (simp <;> omega)
  have hO_ba : 3 ∉ ([10, 11] : List Nat) := by first | decide | (simp <;> omega)
  have hO_c : c ∉ ([10, 11] : List Nat) := by first | decide | (simp <;> omega)
  have hO_cl : c + 1 ∉ ([10, 11] : List Nat) := by first | decide | (simp <;> omega)
  have hO_cp : c + 2 ∉ ([10, 11] : List Nat) := by first | decide | (simp <;> omega)
  have hO_ch : c + 3 ∉ ([10, 11] : List Nat) := by first | decide | (simp <;> omega)
  have hOu : ∀ i, i < 6 → 4 + i ∉ ([10, 11] : List Nat) := fun i hi => by simp <;> omega
  intro n L4 L7 L8 L9 S0 h_opens h_open res hM
  unfold O_machineChoice_96 at hM
  refine eGs.steps 3 (y := (101, [some (.ref 10), none, none, none, some (.long L4), none, some (.int S0), some (.int L7), some (.int L8), some (.int L9)], [.ref 10, .int L7], (eW2 H [(10, .inr (2, [.ref 11, .int h_opens, .ref 12, .int h_start, .int h_end, .ref 13, .ref 14])), (11, .inl (3, 6, .inr (.inr fun i => (h_open i).map fun j => 4 + j)))]))) rfl ?_
  refine g_getf rfl rfl (by omega) (eW2_getA hN 0 rfl rfl) rfl ?_
  refine eGs.steps 0 (y := (104, [some (.ref 10), none, none, none, some (.long L4), none, some (.int S0), some (.int L7), some (.int L8), some (.int L9)], [.ref 11, .int L7], (eW2 H [(10, .inr (2, [.ref 11, .int h_opens, .ref 12, .int h_start, .int h_end, .ref 13, .ref 14])), (11, .inl (3, 6, .inr (.inr fun i => (h_open i).map fun j => 4 + j)))]))) rfl ?_
  refine eGs.steps 1 (y := (106, [some (.ref 10), none, none, none, some (.long L4), none, some (.int S0), some (.int L7), some (.int L8), some (.int L9)], [.int L8, .ref 11, .int L7], (eW2 H [(10, .inr (2, [.ref 11, .int h_opens, .ref 12, .int h_start, .int h_end, .ref 13, .ref 14])), (11, .inl (3, 6, .inr (.inr fun i => (h_open i).map fun j => 4 + j)))]))) rfl ?_
  obtain ⟨hg9, hM⟩ := dg_none hM
  refine g_aald rfl (by omega) (eW2_getA hN 1 rfl rfl) rfl hg9 ?_
  cases ho_v10 : (h_open (L8).toNatClampNeg) with
  | none =>
    rw [ho_v10] at hM
    dsimp only at hM
    simp only [ho_v10, Option.map, eRf]
    refine eGs.steps 0 (y := (107, [some (.ref 10), none, none, none, some (.long L4), none, some (.int S0), some (.int L7), some (.int L8), some (.int L9)], [.null, .int L7], (eW2 H [(10, .inr (2, [.ref 11, .int h_opens, .ref 12, .int h_start, .int h_end, .ref 13, .ref 14])), (11, .inl (3, 6, .inr (.inr fun i => (h_open i).map fun j => 4 + j)))]))) rfl ?_
    cases hM
  | some v10 =>
    rw [ho_v10] at hM
    dsimp only at hM
    obtain ⟨hqv10, hM⟩ := dg_none hM
    simp only [ho_v10, Option.map, eRf]
    refine eGs.steps 0 (y := (107, [some (.ref 10), none, none, none, some (.long L4), none, some (.int S0), some (.int L7), some (.int L8), some (.int L9)], [.ref (4 + v10), .int L7], (eW2 H [(10, .inr (2, [.ref 11, .int h_opens, .ref 12, .int h_start, .int h_end, .ref 13, .ref 14])), (11, .inl (3, 6, .inr (.inr fun i => (h_open i).map fun j => 4 + j)))]))) rfl ?_
    refine g_getf rfl rfl (by omega) ((eW2_offA (hOu _ (Nat.not_le.mp hqv10)) rfl).trans (hu _ (Nat.not_le.mp hqv10))) rfl ?_
    refine eGs.steps 0 (y := (110, [some (.ref 10), none, none, none, some (.long L4), none, some (.int S0), some (.int L7), some (.int L8), some (.int L9)], [.int (nI v10), .int L7], (eW2 H [(10, .inr (2, [.ref 11, .int h_opens, .ref 12, .int h_start, .int h_end, .ref 13, .ref 14])), (11, .inl (3, 6, .inr (.inr fun i => (h_open i).map fun j => 4 + j)))]))) rfl ?_
    refine eGs.steps 1 (y := (112, [some (.ref 10), none, none, none, some (.long L4), none, some (.int S0), some (.int L7), some (.int L8), some (.int L9)], [.int L9, .int (nI v10), .int L7], (eW2 H [(10, .inr (2, [.ref 11, .int h_opens, .ref 12, .int h_start, .int h_end, .ref 13, .ref 14])), (11, .inl (3, 6, .inr (.inr fun i => (h_open i).map fun j => 4 + j)))]))) rfl ?_
    obtain ⟨v11, hv, hM⟩ := dg_bind hM
    have hE := T_Ch_with (X := X) (H := (eW2 H [(10, .inr (2, [.ref 11, .int h_opens, .ref 12, .int h_start, .int h_end, .ref 13, .ref 14])), (11, .inl (3, 6, .inr (.inr fun i => (h_open i).map fun j => 4 + j)))]))  hv
    refine g_callS rfl rfl rfl rfl rfl (hE.mono (by decide)) ?_
    refine eGs.steps 0 (y := (115, [some (.ref 10), none, none, none, some (.long L4), none, some (.int S0), some (.int L7), some (.int L8), some (.int L9)], [.int v11], (eW2 H [(10, .inr (2, [.ref 11, .int h_opens, .ref 12, .int h_start, .int h_end, .ref 13, .ref 14])), (11, .inl (3, 6, .inr (.inr fun i => (h_open i).map fun j => 4 + j)))]))) rfl ?_
    refine eGs.steps 3 (y := (24, [some (.ref 10), none, none, none, some (.long L4), none, some (.int S0), some (.int v11), some (.int (L8 + (1 : Int32))), some (.int L9)], [], (eW2 H [(10, .inr (2, [.ref 11, .int h_opens, .ref 12, .int h_start, .int h_end, .ref 13, .ref 14])), (11, .inl (3, 6, .inr (.inr fun i => (h_open i).map fun j => 4 + j)))]))) rfl ?_
    refine eGs.weak (lo' := [some (.ref 10), none, none, none, some (.long L4), none, some (.int S0), some (.int v11), some (.int (L8 + (1 : Int32))), none]) (by repeat' first | exact trivial | exact rfl | constructor) ?_
    exact hk24 _ _ _ _ _ _ _ hM
theorem T_O_machineChoice_95 {X : Nat × (Nat → Int32)} {H : eH} {c : Nat} {mm : Int32} {h_start : Int32} {h_end : Int32} {u_label : Nat → Int32} {u_left : Nat → Int64} {u_leftKinds : Nat → Int64} {u_here : Nat → Int64} {u_out : Nat → Int64} {u_into : Nat → Int64} {u_intoLabel : Nat → Int32} {u_dissolves : Nat → Int32} {u_divides : Nat → Int32} {u_other : Nat → Int64} {b_count : Int32} {c_lab : Nat → Int32} {c_par : Nat → Int32} {c_hp : Nat → Int64} {k24 : (Int64) → (Int32) → (Int32) → (Int32) → (Int32) → (Nat → Option Nat) → Option (Int32 × Int32 × (Nat → Option Nat))} (hc_b : H.1 2 = some (.inr (6, [.ref 3, .int b_count]))) (hc_ba : H.1 3 = some (.inl (3, 6, .inr (.inr fun i => some (4 + i))))) (hc_c : H.1 c = some (.inr (3, [.ref (c + 1), .ref (c + 2), .ref (c + 3)]))) (hc_cl : H.1 (c + 1) = some (.inl (0, 6, .inl c_lab))) (hc_cp : H.1 (c + 2) = some (.inl (0, 6, .inl c_par))) (hc_ch : H.1 (c + 3) = some (.inl (1, 7, .inr (.inl c_hp)))) (hu : ∀ i, i < 6 → H.1 (4 + i) = some (.inr (5, [.int (nI i), .int (u_label i), .long (u_left i), .long (u_leftKinds i), .long (u_here i), .long (u_out i), .long (u_into i), .int (u_intoLabel i), .int (u_dissolves i), .int (u_divides i), .long (u_other i)]))) (hok_c : c = 20 ∨ c = 348 ∨ c = 352 ∨ (25 ≤ c ∧ c ≤ 341 ∧ c % 4 = 1)) (hk24 : ∀ (y0 : Int64) (y1 : Int32) (y2 : Int32) (y3 : Int32) (y4 : Int32) (y5 : Nat → Option Nat) (res : Int32 × Int32 × (Nat → Option Nat)), k24 y0 y1 y2 y3 y4 y5 = some res → eGs pP X 3 80 (24, [some (.ref 10), none, none, none, some (.long y0), none, some (.int y1), some (.int y2), some (.int y3), none], [], (eW2 H [(10, .inr (2, [.ref 11, .int y4, .ref 12, .int h_start, .int h_end, .ref 13, .ref 14])), (11, .inl (3, 6, .inr (.inr fun i => (y5 i).map fun j => 4 + j)))])) (.inl (some (.int res.1)), (eW2 H [(10, .inr (2, [.ref 11, .int res.2.1, .ref 12, .int h_start, .int h_end, .ref 13, .ref 14])), (11, .inl (3, 6, .inr (.inr fun i => (res.2.2 i).map fun j => 4 + j)))]))) : ∀ (n : Nat) (L4 : Int64) (L7 : Int32) (L8 : Int32) (L9 : Int32) (h_opens : Int32) (h_open : Nat → Option Nat) (res : Int32 × Int32 × (Nat → Option Nat)), O_machineChoice_95  k24 n L4 L7 L8 L9 h_opens h_open = some res → eGs pP X 3 80 (95, [some (.ref 10), none, none, none, some (.long L4), none, none, some (.int L7), some (.int L8), some (.int L9)], [], (eW2 H [(10, .inr (2, [.ref 11, .int h_opens, .ref 12, .int h_start, .int h_end, .ref 13, .ref 14])), (11, .inl (3, 6, .inr (.inr fun i => (h_open i).map fun j => 4 + j)))])) (.inl (some (.int res.1)), (eW2 H [(10, .inr (2, [.ref 11, .int res.2.1, .ref 12, .int h_start, .int h_end, .ref 13, .ref 14])), (11, .inl (3, 6, .inr (.inr fun i => (res.2.2 i).map fun j => 4 + j)))])) := by
  have hN : ([10, 11] : List Nat).Nodup := by first | decide | (simp <;> omega)
  have hO_b : 2 ∉ ([10, 11] : List Nat) := by first | decide | (simp <;> omega)
  have hO_ba : 3 ∉ ([10, 11] : List Nat) := by first | decide | (simp <;> omega)
  have hO_c : c ∉ ([10, 11] : List Nat) := by first | decide | (simp <;> omega)
  have hO_cl : c + 1 ∉ ([10, 11] : List Nat) := by first | decide | (simp <;> omega)
  have hO_cp : c + 2 ∉ ([10, 11] : List Nat) := by first | decide | (simp <;> omega)
  have hO_ch : c + 3 ∉ ([10, 11] : List Nat) := by first | decide | (simp <;> omega)
  have hOu : ∀ i, i < 6 → 4 + i ∉ ([10, 11] : List Nat) := fun i hi => by simp <;> omega
  intro n L4 L7 L8 L9 h_opens h_open res hM
  unfold O_machineChoice_95 at hM
  refine eGs.steps 1 (y := (96, [some (.ref 10), none, none, none, some (.long L4), none, none, some (.int L7), some (.int L8), some (.int L9)], [.int (0 : Int32)], (eW2 H [(10, .inr (2, [.ref 11, .int h_opens, .ref 12, .int h_start, .int h_end, .ref 13, .ref 14])), (11, .inl (3, 6, .inr (.inr fun i => (h_open i).map fun j => 4 + j)))]))) rfl ?_
  exact T_O_machineChoice_96 (c := c) (mm := mm) (h_start := h_start) (h_end := h_end) (u_label := u_label) (u_left := u_left) (u_leftKinds := u_leftKinds) (u_here := u_here) (u_out := u_out) (u_into := u_into) (u_intoLabel := u_intoLabel) (u_dissolves := u_dissolves) (u_divides := u_divides) (u_other := u_other) (b_count := b_count) (c_lab := c_lab) (c_par := c_par) (c_hp := c_hp) (hc_b := hc_b) (hc_ba := hc_ba) (hc_c := hc_c) (hc_cl := hc_cl) (hc_cp := hc_cp) (hc_ch := hc_ch) (hu := hu) (hok_c := hok_c) hk24 n _ _ _ _ _ _ _ _ hM
theorem T_O_machineChoice_91 {X : Nat × (Nat → Int32)} {H : eH} {c : Nat} {mm : Int32} {h_start : Int32} {h_end : Int32} {u_label : Nat → Int32} {u_left : Nat → Int64} {u_leftKinds : Nat → Int64} {u_here : Nat → Int64} {u_out : Nat → Int64} {u_into : Nat → Int64} {u_intoLabel : Nat → Int32} {u_dissolves : Nat → Int32} {u_divides : Nat → Int32} {u_other : Nat → Int64} {b_count : Int32} {c_lab : Nat → Int32} {c_par : Nat → Int32} {c_hp : Nat → Int64} {k24 : (Int64) → (Int32) → (Int32) → (Int32) → (Int32) → (Nat → Option Nat) → Option (Int32 × Int32 × (Nat → Option Nat))} (hc_b : H.1 2 = some (.inr (6, [.ref 3, .int b_count]))) (hc_ba : H.1 3 = some (.inl (3, 6, .inr (.inr fun i => some (4 + i))))) (hc_c : H.1 c = some (.inr (3, [.ref (c + 1), .ref (c + 2), .ref (c + 3)]))) (hc_cl : H.1 (c + 1) = some (.inl (0, 6, .inl c_lab))) (hc_cp : H.1 (c + 2) = some (.inl (0, 6, .inl c_par))) (hc_ch : H.1 (c + 3) = some (.inl (1, 7, .inr (.inl c_hp)))) (hu : ∀ i, i < 6 → H.1 (4 + i) = some (.inr (5, [.int (nI i), .int (u_label i), .long (u_left i), .long (u_leftKinds i), .long (u_here i), .long (u_out i), .long (u_into i), .int (u_intoLabel i), .int (u_dissolves i), .int (u_divides i), .long (u_other i)]))) (hok_c : c = 20 ∨ c = 348 ∨ c = 352 ∨ (25 ≤ c ∧ c ≤ 341 ∧ c % 4 = 1)) (hk24 : ∀ (y0 : Int64) (y1 : Int32) (y2 : Int32) (y3 : Int32) (y4 : Int32) (y5 : Nat → Option Nat) (res : Int32 × Int32 × (Nat → Option Nat)), k24 y0 y1 y2 y3 y4 y5 = some res → eGs pP X 3 80 (24, [some (.ref 10), none, none, none, some (.long y0), none, some (.int y1), some (.int y2), some (.int y3), none], [], (eW2 H [(10, .inr (2, [.ref 11, .int y4, .ref 12, .int h_start, .int h_end, .ref 13, .ref 14])), (11, .inl (3, 6, .inr (.inr fun i => (y5 i).map fun j => 4 + j)))])) (.inl (some (.int res.1)), (eW2 H [(10, .inr (2, [.ref 11, .int res.2.1, .ref 12, .int h_start, .int h_end, .ref 13, .ref 14])), (11, .inl (3, 6, .inr (.inr fun i => (res.2.2 i).map fun j => 4 + j)))]))) : ∀ (n : Nat) (L4 : Int64) (L7 : Int32) (L8 : Int32) (L9 : Int32) (h_opens : Int32) (h_open : Nat → Option Nat) (res : Int32 × Int32 × (Nat → Option Nat)), O_machineChoice_91  k24 n L4 L7 L8 L9 h_opens h_open = some res → eGs pP X 3 80 (91, [some (.ref 10), none, none, none, some (.long L4), none, none, some (.int L7), some (.int L8), some (.int L9)], [], (eW2 H [(10, .inr (2, [.ref 11, .int h_opens, .ref 12, .int h_start, .int h_end, .ref 13, .ref 14])), (11, .inl (3, 6, .inr (.inr fun i => (h_open i).map fun j => 4 + j)))])) (.inl (some (.int res.1)), (eW2 H [(10, .inr (2, [.ref 11, .int res.2.1, .ref 12, .int h_start, .int h_end, .ref 13, .ref 14])), (11, .inl (3, 6, .inr (.inr fun i => (res.2.2 i).map fun j => 4 + j)))])) := by
  have hN : ([10, 11] : List Nat).Nodup := by first | decide | (simp <;> omega)
  have hO_b : 2 ∉ ([10, 11] : List Nat) := by first | decide | (simp <;> omega)
  have hO_ba : 3 ∉ ([10, 11] : List Nat) := by first | decide | (simp <;> omega)
  have hO_c : c ∉ ([10, 11] : List Nat) := by first | decide | (simp <;> omega)
  have hO_cl : c + 1 ∉ ([10, 11] : List Nat) := by first | decide | (simp <;> omega)
  have hO_cp : c + 2 ∉ ([10, 11] : List Nat) := by first | decide | (simp <;> omega)
  have hO_ch : c + 3 ∉ ([10, 11] : List Nat) := by first | decide | (simp <;> omega)
  have hOu : ∀ i, i < 6 → 4 + i ∉ ([10, 11] : List Nat) := fun i hi => by simp <;> omega
  intro n L4 L7 L8 L9 h_opens h_open res hM
  unfold O_machineChoice_91 at hM
  refine eGs.steps 2 (y := (96, [some (.ref 10), none, none, none, some (.long L4), none, none, some (.int L7), some (.int L8), some (.int L9)], [.int (1 : Int32)], (eW2 H [(10, .inr (2, [.ref 11, .int h_opens, .ref 12, .int h_start, .int h_end, .ref 13, .ref 14])), (11, .inl (3, 6, .inr (.inr fun i => (h_open i).map fun j => 4 + j)))]))) rfl ?_
  exact T_O_machineChoice_96 (c := c) (mm := mm) (h_start := h_start) (h_end := h_end) (u_label := u_label) (u_left := u_left) (u_leftKinds := u_leftKinds) (u_here := u_here) (u_out := u_out) (u_into := u_into) (u_intoLabel := u_intoLabel) (u_dissolves := u_dissolves) (u_divides := u_divides) (u_other := u_other) (b_count := b_count) (c_lab := c_lab) (c_par := c_par) (c_hp := c_hp) (hc_b := hc_b) (hc_ba := hc_ba) (hc_c := hc_c) (hc_cl := hc_cl) (hc_cp := hc_cp) (hc_ch := hc_ch) (hu := hu) (hok_c := hok_c) hk24 n _ _ _ _ _ _ _ _ hM
theorem T_O_machineChoice_24 {X : Nat × (Nat → Int32)} {H : eH} {c : Nat} {mm : Int32} {h_start : Int32} {h_end : Int32} {u_label : Nat → Int32} {u_left : Nat → Int64} {u_leftKinds : Nat → Int64} {u_here : Nat → Int64} {u_out : Nat → Int64} {u_into : Nat → Int64} {u_intoLabel : Nat → Int32} {u_dissolves : Nat → Int32} {u_divides : Nat → Int32} {u_other : Nat → Int64} {b_count : Int32} {c_lab : Nat → Int32} {c_par : Nat → Int32} {c_hp : Nat → Int64} (hc_b : H.1 2 = some (.inr (6, [.ref 3, .int b_count]))) (hc_ba : H.1 3 = some (.inl (3, 6, .inr (.inr fun i => some (4 + i))))) (hc_c : H.1 c = some (.inr (3, [.ref (c + 1), .ref (c + 2), .ref (c + 3)]))) (hc_cl : H.1 (c + 1) = some (.inl (0, 6, .inl c_lab))) (hc_cp : H.1 (c + 2) = some (.inl (0, 6, .inl c_par))) (hc_ch : H.1 (c + 3) = some (.inl (1, 7, .inr (.inl c_hp)))) (hu : ∀ i, i < 6 → H.1 (4 + i) = some (.inr (5, [.int (nI i), .int (u_label i), .long (u_left i), .long (u_leftKinds i), .long (u_here i), .long (u_out i), .long (u_into i), .int (u_intoLabel i), .int (u_dissolves i), .int (u_divides i), .long (u_other i)]))) (hok_c : c = 20 ∨ c = 348 ∨ c = 352 ∨ (25 ≤ c ∧ c ≤ 341 ∧ c % 4 = 1)) : ∀ (n : Nat) (L4 : Int64) (L6 : Int32) (L7 : Int32) (L8 : Int32) (h_opens : Int32) (h_open : Nat → Option Nat) (res : Int32 × Int32 × (Nat → Option Nat)), O_machineChoice_24 u_left u_dissolves u_divides  n L4 L6 L7 L8 h_opens h_open = some res → eGs pP X 3 80 (24, [some (.ref 10), none, none, none, some (.long L4), none, some (.int L6), some (.int L7), some (.int L8), none], [], (eW2 H [(10, .inr (2, [.ref 11, .int h_opens, .ref 12, .int h_start, .int h_end, .ref 13, .ref 14])), (11, .inl (3, 6, .inr (.inr fun i => (h_open i).map fun j => 4 + j)))])) (.inl (some (.int res.1)), (eW2 H [(10, .inr (2, [.ref 11, .int res.2.1, .ref 12, .int h_start, .int h_end, .ref 13, .ref 14])), (11, .inl (3, 6, .inr (.inr fun i => (res.2.2 i).map fun j => 4 + j)))])) := by
  have hN : ([10, 11] : List Nat).Nodup := by first | decide | (simp <;> omega)
  have hO_b : 2 ∉ ([10, 11] : List Nat) := by first | decide | (simp <;> omega)
  have hO_ba : 3 ∉ ([10, 11] : List Nat) := by first | decide | (simp <;> omega)
  have hO_c : c ∉ ([10, 11] : List Nat) := by first | decide | (simp <;> omega)
  have hO_cl : c + 1 ∉ ([10, 11] : List Nat) := by first | decide | (simp <;> omega)
  have hO_cp : c + 2 ∉ ([10, 11] : List Nat) := by first | decide | (simp <;> omega)
  have hO_ch : c + 3 ∉ ([10, 11] : List Nat) := by first | decide | (simp <;> omega)
  have hOu : ∀ i, i < 6 → 4 + i ∉ ([10, 11] : List Nat) := fun i hi => by simp <;> omega
  intro n
  induction n with
  | zero =>
    intro L4 L6 L7 L8 h_opens h_open res hM
    cases hM
  | succ n ih =>
    intro L4 L6 L7 L8 h_opens h_open res hM
    rw [O_machineChoice_24] at hM
    refine eGs.steps 2 (y := (27, [some (.ref 10), none, none, none, some (.long L4), none, some (.int L6), some (.int L7), some (.int L8), none], [.ref 10, .int L8], (eW2 H [(10, .inr (2, [.ref 11, .int h_opens, .ref 12, .int h_start, .int h_end, .ref 13, .ref 14])), (11, .inl (3, 6, .inr (.inr fun i => (h_open i).map fun j => 4 + j)))]))) rfl ?_
    refine g_getf rfl rfl (by omega) (eW2_getA hN 0 rfl rfl) rfl ?_
    refine eGs.steps 0 (y := (30, [some (.ref 10), none, none, none, some (.long L4), none, some (.int L6), some (.int L7), some (.int L8), none], [.int h_opens, .int L8], (eW2 H [(10, .inr (2, [.ref 11, .int h_opens, .ref 12, .int h_start, .int h_end, .ref 13, .ref 14])), (11, .inl (3, 6, .inr (.inr fun i => (h_open i).map fun j => 4 + j)))]))) rfl ?_
    by_cases hc : h_opens ≤ L8
    · rw [if_pos hc] at hM
      refine g_icmp (cd := .ge) (t := 123) true rfl (decide_eq_true hc) rfl ?_
      refine eGs.steps 1 (y := (125, [some (.ref 10), none, none, none, some (.long L4), none, some (.int L6), some (.int L7), some (.int L8), none], [.int L7], (eW2 H [(10, .inr (2, [.ref 11, .int h_opens, .ref 12, .int h_start, .int h_end, .ref 13, .ref 14])), (11, .inl (3, 6, .inr (.inr fun i => (h_open i).map fun j => 4 + j)))]))) rfl ?_
      cases hM
      exact eGs.fin rfl rfl rfl
    · rw [if_neg hc] at hM
      refine g_icmp (cd := .ge) (t := 123) false rfl (decide_eq_false hc) rfl ?_
      refine eGs.steps 1 (y := (34, [some (.ref 10), none, none, none, some (.long L4), none, some (.int L6), some (.int L7), some (.int L8), none], [.ref 10], (eW2 H [(10, .inr (2, [.ref 11, .int h_opens, .ref 12, .int h_start, .int h_end, .ref 13, .ref 14])), (11, .inl (3, 6, .inr (.inr fun i => (h_open i).map fun j => 4 + j)))]))) rfl ?_
      refine g_getf rfl rfl (by omega) (eW2_getA hN 0 rfl rfl) rfl ?_
      refine eGs.steps 0 (y := (37, [some (.ref 10), none, none, none, some (.long L4), none, some (.int L6), some (.int L7), some (.int L8), none], [.ref 11], (eW2 H [(10, .inr (2, [.ref 11, .int h_opens, .ref 12, .int h_start, .int h_end, .ref 13, .ref 14])), (11, .inl (3, 6, .inr (.inr fun i => (h_open i).map fun j => 4 + j)))]))) rfl ?_
      refine eGs.steps 1 (y := (39, [some (.ref 10), none, none, none, some (.long L4), none, some (.int L6), some (.int L7), some (.int L8), none], [.int L8, .ref 11], (eW2 H [(10, .inr (2, [.ref 11, .int h_opens, .ref 12, .int h_start, .int h_end, .ref 13, .ref 14])), (11, .inl (3, 6, .inr (.inr fun i => (h_open i).map fun j => 4 + j)))]))) rfl ?_
      obtain ⟨hg3, hM⟩ := dg_none hM
      refine g_aald rfl (by omega) (eW2_getA hN 1 rfl rfl) rfl hg3 ?_
      cases ho_v4 : (h_open (L8).toNatClampNeg) with
      | none =>
        rw [ho_v4] at hM
        dsimp only at hM
        simp only [ho_v4, Option.map, eRf]
        refine eGs.steps 0 (y := (40, [some (.ref 10), none, none, none, some (.long L4), none, some (.int L6), some (.int L7), some (.int L8), none], [.null], (eW2 H [(10, .inr (2, [.ref 11, .int h_opens, .ref 12, .int h_start, .int h_end, .ref 13, .ref 14])), (11, .inl (3, 6, .inr (.inr fun i => (h_open i).map fun j => 4 + j)))]))) rfl ?_
        refine eGs.steps 2 (y := (44, [some (.ref 10), none, none, none, some (.long L4), none, some (.int L6), some (.int L7), some (.int L8), none], [.int L6, .long L4, .null], (eW2 H [(10, .inr (2, [.ref 11, .int h_opens, .ref 12, .int h_start, .int h_end, .ref 13, .ref 14])), (11, .inl (3, 6, .inr (.inr fun i => (h_open i).map fun j => 4 + j)))]))) rfl ?_
        cases hM
      | some v4 =>
        rw [ho_v4] at hM
        dsimp only at hM
        obtain ⟨hqv4, hM⟩ := dg_none hM
        simp only [ho_v4, Option.map, eRf]
        refine eGs.steps 0 (y := (40, [some (.ref 10), none, none, none, some (.long L4), none, some (.int L6), some (.int L7), some (.int L8), none], [.ref (4 + v4)], (eW2 H [(10, .inr (2, [.ref 11, .int h_opens, .ref 12, .int h_start, .int h_end, .ref 13, .ref 14])), (11, .inl (3, 6, .inr (.inr fun i => (h_open i).map fun j => 4 + j)))]))) rfl ?_
        refine eGs.steps 2 (y := (44, [some (.ref 10), none, none, none, some (.long L4), none, some (.int L6), some (.int L7), some (.int L8), none], [.int L6, .long L4, .ref (4 + v4)], (eW2 H [(10, .inr (2, [.ref 11, .int h_opens, .ref 12, .int h_start, .int h_end, .ref 13, .ref 14])), (11, .inl (3, 6, .inr (.inr fun i => (h_open i).map fun j => 4 + j)))]))) rfl ?_
        obtain ⟨v5, hv, hM⟩ := dg_bind hM
        have hE := T_R_mostUses (X := X) (H := (eW2 H [(10, .inr (2, [.ref 11, .int h_opens, .ref 12, .int h_start, .int h_end, .ref 13, .ref 14])), (11, .inl (3, 6, .inr (.inr fun i => (h_open i).map fun j => 4 + j)))])) (hc_r := ((eW2_offA (hOu _ (Nat.not_le.mp hqv4)) rfl).trans (hu _ (Nat.not_le.mp hqv4)))) (hz_r := by first | assumption | omega) hv
        refine g_callV rfl rfl rfl rfl rfl (by omega) ((eW2_offA (hOu _ (Nat.not_le.mp hqv4)) rfl).trans (hu _ (Nat.not_le.mp hqv4))) rfl (hE.mono (by decide)) ?_
        refine eGs.steps 0 (y := (47, [some (.ref 10), none, none, none, some (.long L4), none, some (.int L6), some (.int L7), some (.int L8), none], [.int v5], (eW2 H [(10, .inr (2, [.ref 11, .int h_opens, .ref 12, .int h_start, .int h_end, .ref 13, .ref 14])), (11, .inl (3, 6, .inr (.inr fun i => (h_open i).map fun j => 4 + j)))]))) rfl ?_
        refine eGs.steps 5 (y := (55, [some (.ref 10), none, none, none, some (.long L4), none, some (.int L6), some (.int L7), some (.int L8), some (.int v5)], [.ref 10, .long ((v5).toInt64), .long L4], (eW2 H [(10, .inr (2, [.ref 11, .int h_opens, .ref 12, .int h_start, .int h_end, .ref 13, .ref 14])), (11, .inl (3, 6, .inr (.inr fun i => (h_open i).map fun j => 4 + j)))]))) rfl ?_
        refine g_getf rfl rfl (by omega) (eW2_getA hN 0 rfl rfl) rfl ?_
        refine eGs.steps 0 (y := (58, [some (.ref 10), none, none, none, some (.long L4), none, some (.int L6), some (.int L7), some (.int L8), some (.int v5)], [.ref 11, .long ((v5).toInt64), .long L4], (eW2 H [(10, .inr (2, [.ref 11, .int h_opens, .ref 12, .int h_start, .int h_end, .ref 13, .ref 14])), (11, .inl (3, 6, .inr (.inr fun i => (h_open i).map fun j => 4 + j)))]))) rfl ?_
        refine eGs.steps 1 (y := (60, [some (.ref 10), none, none, none, some (.long L4), none, some (.int L6), some (.int L7), some (.int L8), some (.int v5)], [.int L8, .ref 11, .long ((v5).toInt64), .long L4], (eW2 H [(10, .inr (2, [.ref 11, .int h_opens, .ref 12, .int h_start, .int h_end, .ref 13, .ref 14])), (11, .inl (3, 6, .inr (.inr fun i => (h_open i).map fun j => 4 + j)))]))) rfl ?_
        obtain ⟨hg6, hM⟩ := dg_none hM
        refine g_aald rfl (by omega) (eW2_getA hN 1 rfl rfl) rfl hg6 ?_
        simp only [ho_v4, Option.map, eRf]
        refine eGs.steps 0 (y := (61, [some (.ref 10), none, none, none, some (.long L4), none, some (.int L6), some (.int L7), some (.int L8), some (.int v5)], [.ref (4 + v4), .long ((v5).toInt64), .long L4], (eW2 H [(10, .inr (2, [.ref 11, .int h_opens, .ref 12, .int h_start, .int h_end, .ref 13, .ref 14])), (11, .inl (3, 6, .inr (.inr fun i => (h_open i).map fun j => 4 + j)))]))) rfl ?_
        refine g_getf rfl rfl (by omega) ((eW2_offA (hOu _ (Nat.not_le.mp hqv4)) rfl).trans (hu _ (Nat.not_le.mp hqv4))) rfl ?_
        refine eGs.steps 0 (y := (64, [some (.ref 10), none, none, none, some (.long L4), none, some (.int L6), some (.int L7), some (.int L8), some (.int v5)], [.long (u_left v4), .long ((v5).toInt64), .long L4], (eW2 H [(10, .inr (2, [.ref 11, .int h_opens, .ref 12, .int h_start, .int h_end, .ref 13, .ref 14])), (11, .inl (3, 6, .inr (.inr fun i => (h_open i).map fun j => 4 + j)))]))) rfl ?_
        refine eGs.steps 4 (y := (70, [some (.ref 10), none, none, none, some (.long (L4 - ((v5).toInt64 * (u_left v4)))), none, some (.int L6), some (.int L7), some (.int L8), some (.int v5)], [.int L6], (eW2 H [(10, .inr (2, [.ref 11, .int h_opens, .ref 12, .int h_start, .int h_end, .ref 13, .ref 14])), (11, .inl (3, 6, .inr (.inr fun i => (h_open i).map fun j => 4 + j)))]))) rfl ?_
        by_cases hc : L6 = 0
        · rw [if_pos hc] at hM
          refine g_if (cd := .ne) (t := 91) false rfl (decide_eq_false (fun z => z hc)) rfl ?_
          refine eGs.steps 1 (y := (75, [some (.ref 10), none, none, none, some (.long (L4 - ((v5).toInt64 * (u_left v4)))), none, some (.int L6), some (.int L7), some (.int L8), some (.int v5)], [.int v5], (eW2 H [(10, .inr (2, [.ref 11, .int h_opens, .ref 12, .int h_start, .int h_end, .ref 13, .ref 14])), (11, .inl (3, 6, .inr (.inr fun i => (h_open i).map fun j => 4 + j)))]))) rfl ?_
          by_cases hc : v5 ≤ 0
          · rw [if_pos hc] at hM
            refine g_if (cd := .le) (t := 95) true rfl (decide_eq_true hc) rfl ?_
            refine eGs.weak (lo' := [some (.ref 10), none, none, none, some (.long (L4 - ((v5).toInt64 * (u_left v4)))), none, none, some (.int L7), some (.int L8), some (.int v5)]) (by repeat' first | exact trivial | exact rfl | constructor) ?_
            exact T_O_machineChoice_95 (c := c) (mm := mm) (h_start := h_start) (h_end := h_end) (u_label := u_label) (u_left := u_left) (u_leftKinds := u_leftKinds) (u_here := u_here) (u_out := u_out) (u_into := u_into) (u_intoLabel := u_intoLabel) (u_dissolves := u_dissolves) (u_divides := u_divides) (u_other := u_other) (b_count := b_count) (c_lab := c_lab) (c_par := c_par) (c_hp := c_hp) (hc_b := hc_b) (hc_ba := hc_ba) (hc_c := hc_c) (hc_cl := hc_cl) (hc_cp := hc_cp) (hc_ch := hc_ch) (hu := hu) (hok_c := hok_c) (fun x0 x1 x2 x3 x4 x5 res q => ih x0 x1 x2 x3 x4 x5 res q) n _ _ _ _ _ _ _ hM
          · rw [if_neg hc] at hM
            refine g_if (cd := .le) (t := 95) false rfl (decide_eq_false hc) rfl ?_
            refine eGs.steps 1 (y := (79, [some (.ref 10), none, none, none, some (.long (L4 - ((v5).toInt64 * (u_left v4)))), none, some (.int L6), some (.int L7), some (.int L8), some (.int v5)], [.ref 10], (eW2 H [(10, .inr (2, [.ref 11, .int h_opens, .ref 12, .int h_start, .int h_end, .ref 13, .ref 14])), (11, .inl (3, 6, .inr (.inr fun i => (h_open i).map fun j => 4 + j)))]))) rfl ?_
            refine g_getf rfl rfl (by omega) (eW2_getA hN 0 rfl rfl) rfl ?_
            refine eGs.steps 0 (y := (82, [some (.ref 10), none, none, none, some (.long (L4 - ((v5).toInt64 * (u_left v4)))), none, some (.int L6), some (.int L7), some (.int L8), some (.int v5)], [.ref 11], (eW2 H [(10, .inr (2, [.ref 11, .int h_opens, .ref 12, .int h_start, .int h_end, .ref 13, .ref 14])), (11, .inl (3, 6, .inr (.inr fun i => (h_open i).map fun j => 4 + j)))]))) rfl ?_
            refine eGs.steps 1 (y := (84, [some (.ref 10), none, none, none, some (.long (L4 - ((v5).toInt64 * (u_left v4)))), none, some (.int L6), some (.int L7), some (.int L8), some (.int v5)], [.int L8, .ref 11], (eW2 H [(10, .inr (2, [.ref 11, .int h_opens, .ref 12, .int h_start, .int h_end, .ref 13, .ref 14])), (11, .inl (3, 6, .inr (.inr fun i => (h_open i).map fun j => 4 + j)))]))) rfl ?_
            obtain ⟨hg7, hM⟩ := dg_none hM
            refine g_aald rfl (by omega) (eW2_getA hN 1 rfl rfl) rfl hg7 ?_
            simp only [ho_v4, Option.map, eRf]
            refine eGs.steps 0 (y := (85, [some (.ref 10), none, none, none, some (.long (L4 - ((v5).toInt64 * (u_left v4)))), none, some (.int L6), some (.int L7), some (.int L8), some (.int v5)], [.ref (4 + v4)], (eW2 H [(10, .inr (2, [.ref 11, .int h_opens, .ref 12, .int h_start, .int h_end, .ref 13, .ref 14])), (11, .inl (3, 6, .inr (.inr fun i => (h_open i).map fun j => 4 + j)))]))) rfl ?_
            obtain ⟨v8, hv, hM⟩ := dg_bind hM
            have hE := T_R_isOnce (X := X) (H := (eW2 H [(10, .inr (2, [.ref 11, .int h_opens, .ref 12, .int h_start, .int h_end, .ref 13, .ref 14])), (11, .inl (3, 6, .inr (.inr fun i => (h_open i).map fun j => 4 + j)))])) (hc_r := ((eW2_offA (hOu _ (Nat.not_le.mp hqv4)) rfl).trans (hu _ (Nat.not_le.mp hqv4)))) (hz_r := by first | assumption | omega) hv
            refine g_callV rfl rfl rfl rfl rfl (by omega) ((eW2_offA (hOu _ (Nat.not_le.mp hqv4)) rfl).trans (hu _ (Nat.not_le.mp hqv4))) rfl (hE.mono (by decide)) ?_
            refine eGs.steps 0 (y := (88, [some (.ref 10), none, none, none, some (.long (L4 - ((v5).toInt64 * (u_left v4)))), none, some (.int L6), some (.int L7), some (.int L8), some (.int v5)], [.int v8], (eW2 H [(10, .inr (2, [.ref 11, .int h_opens, .ref 12, .int h_start, .int h_end, .ref 13, .ref 14])), (11, .inl (3, 6, .inr (.inr fun i => (h_open i).map fun j => 4 + j)))]))) rfl ?_
            by_cases hc : v8 = 0
            · rw [if_pos hc] at hM
              refine g_if (cd := .eq) (t := 95) true rfl (decide_eq_true hc) rfl ?_
              refine eGs.weak (lo' := [some (.ref 10), none, none, none, some (.long (L4 - ((v5).toInt64 * (u_left v4)))), none, none, some (.int L7), some (.int L8), some (.int v5)]) (by repeat' first | exact trivial | exact rfl | constructor) ?_
              exact T_O_machineChoice_95 (c := c) (mm := mm) (h_start := h_start) (h_end := h_end) (u_label := u_label) (u_left := u_left) (u_leftKinds := u_leftKinds) (u_here := u_here) (u_out := u_out) (u_into := u_into) (u_intoLabel := u_intoLabel) (u_dissolves := u_dissolves) (u_divides := u_divides) (u_other := u_other) (b_count := b_count) (c_lab := c_lab) (c_par := c_par) (c_hp := c_hp) (hc_b := hc_b) (hc_ba := hc_ba) (hc_c := hc_c) (hc_cl := hc_cl) (hc_cp := hc_cp) (hc_ch := hc_ch) (hu := hu) (hok_c := hok_c) (fun x0 x1 x2 x3 x4 x5 res q => ih x0 x1 x2 x3 x4 x5 res q) n _ _ _ _ _ _ _ hM
            · rw [if_neg hc] at hM
              refine g_if (cd := .eq) (t := 95) false rfl (decide_eq_false hc) rfl ?_
              refine eGs.weak (lo' := [some (.ref 10), none, none, none, some (.long (L4 - ((v5).toInt64 * (u_left v4)))), none, none, some (.int L7), some (.int L8), some (.int v5)]) (by repeat' first | exact trivial | exact rfl | constructor) ?_
              exact T_O_machineChoice_91 (c := c) (mm := mm) (h_start := h_start) (h_end := h_end) (u_label := u_label) (u_left := u_left) (u_leftKinds := u_leftKinds) (u_here := u_here) (u_out := u_out) (u_into := u_into) (u_intoLabel := u_intoLabel) (u_dissolves := u_dissolves) (u_divides := u_divides) (u_other := u_other) (b_count := b_count) (c_lab := c_lab) (c_par := c_par) (c_hp := c_hp) (hc_b := hc_b) (hc_ba := hc_ba) (hc_c := hc_c) (hc_cl := hc_cl) (hc_cp := hc_cp) (hc_ch := hc_ch) (hu := hu) (hok_c := hok_c) (fun x0 x1 x2 x3 x4 x5 res q => ih x0 x1 x2 x3 x4 x5 res q) n _ _ _ _ _ _ _ hM
        · rw [if_neg hc] at hM
          refine g_if (cd := .ne) (t := 91) true rfl (decide_eq_true hc) rfl ?_
          refine eGs.weak (lo' := [some (.ref 10), none, none, none, some (.long (L4 - ((v5).toInt64 * (u_left v4)))), none, none, some (.int L7), some (.int L8), some (.int v5)]) (by repeat' first | exact trivial | exact rfl | constructor) ?_
          exact T_O_machineChoice_91 (c := c) (mm := mm) (h_start := h_start) (h_end := h_end) (u_label := u_label) (u_left := u_left) (u_leftKinds := u_leftKinds) (u_here := u_here) (u_out := u_out) (u_into := u_into) (u_intoLabel := u_intoLabel) (u_dissolves := u_dissolves) (u_divides := u_divides) (u_other := u_other) (b_count := b_count) (c_lab := c_lab) (c_par := c_par) (c_hp := c_hp) (hc_b := hc_b) (hc_ba := hc_ba) (hc_c := hc_c) (hc_cl := hc_cl) (hc_cp := hc_cp) (hc_ch := hc_ch) (hu := hu) (hok_c := hok_c) (fun x0 x1 x2 x3 x4 x5 res q => ih x0 x1 x2 x3 x4 x5 res q) n _ _ _ _ _ _ _ hM
theorem T_O_machineChoice {X : Nat × (Nat → Int32)} {H : eH} {c : Nat} {mm : Int32} {h_opens : Int32} {h_start : Int32} {h_end : Int32} {h_open : Nat → Option Nat} {u_label : Nat → Int32} {u_left : Nat → Int64} {u_leftKinds : Nat → Int64} {u_here : Nat → Int64} {u_out : Nat → Int64} {u_into : Nat → Int64} {u_intoLabel : Nat → Int32} {u_dissolves : Nat → Int32} {u_divides : Nat → Int32} {u_other : Nat → Int64} {b_count : Int32} {c_lab : Nat → Int32} {c_par : Nat → Int32} {c_hp : Nat → Int64} {n : Nat} {res : Int32 × Int32 × (Nat → Option Nat)} (hc_h : H.1 10 = some (.inr (2, [.ref 11, .int h_opens, .ref 12, .int h_start, .int h_end, .ref 13, .ref 14]))) (hc_ho : H.1 11 = some (.inl (3, 6, .inr (.inr fun i => (h_open i).map fun j => 4 + j)))) (hc_b : H.1 2 = some (.inr (6, [.ref 3, .int b_count]))) (hc_ba : H.1 3 = some (.inl (3, 6, .inr (.inr fun i => some (4 + i))))) (hc_c : H.1 c = some (.inr (3, [.ref (c + 1), .ref (c + 2), .ref (c + 3)]))) (hc_cl : H.1 (c + 1) = some (.inl (0, 6, .inl c_lab))) (hc_cp : H.1 (c + 2) = some (.inl (0, 6, .inl c_par))) (hc_ch : H.1 (c + 3) = some (.inl (1, 7, .inr (.inl c_hp)))) (hu : ∀ i, i < 6 → H.1 (4 + i) = some (.inr (5, [.int (nI i), .int (u_label i), .long (u_left i), .long (u_leftKinds i), .long (u_here i), .long (u_out i), .long (u_into i), .int (u_intoLabel i), .int (u_dissolves i), .int (u_divides i), .long (u_other i)]))) (hok_c : c = 20 ∨ c = 348 ∨ c = 352 ∨ (25 ≤ c ∧ c ≤ 341 ∧ c % 4 = 1)) (hM : O_machineChoice n mm h_open u_label u_left u_into u_intoLabel u_dissolves u_divides b_count c_lab c_par c_hp = some res) : eEv pP X 4 80 [.ref 10, .ref 2, .ref c, .int mm] H (.inl (some (.int res.1)), (eW2 H [(10, .inr (2, [.ref 11, .int res.2.1, .ref 12, .int h_start, .int h_end, .ref 13, .ref 14])), (11, .inl (3, 6, .inr (.inr fun i => (res.2.2 i).map fun j => 4 + j)))])) := by
  have hN : ([10, 11] : List Nat).Nodup := by first | decide | (simp <;> omega)
  have hO_b : 2 ∉ ([10, 11] : List Nat) := by first | decide | (simp <;> omega)
  have hO_ba : 3 ∉ ([10, 11] : List Nat) := by first | decide | (simp <;> omega)
  have hO_c : c ∉ ([10, 11] : List Nat) := by first | decide | (simp <;> omega)
  have hO_cl : c + 1 ∉ ([10, 11] : List Nat) := by first | decide | (simp <;> omega)
  have hO_cp : c + 2 ∉ ([10, 11] : List Nat) := by first | decide | (simp <;> omega)
  have hO_ch : c + 3 ∉ ([10, 11] : List Nat) := by first | decide | (simp <;> omega)
  have hOu : ∀ i, i < 6 → 4 + i ∉ ([10, 11] : List Nat) := fun i hi => by simp <;> omega
  have h0 : (eW2 H [(10, .inr (2, [.ref 11, .int h_opens, .ref 12, .int h_start, .int h_end, .ref 13, .ref 14])), (11, .inl (3, 6, .inr (.inr fun i => (h_open i).map fun j => 4 + j)))]) = H := eW2_self (by simp only [List.forall_mem_cons]; exact ⟨hc_h, hc_ho, fun _ h => absurd h List.not_mem_nil⟩)
  rw [show eEv pP X 4 80 _ H = eEv pP X 4 80 _ (eW2 H [(10, .inr (2, [.ref 11, .int h_opens, .ref 12, .int h_start, .int h_end, .ref 13, .ref 14])), (11, .inl (3, 6, .inr (.inr fun i => (h_open i).map fun j => 4 + j)))]) by rw [h0]]
  refine eEv.of (Nat.not_lt.mpr (Nat.le_of_ble_eq_true rfl)) ?_
  refine eGs.steps 0 (y := (0, [some (.ref 10), some (.ref 2), some (.ref c), some (.int mm), none, none, none, none, none, none], [], (eW2 H [(10, .inr (2, [.ref 11, .int h_opens, .ref 12, .int h_start, .int h_end, .ref 13, .ref 14])), (11, .inl (3, 6, .inr (.inr fun i => (h_open i).map fun j => 4 + j)))]))) rfl ?_
  unfold O_machineChoice at hM
  refine eGs.steps 4 (y := (4, [some (.ref 10), some (.ref 2), some (.ref c), some (.int mm), none, none, none, none, none, none], [.int mm, .ref c, .ref 2, .ref 10], (eW2 H [(10, .inr (2, [.ref 11, .int h_opens, .ref 12, .int h_start, .int h_end, .ref 13, .ref 14])), (11, .inl (3, 6, .inr (.inr fun i => (h_open i).map fun j => 4 + j)))]))) rfl ?_
  obtain ⟨v1, hv, hM⟩ := dg_bind hM
  have hE := eEv_putA (T_O_gatherOpen (X := X) (H := (eW2 H [(10, .inr (2, [.ref 11, .int h_opens, .ref 12, .int h_start, .int h_end, .ref 13, .ref 14])), (11, .inl (3, 6, .inr (.inr fun i => (h_open i).map fun j => 4 + j)))])) (hc_h := (eW2_getA hN 0 rfl rfl)) (hc_ho := (eW2_getA hN 1 rfl rfl)) (hc_b := ((eW2_offA hO_b rfl).trans hc_b)) (hc_ba := ((eW2_offA hO_ba rfl).trans hc_ba)) (hc_c := ((eW2_offA hO_c rfl).trans hc_c)) (hc_cl := ((eW2_offA hO_cl rfl).trans hc_cl)) (hc_cp := ((eW2_offA hO_cp rfl).trans hc_cp)) (hu := fun i hi => (eW2_offA (hOu i hi) rfl).trans (hu i hi)) (hok_c := by first | assumption | omega) hv) [0, 1] hN rfl (by first | decide | (simp <;> omega)) rfl (eFor2_ok rfl)
  refine g_callV rfl rfl rfl rfl rfl (by omega) (eW2_getA hN 0 rfl rfl) rfl (hE.mono (by decide)) ?_
  refine eGs.steps 0 (y := (7, [some (.ref 10), some (.ref 2), some (.ref c), some (.int mm), none, none, none, none, none, none], [], (eW2 H [(10, .inr (2, [.ref 11, .int v1.1, .ref 12, .int h_start, .int h_end, .ref 13, .ref 14])), (11, .inl (3, 6, .inr (.inr fun i => (v1.2 i).map fun j => 4 + j)))]))) rfl ?_
  refine eGs.steps 1 (y := (8, [some (.ref 10), some (.ref 2), some (.ref c), some (.int mm), none, none, none, none, none, none], [.ref c], (eW2 H [(10, .inr (2, [.ref 11, .int v1.1, .ref 12, .int h_start, .int h_end, .ref 13, .ref 14])), (11, .inl (3, 6, .inr (.inr fun i => (v1.2 i).map fun j => 4 + j)))]))) rfl ?_
  refine g_getf rfl rfl (by omega) ((eW2_offA hO_c rfl).trans hc_c) rfl ?_
  refine eGs.steps 0 (y := (11, [some (.ref 10), some (.ref 2), some (.ref c), some (.int mm), none, none, none, none, none, none], [.ref (c + 3)], (eW2 H [(10, .inr (2, [.ref 11, .int v1.1, .ref 12, .int h_start, .int h_end, .ref 13, .ref 14])), (11, .inl (3, 6, .inr (.inr fun i => (v1.2 i).map fun j => 4 + j)))]))) rfl ?_
  refine eGs.steps 1 (y := (12, [some (.ref 10), some (.ref 2), some (.ref c), some (.int mm), none, none, none, none, none, none], [.int mm, .ref (c + 3)], (eW2 H [(10, .inr (2, [.ref 11, .int v1.1, .ref 12, .int h_start, .int h_end, .ref 13, .ref 14])), (11, .inl (3, 6, .inr (.inr fun i => (v1.2 i).map fun j => 4 + j)))]))) rfl ?_
  obtain ⟨hg2, hM⟩ := dg_none hM
  refine g_lald rfl (by omega) ((eW2_offA hO_ch rfl).trans hc_ch) hg2 ?_
  refine eGs.steps 0 (y := (13, [some (.ref 10), some (.ref 2), some (.ref c), some (.int mm), none, none, none, none, none, none], [.long (c_hp (mm).toNatClampNeg)], (eW2 H [(10, .inr (2, [.ref 11, .int v1.1, .ref 12, .int h_start, .int h_end, .ref 13, .ref 14])), (11, .inl (3, 6, .inr (.inr fun i => (v1.2 i).map fun j => 4 + j)))]))) rfl ?_
  refine eGs.steps 7 (y := (24, [some (.ref 10), some (.ref 2), some (.ref c), some (.int mm), some (.long (c_hp (mm).toNatClampNeg)), none, some (.int (0 : Int32)), some (.int (0 : Int32)), some (.int (0 : Int32)), none], [], (eW2 H [(10, .inr (2, [.ref 11, .int v1.1, .ref 12, .int h_start, .int h_end, .ref 13, .ref 14])), (11, .inl (3, 6, .inr (.inr fun i => (v1.2 i).map fun j => 4 + j)))]))) rfl ?_
  refine eGs.weak (lo' := [some (.ref 10), none, none, none, some (.long (c_hp (mm).toNatClampNeg)), none, some (.int (0 : Int32)), some (.int (0 : Int32)), some (.int (0 : Int32)), none]) (by repeat' first | exact trivial | exact rfl | constructor) ?_
  exact T_O_machineChoice_24 (c := c) (mm := mm) (h_start := h_start) (h_end := h_end) (u_label := u_label) (u_left := u_left) (u_leftKinds := u_leftKinds) (u_here := u_here) (u_out := u_out) (u_into := u_into) (u_intoLabel := u_intoLabel) (u_dissolves := u_dissolves) (u_divides := u_divides) (u_other := u_other) (b_count := b_count) (c_lab := c_lab) (c_par := c_par) (c_hp := c_hp) (hc_b := hc_b) (hc_ba := hc_ba) (hc_c := hc_c) (hc_cl := hc_cl) (hc_cp := hc_cp) (hc_ch := hc_ch) (hu := hu) (hok_c := hok_c) n _ _ _ _ _ _ _ hM
def O_canBecomeMaximal_121 (rest : Int64) (h_open : Nat → Option Nat) (u_left : Nat → Int64) (u_leftKinds : Nat → Int64) (k92 : (Int64) → (Int32) → (Int32) → Option (Int32)) (n : Nat) (L5 : Int64) (L7 : Int32) (L8 : Int32) (S0 : Int32) : Option (Int32) :=
  if L8 < 0 ∨ 6 ≤ (L8).toNatClampNeg then none else (match (h_open (L8).toNatClampNeg) with | none => (none) | some v11 => if 6 ≤ v11 then none else (if L8 < 0 ∨ 6 ≤ (L8).toNatClampNeg then none else (if S0 = 0 then ((H_holds n rest ((u_left v11) + (L5 &&& (u_leftKinds v11)))).bind fun v13 => (if v13 = 0 then (k92 L5 L7 (L8 + (1 : Int32))) else (some ((0 : Int32) &&& 1)))) else (k92 L5 L7 (L8 + (1 : Int32))))))
def O_canBecomeMaximal_120 (rest : Int64) (h_open : Nat → Option Nat) (u_left : Nat → Int64) (u_leftKinds : Nat → Int64) (k92 : (Int64) → (Int32) → (Int32) → Option (Int32)) (n : Nat) (L5 : Int64) (L7 : Int32) (L8 : Int32) : Option (Int32) :=
  O_canBecomeMaximal_121 rest h_open u_left u_leftKinds k92 n L5 L7 L8 (0 : Int32)
def O_canBecomeMaximal_92 (position : Int32) (rest : Int64) (h_open : Nat → Option Nat) (u_left : Nat → Int64) (u_leftKinds : Nat → Int64) (u_dissolves : Nat → Int32) (u_divides : Nat → Int32)  : Nat → (Int64) → (Int32) → (Int32) → Option (Int32)
  | 0, _, _, _ => none
  | n + 1, L5, L7, L8 =>
    if position ≤ L8 then (some ((1 : Int32) &&& 1)) else (if L8 < 0 ∨ 6 ≤ (L8).toNatClampNeg then none else (match (h_open (L8).toNatClampNeg) with | none => (none) | some v8 => if 6 ≤ v8 then none else ((R_isOnce n (u_dissolves v8) (u_divides v8)).bind fun v9 => (if v9 = 0 then (O_canBecomeMaximal_120 rest h_open u_left u_leftKinds (O_canBecomeMaximal_92 position rest h_open u_left u_leftKinds u_dissolves u_divides n) n L5 L7 L8) else (if L7 = 0 then (O_canBecomeMaximal_120 rest h_open u_left u_leftKinds (O_canBecomeMaximal_92 position rest h_open u_left u_leftKinds u_dissolves u_divides n) n L5 L7 L8) else (O_canBecomeMaximal_121 rest h_open u_left u_leftKinds (O_canBecomeMaximal_92 position rest h_open u_left u_leftKinds u_dissolves u_divides n) n L5 L7 L8 (1 : Int32)))))))
def O_canBecomeMaximal_10 (position : Int32) (rest : Int64) (once : Int32) (h_opens : Int32) (h_open : Nat → Option Nat) (u_left : Nat → Int64) (u_leftKinds : Nat → Int64) (u_dissolves : Nat → Int32) (u_divides : Nat → Int32)  : Nat → (Int64) → (Int32) → (Int32) → Option (Int32)
  | 0, _, _, _ => none
  | n + 1, L5, L7, L8 =>
    if h_opens ≤ L8 then (O_canBecomeMaximal_92 position rest h_open u_left u_leftKinds u_dissolves u_divides n L5 L7 (0 : Int32)) else (if L8 < 0 ∨ 6 ≤ (L8).toNatClampNeg then none else (match (h_open (L8).toNatClampNeg) with | none => (none) | some v2 => if 6 ≤ v2 then none else ((R_mostUses n rest once (u_left v2) (u_dissolves v2) (u_divides v2)).bind fun v3 => (if L8 < 0 ∨ 6 ≤ (L8).toNatClampNeg then none else (if L7 = 0 then (if v3 ≤ 0 then (O_canBecomeMaximal_10 position rest once h_opens h_open u_left u_leftKinds u_dissolves u_divides n (L5 + ((v3).toInt64 * (u_left v2))) (0 : Int32) (L8 + (1 : Int32))) else (if L8 < 0 ∨ 6 ≤ (L8).toNatClampNeg then none else ((R_isOnce n (u_dissolves v2) (u_divides v2)).bind fun v6 => (if v6 = 0 then (O_canBecomeMaximal_10 position rest once h_opens h_open u_left u_leftKinds u_dissolves u_divides n (L5 + ((v3).toInt64 * (u_left v2))) (0 : Int32) (L8 + (1 : Int32))) else (O_canBecomeMaximal_10 position rest once h_opens h_open u_left u_leftKinds u_dissolves u_divides n (L5 + ((v3).toInt64 * (u_left v2))) (1 : Int32) (L8 + (1 : Int32))))))) else (O_canBecomeMaximal_10 position rest once h_opens h_open u_left u_leftKinds u_dissolves u_divides n (L5 + ((v3).toInt64 * (u_left v2))) (1 : Int32) (L8 + (1 : Int32))))))))
def O_canBecomeMaximal (n : Nat) (position : Int32) (rest : Int64) (once : Int32) (h_opens : Int32) (h_open : Nat → Option Nat) (u_left : Nat → Int64) (u_leftKinds : Nat → Int64) (u_dissolves : Nat → Int32) (u_divides : Nat → Int32) : Option (Int32) :=
  O_canBecomeMaximal_10 position rest once h_opens h_open u_left u_leftKinds u_dissolves u_divides n (0 : Int64) once position
theorem T_O_canBecomeMaximal_121 {X : Nat × (Nat → Int32)} {H : eH} {position : Int32} {rest : Int64} {once : Int32} {h_opens : Int32} {h_start : Int32} {h_end : Int32} {h_open : Nat → Option Nat} {u_label : Nat → Int32} {u_left : Nat → Int64} {u_leftKinds : Nat → Int64} {u_here : Nat → Int64} {u_out : Nat → Int64} {u_into : Nat → Int64} {u_intoLabel : Nat → Int32} {u_dissolves : Nat → Int32} {u_divides : Nat → Int32} {u_other : Nat → Int64} {k92 : (Int64) → (Int32) → (Int32) → Option (Int32)} (hc_h : H.1 10 = some (.inr (2, [.ref 11, .int h_opens, .ref 12, .int h_start, .int h_end, .ref 13, .ref 14]))) (hc_ho : H.1 11 = some (.inl (3, 6, .inr (.inr fun i => (h_open i).map fun j => 4 + j)))) (hu : ∀ i, i < 6 → H.1 (4 + i) = some (.inr (5, [.int (nI i), .int (u_label i), .long (u_left i), .long (u_leftKinds i), .long (u_here i), .long (u_out i), .long (u_into i), .int (u_intoLabel i), .int (u_dissolves i), .int (u_divides i), .long (u_other i)]))) (hk92 : ∀ (y0 : Int64) (y1 : Int32) (y2 : Int32) (res : Int32), k92 y0 y1 y2 = some res → eGs pP X 2 88 (92, [some (.ref 10), some (.int position), some (.long rest), none, none, some (.long y0), none, some (.int y1), some (.int y2), none, none, none], [], H) (.inl (some (.int res)), H)) : ∀ (n : Nat) (L5 : Int64) (L7 : Int32) (L8 : Int32) (S0 : Int32) (res : Int32), O_canBecomeMaximal_121 rest h_open u_left u_leftKinds k92 n L5 L7 L8 S0 = some res → eGs pP X 2 88 (121, [some (.ref 10), some (.int position), some (.long rest), none, none, some (.long L5), none, some (.int L7), some (.int L8), none, none, none], [.int S0], H) (.inl (some (.int res)), H) := by
  intro n L5 L7 L8 S0 res hM
  unfold O_canBecomeMaximal_121 at hM
  refine eGs.steps 2 (y := (124, [some (.ref 10), some (.int position), some (.long rest), none, none, some (.long L5), none, some (.int L7), some (.int L8), some (.int S0), none, none], [.ref 10], H)) rfl ?_
  refine g_getf rfl rfl (by omega) hc_h rfl ?_
  refine eGs.steps 0 (y := (127, [some (.ref 10), some (.int position), some (.long rest), none, none, some (.long L5), none, some (.int L7), some (.int L8), some (.int S0), none, none], [.ref 11], H)) rfl ?_
  refine eGs.steps 1 (y := (129, [some (.ref 10), some (.int position), some (.long rest), none, none, some (.long L5), none, some (.int L7), some (.int L8), some (.int S0), none, none], [.int L8, .ref 11], H)) rfl ?_
  obtain ⟨hg10, hM⟩ := dg_none hM
  refine g_aald rfl (by omega) hc_ho rfl hg10 ?_
  cases ho_v11 : (h_open (L8).toNatClampNeg) with
  | none =>
    rw [ho_v11] at hM
    dsimp only at hM
    simp only [ho_v11, Option.map, eRf]
    refine eGs.steps 0 (y := (130, [some (.ref 10), some (.int position), some (.long rest), none, none, some (.long L5), none, some (.int L7), some (.int L8), some (.int S0), none, none], [.null], H)) rfl ?_
    cases hM
  | some v11 =>
    rw [ho_v11] at hM
    dsimp only at hM
    obtain ⟨hqv11, hM⟩ := dg_none hM
    simp only [ho_v11, Option.map, eRf]
    refine eGs.steps 0 (y := (130, [some (.ref 10), some (.int position), some (.long rest), none, none, some (.long L5), none, some (.int L7), some (.int L8), some (.int S0), none, none], [.ref (4 + v11)], H)) rfl ?_
    refine g_getf rfl rfl (by omega) (hu _ (Nat.not_le.mp hqv11)) rfl ?_
    refine eGs.steps 0 (y := (133, [some (.ref 10), some (.int position), some (.long rest), none, none, some (.long L5), none, some (.int L7), some (.int L8), some (.int S0), none, none], [.long (u_left v11)], H)) rfl ?_
    refine eGs.steps 2 (y := (136, [some (.ref 10), some (.int position), some (.long rest), none, none, some (.long L5), none, some (.int L7), some (.int L8), some (.int S0), none, none], [.ref 10, .long L5, .long (u_left v11)], H)) rfl ?_
    refine g_getf rfl rfl (by omega) hc_h rfl ?_
    refine eGs.steps 0 (y := (139, [some (.ref 10), some (.int position), some (.long rest), none, none, some (.long L5), none, some (.int L7), some (.int L8), some (.int S0), none, none], [.ref 11, .long L5, .long (u_left v11)], H)) rfl ?_
    refine eGs.steps 1 (y := (141, [some (.ref 10), some (.int position), some (.long rest), none, none, some (.long L5), none, some (.int L7), some (.int L8), some (.int S0), none, none], [.int L8, .ref 11, .long L5, .long (u_left v11)], H)) rfl ?_
    obtain ⟨hg12, hM⟩ := dg_none hM
    refine g_aald rfl (by omega) hc_ho rfl hg12 ?_
    simp only [ho_v11, Option.map, eRf]
    refine eGs.steps 0 (y := (142, [some (.ref 10), some (.int position), some (.long rest), none, none, some (.long L5), none, some (.int L7), some (.int L8), some (.int S0), none, none], [.ref (4 + v11), .long L5, .long (u_left v11)], H)) rfl ?_
    refine g_getf rfl rfl (by omega) (hu _ (Nat.not_le.mp hqv11)) rfl ?_
    refine eGs.steps 0 (y := (145, [some (.ref 10), some (.int position), some (.long rest), none, none, some (.long L5), none, some (.int L7), some (.int L8), some (.int S0), none, none], [.long (u_leftKinds v11), .long L5, .long (u_left v11)], H)) rfl ?_
    refine eGs.steps 4 (y := (151, [some (.ref 10), some (.int position), some (.long rest), none, none, some (.long L5), none, some (.int L7), some (.int L8), some (.int S0), some (.long ((u_left v11) + (L5 &&& (u_leftKinds v11)))), none], [.int S0], H)) rfl ?_
    by_cases hc : S0 = 0
    · rw [if_pos hc] at hM
      refine g_if (cd := .ne) (t := 165) false rfl (decide_eq_false (fun z => z hc)) rfl ?_
      refine eGs.steps 2 (y := (157, [some (.ref 10), some (.int position), some (.long rest), none, none, some (.long L5), none, some (.int L7), some (.int L8), some (.int S0), some (.long ((u_left v11) + (L5 &&& (u_leftKinds v11)))), none], [.long ((u_left v11) + (L5 &&& (u_leftKinds v11))), .long rest], H)) rfl ?_
      obtain ⟨v13, hv, hM⟩ := dg_bind hM
      have hE := T_H_holds (X := X) (H := H)  hv
      refine g_callS rfl rfl rfl rfl rfl (hE.mono (by decide)) ?_
      refine eGs.steps 0 (y := (160, [some (.ref 10), some (.int position), some (.long rest), none, none, some (.long L5), none, some (.int L7), some (.int L8), some (.int S0), some (.long ((u_left v11) + (L5 &&& (u_leftKinds v11)))), none], [.int v13], H)) rfl ?_
      by_cases hc : v13 = 0
      · rw [if_pos hc] at hM
        refine g_if (cd := .eq) (t := 165) true rfl (decide_eq_true hc) rfl ?_
        refine eGs.steps 2 (y := (92, [some (.ref 10), some (.int position), some (.long rest), none, none, some (.long L5), none, some (.int L7), some (.int (L8 + (1 : Int32))), some (.int S0), some (.long ((u_left v11) + (L5 &&& (u_leftKinds v11)))), none], [], H)) rfl ?_
        refine eGs.weak (lo' := [some (.ref 10), some (.int position), some (.long rest), none, none, some (.long L5), none, some (.int L7), some (.int (L8 + (1 : Int32))), none, none, none]) (by repeat' first | exact trivial | exact rfl | constructor) ?_
        exact hk92 _ _ _ _ hM
      · rw [if_neg hc] at hM
        refine g_if (cd := .eq) (t := 165) false rfl (decide_eq_false hc) rfl ?_
        refine eGs.steps 1 (y := (164, [some (.ref 10), some (.int position), some (.long rest), none, none, some (.long L5), none, some (.int L7), some (.int L8), some (.int S0), some (.long ((u_left v11) + (L5 &&& (u_leftKinds v11)))), none], [.int (0 : Int32)], H)) rfl ?_
        cases hM
        exact eGs.fin rfl rfl rfl
    · rw [if_neg hc] at hM
      refine g_if (cd := .ne) (t := 165) true rfl (decide_eq_true hc) rfl ?_
      refine eGs.steps 2 (y := (92, [some (.ref 10), some (.int position), some (.long rest), none, none, some (.long L5), none, some (.int L7), some (.int (L8 + (1 : Int32))), some (.int S0), some (.long ((u_left v11) + (L5 &&& (u_leftKinds v11)))), none], [], H)) rfl ?_
      refine eGs.weak (lo' := [some (.ref 10), some (.int position), some (.long rest), none, none, some (.long L5), none, some (.int L7), some (.int (L8 + (1 : Int32))), none, none, none]) (by repeat' first | exact trivial | exact rfl | constructor) ?_
      exact hk92 _ _ _ _ hM
theorem T_O_canBecomeMaximal_120 {X : Nat × (Nat → Int32)} {H : eH} {position : Int32} {rest : Int64} {once : Int32} {h_opens : Int32} {h_start : Int32} {h_end : Int32} {h_open : Nat → Option Nat} {u_label : Nat → Int32} {u_left : Nat → Int64} {u_leftKinds : Nat → Int64} {u_here : Nat → Int64} {u_out : Nat → Int64} {u_into : Nat → Int64} {u_intoLabel : Nat → Int32} {u_dissolves : Nat → Int32} {u_divides : Nat → Int32} {u_other : Nat → Int64} {k92 : (Int64) → (Int32) → (Int32) → Option (Int32)} (hc_h : H.1 10 = some (.inr (2, [.ref 11, .int h_opens, .ref 12, .int h_start, .int h_end, .ref 13, .ref 14]))) (hc_ho : H.1 11 = some (.inl (3, 6, .inr (.inr fun i => (h_open i).map fun j => 4 + j)))) (hu : ∀ i, i < 6 → H.1 (4 + i) = some (.inr (5, [.int (nI i), .int (u_label i), .long (u_left i), .long (u_leftKinds i), .long (u_here i), .long (u_out i), .long (u_into i), .int (u_intoLabel i), .int (u_dissolves i), .int (u_divides i), .long (u_other i)]))) (hk92 : ∀ (y0 : Int64) (y1 : Int32) (y2 : Int32) (res : Int32), k92 y0 y1 y2 = some res → eGs pP X 2 88 (92, [some (.ref 10), some (.int position), some (.long rest), none, none, some (.long y0), none, some (.int y1), some (.int y2), none, none, none], [], H) (.inl (some (.int res)), H)) : ∀ (n : Nat) (L5 : Int64) (L7 : Int32) (L8 : Int32) (res : Int32), O_canBecomeMaximal_120 rest h_open u_left u_leftKinds k92 n L5 L7 L8 = some res → eGs pP X 2 88 (120, [some (.ref 10), some (.int position), some (.long rest), none, none, some (.long L5), none, some (.int L7), some (.int L8), none, none, none], [], H) (.inl (some (.int res)), H) := by
  intro n L5 L7 L8 res hM
  unfold O_canBecomeMaximal_120 at hM
  refine eGs.steps 1 (y := (121, [some (.ref 10), some (.int position), some (.long rest), none, none, some (.long L5), none, some (.int L7), some (.int L8), none, none, none], [.int (0 : Int32)], H)) rfl ?_
  exact T_O_canBecomeMaximal_121 (position := position) (rest := rest) (once := once) (h_opens := h_opens) (h_start := h_start) (h_end := h_end) (h_open := h_open) (u_label := u_label) (u_left := u_left) (u_leftKinds := u_leftKinds) (u_here := u_here) (u_out := u_out) (u_into := u_into) (u_intoLabel := u_intoLabel) (u_dissolves := u_dissolves) (u_divides := u_divides) (u_other := u_other) (hc_h := hc_h) (hc_ho := hc_ho) (hu := hu) hk92 n _ _ _ _ _ hM
theorem T_O_canBecomeMaximal_92 {X : Nat × (Nat → Int32)} {H : eH} {position : Int32} {rest : Int64} {once : Int32} {h_opens : Int32} {h_start : Int32} {h_end : Int32} {h_open : Nat → Option Nat} {u_label : Nat → Int32} {u_left : Nat → Int64} {u_leftKinds : Nat → Int64} {u_here : Nat → Int64} {u_out : Nat → Int64} {u_into : Nat → Int64} {u_intoLabel : Nat → Int32} {u_dissolves : Nat → Int32} {u_divides : Nat → Int32} {u_other : Nat → Int64} (hc_h : H.1 10 = some (.inr (2, [.ref 11, .int h_opens, .ref 12, .int h_start, .int h_end, .ref 13, .ref 14]))) (hc_ho : H.1 11 = some (.inl (3, 6, .inr (.inr fun i => (h_open i).map fun j => 4 + j)))) (hu : ∀ i, i < 6 → H.1 (4 + i) = some (.inr (5, [.int (nI i), .int (u_label i), .long (u_left i), .long (u_leftKinds i), .long (u_here i), .long (u_out i), .long (u_into i), .int (u_intoLabel i), .int (u_dissolves i), .int (u_divides i), .long (u_other i)]))) : ∀ (n : Nat) (L5 : Int64) (L7 : Int32) (L8 : Int32) (res : Int32), O_canBecomeMaximal_92 position rest h_open u_left u_leftKinds u_dissolves u_divides  n L5 L7 L8 = some res → eGs pP X 2 88 (92, [some (.ref 10), some (.int position), some (.long rest), none, none, some (.long L5), none, some (.int L7), some (.int L8), none, none, none], [], H) (.inl (some (.int res)), H) := by
  intro n
  induction n with
  | zero =>
    intro L5 L7 L8 res hM
    cases hM
  | succ n ih =>
    intro L5 L7 L8 res hM
    rw [O_canBecomeMaximal_92] at hM
    refine eGs.steps 2 (y := (95, [some (.ref 10), some (.int position), some (.long rest), none, none, some (.long L5), none, some (.int L7), some (.int L8), none, none, none], [.int position, .int L8], H)) rfl ?_
    by_cases hc : position ≤ L8
    · rw [if_pos hc] at hM
      refine g_icmp (cd := .ge) (t := 171) true rfl (decide_eq_true hc) rfl ?_
      refine eGs.steps 1 (y := (172, [some (.ref 10), some (.int position), some (.long rest), none, none, some (.long L5), none, some (.int L7), some (.int L8), none, none, none], [.int (1 : Int32)], H)) rfl ?_
      cases hM
      exact eGs.fin rfl rfl rfl
    · rw [if_neg hc] at hM
      refine g_icmp (cd := .ge) (t := 171) false rfl (decide_eq_false hc) rfl ?_
      refine eGs.steps 1 (y := (99, [some (.ref 10), some (.int position), some (.long rest), none, none, some (.long L5), none, some (.int L7), some (.int L8), none, none, none], [.ref 10], H)) rfl ?_
      refine g_getf rfl rfl (by omega) hc_h rfl ?_
      refine eGs.steps 0 (y := (102, [some (.ref 10), some (.int position), some (.long rest), none, none, some (.long L5), none, some (.int L7), some (.int L8), none, none, none], [.ref 11], H)) rfl ?_
      refine eGs.steps 1 (y := (104, [some (.ref 10), some (.int position), some (.long rest), none, none, some (.long L5), none, some (.int L7), some (.int L8), none, none, none], [.int L8, .ref 11], H)) rfl ?_
      obtain ⟨hg7, hM⟩ := dg_none hM
      refine g_aald rfl (by omega) hc_ho rfl hg7 ?_
      cases ho_v8 : (h_open (L8).toNatClampNeg) with
      | none =>
        rw [ho_v8] at hM
        dsimp only at hM
        simp only [ho_v8, Option.map, eRf]
        refine eGs.steps 0 (y := (105, [some (.ref 10), some (.int position), some (.long rest), none, none, some (.long L5), none, some (.int L7), some (.int L8), none, none, none], [.null], H)) rfl ?_
        cases hM
      | some v8 =>
        rw [ho_v8] at hM
        dsimp only at hM
        obtain ⟨hqv8, hM⟩ := dg_none hM
        simp only [ho_v8, Option.map, eRf]
        refine eGs.steps 0 (y := (105, [some (.ref 10), some (.int position), some (.long rest), none, none, some (.long L5), none, some (.int L7), some (.int L8), none, none, none], [.ref (4 + v8)], H)) rfl ?_
        obtain ⟨v9, hv, hM⟩ := dg_bind hM
        have hE := T_R_isOnce (X := X) (H := H) (hc_r := (hu _ (Nat.not_le.mp hqv8))) (hz_r := by first | assumption | omega) hv
        refine g_callV rfl rfl rfl rfl rfl (by omega) (hu _ (Nat.not_le.mp hqv8)) rfl (hE.mono (by decide)) ?_
        refine eGs.steps 0 (y := (108, [some (.ref 10), some (.int position), some (.long rest), none, none, some (.long L5), none, some (.int L7), some (.int L8), none, none, none], [.int v9], H)) rfl ?_
        by_cases hc : v9 = 0
        · rw [if_pos hc] at hM
          refine g_if (cd := .eq) (t := 120) true rfl (decide_eq_true hc) rfl ?_
          exact T_O_canBecomeMaximal_120 (position := position) (rest := rest) (once := once) (h_opens := h_opens) (h_start := h_start) (h_end := h_end) (h_open := h_open) (u_label := u_label) (u_left := u_left) (u_leftKinds := u_leftKinds) (u_here := u_here) (u_out := u_out) (u_into := u_into) (u_intoLabel := u_intoLabel) (u_dissolves := u_dissolves) (u_divides := u_divides) (u_other := u_other) (hc_h := hc_h) (hc_ho := hc_ho) (hu := hu) (fun x0 x1 x2 res q => ih x0 x1 x2 res q) n _ _ _ _ hM
        · rw [if_neg hc] at hM
          refine g_if (cd := .eq) (t := 120) false rfl (decide_eq_false hc) rfl ?_
          refine eGs.steps 1 (y := (113, [some (.ref 10), some (.int position), some (.long rest), none, none, some (.long L5), none, some (.int L7), some (.int L8), none, none, none], [.int L7], H)) rfl ?_
          by_cases hc : L7 = 0
          · rw [if_pos hc] at hM
            refine g_if (cd := .eq) (t := 120) true rfl (decide_eq_true hc) rfl ?_
            exact T_O_canBecomeMaximal_120 (position := position) (rest := rest) (once := once) (h_opens := h_opens) (h_start := h_start) (h_end := h_end) (h_open := h_open) (u_label := u_label) (u_left := u_left) (u_leftKinds := u_leftKinds) (u_here := u_here) (u_out := u_out) (u_into := u_into) (u_intoLabel := u_intoLabel) (u_dissolves := u_dissolves) (u_divides := u_divides) (u_other := u_other) (hc_h := hc_h) (hc_ho := hc_ho) (hu := hu) (fun x0 x1 x2 res q => ih x0 x1 x2 res q) n _ _ _ _ hM
          · rw [if_neg hc] at hM
            refine g_if (cd := .eq) (t := 120) false rfl (decide_eq_false hc) rfl ?_
            refine eGs.steps 2 (y := (121, [some (.ref 10), some (.int position), some (.long rest), none, none, some (.long L5), none, some (.int L7), some (.int L8), none, none, none], [.int (1 : Int32)], H)) rfl ?_
            exact T_O_canBecomeMaximal_121 (position := position) (rest := rest) (once := once) (h_opens := h_opens) (h_start := h_start) (h_end := h_end) (h_open := h_open) (u_label := u_label) (u_left := u_left) (u_leftKinds := u_leftKinds) (u_here := u_here) (u_out := u_out) (u_into := u_into) (u_intoLabel := u_intoLabel) (u_dissolves := u_dissolves) (u_divides := u_divides) (u_other := u_other) (hc_h := hc_h) (hc_ho := hc_ho) (hu := hu) (fun x0 x1 x2 res q => ih x0 x1 x2 res q) n _ _ _ _ _ hM
theorem T_O_canBecomeMaximal_10 {X : Nat × (Nat → Int32)} {H : eH} {position : Int32} {rest : Int64} {once : Int32} {h_opens : Int32} {h_start : Int32} {h_end : Int32} {h_open : Nat → Option Nat} {u_label : Nat → Int32} {u_left : Nat → Int64} {u_leftKinds : Nat → Int64} {u_here : Nat → Int64} {u_out : Nat → Int64} {u_into : Nat → Int64} {u_intoLabel : Nat → Int32} {u_dissolves : Nat → Int32} {u_divides : Nat → Int32} {u_other : Nat → Int64} (hc_h : H.1 10 = some (.inr (2, [.ref 11, .int h_opens, .ref 12, .int h_start, .int h_end, .ref 13, .ref 14]))) (hc_ho : H.1 11 = some (.inl (3, 6, .inr (.inr fun i => (h_open i).map fun j => 4 + j)))) (hu : ∀ i, i < 6 → H.1 (4 + i) = some (.inr (5, [.int (nI i), .int (u_label i), .long (u_left i), .long (u_leftKinds i), .long (u_here i), .long (u_out i), .long (u_into i), .int (u_intoLabel i), .int (u_dissolves i), .int (u_divides i), .long (u_other i)]))) : ∀ (n : Nat) (L5 : Int64) (L7 : Int32) (L8 : Int32) (res : Int32), O_canBecomeMaximal_10 position rest once h_opens h_open u_left u_leftKinds u_dissolves u_divides  n L5 L7 L8 = some res → eGs pP X 2 88 (10, [some (.ref 10), some (.int position), some (.long rest), none, some (.int once), some (.long L5), none, some (.int L7), some (.int L8), none, none, none], [], H) (.inl (some (.int res)), H) := by
  intro n
  induction n with
  | zero =>
    intro L5 L7 L8 res hM
    cases hM
  | succ n ih =>
    intro L5 L7 L8 res hM
    rw [O_canBecomeMaximal_10] at hM
    refine eGs.steps 2 (y := (13, [some (.ref 10), some (.int position), some (.long rest), none, some (.int once), some (.long L5), none, some (.int L7), some (.int L8), none, none, none], [.ref 10, .int L8], H)) rfl ?_
    refine g_getf rfl rfl (by omega) hc_h rfl ?_
    refine eGs.steps 0 (y := (16, [some (.ref 10), some (.int position), some (.long rest), none, some (.int once), some (.long L5), none, some (.int L7), some (.int L8), none, none, none], [.int h_opens, .int L8], H)) rfl ?_
    by_cases hc : h_opens ≤ L8
    · rw [if_pos hc] at hM
      refine g_icmp (cd := .ge) (t := 89) true rfl (decide_eq_true hc) rfl ?_
      refine eGs.steps 2 (y := (92, [some (.ref 10), some (.int position), some (.long rest), none, some (.int once), some (.long L5), none, some (.int L7), some (.int (0 : Int32)), none, none, none], [], H)) rfl ?_
      refine eGs.weak (lo' := [some (.ref 10), some (.int position), some (.long rest), none, none, some (.long L5), none, some (.int L7), some (.int (0 : Int32)), none, none, none]) (by repeat' first | exact trivial | exact rfl | constructor) ?_
      exact T_O_canBecomeMaximal_92 (position := position) (rest := rest) (once := once) (h_opens := h_opens) (h_start := h_start) (h_end := h_end) (h_open := h_open) (u_label := u_label) (u_left := u_left) (u_leftKinds := u_leftKinds) (u_here := u_here) (u_out := u_out) (u_into := u_into) (u_intoLabel := u_intoLabel) (u_dissolves := u_dissolves) (u_divides := u_divides) (u_other := u_other) (hc_h := hc_h) (hc_ho := hc_ho) (hu := hu) n _ _ _ _ hM
    · rw [if_neg hc] at hM
      refine g_icmp (cd := .ge) (t := 89) false rfl (decide_eq_false hc) rfl ?_
      refine eGs.steps 1 (y := (20, [some (.ref 10), some (.int position), some (.long rest), none, some (.int once), some (.long L5), none, some (.int L7), some (.int L8), none, none, none], [.ref 10], H)) rfl ?_
      refine g_getf rfl rfl (by omega) hc_h rfl ?_
      refine eGs.steps 0 (y := (23, [some (.ref 10), some (.int position), some (.long rest), none, some (.int once), some (.long L5), none, some (.int L7), some (.int L8), none, none, none], [.ref 11], H)) rfl ?_
      refine eGs.steps 1 (y := (25, [some (.ref 10), some (.int position), some (.long rest), none, some (.int once), some (.long L5), none, some (.int L7), some (.int L8), none, none, none], [.int L8, .ref 11], H)) rfl ?_
      obtain ⟨hg1, hM⟩ := dg_none hM
      refine g_aald rfl (by omega) hc_ho rfl hg1 ?_
      cases ho_v2 : (h_open (L8).toNatClampNeg) with
      | none =>
        rw [ho_v2] at hM
        dsimp only at hM
        simp only [ho_v2, Option.map, eRf]
        refine eGs.steps 0 (y := (26, [some (.ref 10), some (.int position), some (.long rest), none, some (.int once), some (.long L5), none, some (.int L7), some (.int L8), none, none, none], [.null], H)) rfl ?_
        refine eGs.steps 2 (y := (29, [some (.ref 10), some (.int position), some (.long rest), none, some (.int once), some (.long L5), none, some (.int L7), some (.int L8), none, none, none], [.int once, .long rest, .null], H)) rfl ?_
        cases hM
      | some v2 =>
        rw [ho_v2] at hM
        dsimp only at hM
        obtain ⟨hqv2, hM⟩ := dg_none hM
        simp only [ho_v2, Option.map, eRf]
        refine eGs.steps 0 (y := (26, [some (.ref 10), some (.int position), some (.long rest), none, some (.int once), some (.long L5), none, some (.int L7), some (.int L8), none, none, none], [.ref (4 + v2)], H)) rfl ?_
        refine eGs.steps 2 (y := (29, [some (.ref 10), some (.int position), some (.long rest), none, some (.int once), some (.long L5), none, some (.int L7), some (.int L8), none, none, none], [.int once, .long rest, .ref (4 + v2)], H)) rfl ?_
        obtain ⟨v3, hv, hM⟩ := dg_bind hM
        have hE := T_R_mostUses (X := X) (H := H) (hc_r := (hu _ (Nat.not_le.mp hqv2))) (hz_r := by first | assumption | omega) hv
        refine g_callV rfl rfl rfl rfl rfl (by omega) (hu _ (Nat.not_le.mp hqv2)) rfl (hE.mono (by decide)) ?_
        refine eGs.steps 0 (y := (32, [some (.ref 10), some (.int position), some (.long rest), none, some (.int once), some (.long L5), none, some (.int L7), some (.int L8), none, none, none], [.int v3], H)) rfl ?_
        refine eGs.steps 5 (y := (40, [some (.ref 10), some (.int position), some (.long rest), none, some (.int once), some (.long L5), none, some (.int L7), some (.int L8), some (.int v3), none, none], [.ref 10, .long ((v3).toInt64), .long L5], H)) rfl ?_
        refine g_getf rfl rfl (by omega) hc_h rfl ?_
        refine eGs.steps 0 (y := (43, [some (.ref 10), some (.int position), some (.long rest), none, some (.int once), some (.long L5), none, some (.int L7), some (.int L8), some (.int v3), none, none], [.ref 11, .long ((v3).toInt64), .long L5], H)) rfl ?_
        refine eGs.steps 1 (y := (45, [some (.ref 10), some (.int position), some (.long rest), none, some (.int once), some (.long L5), none, some (.int L7), some (.int L8), some (.int v3), none, none], [.int L8, .ref 11, .long ((v3).toInt64), .long L5], H)) rfl ?_
        obtain ⟨hg4, hM⟩ := dg_none hM
        refine g_aald rfl (by omega) hc_ho rfl hg4 ?_
        simp only [ho_v2, Option.map, eRf]
        refine eGs.steps 0 (y := (46, [some (.ref 10), some (.int position), some (.long rest), none, some (.int once), some (.long L5), none, some (.int L7), some (.int L8), some (.int v3), none, none], [.ref (4 + v2), .long ((v3).toInt64), .long L5], H)) rfl ?_
        refine g_getf rfl rfl (by omega) (hu _ (Nat.not_le.mp hqv2)) rfl ?_
        refine eGs.steps 0 (y := (49, [some (.ref 10), some (.int position), some (.long rest), none, some (.int once), some (.long L5), none, some (.int L7), some (.int L8), some (.int v3), none, none], [.long (u_left v2), .long ((v3).toInt64), .long L5], H)) rfl ?_
        refine eGs.steps 4 (y := (55, [some (.ref 10), some (.int position), some (.long rest), none, some (.int once), some (.long (L5 + ((v3).toInt64 * (u_left v2)))), none, some (.int L7), some (.int L8), some (.int v3), none, none], [.int L7], H)) rfl ?_
        by_cases hc : L7 = 0
        · rw [if_pos hc] at hM
          refine g_if (cd := .ne) (t := 76) false rfl (decide_eq_false (fun z => z hc)) rfl ?_
          refine eGs.steps 1 (y := (60, [some (.ref 10), some (.int position), some (.long rest), none, some (.int once), some (.long (L5 + ((v3).toInt64 * (u_left v2)))), none, some (.int L7), some (.int L8), some (.int v3), none, none], [.int v3], H)) rfl ?_
          by_cases hc : v3 ≤ 0
          · rw [if_pos hc] at hM
            refine g_if (cd := .le) (t := 80) true rfl (decide_eq_true hc) rfl ?_
            refine eGs.steps 4 (y := (10, [some (.ref 10), some (.int position), some (.long rest), none, some (.int once), some (.long (L5 + ((v3).toInt64 * (u_left v2)))), none, some (.int (0 : Int32)), some (.int (L8 + (1 : Int32))), some (.int v3), none, none], [], H)) rfl ?_
            refine eGs.weak (lo' := [some (.ref 10), some (.int position), some (.long rest), none, some (.int once), some (.long (L5 + ((v3).toInt64 * (u_left v2)))), none, some (.int (0 : Int32)), some (.int (L8 + (1 : Int32))), none, none, none]) (by repeat' first | exact trivial | exact rfl | constructor) ?_
            exact ih _ _ _ _ hM
          · rw [if_neg hc] at hM
            refine g_if (cd := .le) (t := 80) false rfl (decide_eq_false hc) rfl ?_
            refine eGs.steps 1 (y := (64, [some (.ref 10), some (.int position), some (.long rest), none, some (.int once), some (.long (L5 + ((v3).toInt64 * (u_left v2)))), none, some (.int L7), some (.int L8), some (.int v3), none, none], [.ref 10], H)) rfl ?_
            refine g_getf rfl rfl (by omega) hc_h rfl ?_
            refine eGs.steps 0 (y := (67, [some (.ref 10), some (.int position), some (.long rest), none, some (.int once), some (.long (L5 + ((v3).toInt64 * (u_left v2)))), none, some (.int L7), some (.int L8), some (.int v3), none, none], [.ref 11], H)) rfl ?_
            refine eGs.steps 1 (y := (69, [some (.ref 10), some (.int position), some (.long rest), none, some (.int once), some (.long (L5 + ((v3).toInt64 * (u_left v2)))), none, some (.int L7), some (.int L8), some (.int v3), none, none], [.int L8, .ref 11], H)) rfl ?_
            obtain ⟨hg5, hM⟩ := dg_none hM
            refine g_aald rfl (by omega) hc_ho rfl hg5 ?_
            simp only [ho_v2, Option.map, eRf]
            refine eGs.steps 0 (y := (70, [some (.ref 10), some (.int position), some (.long rest), none, some (.int once), some (.long (L5 + ((v3).toInt64 * (u_left v2)))), none, some (.int L7), some (.int L8), some (.int v3), none, none], [.ref (4 + v2)], H)) rfl ?_
            obtain ⟨v6, hv, hM⟩ := dg_bind hM
            have hE := T_R_isOnce (X := X) (H := H) (hc_r := (hu _ (Nat.not_le.mp hqv2))) (hz_r := by first | assumption | omega) hv
            refine g_callV rfl rfl rfl rfl rfl (by omega) (hu _ (Nat.not_le.mp hqv2)) rfl (hE.mono (by decide)) ?_
            refine eGs.steps 0 (y := (73, [some (.ref 10), some (.int position), some (.long rest), none, some (.int once), some (.long (L5 + ((v3).toInt64 * (u_left v2)))), none, some (.int L7), some (.int L8), some (.int v3), none, none], [.int v6], H)) rfl ?_
            by_cases hc : v6 = 0
            · rw [if_pos hc] at hM
              refine g_if (cd := .eq) (t := 80) true rfl (decide_eq_true hc) rfl ?_
              refine eGs.steps 4 (y := (10, [some (.ref 10), some (.int position), some (.long rest), none, some (.int once), some (.long (L5 + ((v3).toInt64 * (u_left v2)))), none, some (.int (0 : Int32)), some (.int (L8 + (1 : Int32))), some (.int v3), none, none], [], H)) rfl ?_
              refine eGs.weak (lo' := [some (.ref 10), some (.int position), some (.long rest), none, some (.int once), some (.long (L5 + ((v3).toInt64 * (u_left v2)))), none, some (.int (0 : Int32)), some (.int (L8 + (1 : Int32))), none, none, none]) (by repeat' first | exact trivial | exact rfl | constructor) ?_
              exact ih _ _ _ _ hM
            · rw [if_neg hc] at hM
              refine g_if (cd := .eq) (t := 80) false rfl (decide_eq_false hc) rfl ?_
              refine eGs.steps 5 (y := (10, [some (.ref 10), some (.int position), some (.long rest), none, some (.int once), some (.long (L5 + ((v3).toInt64 * (u_left v2)))), none, some (.int (1 : Int32)), some (.int (L8 + (1 : Int32))), some (.int v3), none, none], [], H)) rfl ?_
              refine eGs.weak (lo' := [some (.ref 10), some (.int position), some (.long rest), none, some (.int once), some (.long (L5 + ((v3).toInt64 * (u_left v2)))), none, some (.int (1 : Int32)), some (.int (L8 + (1 : Int32))), none, none, none]) (by repeat' first | exact trivial | exact rfl | constructor) ?_
              exact ih _ _ _ _ hM
        · rw [if_neg hc] at hM
          refine g_if (cd := .ne) (t := 76) true rfl (decide_eq_true hc) rfl ?_
          refine eGs.steps 5 (y := (10, [some (.ref 10), some (.int position), some (.long rest), none, some (.int once), some (.long (L5 + ((v3).toInt64 * (u_left v2)))), none, some (.int (1 : Int32)), some (.int (L8 + (1 : Int32))), some (.int v3), none, none], [], H)) rfl ?_
          refine eGs.weak (lo' := [some (.ref 10), some (.int position), some (.long rest), none, some (.int once), some (.long (L5 + ((v3).toInt64 * (u_left v2)))), none, some (.int (1 : Int32)), some (.int (L8 + (1 : Int32))), none, none, none]) (by repeat' first | exact trivial | exact rfl | constructor) ?_
          exact ih _ _ _ _ hM
theorem T_O_canBecomeMaximal {X : Nat × (Nat → Int32)} {H : eH} {position : Int32} {rest : Int64} {once : Int32} {h_opens : Int32} {h_start : Int32} {h_end : Int32} {h_open : Nat → Option Nat} {u_label : Nat → Int32} {u_left : Nat → Int64} {u_leftKinds : Nat → Int64} {u_here : Nat → Int64} {u_out : Nat → Int64} {u_into : Nat → Int64} {u_intoLabel : Nat → Int32} {u_dissolves : Nat → Int32} {u_divides : Nat → Int32} {u_other : Nat → Int64} {n : Nat} {res : Int32} (hc_h : H.1 10 = some (.inr (2, [.ref 11, .int h_opens, .ref 12, .int h_start, .int h_end, .ref 13, .ref 14]))) (hc_ho : H.1 11 = some (.inl (3, 6, .inr (.inr fun i => (h_open i).map fun j => 4 + j)))) (hu : ∀ i, i < 6 → H.1 (4 + i) = some (.inr (5, [.int (nI i), .int (u_label i), .long (u_left i), .long (u_leftKinds i), .long (u_here i), .long (u_out i), .long (u_into i), .int (u_intoLabel i), .int (u_dissolves i), .int (u_divides i), .long (u_other i)]))) (hM : O_canBecomeMaximal n position rest once h_opens h_open u_left u_leftKinds u_dissolves u_divides = some res) : eEv pP X 3 88 [.ref 10, .int position, .long rest, .int once] H (.inl (some (.int res)), H) := by
  refine eEv.of (Nat.not_lt.mpr (Nat.le_of_ble_eq_true rfl)) ?_
  refine eGs.steps 0 (y := (0, [some (.ref 10), some (.int position), some (.long rest), none, some (.int once), none, none, none, none, none, none, none], [], H)) rfl ?_
  unfold O_canBecomeMaximal at hM
  refine eGs.steps 6 (y := (10, [some (.ref 10), some (.int position), some (.long rest), none, some (.int once), some (.long (0 : Int64)), none, some (.int once), some (.int position), none, none, none], [], H)) rfl ?_
  exact T_O_canBecomeMaximal_10 (position := position) (rest := rest) (once := once) (h_opens := h_opens) (h_start := h_start) (h_end := h_end) (h_open := h_open) (u_label := u_label) (u_left := u_left) (u_leftKinds := u_leftKinds) (u_here := u_here) (u_out := u_out) (u_into := u_into) (u_intoLabel := u_intoLabel) (u_dissolves := u_dissolves) (u_divides := u_divides) (u_other := u_other) (hc_h := hc_h) (hc_ho := hc_ho) (hu := hu) n _ _ _ _ hM
def O_takeNext_58 (h_starts : Nat → Int32) (k4 : (Int32) → (Int32) → (Nat → Int32) → (Nat → Int32) → Option ((Nat → Int32) × (Nat → Int32))) (n : Nat) (L3 : Int32) (S0 : Int32) (h_places : Nat → Int32) (q_a : Nat → Int32) : Option ((Nat → Int32) × (Nat → Int32)) :=
  if S0 = 0 then (k4 S0 (L3 + (-1 : Int32)) h_places q_a) else (if L3 < 0 ∨ 7 ≤ (L3).toNatClampNeg then none else (if L3 < 0 ∨ 6 ≤ (L3).toNatClampNeg then none else (k4 S0 (L3 + (-1 : Int32)) (eUp h_places (L3).toNatClampNeg (h_starts (L3).toNatClampNeg)) q_a)))
def O_takeNext_4 (h_row : Nat → Int32) (h_starts : Nat → Int32)  : Nat → (Int32) → (Int32) → (Nat → Int32) → (Nat → Int32) → Option ((Nat → Int32) × (Nat → Int32))
  | 0, _, _, _, _ => none
  | n + 1, L2, L3, h_places, q_a =>
    if L3 < 0 then (some (h_places, q_a)) else (if L3 < 0 ∨ 6 ≤ (L3).toNatClampNeg then none else (if (h_places (L3).toNatClampNeg) < 0 ∨ 2012 ≤ ((h_places (L3).toNatClampNeg)).toNatClampNeg then none else (if L3 < 0 ∨ 6 ≤ (L3).toNatClampNeg then none else (if L2 = 0 then (O_takeNext_4 h_row h_starts n L2 (L3 + (-1 : Int32)) h_places (eUp q_a (L3).toNatClampNeg (h_row ((h_places (L3).toNatClampNeg)).toNatClampNeg))) else (if L3 < 0 ∨ 6 ≤ (L3).toNatClampNeg then none else (if L3 < 0 ∨ 6 ≤ (L3).toNatClampNeg then none else (if L3 < 0 ∨ 6 ≤ (L3).toNatClampNeg then none else (if (L3 + (1 : Int32)) < 0 ∨ 7 ≤ ((L3 + (1 : Int32))).toNatClampNeg then none else (if ((eUp h_places (L3).toNatClampNeg ((h_places (L3).toNatClampNeg) + (1 : Int32))) (L3).toNatClampNeg) = (h_starts ((L3 + (1 : Int32))).toNatClampNeg) then (O_takeNext_58 h_starts (O_takeNext_4 h_row h_starts n) n L3 (1 : Int32) (eUp h_places (L3).toNatClampNeg ((h_places (L3).toNatClampNeg) + (1 : Int32))) (eUp q_a (L3).toNatClampNeg (h_row ((h_places (L3).toNatClampNeg)).toNatClampNeg))) else (O_takeNext_58 h_starts (O_takeNext_4 h_row h_starts n) n L3 (0 : Int32) (eUp h_places (L3).toNatClampNeg ((h_places (L3).toNatClampNeg) + (1 : Int32))) (eUp q_a (L3).toNatClampNeg (h_row ((h_places (L3).toNatClampNeg)).toNatClampNeg))))))))))))
def O_takeNext (n : Nat) (h_row : Nat → Int32) (h_starts : Nat → Int32) (h_places : Nat → Int32) (q_a : Nat → Int32) : Option ((Nat → Int32) × (Nat → Int32)) :=
  O_takeNext_4 h_row h_starts n (1 : Int32) (5 : Int32) h_places q_a
theorem T_O_takeNext_58 {X : Nat × (Nat → Int32)} {H : eH} {q : Nat} {h_opens : Int32} {h_start : Int32} {h_end : Int32} {h_row : Nat → Int32} {h_starts : Nat → Int32} {k4 : (Int32) → (Int32) → (Nat → Int32) → (Nat → Int32) → Option ((Nat → Int32) × (Nat → Int32))} (hc_h : H.1 10 = some (.inr (2, [.ref 11, .int h_opens, .ref 12, .int h_start, .int h_end, .ref 13, .ref 14]))) (hc_hr : H.1 12 = some (.inl (0, 2012, .inl h_row))) (hc_hs : H.1 13 = some (.inl (0, 7, .inl h_starts))) (hok_q : q = 24 ∨ q = 347) (hk4 : ∀ (y0 : Int32) (y1 : Int32) (y2 : Nat → Int32) (y3 : Nat → Int32) (res : (Nat → Int32) × (Nat → Int32)), k4 y0 y1 y2 y3 = some res → eGs pP X 0 83 (4, [some (.ref 10), some (.ref q), some (.int y0), some (.int y1)], [], (eW2 H [(14, .inl (0, 6, .inl y2)), (q, .inl (0, 6, .inl y3))])) (.inl (none), (eW2 H [(14, .inl (0, 6, .inl res.1)), (q, .inl (0, 6, .inl res.2))]))) : ∀ (n : Nat) (L3 : Int32) (S0 : Int32) (h_places : Nat → Int32) (q_a : Nat → Int32) (res : (Nat → Int32) × (Nat → Int32)), O_takeNext_58 h_starts k4 n L3 S0 h_places q_a = some res → eGs pP X 0 83 (58, [some (.ref 10), some (.ref q), none, some (.int L3)], [.int S0], (eW2 H [(14, .inl (0, 6, .inl h_places)), (q, .inl (0, 6, .inl q_a))])) (.inl (none), (eW2 H [(14, .inl (0, 6, .inl res.1)), (q, .inl (0, 6, .inl res.2))])) := by
  have hN : ([14, q] : List Nat).Nodup := by first | decide | (simp <;> omega)
  have hO_h : 10 ∉ ([14, q] : List Nat) := by first | decide | (simp <;> omega)
  have hO_hr : 12 ∉ ([14, q] : List Nat) := by first | decide | (simp <;> omega)
  have hO_hs : 13 ∉ ([14, q] : List Nat) := by first | decide | (simp <;> omega)
  intro n L3 S0 h_places q_a res hM
  unfold O_takeNext_58 at hM
  refine eGs.steps 2 (y := (60, [some (.ref 10), some (.ref q), some (.int S0), some (.int L3)], [.int S0], (eW2 H [(14, .inl (0, 6, .inl h_places)), (q, .inl (0, 6, .inl q_a))]))) rfl ?_
  by_cases hc : S0 = 0
  · rw [if_pos hc] at hM
    refine g_if (cd := .eq) (t := 75) true rfl (decide_eq_true hc) rfl ?_
    refine eGs.steps 2 (y := (4, [some (.ref 10), some (.ref q), some (.int S0), some (.int (L3 + (-1 : Int32)))], [], (eW2 H [(14, .inl (0, 6, .inl h_places)), (q, .inl (0, 6, .inl q_a))]))) rfl ?_
    exact hk4 _ _ _ _ _ hM
  · rw [if_neg hc] at hM
    refine g_if (cd := .eq) (t := 75) false rfl (decide_eq_false hc) rfl ?_
    refine eGs.steps 1 (y := (64, [some (.ref 10), some (.ref q), some (.int S0), some (.int L3)], [.ref 10], (eW2 H [(14, .inl (0, 6, .inl h_places)), (q, .inl (0, 6, .inl q_a))]))) rfl ?_
    refine g_getf rfl rfl (by omega) ((eW2_offA hO_h rfl).trans hc_h) rfl ?_
    refine eGs.steps 0 (y := (67, [some (.ref 10), some (.ref q), some (.int S0), some (.int L3)], [.ref 14], (eW2 H [(14, .inl (0, 6, .inl h_places)), (q, .inl (0, 6, .inl q_a))]))) rfl ?_
    refine eGs.steps 2 (y := (69, [some (.ref 10), some (.ref q), some (.int S0), some (.int L3)], [.ref 10, .int L3, .ref 14], (eW2 H [(14, .inl (0, 6, .inl h_places)), (q, .inl (0, 6, .inl q_a))]))) rfl ?_
    refine g_getf rfl rfl (by omega) ((eW2_offA hO_h rfl).trans hc_h) rfl ?_
    refine eGs.steps 0 (y := (72, [some (.ref 10), some (.ref q), some (.int S0), some (.int L3)], [.ref 13, .int L3, .ref 14], (eW2 H [(14, .inl (0, 6, .inl h_places)), (q, .inl (0, 6, .inl q_a))]))) rfl ?_
    refine eGs.steps 1 (y := (73, [some (.ref 10), some (.ref q), some (.int S0), some (.int L3)], [.int L3, .ref 13, .int L3, .ref 14], (eW2 H [(14, .inl (0, 6, .inl h_places)), (q, .inl (0, 6, .inl q_a))]))) rfl ?_
    obtain ⟨hg8, hM⟩ := dg_none hM
    refine g_iald rfl (by omega) ((eW2_offA hO_hs rfl).trans hc_hs) hg8 ?_
    refine eGs.steps 0 (y := (74, [some (.ref 10), some (.ref q), some (.int S0), some (.int L3)], [.int (h_starts (L3).toNatClampNeg), .int L3, .ref 14], (eW2 H [(14, .inl (0, 6, .inl h_places)), (q, .inl (0, 6, .inl q_a))]))) rfl ?_
    obtain ⟨hg9, hM⟩ := dg_none hM
    refine g_iastW rfl (by omega) (eW2_getA hN 0 rfl rfl) hg9 (eW2_setA hN 0 rfl rfl) ?_
    refine eGs.steps 0 (y := (75, [some (.ref 10), some (.ref q), some (.int S0), some (.int L3)], [], (eW2 H [(14, .inl (0, 6, .inl (eUp h_places (L3).toNatClampNeg (h_starts (L3).toNatClampNeg)))), (q, .inl (0, 6, .inl q_a))]))) rfl ?_
    refine eGs.steps 2 (y := (4, [some (.ref 10), some (.ref q), some (.int S0), some (.int (L3 + (-1 : Int32)))], [], (eW2 H [(14, .inl (0, 6, .inl (eUp h_places (L3).toNatClampNeg (h_starts (L3).toNatClampNeg)))), (q, .inl (0, 6, .inl q_a))]))) rfl ?_
    exact hk4 _ _ _ _ _ hM
theorem T_O_takeNext_4 {X : Nat × (Nat → Int32)} {H : eH} {q : Nat} {h_opens : Int32} {h_start : Int32} {h_end : Int32} {h_row : Nat → Int32} {h_starts : Nat → Int32} (hc_h : H.1 10 = some (.inr (2, [.ref 11, .int h_opens, .ref 12, .int h_start, .int h_end, .ref 13, .ref 14]))) (hc_hr : H.1 12 = some (.inl (0, 2012, .inl h_row))) (hc_hs : H.1 13 = some (.inl (0, 7, .inl h_starts))) (hok_q : q = 24 ∨ q = 347) : ∀ (n : Nat) (L2 : Int32) (L3 : Int32) (h_places : Nat → Int32) (q_a : Nat → Int32) (res : (Nat → Int32) × (Nat → Int32)), O_takeNext_4 h_row h_starts  n L2 L3 h_places q_a = some res → eGs pP X 0 83 (4, [some (.ref 10), some (.ref q), some (.int L2), some (.int L3)], [], (eW2 H [(14, .inl (0, 6, .inl h_places)), (q, .inl (0, 6, .inl q_a))])) (.inl (none), (eW2 H [(14, .inl (0, 6, .inl res.1)), (q, .inl (0, 6, .inl res.2))])) := by
  have hN : ([14, q] : List Nat).Nodup := by first | decide | (simp <;> omega)
  have hO_h : 10 ∉ ([14, q] : List Nat) := by first | decide | (simp <;> omega)
  have hO_hr : 12 ∉ ([14, q] : List Nat) := by first | decide | (simp <;> omega)
  have hO_hs : 13 ∉ ([14, q] : List Nat) := by first | decide | (simp <;> omega)
  intro n
  induction n with
  | zero =>
    intro L2 L3 h_places q_a res hM
    cases hM
  | succ n ih =>
    intro L2 L3 h_places q_a res hM
    rw [O_takeNext_4] at hM
    refine eGs.steps 1 (y := (5, [some (.ref 10), some (.ref q), some (.int L2), some (.int L3)], [.int L3], (eW2 H [(14, .inl (0, 6, .inl h_places)), (q, .inl (0, 6, .inl q_a))]))) rfl ?_
    by_cases hc : L3 < 0
    · rw [if_pos hc] at hM
      refine g_if (cd := .lt) (t := 81) true rfl (decide_eq_true hc) rfl ?_
      cases hM
      exact eGs.fin rfl rfl rfl
    · rw [if_neg hc] at hM
      refine g_if (cd := .lt) (t := 81) false rfl (decide_eq_false hc) rfl ?_
      refine eGs.steps 3 (y := (11, [some (.ref 10), some (.ref q), some (.int L2), some (.int L3)], [.ref 10, .int L3, .ref q], (eW2 H [(14, .inl (0, 6, .inl h_places)), (q, .inl (0, 6, .inl q_a))]))) rfl ?_
      refine g_getf rfl rfl (by omega) ((eW2_offA hO_h rfl).trans hc_h) rfl ?_
      refine eGs.steps 0 (y := (14, [some (.ref 10), some (.ref q), some (.int L2), some (.int L3)], [.ref 12, .int L3, .ref q], (eW2 H [(14, .inl (0, 6, .inl h_places)), (q, .inl (0, 6, .inl q_a))]))) rfl ?_
      refine eGs.steps 1 (y := (15, [some (.ref 10), some (.ref q), some (.int L2), some (.int L3)], [.ref 10, .ref 12, .int L3, .ref q], (eW2 H [(14, .inl (0, 6, .inl h_places)), (q, .inl (0, 6, .inl q_a))]))) rfl ?_
      refine g_getf rfl rfl (by omega) ((eW2_offA hO_h rfl).trans hc_h) rfl ?_
      refine eGs.steps 0 (y := (18, [some (.ref 10), some (.ref q), some (.int L2), some (.int L3)], [.ref 14, .ref 12, .int L3, .ref q], (eW2 H [(14, .inl (0, 6, .inl h_places)), (q, .inl (0, 6, .inl q_a))]))) rfl ?_
      refine eGs.steps 1 (y := (19, [some (.ref 10), some (.ref q), some (.int L2), some (.int L3)], [.int L3, .ref 14, .ref 12, .int L3, .ref q], (eW2 H [(14, .inl (0, 6, .inl h_places)), (q, .inl (0, 6, .inl q_a))]))) rfl ?_
      obtain ⟨hg1, hM⟩ := dg_none hM
      refine g_iald rfl (by omega) (eW2_getA hN 0 rfl rfl) hg1 ?_
      refine eGs.steps 0 (y := (20, [some (.ref 10), some (.ref q), some (.int L2), some (.int L3)], [.int (h_places (L3).toNatClampNeg), .ref 12, .int L3, .ref q], (eW2 H [(14, .inl (0, 6, .inl h_places)), (q, .inl (0, 6, .inl q_a))]))) rfl ?_
      obtain ⟨hg2, hM⟩ := dg_none hM
      refine g_iald rfl (by omega) ((eW2_offA hO_hr rfl).trans hc_hr) hg2 ?_
      refine eGs.steps 0 (y := (21, [some (.ref 10), some (.ref q), some (.int L2), some (.int L3)], [.int (h_row ((h_places (L3).toNatClampNeg)).toNatClampNeg), .int L3, .ref q], (eW2 H [(14, .inl (0, 6, .inl h_places)), (q, .inl (0, 6, .inl q_a))]))) rfl ?_
      obtain ⟨hg3, hM⟩ := dg_none hM
      refine g_iastW rfl (by omega) (eW2_getA hN 1 rfl rfl) hg3 (eW2_setA hN 1 rfl rfl) ?_
      refine eGs.steps 0 (y := (22, [some (.ref 10), some (.ref q), some (.int L2), some (.int L3)], [], (eW2 H [(14, .inl (0, 6, .inl h_places)), (q, .inl (0, 6, .inl (eUp q_a (L3).toNatClampNeg (h_row ((h_places (L3).toNatClampNeg)).toNatClampNeg))))]))) rfl ?_
      refine eGs.steps 1 (y := (23, [some (.ref 10), some (.ref q), some (.int L2), some (.int L3)], [.int L2], (eW2 H [(14, .inl (0, 6, .inl h_places)), (q, .inl (0, 6, .inl (eUp q_a (L3).toNatClampNeg (h_row ((h_places (L3).toNatClampNeg)).toNatClampNeg))))]))) rfl ?_
      by_cases hc : L2 = 0
      · rw [if_pos hc] at hM
        refine g_if (cd := .eq) (t := 75) true rfl (decide_eq_true hc) rfl ?_
        refine eGs.steps 2 (y := (4, [some (.ref 10), some (.ref q), some (.int L2), some (.int (L3 + (-1 : Int32)))], [], (eW2 H [(14, .inl (0, 6, .inl h_places)), (q, .inl (0, 6, .inl (eUp q_a (L3).toNatClampNeg (h_row ((h_places (L3).toNatClampNeg)).toNatClampNeg))))]))) rfl ?_
        exact ih _ _ _ _ _ hM
      · rw [if_neg hc] at hM
        refine g_if (cd := .eq) (t := 75) false rfl (decide_eq_false hc) rfl ?_
        refine eGs.steps 1 (y := (27, [some (.ref 10), some (.ref q), some (.int L2), some (.int L3)], [.ref 10], (eW2 H [(14, .inl (0, 6, .inl h_places)), (q, .inl (0, 6, .inl (eUp q_a (L3).toNatClampNeg (h_row ((h_places (L3).toNatClampNeg)).toNatClampNeg))))]))) rfl ?_
        refine g_getf rfl rfl (by omega) ((eW2_offA hO_h rfl).trans hc_h) rfl ?_
        refine eGs.steps 0 (y := (30, [some (.ref 10), some (.ref q), some (.int L2), some (.int L3)], [.ref 14], (eW2 H [(14, .inl (0, 6, .inl h_places)), (q, .inl (0, 6, .inl (eUp q_a (L3).toNatClampNeg (h_row ((h_places (L3).toNatClampNeg)).toNatClampNeg))))]))) rfl ?_
        refine eGs.steps 2 (y := (32, [some (.ref 10), some (.ref q), some (.int L2), some (.int L3)], [.int L3, .ref 14, .int L3, .ref 14], (eW2 H [(14, .inl (0, 6, .inl h_places)), (q, .inl (0, 6, .inl (eUp q_a (L3).toNatClampNeg (h_row ((h_places (L3).toNatClampNeg)).toNatClampNeg))))]))) rfl ?_
        obtain ⟨hg4, hM⟩ := dg_none hM
        refine g_iald rfl (by omega) (eW2_getA hN 0 rfl rfl) hg4 ?_
        refine eGs.steps 0 (y := (33, [some (.ref 10), some (.ref q), some (.int L2), some (.int L3)], [.int (h_places (L3).toNatClampNeg), .int L3, .ref 14], (eW2 H [(14, .inl (0, 6, .inl h_places)), (q, .inl (0, 6, .inl (eUp q_a (L3).toNatClampNeg (h_row ((h_places (L3).toNatClampNeg)).toNatClampNeg))))]))) rfl ?_
        refine eGs.steps 2 (y := (35, [some (.ref 10), some (.ref q), some (.int L2), some (.int L3)], [.int ((h_places (L3).toNatClampNeg) + (1 : Int32)), .int L3, .ref 14], (eW2 H [(14, .inl (0, 6, .inl h_places)), (q, .inl (0, 6, .inl (eUp q_a (L3).toNatClampNeg (h_row ((h_places (L3).toNatClampNeg)).toNatClampNeg))))]))) rfl ?_
        obtain ⟨hg5, hM⟩ := dg_none hM
        refine g_iastW rfl (by omega) (eW2_getA hN 0 rfl rfl) hg5 (eW2_setA hN 0 rfl rfl) ?_
        refine eGs.steps 0 (y := (36, [some (.ref 10), some (.ref q), some (.int L2), some (.int L3)], [], (eW2 H [(14, .inl (0, 6, .inl (eUp h_places (L3).toNatClampNeg ((h_places (L3).toNatClampNeg) + (1 : Int32))))), (q, .inl (0, 6, .inl (eUp q_a (L3).toNatClampNeg (h_row ((h_places (L3).toNatClampNeg)).toNatClampNeg))))]))) rfl ?_
        refine eGs.steps 1 (y := (37, [some (.ref 10), some (.ref q), some (.int L2), some (.int L3)], [.ref 10], (eW2 H [(14, .inl (0, 6, .inl (eUp h_places (L3).toNatClampNeg ((h_places (L3).toNatClampNeg) + (1 : Int32))))), (q, .inl (0, 6, .inl (eUp q_a (L3).toNatClampNeg (h_row ((h_places (L3).toNatClampNeg)).toNatClampNeg))))]))) rfl ?_
        refine g_getf rfl rfl (by omega) ((eW2_offA hO_h rfl).trans hc_h) rfl ?_
        refine eGs.steps 0 (y := (40, [some (.ref 10), some (.ref q), some (.int L2), some (.int L3)], [.ref 14], (eW2 H [(14, .inl (0, 6, .inl (eUp h_places (L3).toNatClampNeg ((h_places (L3).toNatClampNeg) + (1 : Int32))))), (q, .inl (0, 6, .inl (eUp q_a (L3).toNatClampNeg (h_row ((h_places (L3).toNatClampNeg)).toNatClampNeg))))]))) rfl ?_
        refine eGs.steps 1 (y := (41, [some (.ref 10), some (.ref q), some (.int L2), some (.int L3)], [.int L3, .ref 14], (eW2 H [(14, .inl (0, 6, .inl (eUp h_places (L3).toNatClampNeg ((h_places (L3).toNatClampNeg) + (1 : Int32))))), (q, .inl (0, 6, .inl (eUp q_a (L3).toNatClampNeg (h_row ((h_places (L3).toNatClampNeg)).toNatClampNeg))))]))) rfl ?_
        obtain ⟨hg6, hM⟩ := dg_none hM
        refine g_iald rfl (by omega) (eW2_getA hN 0 rfl rfl) hg6 ?_
        refine eGs.steps 0 (y := (42, [some (.ref 10), some (.ref q), some (.int L2), some (.int L3)], [.int ((eUp h_places (L3).toNatClampNeg ((h_places (L3).toNatClampNeg) + (1 : Int32))) (L3).toNatClampNeg)], (eW2 H [(14, .inl (0, 6, .inl (eUp h_places (L3).toNatClampNeg ((h_places (L3).toNatClampNeg) + (1 : Int32))))), (q, .inl (0, 6, .inl (eUp q_a (L3).toNatClampNeg (h_row ((h_places (L3).toNatClampNeg)).toNatClampNeg))))]))) rfl ?_
        refine eGs.steps 1 (y := (43, [some (.ref 10), some (.ref q), some (.int L2), some (.int L3)], [.ref 10, .int ((eUp h_places (L3).toNatClampNeg ((h_places (L3).toNatClampNeg) + (1 : Int32))) (L3).toNatClampNeg)], (eW2 H [(14, .inl (0, 6, .inl (eUp h_places (L3).toNatClampNeg ((h_places (L3).toNatClampNeg) + (1 : Int32))))), (q, .inl (0, 6, .inl (eUp q_a (L3).toNatClampNeg (h_row ((h_places (L3).toNatClampNeg)).toNatClampNeg))))]))) rfl ?_
        refine g_getf rfl rfl (by omega) ((eW2_offA hO_h rfl).trans hc_h) rfl ?_
        refine eGs.steps 0 (y := (46, [some (.ref 10), some (.ref q), some (.int L2), some (.int L3)], [.ref 13, .int ((eUp h_places (L3).toNatClampNeg ((h_places (L3).toNatClampNeg) + (1 : Int32))) (L3).toNatClampNeg)], (eW2 H [(14, .inl (0, 6, .inl (eUp h_places (L3).toNatClampNeg ((h_places (L3).toNatClampNeg) + (1 : Int32))))), (q, .inl (0, 6, .inl (eUp q_a (L3).toNatClampNeg (h_row ((h_places (L3).toNatClampNeg)).toNatClampNeg))))]))) rfl ?_
        refine eGs.steps 3 (y := (49, [some (.ref 10), some (.ref q), some (.int L2), some (.int L3)], [.int (L3 + (1 : Int32)), .ref 13, .int ((eUp h_places (L3).toNatClampNeg ((h_places (L3).toNatClampNeg) + (1 : Int32))) (L3).toNatClampNeg)], (eW2 H [(14, .inl (0, 6, .inl (eUp h_places (L3).toNatClampNeg ((h_places (L3).toNatClampNeg) + (1 : Int32))))), (q, .inl (0, 6, .inl (eUp q_a (L3).toNatClampNeg (h_row ((h_places (L3).toNatClampNeg)).toNatClampNeg))))]))) rfl ?_
        obtain ⟨hg7, hM⟩ := dg_none hM
        refine g_iald rfl (by omega) ((eW2_offA hO_hs rfl).trans hc_hs) hg7 ?_
        refine eGs.steps 0 (y := (50, [some (.ref 10), some (.ref q), some (.int L2), some (.int L3)], [.int (h_starts ((L3 + (1 : Int32))).toNatClampNeg), .int ((eUp h_places (L3).toNatClampNeg ((h_places (L3).toNatClampNeg) + (1 : Int32))) (L3).toNatClampNeg)], (eW2 H [(14, .inl (0, 6, .inl (eUp h_places (L3).toNatClampNeg ((h_places (L3).toNatClampNeg) + (1 : Int32))))), (q, .inl (0, 6, .inl (eUp q_a (L3).toNatClampNeg (h_row ((h_places (L3).toNatClampNeg)).toNatClampNeg))))]))) rfl ?_
        by_cases hc : ((eUp h_places (L3).toNatClampNeg ((h_places (L3).toNatClampNeg) + (1 : Int32))) (L3).toNatClampNeg) = (h_starts ((L3 + (1 : Int32))).toNatClampNeg)
        · rw [if_pos hc] at hM
          refine g_icmp (cd := .ne) (t := 57) false rfl (decide_eq_false (fun z => z hc)) rfl ?_
          refine eGs.steps 2 (y := (58, [some (.ref 10), some (.ref q), some (.int L2), some (.int L3)], [.int (1 : Int32)], (eW2 H [(14, .inl (0, 6, .inl (eUp h_places (L3).toNatClampNeg ((h_places (L3).toNatClampNeg) + (1 : Int32))))), (q, .inl (0, 6, .inl (eUp q_a (L3).toNatClampNeg (h_row ((h_places (L3).toNatClampNeg)).toNatClampNeg))))]))) rfl ?_
          refine eGs.weak (lo' := [some (.ref 10), some (.ref q), none, some (.int L3)]) (by repeat' first | exact trivial | exact rfl | constructor) ?_
          exact T_O_takeNext_58 (q := q) (h_opens := h_opens) (h_start := h_start) (h_end := h_end) (h_row := h_row) (h_starts := h_starts) (hc_h := hc_h) (hc_hr := hc_hr) (hc_hs := hc_hs) (hok_q := hok_q) (fun x0 x1 x2 x3 res q => ih x0 x1 x2 x3 res q) n _ _ _ _ _ hM
        · rw [if_neg hc] at hM
          refine g_icmp (cd := .ne) (t := 57) true rfl (decide_eq_true hc) rfl ?_
          refine eGs.steps 1 (y := (58, [some (.ref 10), some (.ref q), some (.int L2), some (.int L3)], [.int (0 : Int32)], (eW2 H [(14, .inl (0, 6, .inl (eUp h_places (L3).toNatClampNeg ((h_places (L3).toNatClampNeg) + (1 : Int32))))), (q, .inl (0, 6, .inl (eUp q_a (L3).toNatClampNeg (h_row ((h_places (L3).toNatClampNeg)).toNatClampNeg))))]))) rfl ?_
          refine eGs.weak (lo' := [some (.ref 10), some (.ref q), none, some (.int L3)]) (by repeat' first | exact trivial | exact rfl | constructor) ?_
          exact T_O_takeNext_58 (q := q) (h_opens := h_opens) (h_start := h_start) (h_end := h_end) (h_row := h_row) (h_starts := h_starts) (hc_h := hc_h) (hc_hr := hc_hr) (hc_hs := hc_hs) (hok_q := hok_q) (fun x0 x1 x2 x3 res q => ih x0 x1 x2 x3 res q) n _ _ _ _ _ hM
theorem T_O_takeNext {X : Nat × (Nat → Int32)} {H : eH} {q : Nat} {h_opens : Int32} {h_start : Int32} {h_end : Int32} {h_row : Nat → Int32} {h_starts : Nat → Int32} {h_places : Nat → Int32} {q_a : Nat → Int32} {n : Nat} {res : (Nat → Int32) × (Nat → Int32)} (hc_h : H.1 10 = some (.inr (2, [.ref 11, .int h_opens, .ref 12, .int h_start, .int h_end, .ref 13, .ref 14]))) (hc_hr : H.1 12 = some (.inl (0, 2012, .inl h_row))) (hc_hs : H.1 13 = some (.inl (0, 7, .inl h_starts))) (hc_hq : H.1 14 = some (.inl (0, 6, .inl h_places))) (hc_q : H.1 q = some (.inl (0, 6, .inl q_a))) (hok_q : q = 24 ∨ q = 347) (hM : O_takeNext n h_row h_starts h_places q_a = some res) : eEv pP X 1 83 [.ref 10, .ref q] H (.inl (none), (eW2 H [(14, .inl (0, 6, .inl res.1)), (q, .inl (0, 6, .inl res.2))])) := by
  have hN : ([14, q] : List Nat).Nodup := by first | decide | (simp <;> omega)
  have hO_h : 10 ∉ ([14, q] : List Nat) := by first | decide | (simp <;> omega)
  have hO_hr : 12 ∉ ([14, q] : List Nat) := by first | decide | (simp <;> omega)
  have hO_hs : 13 ∉ ([14, q] : List Nat) := by first | decide | (simp <;> omega)
  have h0 : (eW2 H [(14, .inl (0, 6, .inl h_places)), (q, .inl (0, 6, .inl q_a))]) = H := eW2_self (by simp only [List.forall_mem_cons]; exact ⟨hc_hq, hc_q, fun _ h => absurd h List.not_mem_nil⟩)
  rw [show eEv pP X 1 83 _ H = eEv pP X 1 83 _ (eW2 H [(14, .inl (0, 6, .inl h_places)), (q, .inl (0, 6, .inl q_a))]) by rw [h0]]
  refine eEv.of (Nat.not_lt.mpr (Nat.le_of_ble_eq_true rfl)) ?_
  refine eGs.steps 0 (y := (0, [some (.ref 10), some (.ref q), none, none], [], (eW2 H [(14, .inl (0, 6, .inl h_places)), (q, .inl (0, 6, .inl q_a))]))) rfl ?_
  unfold O_takeNext at hM
  refine eGs.steps 4 (y := (4, [some (.ref 10), some (.ref q), some (.int (1 : Int32)), some (.int (5 : Int32))], [], (eW2 H [(14, .inl (0, 6, .inl h_places)), (q, .inl (0, 6, .inl q_a))]))) rfl ?_
  exact T_O_takeNext_4 (q := q) (h_opens := h_opens) (h_start := h_start) (h_end := h_end) (h_row := h_row) (h_starts := h_starts) (hc_h := hc_h) (hc_hr := hc_hr) (hc_hs := hc_hs) (hok_q := hok_q) n _ _ _ _ _ hM

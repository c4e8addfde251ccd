def W_takeAndMake_107 (mm : Int32) (uu : Nat) (u_dissolves : Nat → Int32) (u_divides : Nat → Int32)  (n : Nat) (w_once : Nat → Option Nat) (c_hp : Nat → Int64) : Option ((Nat → Option Nat) × (Nat → Int64)) :=
  (R_isOnce n (u_dissolves uu) (u_divides uu)).bind fun v11 => (if v11 = 0 then (some (w_once, c_hp)) else (if mm < 0 ∨ 6 ≤ (mm).toNatClampNeg then none else (some ((eUp w_once (mm).toNatClampNeg (some uu)), c_hp))))
def W_takeAndMake_41 (mm : Int32) (uu : Nat) (uses : Int32) (u_out : Nat → Int64) (u_into : Nat → Int64) (u_intoLabel : Nat → Int32) (u_dissolves : Nat → Int32) (u_divides : Nat → Int32) (c_lab : Nat → Int32) (c_par : Nat → Int32)  (n : Nat) (w_once : Nat → Option Nat) (c_hp : Nat → Int64) : Option ((Nat → Option Nat) × (Nat → Int64)) :=
  if mm < 0 ∨ 6 ≤ (mm).toNatClampNeg then none else (if (c_par (mm).toNatClampNeg) < 0 ∨ 7 ≤ ((c_par (mm).toNatClampNeg)).toNatClampNeg then none else (if (c_par (mm).toNatClampNeg) < 0 ∨ 7 ≤ ((c_par (mm).toNatClampNeg)).toNatClampNeg then none else (if (lg_cmp (u_into uu) (0 : Int64)) = 0 then (W_takeAndMake_107 mm uu u_dissolves u_divides n w_once (eUp c_hp ((c_par (mm).toNatClampNeg)).toNatClampNeg ((c_hp ((c_par (mm).toNatClampNeg)).toNatClampNeg) + ((uses).toInt64 * (u_out uu))))) else ((K_firstChildWith n mm (u_intoLabel uu) c_lab c_par).bind fun v8 => (if v8 = (-1 : Int32) then (W_takeAndMake_107 mm uu u_dissolves u_divides n w_once (eUp c_hp ((c_par (mm).toNatClampNeg)).toNatClampNeg ((c_hp ((c_par (mm).toNatClampNeg)).toNatClampNeg) + ((uses).toInt64 * (u_out uu))))) else (if v8 < 0 ∨ 7 ≤ (v8).toNatClampNeg then none else (if v8 < 0 ∨ 7 ≤ (v8).toNatClampNeg then none else (W_takeAndMake_107 mm uu u_dissolves u_divides n w_once (eUp (eUp c_hp ((c_par (mm).toNatClampNeg)).toNatClampNeg ((c_hp ((c_par (mm).toNatClampNeg)).toNatClampNeg) + ((uses).toInt64 * (u_out uu)))) (v8).toNatClampNeg (((eUp c_hp ((c_par (mm).toNatClampNeg)).toNatClampNeg ((c_hp ((c_par (mm).toNatClampNeg)).toNatClampNeg) + ((uses).toInt64 * (u_out uu)))) (v8).toNatClampNeg) + ((uses).toInt64 * (u_into uu))))))))))))
def W_takeAndMake (n : Nat) (mm : Int32) (uu : Nat) (uses : Int32) (w_once : Nat → Option Nat) (u_left : Nat → Int64) (u_here : Nat → Int64) (u_out : Nat → Int64) (u_into : Nat → Int64) (u_intoLabel : Nat → Int32) (u_dissolves : Nat → Int32) (u_divides : Nat → Int32) (c_lab : Nat → Int32) (c_par : Nat → Int32) (c_hp : Nat → Int64) : Option ((Nat → Option Nat) × (Nat → Int64)) :=
  if mm < 0 ∨ 7 ≤ (mm).toNatClampNeg then none else (if mm < 0 ∨ 7 ≤ (mm).toNatClampNeg then none else (if (u_divides uu) = 0 then (if mm < 0 ∨ 7 ≤ (mm).toNatClampNeg then none else (if mm < 0 ∨ 7 ≤ (mm).toNatClampNeg then none else (W_takeAndMake_41 mm uu uses u_out u_into u_intoLabel u_dissolves u_divides c_lab c_par n w_once (eUp (eUp c_hp (mm).toNatClampNeg ((c_hp (mm).toNatClampNeg) - ((uses).toInt64 * (u_left uu)))) (mm).toNatClampNeg (((eUp c_hp (mm).toNatClampNeg ((c_hp (mm).toNatClampNeg) - ((uses).toInt64 * (u_left uu)))) (mm).toNatClampNeg) + ((uses).toInt64 * (u_here uu))))))) else (W_takeAndMake_41 mm uu uses u_out u_into u_intoLabel u_dissolves u_divides c_lab c_par n w_once (eUp c_hp (mm).toNatClampNeg ((c_hp (mm).toNatClampNeg) - ((uses).toInt64 * (u_left uu)))))))
theorem T_W_takeAndMake_107 {X : Nat × (Nat → Int32)} {H : eH} {c : Nat} {mm : Int32} {uu : Nat} {uses : Int32} {u_label : Nat → Int32} {u_left : Nat → Int64} {u_leftKinds : Nat → Int64} {u_here : Nat → Int64} {u_out : Nat → Int64} {u_into : Nat → Int64} {u_intoLabel : Nat → Int32} {u_dissolves : Nat → Int32} {u_divides : Nat → Int32} {u_other : Nat → Int64} {c_lab : Nat → Int32} {c_par : Nat → Int32} (hc_w : H.1 15 = some (.inr (8, [.ref 16]))) (hc_c : H.1 c = some (.inr (3, [.ref (c + 1), .ref (c + 2), .ref (c + 3)]))) (hc_cl : H.1 (c + 1) = some (.inl (0, 6, .inl c_lab))) (hc_cp : H.1 (c + 2) = some (.inl (0, 6, .inl c_par))) (hu : ∀ i, i < 6 → H.1 (4 + i) = some (.inr (5, [.int (nI i), .int (u_label i), .long (u_left i), .long (u_leftKinds i), .long (u_here i), .long (u_out i), .long (u_into i), .int (u_intoLabel i), .int (u_dissolves i), .int (u_divides i), .long (u_other i)]))) (h_uu : uu < 6) (hok_c : c = 20 ∨ c = 348 ∨ c = 352 ∨ (25 ≤ c ∧ c ≤ 341 ∧ c % 4 = 1)) : ∀ (n : Nat) (w_once : Nat → Option Nat) (c_hp : Nat → Int64) (res : (Nat → Option Nat) × (Nat → Int64)), W_takeAndMake_107 mm uu u_dissolves u_divides  n w_once c_hp = some res → eGs pP X 1 120 (107, [some (.ref 15), none, some (.int mm), some (.ref (4 + uu)), none, none], [], (eW2 H [(16, .inl (3, 6, .inr (.inr fun i => (w_once i).map fun j => 4 + j))), (c + 3, .inl (1, 7, .inr (.inl c_hp)))])) (.inl (none), (eW2 H [(16, .inl (3, 6, .inr (.inr fun i => (res.1 i).map fun j => 4 + j))), (c + 3, .inl (1, 7, .inr (.inl res.2)))])) := by
  have hN : ([16, c + 3] : List Nat).Nodup := by first | decide | (simp <;> omega)
  have hO_w : 15 ∉ ([16, c + 3] : List Nat) := by first | decide | (simp <;> omega)
  have hO_c : c ∉ ([16, c + 3] : List Nat) := by first | decide | (simp <;> omega)
  have hO_cl : c + 1 ∉ ([16, c + 3] : List Nat) := by first | decide | (simp <;> omega)
  have hO_cp : c + 2 ∉ ([16, c + 3] : List Nat) := by first | decide | (simp <;> omega)
  have hOu : ∀ i, i < 6 → 4 + i ∉ ([16, c + 3] : List Nat) := fun i hi => by simp <;> omega
  intro n w_once c_hp res hM
  unfold W_takeAndMake_107 at hM
  refine eGs.steps 1 (y := (108, [some (.ref 15), none, some (.int mm), some (.ref (4 + uu)), none, none], [.ref (4 + uu)], (eW2 H [(16, .inl (3, 6, .inr (.inr fun i => (w_once i).map fun j => 4 + j))), (c + 3, .inl (1, 7, .inr (.inl c_hp)))]))) rfl ?_
  obtain ⟨v11, hv, hM⟩ := dg_bind hM
  have hE := T_R_isOnce (X := X) (H := (eW2 H [(16, .inl (3, 6, .inr (.inr fun i => (w_once i).map fun j => 4 + j))), (c + 3, .inl (1, 7, .inr (.inl c_hp)))])) (hc_r := ((eW2_offA (hOu _ h_uu) rfl).trans (hu _ h_uu))) (hz_r := by first | assumption | omega) hv
  refine g_callV rfl rfl rfl rfl rfl (by omega) ((eW2_offA (hOu _ h_uu) rfl).trans (hu _ h_uu)) rfl (hE.mono (by first | decide | omega)) ?_
  refine eGs.steps 0 (y := (111, [some (.ref 15), none, some (.int mm), some (.ref (4 + uu)), none, none], [.int v11], (eW2 H [(16, .inl (3, 6, .inr (.inr fun i => (w_once i).map fun j => 4 + j))), (c + 3, .inl (1, 7, .inr (.inl c_hp)))]))) rfl ?_
  by_cases hc : v11 = 0
  · rw [if_pos hc] at hM
    refine g_if (cd := .eq) (t := 121) true rfl (decide_eq_true hc) rfl ?_
    cases hM
    exact eGs.fin rfl rfl rfl
  · rw [if_neg hc] at hM
    refine g_if (cd := .eq) (t := 121) false rfl (decide_eq_false hc) rfl ?_
    refine eGs.steps 1 (y := (115, [some (.ref 15), none, some (.int mm), some (.ref (4 + uu)), none, none], [.ref 15], (eW2 H [(16, .inl (3, 6, .inr (.inr fun i => (w_once i).map fun j => 4 + j))), (c + 3, .inl (1, 7, .inr (.inl c_hp)))]))) rfl ?_
    refine g_getf rfl rfl (by omega) ((eW2_offA hO_w rfl).trans hc_w) rfl ?_
    refine eGs.steps 0 (y := (118, [some (.ref 15), none, some (.int mm), some (.ref (4 + uu)), none, none], [.ref 16], (eW2 H [(16, .inl (3, 6, .inr (.inr fun i => (w_once i).map fun j => 4 + j))), (c + 3, .inl (1, 7, .inr (.inl c_hp)))]))) rfl ?_
    refine eGs.steps 2 (y := (120, [some (.ref 15), none, some (.int mm), some (.ref (4 + uu)), none, none], [.ref (4 + uu), .int mm, .ref 16], (eW2 H [(16, .inl (3, 6, .inr (.inr fun i => (w_once i).map fun j => 4 + j))), (c + 3, .inl (1, 7, .inr (.inl c_hp)))]))) rfl ?_
    obtain ⟨hg12, hM⟩ := dg_none hM
    refine g_aastW rfl (by omega) (by omega) (eW2_getA hN 0 rfl rfl) ((eW2_offA (hOu _ h_uu) rfl).trans (hu _ h_uu)) rfl hg12 (eW2_setA hN 0 rfl rfl) ?_
    rw [eUp_mapS w_once ((mm).toNatClampNeg) uu]
    refine eGs.steps 0 (y := (121, [some (.ref 15), none, some (.int mm), some (.ref (4 + uu)), none, none], [], (eW2 H [(16, .inl (3, 6, .inr (.inr fun i => ((eUp w_once (mm).toNatClampNeg (some uu)) i).map fun j => 4 + j))), (c + 3, .inl (1, 7, .inr (.inl c_hp)))]))) rfl ?_
    cases hM
    exact eGs.fin rfl rfl rfl
theorem T_W_takeAndMake_41 {X : Nat × (Nat → Int32)} {H : eH} {c : Nat} {mm : Int32} {uu : Nat} {uses : Int32} {u_label : Nat → Int32} {u_left : Nat → Int64} {u_leftKinds : Nat → Int64} {u_here : Nat → Int64} {u_out : Nat → Int64} {u_into : Nat → Int64} {u_intoLabel : Nat → Int32} {u_dissolves : Nat → Int32} {u_divides : Nat → Int32} {u_other : Nat → Int64} {c_lab : Nat → Int32} {c_par : Nat → Int32} (hc_w : H.1 15 = some (.inr (8, [.ref 16]))) (hc_c : H.1 c = some (.inr (3, [.ref (c + 1), .ref (c + 2), .ref (c + 3)]))) (hc_cl : H.1 (c + 1) = some (.inl (0, 6, .inl c_lab))) (hc_cp : H.1 (c + 2) = some (.inl (0, 6, .inl c_par))) (hu : ∀ i, i < 6 → H.1 (4 + i) = some (.inr (5, [.int (nI i), .int (u_label i), .long (u_left i), .long (u_leftKinds i), .long (u_here i), .long (u_out i), .long (u_into i), .int (u_intoLabel i), .int (u_dissolves i), .int (u_divides i), .long (u_other i)]))) (h_uu : uu < 6) (hok_c : c = 20 ∨ c = 348 ∨ c = 352 ∨ (25 ≤ c ∧ c ≤ 341 ∧ c % 4 = 1)) : ∀ (n : Nat) (w_once : Nat → Option Nat) (c_hp : Nat → Int64) (res : (Nat → Option Nat) × (Nat → Int64)), W_takeAndMake_41 mm uu uses u_out u_into u_intoLabel u_dissolves u_divides c_lab c_par  n w_once c_hp = some res → eGs pP X 1 120 (41, [some (.ref 15), some (.ref c), some (.int mm), some (.ref (4 + uu)), some (.int uses), none], [], (eW2 H [(16, .inl (3, 6, .inr (.inr fun i => (w_once i).map fun j => 4 + j))), (c + 3, .inl (1, 7, .inr (.inl c_hp)))])) (.inl (none), (eW2 H [(16, .inl (3, 6, .inr (.inr fun i => (res.1 i).map fun j => 4 + j))), (c + 3, .inl (1, 7, .inr (.inl res.2)))])) := by
  have hN : ([16, c + 3] : List Nat).Nodup := by first | decide | (simp <;> omega)
  have hO_w : 15 ∉ ([16, c + 3] : List Nat) := by first | decide | (simp <;> omega)
  have hO_c : c ∉ ([16, c + 3] : List Nat) := by first | decide | (simp <;> omega)
  have hO_cl : c + 1 ∉ ([16, c + 3] : List Nat) := by first | decide | (simp <;> omega)
  have hO_cp : c + 2 ∉ ([16, c + 3] : List Nat) := by first | decide | (simp <;> omega)
  have hOu : ∀ i, i < 6 → 4 + i ∉ ([16, c + 3] : List Nat) := fun i hi => by simp <;> omega
  intro n w_once c_hp res hM
  unfold W_takeAndMake_41 at hM
  refine eGs.steps 1 (y := (42, [some (.ref 15), some (.ref c), some (.int mm), some (.ref (4 + uu)), some (.int uses), none], [.ref c], (eW2 H [(16, .inl (3, 6, .inr (.inr fun i => (w_once i).map fun j => 4 + j))), (c + 3, .inl (1, 7, .inr (.inl c_hp)))]))) rfl ?_
  refine g_getf rfl rfl (by omega) ((eW2_offA hO_c rfl).trans hc_c) rfl ?_
  refine eGs.steps 0 (y := (45, [some (.ref 15), some (.ref c), some (.int mm), some (.ref (4 + uu)), some (.int uses), none], [.ref (c + 3)], (eW2 H [(16, .inl (3, 6, .inr (.inr fun i => (w_once i).map fun j => 4 + j))), (c + 3, .inl (1, 7, .inr (.inl c_hp)))]))) rfl ?_
  refine eGs.steps 1 (y := (46, [some (.ref 15), some (.ref c), some (.int mm), some (.ref (4 + uu)), some (.int uses), none], [.ref c, .ref (c + 3)], (eW2 H [(16, .inl (3, 6, .inr (.inr fun i => (w_once i).map fun j => 4 + j))), (c + 3, .inl (1, 7, .inr (.inl c_hp)))]))) rfl ?_
  refine g_getf rfl rfl (by omega) ((eW2_offA hO_c rfl).trans hc_c) rfl ?_
  refine eGs.steps 0 (y := (49, [some (.ref 15), some (.ref c), some (.int mm), some (.ref (4 + uu)), some (.int uses), none], [.ref (c + 2), .ref (c + 3)], (eW2 H [(16, .inl (3, 6, .inr (.inr fun i => (w_once i).map fun j => 4 + j))), (c + 3, .inl (1, 7, .inr (.inl c_hp)))]))) rfl ?_
  refine eGs.steps 1 (y := (50, [some (.ref 15), some (.ref c), some (.int mm), some (.ref (4 + uu)), some (.int uses), none], [.int mm, .ref (c + 2), .ref (c + 3)], (eW2 H [(16, .inl (3, 6, .inr (.inr fun i => (w_once i).map fun j => 4 + j))), (c + 3, .inl (1, 7, .inr (.inl c_hp)))]))) rfl ?_
  obtain ⟨hg5, hM⟩ := dg_none hM
  refine g_iald rfl (by omega) ((eW2_offA hO_cp rfl).trans hc_cp) hg5 ?_
  refine eGs.steps 0 (y := (51, [some (.ref 15), some (.ref c), some (.int mm), some (.ref (4 + uu)), some (.int uses), none], [.int (c_par (mm).toNatClampNeg), .ref (c + 3)], (eW2 H [(16, .inl (3, 6, .inr (.inr fun i => (w_once i).map fun j => 4 + j))), (c + 3, .inl (1, 7, .inr (.inl c_hp)))]))) rfl ?_
  refine eGs.steps 1 (y := (52, [some (.ref 15), some (.ref c), some (.int mm), some (.ref (4 + uu)), some (.int uses), none], [.int (c_par (mm).toNatClampNeg), .ref (c + 3), .int (c_par (mm).toNatClampNeg), .ref (c + 3)], (eW2 H [(16, .inl (3, 6, .inr (.inr fun i => (w_once i).map fun j => 4 + j))), (c + 3, .inl (1, 7, .inr (.inl c_hp)))]))) rfl ?_
  obtain ⟨hg6, hM⟩ := dg_none hM
  refine g_lald rfl (by omega) (eW2_getA hN 1 rfl rfl) hg6 ?_
  refine eGs.steps 0 (y := (53, [some (.ref 15), some (.ref c), some (.int mm), some (.ref (4 + uu)), some (.int uses), none], [.long (c_hp ((c_par (mm).toNatClampNeg)).toNatClampNeg), .int (c_par (mm).toNatClampNeg), .ref (c + 3)], (eW2 H [(16, .inl (3, 6, .inr (.inr fun i => (w_once i).map fun j => 4 + j))), (c + 3, .inl (1, 7, .inr (.inl c_hp)))]))) rfl ?_
  refine eGs.steps 3 (y := (57, [some (.ref 15), some (.ref c), some (.int mm), some (.ref (4 + uu)), some (.int uses), none], [.ref (4 + uu), .long ((uses).toInt64), .long (c_hp ((c_par (mm).toNatClampNeg)).toNatClampNeg), .int (c_par (mm).toNatClampNeg), .ref (c + 3)], (eW2 H [(16, .inl (3, 6, .inr (.inr fun i => (w_once i).map fun j => 4 + j))), (c + 3, .inl (1, 7, .inr (.inl c_hp)))]))) rfl ?_
  refine g_getf rfl rfl (by omega) ((eW2_offA (hOu _ h_uu) rfl).trans (hu _ h_uu)) rfl ?_
  refine eGs.steps 0 (y := (60, [some (.ref 15), some (.ref c), some (.int mm), some (.ref (4 + uu)), some (.int uses), none], [.long (u_out uu), .long ((uses).toInt64), .long (c_hp ((c_par (mm).toNatClampNeg)).toNatClampNeg), .int (c_par (mm).toNatClampNeg), .ref (c + 3)], (eW2 H [(16, .inl (3, 6, .inr (.inr fun i => (w_once i).map fun j => 4 + j))), (c + 3, .inl (1, 7, .inr (.inl c_hp)))]))) rfl ?_
  refine eGs.steps 2 (y := (62, [some (.ref 15), some (.ref c), some (.int mm), some (.ref (4 + uu)), some (.int uses), none], [.long ((c_hp ((c_par (mm).toNatClampNeg)).toNatClampNeg) + ((uses).toInt64 * (u_out uu))), .int (c_par (mm).toNatClampNeg), .ref (c + 3)], (eW2 H [(16, .inl (3, 6, .inr (.inr fun i => (w_once i).map fun j => 4 + j))), (c + 3, .inl (1, 7, .inr (.inl c_hp)))]))) rfl ?_
  obtain ⟨hg7, hM⟩ := dg_none hM
  refine g_lastW rfl (by omega) (eW2_getA hN 1 rfl rfl) hg7 (eW2_setA hN 1 rfl rfl) ?_
  refine eGs.steps 0 (y := (63, [some (.ref 15), some (.ref c), some (.int mm), some (.ref (4 + uu)), some (.int uses), none], [], (eW2 H [(16, .inl (3, 6, .inr (.inr fun i => (w_once i).map fun j => 4 + j))), (c + 3, .inl (1, 7, .inr (.inl (eUp c_hp ((c_par (mm).toNatClampNeg)).toNatClampNeg ((c_hp ((c_par (mm).toNatClampNeg)).toNatClampNeg) + ((uses).toInt64 * (u_out uu)))))))]))) rfl ?_
  refine eGs.steps 1 (y := (64, [some (.ref 15), some (.ref c), some (.int mm), some (.ref (4 + uu)), some (.int uses), none], [.ref (4 + uu)], (eW2 H [(16, .inl (3, 6, .inr (.inr fun i => (w_once i).map fun j => 4 + j))), (c + 3, .inl (1, 7, .inr (.inl (eUp c_hp ((c_par (mm).toNatClampNeg)).toNatClampNeg ((c_hp ((c_par (mm).toNatClampNeg)).toNatClampNeg) + ((uses).toInt64 * (u_out uu)))))))]))) rfl ?_
  refine g_getf rfl rfl (by omega) ((eW2_offA (hOu _ h_uu) rfl).trans (hu _ h_uu)) rfl ?_
  refine eGs.steps 0 (y := (67, [some (.ref 15), some (.ref c), some (.int mm), some (.ref (4 + uu)), some (.int uses), none], [.long (u_into uu)], (eW2 H [(16, .inl (3, 6, .inr (.inr fun i => (w_once i).map fun j => 4 + j))), (c + 3, .inl (1, 7, .inr (.inl (eUp c_hp ((c_par (mm).toNatClampNeg)).toNatClampNeg ((c_hp ((c_par (mm).toNatClampNeg)).toNatClampNeg) + ((uses).toInt64 * (u_out uu)))))))]))) rfl ?_
  refine eGs.steps 2 (y := (69, [some (.ref 15), some (.ref c), some (.int mm), some (.ref (4 + uu)), some (.int uses), none], [.int (lg_cmp (u_into uu) (0 : Int64))], (eW2 H [(16, .inl (3, 6, .inr (.inr fun i => (w_once i).map fun j => 4 + j))), (c + 3, .inl (1, 7, .inr (.inl (eUp c_hp ((c_par (mm).toNatClampNeg)).toNatClampNeg ((c_hp ((c_par (mm).toNatClampNeg)).toNatClampNeg) + ((uses).toInt64 * (u_out uu)))))))]))) rfl ?_
  by_cases hc : (lg_cmp (u_into uu) (0 : Int64)) = 0
  · rw [if_pos hc] at hM
    refine g_if (cd := .eq) (t := 107) true rfl (decide_eq_true hc) rfl ?_
    refine eGs.weak (lo' := [some (.ref 15), none, some (.int mm), some (.ref (4 + uu)), none, none]) (by repeat' first | exact trivial | exact rfl | constructor) ?_
    exact T_W_takeAndMake_107 (c := c) (mm := mm) (uu := uu) (uses := uses) (u_label := u_label) (u_left := u_left) (u_leftKinds := u_leftKinds) (u_here := u_here) (u_out := u_out) (u_into := u_into) (u_intoLabel := u_intoLabel) (u_dissolves := u_dissolves) (u_divides := u_divides) (u_other := u_other) (c_lab := c_lab) (c_par := c_par) (hc_w := hc_w) (hc_c := hc_c) (hc_cl := hc_cl) (hc_cp := hc_cp) (hu := hu) (h_uu := h_uu) (hok_c := hok_c) n _ _ _ hM
  · rw [if_neg hc] at hM
    refine g_if (cd := .eq) (t := 107) false rfl (decide_eq_false hc) rfl ?_
    refine eGs.steps 3 (y := (75, [some (.ref 15), some (.ref c), some (.int mm), some (.ref (4 + uu)), some (.int uses), none], [.ref (4 + uu), .int mm, .ref c], (eW2 H [(16, .inl (3, 6, .inr (.inr fun i => (w_once i).map fun j => 4 + j))), (c + 3, .inl (1, 7, .inr (.inl (eUp c_hp ((c_par (mm).toNatClampNeg)).toNatClampNeg ((c_hp ((c_par (mm).toNatClampNeg)).toNatClampNeg) + ((uses).toInt64 * (u_out uu)))))))]))) rfl ?_
    refine g_getf rfl rfl (by omega) ((eW2_offA (hOu _ h_uu) rfl).trans (hu _ h_uu)) rfl ?_
    refine eGs.steps 0 (y := (78, [some (.ref 15), some (.ref c), some (.int mm), some (.ref (4 + uu)), some (.int uses), none], [.int (u_intoLabel uu), .int mm, .ref c], (eW2 H [(16, .inl (3, 6, .inr (.inr fun i => (w_once i).map fun j => 4 + j))), (c + 3, .inl (1, 7, .inr (.inl (eUp c_hp ((c_par (mm).toNatClampNeg)).toNatClampNeg ((c_hp ((c_par (mm).toNatClampNeg)).toNatClampNeg) + ((uses).toInt64 * (u_out uu)))))))]))) rfl ?_
    obtain ⟨v8, hv, hM⟩ := dg_bind hM
    have hE := T_K_firstChildWith (X := X) (H := (eW2 H [(16, .inl (3, 6, .inr (.inr fun i => (w_once i).map fun j => 4 + j))), (c + 3, .inl (1, 7, .inr (.inl (eUp c_hp ((c_par (mm).toNatClampNeg)).toNatClampNeg ((c_hp ((c_par (mm).toNatClampNeg)).toNatClampNeg) + ((uses).toInt64 * (u_out uu)))))))])) (hc_c := ((eW2_offA hO_c rfl).trans hc_c)) (hc_cl := ((eW2_offA hO_cl rfl).trans hc_cl)) (hc_cp := ((eW2_offA hO_cp rfl).trans hc_cp)) (hok_c := by first | assumption | omega) hv
    refine g_callV rfl rfl rfl rfl rfl (by omega) ((eW2_offA hO_c rfl).trans hc_c) rfl (hE.mono (by first | decide | omega)) ?_
    refine eGs.steps 0 (y := (81, [some (.ref 15), some (.ref c), some (.int mm), some (.ref (4 + uu)), some (.int uses), none], [.int v8], (eW2 H [(16, .inl (3, 6, .inr (.inr fun i => (w_once i).map fun j => 4 + j))), (c + 3, .inl (1, 7, .inr (.inl (eUp c_hp ((c_par (mm).toNatClampNeg)).toNatClampNeg ((c_hp ((c_par (mm).toNatClampNeg)).toNatClampNeg) + ((uses).toInt64 * (u_out uu)))))))]))) rfl ?_
    refine eGs.steps 3 (y := (86, [some (.ref 15), some (.ref c), some (.int mm), some (.ref (4 + uu)), some (.int uses), some (.int v8)], [.int (-1 : Int32), .int v8], (eW2 H [(16, .inl (3, 6, .inr (.inr fun i => (w_once i).map fun j => 4 + j))), (c + 3, .inl (1, 7, .inr (.inl (eUp c_hp ((c_par (mm).toNatClampNeg)).toNatClampNeg ((c_hp ((c_par (mm).toNatClampNeg)).toNatClampNeg) + ((uses).toInt64 * (u_out uu)))))))]))) rfl ?_
    by_cases hc : v8 = (-1 : Int32)
    · rw [if_pos hc] at hM
      refine g_icmp (cd := .eq) (t := 107) true rfl (decide_eq_true hc) rfl ?_
      refine eGs.weak (lo' := [some (.ref 15), none, some (.int mm), some (.ref (4 + uu)), none, none]) (by repeat' first | exact trivial | exact rfl | constructor) ?_
      exact T_W_takeAndMake_107 (c := c) (mm := mm) (uu := uu) (uses := uses) (u_label := u_label) (u_left := u_left) (u_leftKinds := u_leftKinds) (u_here := u_here) (u_out := u_out) (u_into := u_into) (u_intoLabel := u_intoLabel) (u_dissolves := u_dissolves) (u_divides := u_divides) (u_other := u_other) (c_lab := c_lab) (c_par := c_par) (hc_w := hc_w) (hc_c := hc_c) (hc_cl := hc_cl) (hc_cp := hc_cp) (hu := hu) (h_uu := h_uu) (hok_c := hok_c) n _ _ _ hM
    · rw [if_neg hc] at hM
      refine g_icmp (cd := .eq) (t := 107) false rfl (decide_eq_false hc) rfl ?_
      refine eGs.steps 1 (y := (90, [some (.ref 15), some (.ref c), some (.int mm), some (.ref (4 + uu)), some (.int uses), some (.int v8)], [.ref c], (eW2 H [(16, .inl (3, 6, .inr (.inr fun i => (w_once i).map fun j => 4 + j))), (c + 3, .inl (1, 7, .inr (.inl (eUp c_hp ((c_par (mm).toNatClampNeg)).toNatClampNeg ((c_hp ((c_par (mm).toNatClampNeg)).toNatClampNeg) + ((uses).toInt64 * (u_out uu)))))))]))) rfl ?_
      refine g_getf rfl rfl (by omega) ((eW2_offA hO_c rfl).trans hc_c) rfl ?_
      refine eGs.steps 0 (y := (93, [some (.ref 15), some (.ref c), some (.int mm), some (.ref (4 + uu)), some (.int uses), some (.int v8)], [.ref (c + 3)], (eW2 H [(16, .inl (3, 6, .inr (.inr fun i => (w_once i).map fun j => 4 + j))), (c + 3, .inl (1, 7, .inr (.inl (eUp c_hp ((c_par (mm).toNatClampNeg)).toNatClampNeg ((c_hp ((c_par (mm).toNatClampNeg)).toNatClampNeg) + ((uses).toInt64 * (u_out uu)))))))]))) rfl ?_
      refine eGs.steps 2 (y := (96, [some (.ref 15), some (.ref c), some (.int mm), some (.ref (4 + uu)), some (.int uses), some (.int v8)], [.int v8, .ref (c + 3), .int v8, .ref (c + 3)], (eW2 H [(16, .inl (3, 6, .inr (.inr fun i => (w_once i).map fun j => 4 + j))), (c + 3, .inl (1, 7, .inr (.inl (eUp c_hp ((c_par (mm).toNatClampNeg)).toNatClampNeg ((c_hp ((c_par (mm).toNatClampNeg)).toNatClampNeg) + ((uses).toInt64 * (u_out uu)))))))]))) rfl ?_
      obtain ⟨hg9, hM⟩ := dg_none hM
      refine g_lald rfl (by omega) (eW2_getA hN 1 rfl rfl) hg9 ?_
      refine eGs.steps 0 (y := (97, [some (.ref 15), some (.ref c), some (.int mm), some (.ref (4 + uu)), some (.int uses), some (.int v8)], [.long ((eUp c_hp ((c_par (mm).toNatClampNeg)).toNatClampNeg ((c_hp ((c_par (mm).toNatClampNeg)).toNatClampNeg) + ((uses).toInt64 * (u_out uu)))) (v8).toNatClampNeg), .int v8, .ref (c + 3)], (eW2 H [(16, .inl (3, 6, .inr (.inr fun i => (w_once i).map fun j => 4 + j))), (c + 3, .inl (1, 7, .inr (.inl (eUp c_hp ((c_par (mm).toNatClampNeg)).toNatClampNeg ((c_hp ((c_par (mm).toNatClampNeg)).toNatClampNeg) + ((uses).toInt64 * (u_out uu)))))))]))) rfl ?_
      refine eGs.steps 3 (y := (101, [some (.ref 15), some (.ref c), some (.int mm), some (.ref (4 + uu)), some (.int uses), some (.int v8)], [.ref (4 + uu), .long ((uses).toInt64), .long ((eUp c_hp ((c_par (mm).toNatClampNeg)).toNatClampNeg ((c_hp ((c_par (mm).toNatClampNeg)).toNatClampNeg) + ((uses).toInt64 * (u_out uu)))) (v8).toNatClampNeg), .int v8, .ref (c + 3)], (eW2 H [(16, .inl (3, 6, .inr (.inr fun i => (w_once i).map fun j => 4 + j))), (c + 3, .inl (1, 7, .inr (.inl (eUp c_hp ((c_par (mm).toNatClampNeg)).toNatClampNeg ((c_hp ((c_par (mm).toNatClampNeg)).toNatClampNeg) + ((uses).toInt64 * (u_out uu)))))))]))) rfl ?_
      refine g_getf rfl rfl (by omega) ((eW2_offA (hOu _ h_uu) rfl).trans (hu _ h_uu)) rfl ?_
      refine eGs.steps 0 (y := (104, [some (.ref 15), some (.ref c), some (.int mm), some (.ref (4 + uu)), some (.int uses), some (.int v8)], [.long (u_into uu), .long ((uses).toInt64), .long ((eUp c_hp ((c_par (mm).toNatClampNeg)).toNatClampNeg ((c_hp ((c_par (mm).toNatClampNeg)).toNatClampNeg) + ((uses).toInt64 * (u_out uu)))) (v8).toNatClampNeg), .int v8, .ref (c + 3)], (eW2 H [(16, .inl (3, 6, .inr (.inr fun i => (w_once i).map fun j => 4 + j))), (c + 3, .inl (1, 7, .inr (.inl (eUp c_hp ((c_par (mm).toNatClampNeg)).toNatClampNeg ((c_hp ((c_par (mm).toNatClampNeg)).toNatClampNeg) + ((uses).toInt64 * (u_out uu)))))))]))) rfl ?_
      refine eGs.steps 2 (y := (106, [some (.ref 15), some (.ref c), some (.int mm), some (.ref (4 + uu)), some (.int uses), some (.int v8)], [.long (((eUp c_hp ((c_par (mm).toNatClampNeg)).toNatClampNeg ((c_hp ((c_par (mm).toNatClampNeg)).toNatClampNeg) + ((uses).toInt64 * (u_out uu)))) (v8).toNatClampNeg) + ((uses).toInt64 * (u_into uu))), .int v8, .ref (c + 3)], (eW2 H [(16, .inl (3, 6, .inr (.inr fun i => (w_once i).map fun j => 4 + j))), (c + 3, .inl (1, 7, .inr (.inl (eUp c_hp ((c_par (mm).toNatClampNeg)).toNatClampNeg ((c_hp ((c_par (mm).toNatClampNeg)).toNatClampNeg) + ((uses).toInt64 * (u_out uu)))))))]))) rfl ?_
      obtain ⟨hg10, hM⟩ := dg_none hM
      refine g_lastW rfl (by omega) (eW2_getA hN 1 rfl rfl) hg10 (eW2_setA hN 1 rfl rfl) ?_
      refine eGs.steps 0 (y := (107, [some (.ref 15), some (.ref c), some (.int mm), some (.ref (4 + uu)), some (.int uses), some (.int v8)], [], (eW2 H [(16, .inl (3, 6, .inr (.inr fun i => (w_once i).map fun j => 4 + j))), (c + 3, .inl (1, 7, .inr (.inl (eUp (eUp c_hp ((c_par (mm).toNatClampNeg)).toNatClampNeg ((c_hp ((c_par (mm).toNatClampNeg)).toNatClampNeg) + ((uses).toInt64 * (u_out uu)))) (v8).toNatClampNeg (((eUp c_hp ((c_par (mm).toNatClampNeg)).toNatClampNeg ((c_hp ((c_par (mm).toNatClampNeg)).toNatClampNeg) + ((uses).toInt64 * (u_out uu)))) (v8).toNatClampNeg) + ((uses).toInt64 * (u_into uu)))))))]))) rfl ?_
      refine eGs.weak (lo' := [some (.ref 15), none, some (.int mm), some (.ref (4 + uu)), none, none]) (by repeat' first | exact trivial | exact rfl | constructor) ?_
      exact T_W_takeAndMake_107 (c := c) (mm := mm) (uu := uu) (uses := uses) (u_label := u_label) (u_left := u_left) (u_leftKinds := u_leftKinds) (u_here := u_here) (u_out := u_out) (u_into := u_into) (u_intoLabel := u_intoLabel) (u_dissolves := u_dissolves) (u_divides := u_divides) (u_other := u_other) (c_lab := c_lab) (c_par := c_par) (hc_w := hc_w) (hc_c := hc_c) (hc_cl := hc_cl) (hc_cp := hc_cp) (hu := hu) (h_uu := h_uu) (hok_c := hok_c) n _ _ _ hM
theorem T_W_takeAndMake {X : Nat × (Nat → Int32)} {H : eH} {c : Nat} {mm : Int32} {uu : Nat} {uses : Int32} {w_once : Nat → Option Nat} {u_label : Nat → Int32} {u_left : Nat → Int64} {u_leftKinds : Nat → Int64} {u_here : Nat → Int64} {u_out : Nat → Int64} {u_into : Nat → Int64} {u_intoLabel : Nat → Int32} {u_dissolves : Nat → Int32} {u_divides : Nat → Int32} {u_other : Nat → Int64} {c_lab : Nat → Int32} {c_par : Nat → Int32} {c_hp : Nat → Int64} {n : Nat} {res : (Nat → Option Nat) × (Nat → Int64)} (hc_w : H.1 15 = some (.inr (8, [.ref 16]))) (hc_wo : H.1 16 = some (.inl (3, 6, .inr (.inr fun i => (w_once i).map fun j => 4 + j)))) (hc_c : H.1 c = some (.inr (3, [.ref (c + 1), .ref (c + 2), .ref (c + 3)]))) (hc_cl : H.1 (c + 1) = some (.inl (0, 6, .inl c_lab))) (hc_cp : H.1 (c + 2) = some (.inl (0, 6, .inl c_par))) (hc_ch : H.1 (c + 3) = some (.inl (1, 7, .inr (.inl c_hp)))) (hu : ∀ i, i < 6 → H.1 (4 + i) = some (.inr (5, [.int (nI i), .int (u_label i), .long (u_left i), .long (u_leftKinds i), .long (u_here i), .long (u_out i), .long (u_into i), .int (u_intoLabel i), .int (u_dissolves i), .int (u_divides i), .long (u_other i)]))) (h_uu : uu < 6) (hok_c : c = 20 ∨ c = 348 ∨ c = 352 ∨ (25 ≤ c ∧ c ≤ 341 ∧ c % 4 = 1)) (hM : W_takeAndMake n mm uu uses w_once u_left u_here u_out u_into u_intoLabel u_dissolves u_divides c_lab c_par c_hp = some res) : eEv pP X 2 120 [.ref 15, .ref c, .int mm, .ref (4 + uu), .int uses] H (.inl (none), (eW2 H [(16, .inl (3, 6, .inr (.inr fun i => (res.1 i).map fun j => 4 + j))), (c + 3, .inl (1, 7, .inr (.inl res.2)))])) := by
  have hN : ([16, c + 3] : List Nat).Nodup := by first | decide | (simp <;> omega)
  have hO_w : 15 ∉ ([16, c + 3] : List Nat) := by first | decide | (simp <;> omega)
  have hO_c : c ∉ ([16, c + 3] : List Nat) := by first | decide | (simp <;> omega)
  have hO_cl : c + 1 ∉ ([16, c + 3] : List Nat) := by first | decide | (simp <;> omega)
  have hO_cp : c + 2 ∉ ([16, c + 3] : List Nat) := by first | decide | (simp <;> omega)
  have hOu : ∀ i, i < 6 → 4 + i ∉ ([16, c + 3] : List Nat) := fun i hi => by simp <;> omega
  have h0 : (eW2 H [(16, .inl (3, 6, .inr (.inr fun i => (w_once i).map fun j => 4 + j))), (c + 3, .inl (1, 7, .inr (.inl c_hp)))]) = H := eW2_self (by simp only [List.forall_mem_cons]; exact ⟨hc_wo, hc_ch, fun _ h => absurd h List.not_mem_nil⟩)
  rw [show eEv pP X 2 120 _ H = eEv pP X 2 120 _ (eW2 H [(16, .inl (3, 6, .inr (.inr fun i => (w_once i).map fun j => 4 + j))), (c + 3, .inl (1, 7, .inr (.inl c_hp)))]) by rw [h0]]
  refine eEv.of (Nat.not_lt.mpr (Nat.le_of_ble_eq_true rfl)) ?_
  refine eGs.steps 0 (y := (0, [some (.ref 15), some (.ref c), some (.int mm), some (.ref (4 + uu)), some (.int uses), none], [], (eW2 H [(16, .inl (3, 6, .inr (.inr fun i => (w_once i).map fun j => 4 + j))), (c + 3, .inl (1, 7, .inr (.inl c_hp)))]))) rfl ?_
  unfold W_takeAndMake at hM
  refine eGs.steps 1 (y := (1, [some (.ref 15), some (.ref c), some (.int mm), some (.ref (4 + uu)), some (.int uses), none], [.ref c], (eW2 H [(16, .inl (3, 6, .inr (.inr fun i => (w_once i).map fun j => 4 + j))), (c + 3, .inl (1, 7, .inr (.inl c_hp)))]))) rfl ?_
  refine g_getf rfl rfl (by omega) ((eW2_offA hO_c rfl).trans hc_c) rfl ?_
  refine eGs.steps 0 (y := (4, [some (.ref 15), some (.ref c), some (.int mm), some (.ref (4 + uu)), some (.int uses), none], [.ref (c + 3)], (eW2 H [(16, .inl (3, 6, .inr (.inr fun i => (w_once i).map fun j => 4 + j))), (c + 3, .inl (1, 7, .inr (.inl c_hp)))]))) rfl ?_
  refine eGs.steps 2 (y := (6, [some (.ref 15), some (.ref c), some (.int mm), some (.ref (4 + uu)), some (.int uses), none], [.int mm, .ref (c + 3), .int mm, .ref (c + 3)], (eW2 H [(16, .inl (3, 6, .inr (.inr fun i => (w_once i).map fun j => 4 + j))), (c + 3, .inl (1, 7, .inr (.inl c_hp)))]))) rfl ?_
  obtain ⟨hg1, hM⟩ := dg_none hM
  refine g_lald rfl (by omega) (eW2_getA hN 1 rfl rfl) hg1 ?_
  refine eGs.steps 0 (y := (7, [some (.ref 15), some (.ref c), some (.int mm), some (.ref (4 + uu)), some (.int uses), none], [.long (c_hp (mm).toNatClampNeg), .int mm, .ref (c + 3)], (eW2 H [(16, .inl (3, 6, .inr (.inr fun i => (w_once i).map fun j => 4 + j))), (c + 3, .inl (1, 7, .inr (.inl c_hp)))]))) rfl ?_
  refine eGs.steps 3 (y := (11, [some (.ref 15), some (.ref c), some (.int mm), some (.ref (4 + uu)), some (.int uses), none], [.ref (4 + uu), .long ((uses).toInt64), .long (c_hp (mm).toNatClampNeg), .int mm, .ref (c + 3)], (eW2 H [(16, .inl (3, 6, .inr (.inr fun i => (w_once i).map fun j => 4 + j))), (c + 3, .inl (1, 7, .inr (.inl c_hp)))]))) rfl ?_
  refine g_getf rfl rfl (by omega) ((eW2_offA (hOu _ h_uu) rfl).trans (hu _ h_uu)) rfl ?_
  refine eGs.steps 0 (y := (14, [some (.ref 15), some (.ref c), some (.int mm), some (.ref (4 + uu)), some (.int uses), none], [.long (u_left uu), .long ((uses).toInt64), .long (c_hp (mm).toNatClampNeg), .int mm, .ref (c + 3)], (eW2 H [(16, .inl (3, 6, .inr (.inr fun i => (w_once i).map fun j => 4 + j))), (c + 3, .inl (1, 7, .inr (.inl c_hp)))]))) rfl ?_
  refine eGs.steps 2 (y := (16, [some (.ref 15), some (.ref c), some (.int mm), some (.ref (4 + uu)), some (.int uses), none], [.long ((c_hp (mm).toNatClampNeg) - ((uses).toInt64 * (u_left uu))), .int mm, .ref (c + 3)], (eW2 H [(16, .inl (3, 6, .inr (.inr fun i => (w_once i).map fun j => 4 + j))), (c + 3, .inl (1, 7, .inr (.inl c_hp)))]))) rfl ?_
  obtain ⟨hg2, hM⟩ := dg_none hM
  refine g_lastW rfl (by omega) (eW2_getA hN 1 rfl rfl) hg2 (eW2_setA hN 1 rfl rfl) ?_
  refine eGs.steps 0 (y := (17, [some (.ref 15), some (.ref c), some (.int mm), some (.ref (4 + uu)), some (.int uses), none], [], (eW2 H [(16, .inl (3, 6, .inr (.inr fun i => (w_once i).map fun j => 4 + j))), (c + 3, .inl (1, 7, .inr (.inl (eUp c_hp (mm).toNatClampNeg ((c_hp (mm).toNatClampNeg) - ((uses).toInt64 * (u_left uu)))))))]))) rfl ?_
  refine eGs.steps 1 (y := (18, [some (.ref 15), some (.ref c), some (.int mm), some (.ref (4 + uu)), some (.int uses), none], [.ref (4 + uu)], (eW2 H [(16, .inl (3, 6, .inr (.inr fun i => (w_once i).map fun j => 4 + j))), (c + 3, .inl (1, 7, .inr (.inl (eUp c_hp (mm).toNatClampNeg ((c_hp (mm).toNatClampNeg) - ((uses).toInt64 * (u_left uu)))))))]))) rfl ?_
  refine g_getf rfl rfl (by omega) ((eW2_offA (hOu _ h_uu) rfl).trans (hu _ h_uu)) rfl ?_
  refine eGs.steps 0 (y := (21, [some (.ref 15), some (.ref c), some (.int mm), some (.ref (4 + uu)), some (.int uses), none], [.int (u_divides uu)], (eW2 H [(16, .inl (3, 6, .inr (.inr fun i => (w_once i).map fun j => 4 + j))), (c + 3, .inl (1, 7, .inr (.inl (eUp c_hp (mm).toNatClampNeg ((c_hp (mm).toNatClampNeg) - ((uses).toInt64 * (u_left uu)))))))]))) rfl ?_
  by_cases hc : (u_divides uu) = 0
  · rw [if_pos hc] at hM
    refine g_if (cd := .ne) (t := 41) false rfl (decide_eq_false (fun z => z hc)) rfl ?_
    refine eGs.steps 1 (y := (25, [some (.ref 15), some (.ref c), some (.int mm), some (.ref (4 + uu)), some (.int uses), none], [.ref c], (eW2 H [(16, .inl (3, 6, .inr (.inr fun i => (w_once i).map fun j => 4 + j))), (c + 3, .inl (1, 7, .inr (.inl (eUp c_hp (mm).toNatClampNeg ((c_hp (mm).toNatClampNeg) - ((uses).toInt64 * (u_left uu)))))))]))) rfl ?_
    refine g_getf rfl rfl (by omega) ((eW2_offA hO_c rfl).trans hc_c) rfl ?_
    refine eGs.steps 0 (y := (28, [some (.ref 15), some (.ref c), some (.int mm), some (.ref (4 + uu)), some (.int uses), none], [.ref (c + 3)], (eW2 H [(16, .inl (3, 6, .inr (.inr fun i => (w_once i).map fun j => 4 + j))), (c + 3, .inl (1, 7, .inr (.inl (eUp c_hp (mm).toNatClampNeg ((c_hp (mm).toNatClampNeg) - ((uses).toInt64 * (u_left uu)))))))]))) rfl ?_
    refine eGs.steps 2 (y := (30, [some (.ref 15), some (.ref c), some (.int mm), some (.ref (4 + uu)), some (.int uses), none], [.int mm, .ref (c + 3), .int mm, .ref (c + 3)], (eW2 H [(16, .inl (3, 6, .inr (.inr fun i => (w_once i).map fun j => 4 + j))), (c + 3, .inl (1, 7, .inr (.inl (eUp c_hp (mm).toNatClampNeg ((c_hp (mm).toNatClampNeg) - ((uses).toInt64 * (u_left uu)))))))]))) rfl ?_
    obtain ⟨hg3, hM⟩ := dg_none hM
    refine g_lald rfl (by omega) (eW2_getA hN 1 rfl rfl) hg3 ?_
    refine eGs.steps 0 (y := (31, [some (.ref 15), some (.ref c), some (.int mm), some (.ref (4 + uu)), some (.int uses), none], [.long ((eUp c_hp (mm).toNatClampNeg ((c_hp (mm).toNatClampNeg) - ((uses).toInt64 * (u_left uu)))) (mm).toNatClampNeg), .int mm, .ref (c + 3)], (eW2 H [(16, .inl (3, 6, .inr (.inr fun i => (w_once i).map fun j => 4 + j))), (c + 3, .inl (1, 7, .inr (.inl (eUp c_hp (mm).toNatClampNeg ((c_hp (mm).toNatClampNeg) - ((uses).toInt64 * (u_left uu)))))))]))) rfl ?_
    refine eGs.steps 3 (y := (35, [some (.ref 15), some (.ref c), some (.int mm), some (.ref (4 + uu)), some (.int uses), none], [.ref (4 + uu), .long ((uses).toInt64), .long ((eUp c_hp (mm).toNatClampNeg ((c_hp (mm).toNatClampNeg) - ((uses).toInt64 * (u_left uu)))) (mm).toNatClampNeg), .int mm, .ref (c + 3)], (eW2 H [(16, .inl (3, 6, .inr (.inr fun i => (w_once i).map fun j => 4 + j))), (c + 3, .inl (1, 7, .inr (.inl (eUp c_hp (mm).toNatClampNeg ((c_hp (mm).toNatClampNeg) - ((uses).toInt64 * (u_left uu)))))))]))) rfl ?_
    refine g_getf rfl rfl (by omega) ((eW2_offA (hOu _ h_uu) rfl).trans (hu _ h_uu)) rfl ?_
    refine eGs.steps 0 (y := (38, [some (.ref 15), some (.ref c), some (.int mm), some (.ref (4 + uu)), some (.int uses), none], [.long (u_here uu), .long ((uses).toInt64), .long ((eUp c_hp (mm).toNatClampNeg ((c_hp (mm).toNatClampNeg) - ((uses).toInt64 * (u_left uu)))) (mm).toNatClampNeg), .int mm, .ref (c + 3)], (eW2 H [(16, .inl (3, 6, .inr (.inr fun i => (w_once i).map fun j => 4 + j))), (c + 3, .inl (1, 7, .inr (.inl (eUp c_hp (mm).toNatClampNeg ((c_hp (mm).toNatClampNeg) - ((uses).toInt64 * (u_left uu)))))))]))) rfl ?_
    refine eGs.steps 2 (y := (40, [some (.ref 15), some (.ref c), some (.int mm), some (.ref (4 + uu)), some (.int uses), none], [.long (((eUp c_hp (mm).toNatClampNeg ((c_hp (mm).toNatClampNeg) - ((uses).toInt64 * (u_left uu)))) (mm).toNatClampNeg) + ((uses).toInt64 * (u_here uu))), .int mm, .ref (c + 3)], (eW2 H [(16, .inl (3, 6, .inr (.inr fun i => (w_once i).map fun j => 4 + j))), (c + 3, .inl (1, 7, .inr (.inl (eUp c_hp (mm).toNatClampNeg ((c_hp (mm).toNatClampNeg) - ((uses).toInt64 * (u_left uu)))))))]))) rfl ?_
    obtain ⟨hg4, hM⟩ := dg_none hM
    refine g_lastW rfl (by omega) (eW2_getA hN 1 rfl rfl) hg4 (eW2_setA hN 1 rfl rfl) ?_
    refine eGs.steps 0 (y := (41, [some (.ref 15), some (.ref c), some (.int mm), some (.ref (4 + uu)), some (.int uses), none], [], (eW2 H [(16, .inl (3, 6, .inr (.inr fun i => (w_once i).map fun j => 4 + j))), (c + 3, .inl (1, 7, .inr (.inl (eUp (eUp c_hp (mm).toNatClampNeg ((c_hp (mm).toNatClampNeg) - ((uses).toInt64 * (u_left uu)))) (mm).toNatClampNeg (((eUp c_hp (mm).toNatClampNeg ((c_hp (mm).toNatClampNeg) - ((uses).toInt64 * (u_left uu)))) (mm).toNatClampNeg) + ((uses).toInt64 * (u_here uu)))))))]))) rfl ?_
    exact T_W_takeAndMake_41 (c := c) (mm := mm) (uu := uu) (uses := uses) (u_label := u_label) (u_left := u_left) (u_leftKinds := u_leftKinds) (u_here := u_here) (u_out := u_out) (u_into := u_into) (u_intoLabel := u_intoLabel) (u_dissolves := u_dissolves) (u_divides := u_divides) (u_other := u_other) (c_lab := c_lab) (c_par := c_par) (hc_w := hc_w) (hc_c := hc_c) (hc_cl := hc_cl) (hc_cp := hc_cp) (hu := hu) (h_uu := h_uu) (hok_c := hok_c) n _ _ _ hM
  · rw [if_neg hc] at hM
    refine g_if (cd := .ne) (t := 41) true rfl (decide_eq_true hc) rfl ?_
    exact T_W_takeAndMake_41 (c := c) (mm := mm) (uu := uu) (uses := uses) (u_label := u_label) (u_left := u_left) (u_leftKinds := u_leftKinds) (u_here := u_here) (u_out := u_out) (u_into := u_into) (u_intoLabel := u_intoLabel) (u_dissolves := u_dissolves) (u_divides := u_divides) (u_other := u_other) (c_lab := c_lab) (c_par := c_par) (hc_w := hc_w) (hc_c := hc_c) (hc_cl := hc_cl) (hc_cp := hc_cp) (hu := hu) (h_uu := h_uu) (hok_c := hok_c) n _ _ _ hM
def W_splitAll_2 (w_once : Nat → Option Nat) (u_here : Nat → Int64) (u_divides : Nat → Int32) (u_other : Nat → Int64)  : Nat → (Int32) → (Nat → Int32) → (Nat → Int32) → (Nat → Int64) → Option (Int32 × (Nat → Int32) × (Nat → Int32) × (Nat → Int64))
  | 0, _, _, _, _ => none
  | n + 1, L2, c_lab, c_par, c_hp =>
    if (6 : Int32) ≤ L2 then (some (((1 : Int32) &&& 1), c_lab, c_par, c_hp)) else (if L2 < 0 ∨ 6 ≤ (L2).toNatClampNeg then none else (match (w_once (L2).toNatClampNeg) with | none => (W_splitAll_2 w_once u_here u_divides u_other n (L2 + (1 : Int32)) c_lab c_par c_hp) | some v2 => if 6 ≤ v2 then none else (if (u_divides v2) = 0 then (W_splitAll_2 w_once u_here u_divides u_other n (L2 + (1 : Int32)) c_lab c_par c_hp) else ((K_leastFree n c_lab).bind fun v3 => (if v3 = (-1 : Int32) then (some (((0 : Int32) &&& 1), c_lab, c_par, c_hp)) else (if L2 < 0 ∨ 6 ≤ (L2).toNatClampNeg then none else (if L2 < 0 ∨ 6 ≤ (L2).toNatClampNeg then none else (if L2 < 0 ∨ 7 ≤ (L2).toNatClampNeg then none else ((K_open n v3 (c_par (L2).toNatClampNeg) (c_lab (L2).toNatClampNeg) ((c_hp (L2).toNatClampNeg) + (u_other v2)) c_lab c_par c_hp).bind fun v7 => (if L2 < 0 ∨ 7 ≤ (L2).toNatClampNeg then none else (if L2 < 0 ∨ 7 ≤ (L2).toNatClampNeg then none else (W_splitAll_2 w_once u_here u_divides u_other n (L2 + (1 : Int32)) v7.1 v7.2.1 (eUp v7.2.2 (L2).toNatClampNeg ((v7.2.2 (L2).toNatClampNeg) + (u_here v2)))))))))))))))
def W_splitAll (n : Nat) (w_once : Nat → Option Nat) (u_here : Nat → Int64) (u_divides : Nat → Int32) (u_other : Nat → Int64) (c_lab : Nat → Int32) (c_par : Nat → Int32) (c_hp : Nat → Int64) : Option (Int32 × (Nat → Int32) × (Nat → Int32) × (Nat → Int64)) :=
  W_splitAll_2 w_once u_here u_divides u_other n (0 : Int32) c_lab c_par c_hp
theorem T_W_splitAll_2 {X : Nat × (Nat → Int32)} {H : eH} {c : Nat} {w_once : Nat → Option Nat} {u_label : Nat → Int32} {u_left : Nat → Int64} {u_leftKinds : Nat → Int64} {u_here : Nat → Int64} {u_out : Nat → Int64} {u_into : Nat → Int64} {u_intoLabel : Nat → Int32} {u_dissolves : Nat → Int32} {u_divides : Nat → Int32} {u_other : Nat → Int64} (hc_w : H.1 15 = some (.inr (8, [.ref 16]))) (hc_wo : H.1 16 = some (.inl (3, 6, .inr (.inr fun i => (w_once i).map fun j => 4 + j)))) (hc_c : H.1 c = some (.inr (3, [.ref (c + 1), .ref (c + 2), .ref (c + 3)]))) (hu : ∀ i, i < 6 → H.1 (4 + i) = some (.inr (5, [.int (nI i), .int (u_label i), .long (u_left i), .long (u_leftKinds i), .long (u_here i), .long (u_out i), .long (u_into i), .int (u_intoLabel i), .int (u_dissolves i), .int (u_divides i), .long (u_other i)]))) (hok_c : c = 20 ∨ c = 348 ∨ c = 352 ∨ (25 ≤ c ∧ c ≤ 341 ∧ c % 4 = 1)) : ∀ (n : Nat) (L2 : Int32) (c_lab : Nat → Int32) (c_par : Nat → Int32) (c_hp : Nat → Int64) (res : Int32 × (Nat → Int32) × (Nat → Int32) × (Nat → Int64)), W_splitAll_2 w_once u_here u_divides u_other  n L2 c_lab c_par c_hp = some res → eGs pP X 1 121 (2, [some (.ref 15), some (.ref c), some (.int L2), none, none], [], (eW2 H [(c + 1, .inl (0, 6, .inl c_lab)), (c + 2, .inl (0, 6, .inl c_par)), (c + 3, .inl (1, 7, .inr (.inl c_hp)))])) (.inl (some (.int res.1)), (eW2 H [(c + 1, .inl (0, 6, .inl res.2.1)), (c + 2, .inl (0, 6, .inl res.2.2.1)), (c + 3, .inl (1, 7, .inr (.inl res.2.2.2)))])) := by
  have hN : ([c + 1, c + 2, c + 3] : List Nat).Nodup := by first | decide | (simp <;> omega)
  have hO_w : 15 ∉ ([c + 1, c + 2, c + 3] : List Nat) := by first | decide | (simp <;> omega)
  have hO_wo : 16 ∉ ([c + 1, c + 2, c + 3] : List Nat) := by first | decide | (simp <;> omega)
  have hO_c : c ∉ ([c + 1, c + 2, c + 3] : List Nat) := by first | decide | (simp <;> omega)
  have hOu : ∀ i, i < 6 → 4 + i ∉ ([c + 1, c + 2, c + 3] : List Nat) := fun i hi => by simp <;> omega
  intro n
  induction n with
  | zero =>
    intro L2 c_lab c_par c_hp res hM
    cases hM
  | succ n ih =>
    intro L2 c_lab c_par c_hp res hM
    rw [W_splitAll_2] at hM
    refine eGs.steps 2 (y := (5, [some (.ref 15), some (.ref c), some (.int L2), none, none], [.int (6 : Int32), .int L2], (eW2 H [(c + 1, .inl (0, 6, .inl c_lab)), (c + 2, .inl (0, 6, .inl c_par)), (c + 3, .inl (1, 7, .inr (.inl c_hp)))]))) rfl ?_
    by_cases hc : (6 : Int32) ≤ L2
    · rw [if_pos hc] at hM
      refine g_icmp (cd := .ge) (t := 88) true rfl (decide_eq_true hc) rfl ?_
      refine eGs.steps 1 (y := (89, [some (.ref 15), some (.ref c), some (.int L2), none, none], [.int (1 : Int32)], (eW2 H [(c + 1, .inl (0, 6, .inl c_lab)), (c + 2, .inl (0, 6, .inl c_par)), (c + 3, .inl (1, 7, .inr (.inl c_hp)))]))) rfl ?_
      cases hM
      exact eGs.fin rfl rfl rfl
    · rw [if_neg hc] at hM
      refine g_icmp (cd := .ge) (t := 88) false rfl (decide_eq_false hc) rfl ?_
      refine eGs.steps 1 (y := (9, [some (.ref 15), some (.ref c), some (.int L2), none, none], [.ref 15], (eW2 H [(c + 1, .inl (0, 6, .inl c_lab)), (c + 2, .inl (0, 6, .inl c_par)), (c + 3, .inl (1, 7, .inr (.inl c_hp)))]))) rfl ?_
      refine g_getf rfl rfl (by omega) ((eW2_offA hO_w rfl).trans hc_w) rfl ?_
      refine eGs.steps 0 (y := (12, [some (.ref 15), some (.ref c), some (.int L2), none, none], [.ref 16], (eW2 H [(c + 1, .inl (0, 6, .inl c_lab)), (c + 2, .inl (0, 6, .inl c_par)), (c + 3, .inl (1, 7, .inr (.inl c_hp)))]))) rfl ?_
      refine eGs.steps 1 (y := (13, [some (.ref 15), some (.ref c), some (.int L2), none, none], [.int L2, .ref 16], (eW2 H [(c + 1, .inl (0, 6, .inl c_lab)), (c + 2, .inl (0, 6, .inl c_par)), (c + 3, .inl (1, 7, .inr (.inl c_hp)))]))) rfl ?_
      obtain ⟨hg1, hM⟩ := dg_none hM
      refine g_aald rfl (by omega) ((eW2_offA hO_wo rfl).trans hc_wo) rfl hg1 ?_
      cases ho_v2 : (w_once (L2).toNatClampNeg) with
      | none =>
        rw [ho_v2] at hM
        dsimp only at hM
        simp only [ho_v2, Option.map, eRf]
        refine eGs.steps 0 (y := (14, [some (.ref 15), some (.ref c), some (.int L2), none, none], [.null], (eW2 H [(c + 1, .inl (0, 6, .inl c_lab)), (c + 2, .inl (0, 6, .inl c_par)), (c + 3, .inl (1, 7, .inr (.inl c_hp)))]))) rfl ?_
        refine eGs.steps 2 (y := (16, [some (.ref 15), some (.ref c), some (.int L2), some (.null), none], [.null], (eW2 H [(c + 1, .inl (0, 6, .inl c_lab)), (c + 2, .inl (0, 6, .inl c_par)), (c + 3, .inl (1, 7, .inr (.inl c_hp)))]))) rfl ?_
        refine eGs.steps 1 (y := (82, [some (.ref 15), some (.ref c), some (.int L2), some (.null), none], [], (eW2 H [(c + 1, .inl (0, 6, .inl c_lab)), (c + 2, .inl (0, 6, .inl c_par)), (c + 3, .inl (1, 7, .inr (.inl c_hp)))]))) rfl ?_
        refine eGs.steps 2 (y := (2, [some (.ref 15), some (.ref c), some (.int (L2 + (1 : Int32))), some (.null), none], [], (eW2 H [(c + 1, .inl (0, 6, .inl c_lab)), (c + 2, .inl (0, 6, .inl c_par)), (c + 3, .inl (1, 7, .inr (.inl c_hp)))]))) rfl ?_
        refine eGs.weak (lo' := [some (.ref 15), some (.ref c), some (.int (L2 + (1 : Int32))), none, none]) (by repeat' first | exact trivial | exact rfl | constructor) ?_
        exact ih _ _ _ _ _ hM
      | some v2 =>
        rw [ho_v2] at hM
        dsimp only at hM
        obtain ⟨hqv2, hM⟩ := dg_none hM
        simp only [ho_v2, Option.map, eRf]
        refine eGs.steps 0 (y := (14, [some (.ref 15), some (.ref c), some (.int L2), none, none], [.ref (4 + v2)], (eW2 H [(c + 1, .inl (0, 6, .inl c_lab)), (c + 2, .inl (0, 6, .inl c_par)), (c + 3, .inl (1, 7, .inr (.inl c_hp)))]))) rfl ?_
        refine eGs.steps 2 (y := (16, [some (.ref 15), some (.ref c), some (.int L2), some (.ref (4 + v2)), none], [.ref (4 + v2)], (eW2 H [(c + 1, .inl (0, 6, .inl c_lab)), (c + 2, .inl (0, 6, .inl c_par)), (c + 3, .inl (1, 7, .inr (.inl c_hp)))]))) rfl ?_
        refine eGs.steps 1 (y := (19, [some (.ref 15), some (.ref c), some (.int L2), some (.ref (4 + v2)), none], [], (eW2 H [(c + 1, .inl (0, 6, .inl c_lab)), (c + 2, .inl (0, 6, .inl c_par)), (c + 3, .inl (1, 7, .inr (.inl c_hp)))]))) rfl ?_
        refine eGs.steps 1 (y := (20, [some (.ref 15), some (.ref c), some (.int L2), some (.ref (4 + v2)), none], [.ref (4 + v2)], (eW2 H [(c + 1, .inl (0, 6, .inl c_lab)), (c + 2, .inl (0, 6, .inl c_par)), (c + 3, .inl (1, 7, .inr (.inl c_hp)))]))) rfl ?_
        refine g_getf rfl rfl (by omega) ((eW2_offA (hOu _ (Nat.not_le.mp hqv2)) rfl).trans (hu _ (Nat.not_le.mp hqv2))) rfl ?_
        refine eGs.steps 0 (y := (23, [some (.ref 15), some (.ref c), some (.int L2), some (.ref (4 + v2)), none], [.int (u_divides v2)], (eW2 H [(c + 1, .inl (0, 6, .inl c_lab)), (c + 2, .inl (0, 6, .inl c_par)), (c + 3, .inl (1, 7, .inr (.inl c_hp)))]))) rfl ?_
        by_cases hc : (u_divides v2) = 0
        · rw [if_pos hc] at hM
          refine g_if (cd := .eq) (t := 82) true rfl (decide_eq_true hc) rfl ?_
          refine eGs.steps 2 (y := (2, [some (.ref 15), some (.ref c), some (.int (L2 + (1 : Int32))), some (.ref (4 + v2)), none], [], (eW2 H [(c + 1, .inl (0, 6, .inl c_lab)), (c + 2, .inl (0, 6, .inl c_par)), (c + 3, .inl (1, 7, .inr (.inl c_hp)))]))) rfl ?_
          refine eGs.weak (lo' := [some (.ref 15), some (.ref c), some (.int (L2 + (1 : Int32))), none, none]) (by repeat' first | exact trivial | exact rfl | constructor) ?_
          exact ih _ _ _ _ _ hM
        · rw [if_neg hc] at hM
          refine g_if (cd := .eq) (t := 82) false rfl (decide_eq_false hc) rfl ?_
          refine eGs.steps 1 (y := (27, [some (.ref 15), some (.ref c), some (.int L2), some (.ref (4 + v2)), none], [.ref c], (eW2 H [(c + 1, .inl (0, 6, .inl c_lab)), (c + 2, .inl (0, 6, .inl c_par)), (c + 3, .inl (1, 7, .inr (.inl c_hp)))]))) rfl ?_
          obtain ⟨v3, hv, hM⟩ := dg_bind hM
          have hE := T_K_leastFree (X := X) (H := (eW2 H [(c + 1, .inl (0, 6, .inl c_lab)), (c + 2, .inl (0, 6, .inl c_par)), (c + 3, .inl (1, 7, .inr (.inl c_hp)))])) (hc_c := ((eW2_offA hO_c rfl).trans hc_c)) (hc_cl := (eW2_getA hN 0 rfl rfl)) (hok_c := by first | assumption | omega) hv
          refine g_callV rfl rfl rfl rfl rfl (by omega) ((eW2_offA hO_c rfl).trans hc_c) rfl (hE.mono (by first | decide | omega)) ?_
          refine eGs.steps 0 (y := (30, [some (.ref 15), some (.ref c), some (.int L2), some (.ref (4 + v2)), none], [.int v3], (eW2 H [(c + 1, .inl (0, 6, .inl c_lab)), (c + 2, .inl (0, 6, .inl c_par)), (c + 3, .inl (1, 7, .inr (.inl c_hp)))]))) rfl ?_
          refine eGs.steps 3 (y := (35, [some (.ref 15), some (.ref c), some (.int L2), some (.ref (4 + v2)), some (.int v3)], [.int (-1 : Int32), .int v3], (eW2 H [(c + 1, .inl (0, 6, .inl c_lab)), (c + 2, .inl (0, 6, .inl c_par)), (c + 3, .inl (1, 7, .inr (.inl c_hp)))]))) rfl ?_
          by_cases hc : v3 = (-1 : Int32)
          · rw [if_pos hc] at hM
            refine g_icmp (cd := .ne) (t := 40) false rfl (decide_eq_false (fun z => z hc)) rfl ?_
            refine eGs.steps 1 (y := (39, [some (.ref 15), some (.ref c), some (.int L2), some (.ref (4 + v2)), some (.int v3)], [.int (0 : Int32)], (eW2 H [(c + 1, .inl (0, 6, .inl c_lab)), (c + 2, .inl (0, 6, .inl c_par)), (c + 3, .inl (1, 7, .inr (.inl c_hp)))]))) rfl ?_
            cases hM
            exact eGs.fin rfl rfl rfl
          · rw [if_neg hc] at hM
            refine g_icmp (cd := .ne) (t := 40) true rfl (decide_eq_true hc) rfl ?_
            refine eGs.steps 3 (y := (44, [some (.ref 15), some (.ref c), some (.int L2), some (.ref (4 + v2)), some (.int v3)], [.ref c, .int v3, .ref c], (eW2 H [(c + 1, .inl (0, 6, .inl c_lab)), (c + 2, .inl (0, 6, .inl c_par)), (c + 3, .inl (1, 7, .inr (.inl c_hp)))]))) rfl ?_
            refine g_getf rfl rfl (by omega) ((eW2_offA hO_c rfl).trans hc_c) rfl ?_
            refine eGs.steps 0 (y := (47, [some (.ref 15), some (.ref c), some (.int L2), some (.ref (4 + v2)), some (.int v3)], [.ref (c + 2), .int v3, .ref c], (eW2 H [(c + 1, .inl (0, 6, .inl c_lab)), (c + 2, .inl (0, 6, .inl c_par)), (c + 3, .inl (1, 7, .inr (.inl c_hp)))]))) rfl ?_
            refine eGs.steps 1 (y := (48, [some (.ref 15), some (.ref c), some (.int L2), some (.ref (4 + v2)), some (.int v3)], [.int L2, .ref (c + 2), .int v3, .ref c], (eW2 H [(c + 1, .inl (0, 6, .inl c_lab)), (c + 2, .inl (0, 6, .inl c_par)), (c + 3, .inl (1, 7, .inr (.inl c_hp)))]))) rfl ?_
            obtain ⟨hg4, hM⟩ := dg_none hM
            refine g_iald rfl (by omega) (eW2_getA hN 1 rfl rfl) hg4 ?_
            refine eGs.steps 0 (y := (49, [some (.ref 15), some (.ref c), some (.int L2), some (.ref (4 + v2)), some (.int v3)], [.int (c_par (L2).toNatClampNeg), .int v3, .ref c], (eW2 H [(c + 1, .inl (0, 6, .inl c_lab)), (c + 2, .inl (0, 6, .inl c_par)), (c + 3, .inl (1, 7, .inr (.inl c_hp)))]))) rfl ?_
            refine eGs.steps 1 (y := (50, [some (.ref 15), some (.ref c), some (.int L2), some (.ref (4 + v2)), some (.int v3)], [.ref c, .int (c_par (L2).toNatClampNeg), .int v3, .ref c], (eW2 H [(c + 1, .inl (0, 6, .inl c_lab)), (c + 2, .inl (0, 6, .inl c_par)), (c + 3, .inl (1, 7, .inr (.inl c_hp)))]))) rfl ?_
            refine g_getf rfl rfl (by omega) ((eW2_offA hO_c rfl).trans hc_c) rfl ?_
            refine eGs.steps 0 (y := (53, [some (.ref 15), some (.ref c), some (.int L2), some (.ref (4 + v2)), some (.int v3)], [.ref (c + 1), .int (c_par (L2).toNatClampNeg), .int v3, .ref c], (eW2 H [(c + 1, .inl (0, 6, .inl c_lab)), (c + 2, .inl (0, 6, .inl c_par)), (c + 3, .inl (1, 7, .inr (.inl c_hp)))]))) rfl ?_
            refine eGs.steps 1 (y := (54, [some (.ref 15), some (.ref c), some (.int L2), some (.ref (4 + v2)), some (.int v3)], [.int L2, .ref (c + 1), .int (c_par (L2).toNatClampNeg), .int v3, .ref c], (eW2 H [(c + 1, .inl (0, 6, .inl c_lab)), (c + 2, .inl (0, 6, .inl c_par)), (c + 3, .inl (1, 7, .inr (.inl c_hp)))]))) rfl ?_
            obtain ⟨hg5, hM⟩ := dg_none hM
            refine g_iald rfl (by omega) (eW2_getA hN 0 rfl rfl) hg5 ?_
            refine eGs.steps 0 (y := (55, [some (.ref 15), some (.ref c), some (.int L2), some (.ref (4 + v2)), some (.int v3)], [.int (c_lab (L2).toNatClampNeg), .int (c_par (L2).toNatClampNeg), .int v3, .ref c], (eW2 H [(c + 1, .inl (0, 6, .inl c_lab)), (c + 2, .inl (0, 6, .inl c_par)), (c + 3, .inl (1, 7, .inr (.inl c_hp)))]))) rfl ?_
            refine eGs.steps 1 (y := (56, [some (.ref 15), some (.ref c), some (.int L2), some (.ref (4 + v2)), some (.int v3)], [.ref c, .int (c_lab (L2).toNatClampNeg), .int (c_par (L2).toNatClampNeg), .int v3, .ref c], (eW2 H [(c + 1, .inl (0, 6, .inl c_lab)), (c + 2, .inl (0, 6, .inl c_par)), (c + 3, .inl (1, 7, .inr (.inl c_hp)))]))) rfl ?_
            refine g_getf rfl rfl (by omega) ((eW2_offA hO_c rfl).trans hc_c) rfl ?_
            refine eGs.steps 0 (y := (59, [some (.ref 15), some (.ref c), some (.int L2), some (.ref (4 + v2)), some (.int v3)], [.ref (c + 3), .int (c_lab (L2).toNatClampNeg), .int (c_par (L2).toNatClampNeg), .int v3, .ref c], (eW2 H [(c + 1, .inl (0, 6, .inl c_lab)), (c + 2, .inl (0, 6, .inl c_par)), (c + 3, .inl (1, 7, .inr (.inl c_hp)))]))) rfl ?_
            refine eGs.steps 1 (y := (60, [some (.ref 15), some (.ref c), some (.int L2), some (.ref (4 + v2)), some (.int v3)], [.int L2, .ref (c + 3), .int (c_lab (L2).toNatClampNeg), .int (c_par (L2).toNatClampNeg), .int v3, .ref c], (eW2 H [(c + 1, .inl (0, 6, .inl c_lab)), (c + 2, .inl (0, 6, .inl c_par)), (c + 3, .inl (1, 7, .inr (.inl c_hp)))]))) rfl ?_
            obtain ⟨hg6, hM⟩ := dg_none hM
            refine g_lald rfl (by omega) (eW2_getA hN 2 rfl rfl) hg6 ?_
            refine eGs.steps 0 (y := (61, [some (.ref 15), some (.ref c), some (.int L2), some (.ref (4 + v2)), some (.int v3)], [.long (c_hp (L2).toNatClampNeg), .int (c_lab (L2).toNatClampNeg), .int (c_par (L2).toNatClampNeg), .int v3, .ref c], (eW2 H [(c + 1, .inl (0, 6, .inl c_lab)), (c + 2, .inl (0, 6, .inl c_par)), (c + 3, .inl (1, 7, .inr (.inl c_hp)))]))) rfl ?_
            refine eGs.steps 1 (y := (62, [some (.ref 15), some (.ref c), some (.int L2), some (.ref (4 + v2)), some (.int v3)], [.ref (4 + v2), .long (c_hp (L2).toNatClampNeg), .int (c_lab (L2).toNatClampNeg), .int (c_par (L2).toNatClampNeg), .int v3, .ref c], (eW2 H [(c + 1, .inl (0, 6, .inl c_lab)), (c + 2, .inl (0, 6, .inl c_par)), (c + 3, .inl (1, 7, .inr (.inl c_hp)))]))) rfl ?_
            refine g_getf rfl rfl (by omega) ((eW2_offA (hOu _ (Nat.not_le.mp hqv2)) rfl).trans (hu _ (Nat.not_le.mp hqv2))) rfl ?_
            refine eGs.steps 0 (y := (65, [some (.ref 15), some (.ref c), some (.int L2), some (.ref (4 + v2)), some (.int v3)], [.long (u_other v2), .long (c_hp (L2).toNatClampNeg), .int (c_lab (L2).toNatClampNeg), .int (c_par (L2).toNatClampNeg), .int v3, .ref c], (eW2 H [(c + 1, .inl (0, 6, .inl c_lab)), (c + 2, .inl (0, 6, .inl c_par)), (c + 3, .inl (1, 7, .inr (.inl c_hp)))]))) rfl ?_
            refine eGs.steps 1 (y := (66, [some (.ref 15), some (.ref c), some (.int L2), some (.ref (4 + v2)), some (.int v3)], [.long ((c_hp (L2).toNatClampNeg) + (u_other v2)), .int (c_lab (L2).toNatClampNeg), .int (c_par (L2).toNatClampNeg), .int v3, .ref c], (eW2 H [(c + 1, .inl (0, 6, .inl c_lab)), (c + 2, .inl (0, 6, .inl c_par)), (c + 3, .inl (1, 7, .inr (.inl c_hp)))]))) rfl ?_
            obtain ⟨v7, hv, hM⟩ := dg_bind hM
            have hE := eEv_putA (T_K_open (X := X) (H := (eW2 H [(c + 1, .inl (0, 6, .inl c_lab)), (c + 2, .inl (0, 6, .inl c_par)), (c + 3, .inl (1, 7, .inr (.inl c_hp)))])) (hc_c := ((eW2_offA hO_c rfl).trans hc_c)) (hc_cl := (eW2_getA hN 0 rfl rfl)) (hc_cp := (eW2_getA hN 1 rfl rfl)) (hc_ch := (eW2_getA hN 2 rfl rfl)) (hok_c := by first | assumption | omega) hv) [0, 1, 2] hN rfl (by first | decide | (simp <;> omega)) rfl (eFor2_ok rfl)
            refine g_callV rfl rfl rfl rfl rfl (by omega) ((eW2_offA hO_c rfl).trans hc_c) rfl (hE.mono (by first | decide | omega)) ?_
            refine eGs.steps 0 (y := (69, [some (.ref 15), some (.ref c), some (.int L2), some (.ref (4 + v2)), some (.int v3)], [], (eW2 H [(c + 1, .inl (0, 6, .inl v7.1)), (c + 2, .inl (0, 6, .inl v7.2.1)), (c + 3, .inl (1, 7, .inr (.inl v7.2.2)))]))) rfl ?_
            refine eGs.steps 1 (y := (70, [some (.ref 15), some (.ref c), some (.int L2), some (.ref (4 + v2)), some (.int v3)], [.ref c], (eW2 H [(c + 1, .inl (0, 6, .inl v7.1)), (c + 2, .inl (0, 6, .inl v7.2.1)), (c + 3, .inl (1, 7, .inr (.inl v7.2.2)))]))) rfl ?_
            refine g_getf rfl rfl (by omega) ((eW2_offA hO_c rfl).trans hc_c) rfl ?_
            refine eGs.steps 0 (y := (73, [some (.ref 15), some (.ref c), some (.int L2), some (.ref (4 + v2)), some (.int v3)], [.ref (c + 3)], (eW2 H [(c + 1, .inl (0, 6, .inl v7.1)), (c + 2, .inl (0, 6, .inl v7.2.1)), (c + 3, .inl (1, 7, .inr (.inl v7.2.2)))]))) rfl ?_
            refine eGs.steps 2 (y := (75, [some (.ref 15), some (.ref c), some (.int L2), some (.ref (4 + v2)), some (.int v3)], [.int L2, .ref (c + 3), .int L2, .ref (c + 3)], (eW2 H [(c + 1, .inl (0, 6, .inl v7.1)), (c + 2, .inl (0, 6, .inl v7.2.1)), (c + 3, .inl (1, 7, .inr (.inl v7.2.2)))]))) rfl ?_
            obtain ⟨hg8, hM⟩ := dg_none hM
            refine g_lald rfl (by omega) (eW2_getA hN 2 rfl rfl) hg8 ?_
            refine eGs.steps 0 (y := (76, [some (.ref 15), some (.ref c), some (.int L2), some (.ref (4 + v2)), some (.int v3)], [.long (v7.2.2 (L2).toNatClampNeg), .int L2, .ref (c + 3)], (eW2 H [(c + 1, .inl (0, 6, .inl v7.1)), (c + 2, .inl (0, 6, .inl v7.2.1)), (c + 3, .inl (1, 7, .inr (.inl v7.2.2)))]))) rfl ?_
            refine eGs.steps 1 (y := (77, [some (.ref 15), some (.ref c), some (.int L2), some (.ref (4 + v2)), some (.int v3)], [.ref (4 + v2), .long (v7.2.2 (L2).toNatClampNeg), .int L2, .ref (c + 3)], (eW2 H [(c + 1, .inl (0, 6, .inl v7.1)), (c + 2, .inl (0, 6, .inl v7.2.1)), (c + 3, .inl (1, 7, .inr (.inl v7.2.2)))]))) rfl ?_
            refine g_getf rfl rfl (by omega) ((eW2_offA (hOu _ (Nat.not_le.mp hqv2)) rfl).trans (hu _ (Nat.not_le.mp hqv2))) rfl ?_
            refine eGs.steps 0 (y := (80, [some (.ref 15), some (.ref c), some (.int L2), some (.ref (4 + v2)), some (.int v3)], [.long (u_here v2), .long (v7.2.2 (L2).toNatClampNeg), .int L2, .ref (c + 3)], (eW2 H [(c + 1, .inl (0, 6, .inl v7.1)), (c + 2, .inl (0, 6, .inl v7.2.1)), (c + 3, .inl (1, 7, .inr (.inl v7.2.2)))]))) rfl ?_
            refine eGs.steps 1 (y := (81, [some (.ref 15), some (.ref c), some (.int L2), some (.ref (4 + v2)), some (.int v3)], [.long ((v7.2.2 (L2).toNatClampNeg) + (u_here v2)), .int L2, .ref (c + 3)], (eW2 H [(c + 1, .inl (0, 6, .inl v7.1)), (c + 2, .inl (0, 6, .inl v7.2.1)), (c + 3, .inl (1, 7, .inr (.inl v7.2.2)))]))) rfl ?_
            obtain ⟨hg9, hM⟩ := dg_none hM
            refine g_lastW rfl (by omega) (eW2_getA hN 2 rfl rfl) hg9 (eW2_setA hN 2 rfl rfl) ?_
            refine eGs.steps 0 (y := (82, [some (.ref 15), some (.ref c), some (.int L2), some (.ref (4 + v2)), some (.int v3)], [], (eW2 H [(c + 1, .inl (0, 6, .inl v7.1)), (c + 2, .inl (0, 6, .inl v7.2.1)), (c + 3, .inl (1, 7, .inr (.inl (eUp v7.2.2 (L2).toNatClampNeg ((v7.2.2 (L2).toNatClampNeg) + (u_here v2))))))]))) rfl ?_
            refine eGs.steps 2 (y := (2, [some (.ref 15), some (.ref c), some (.int (L2 + (1 : Int32))), some (.ref (4 + v2)), some (.int v3)], [], (eW2 H [(c + 1, .inl (0, 6, .inl v7.1)), (c + 2, .inl (0, 6, .inl v7.2.1)), (c + 3, .inl (1, 7, .inr (.inl (eUp v7.2.2 (L2).toNatClampNeg ((v7.2.2 (L2).toNatClampNeg) + (u_here v2))))))]))) rfl ?_
            refine eGs.weak (lo' := [some (.ref 15), some (.ref c), some (.int (L2 + (1 : Int32))), none, none]) (by repeat' first | exact trivial | exact rfl | constructor) ?_
            exact ih _ _ _ _ _ hM
theorem T_W_splitAll {X : Nat × (Nat → Int32)} {H : eH} {c : Nat} {w_once : Nat → Option Nat} {u_label : Nat → Int32} {u_left : Nat → Int64} {u_leftKinds : Nat → Int64} {u_here : Nat → Int64} {u_out : Nat → Int64} {u_into : Nat → Int64} {u_intoLabel : Nat → Int32} {u_dissolves : Nat → Int32} {u_divides : Nat → Int32} {u_other : Nat → Int64} {c_lab : Nat → Int32} {c_par : Nat → Int32} {c_hp : Nat → Int64} {n : Nat} {res : Int32 × (Nat → Int32) × (Nat → Int32) × (Nat → Int64)} (hc_w : H.1 15 = some (.inr (8, [.ref 16]))) (hc_wo : H.1 16 = some (.inl (3, 6, .inr (.inr fun i => (w_once i).map fun j => 4 + j)))) (hc_c : H.1 c = some (.inr (3, [.ref (c + 1), .ref (c + 2), .ref (c + 3)]))) (hc_cl : H.1 (c + 1) = some (.inl (0, 6, .inl c_lab))) (hc_cp : H.1 (c + 2) = some (.inl (0, 6, .inl c_par))) (hc_ch : H.1 (c + 3) = some (.inl (1, 7, .inr (.inl c_hp)))) (hu : ∀ i, i < 6 → H.1 (4 + i) = some (.inr (5, [.int (nI i), .int (u_label i), .long (u_left i), .long (u_leftKinds i), .long (u_here i), .long (u_out i), .long (u_into i), .int (u_intoLabel i), .int (u_dissolves i), .int (u_divides i), .long (u_other i)]))) (hok_c : c = 20 ∨ c = 348 ∨ c = 352 ∨ (25 ≤ c ∧ c ≤ 341 ∧ c % 4 = 1)) (hM : W_splitAll n w_once u_here u_divides u_other c_lab c_par c_hp = some res) : eEv pP X 2 121 [.ref 15, .ref c] H (.inl (some (.int res.1)), (eW2 H [(c + 1, .inl (0, 6, .inl res.2.1)), (c + 2, .inl (0, 6, .inl res.2.2.1)), (c + 3, .inl (1, 7, .inr (.inl res.2.2.2)))])) := by
  have hN : ([c + 1, c + 2, c + 3] : List Nat).Nodup := by first | decide | (simp <;> omega)
  have hO_w : 15 ∉ ([c + 1, c + 2, c + 3] : List Nat) := by first | decide | (simp <;> omega)
  have hO_wo : 16 ∉ ([c + 1, c + 2, c + 3] : List Nat) := by first | decide | (simp <;> omega)
  have hO_c : c ∉ ([c + 1, c + 2, c + 3] : List Nat) := by first | decide | (simp <;> omega)
  have hOu : ∀ i, i < 6 → 4 + i ∉ ([c + 1, c + 2, c + 3] : List Nat) := fun i hi => by simp <;> omega
  have h0 : (eW2 H [(c + 1, .inl (0, 6, .inl c_lab)), (c + 2, .inl (0, 6, .inl c_par)), (c + 3, .inl (1, 7, .inr (.inl c_hp)))]) = H := eW2_self (by simp only [List.forall_mem_cons]; exact ⟨hc_cl, hc_cp, hc_ch, fun _ h => absurd h List.not_mem_nil⟩)
  rw [show eEv pP X 2 121 _ H = eEv pP X 2 121 _ (eW2 H [(c + 1, .inl (0, 6, .inl c_lab)), (c + 2, .inl (0, 6, .inl c_par)), (c + 3, .inl (1, 7, .inr (.inl c_hp)))]) by rw [h0]]
  refine eEv.of (Nat.not_lt.mpr (Nat.le_of_ble_eq_true rfl)) ?_
  refine eGs.steps 0 (y := (0, [some (.ref 15), some (.ref c), none, none, none], [], (eW2 H [(c + 1, .inl (0, 6, .inl c_lab)), (c + 2, .inl (0, 6, .inl c_par)), (c + 3, .inl (1, 7, .inr (.inl c_hp)))]))) rfl ?_
  unfold W_splitAll at hM
  refine eGs.steps 2 (y := (2, [some (.ref 15), some (.ref c), some (.int (0 : Int32)), none, none], [], (eW2 H [(c + 1, .inl (0, 6, .inl c_lab)), (c + 2, .inl (0, 6, .inl c_par)), (c + 3, .inl (1, 7, .inr (.inl c_hp)))]))) rfl ?_
  exact T_W_splitAll_2 (c := c) (w_once := w_once) (u_label := u_label) (u_left := u_left) (u_leftKinds := u_leftKinds) (u_here := u_here) (u_out := u_out) (u_into := u_into) (u_intoLabel := u_intoLabel) (u_dissolves := u_dissolves) (u_divides := u_divides) (u_other := u_other) (hc_w := hc_w) (hc_wo := hc_wo) (hc_c := hc_c) (hu := hu) (hok_c := hok_c) n _ _ _ _ _ hM
def W_melt_24 (mm : Int32)  : Nat → (Int32) → (Int32) → (Nat → Int32) → (Nat → Int32) → (Nat → Int64) → Option ((Nat → Int32) × (Nat → Int32) × (Nat → Int64))
  | 0, _, _, _, _, _ => none
  | n + 1, L2, L3, c_lab, c_par, c_hp =>
    if (6 : Int32) ≤ L3 then ((K_close n mm c_lab c_par c_hp).bind fun v5 => (some (v5.1, v5.2.1, v5.2.2))) else (if L3 < 0 ∨ 6 ≤ (L3).toNatClampNeg then none else (if (c_par (L3).toNatClampNeg) = mm then (if L3 < 0 ∨ 6 ≤ (L3).toNatClampNeg then none else (W_melt_24 mm n L2 (L3 + (1 : Int32)) c_lab (eUp c_par (L3).toNatClampNeg L2) c_hp)) else (W_melt_24 mm n L2 (L3 + (1 : Int32)) c_lab c_par c_hp)))
def W_melt (n : Nat) (mm : Int32) (c_lab : Nat → Int32) (c_par : Nat → Int32) (c_hp : Nat → Int64) : Option ((Nat → Int32) × (Nat → Int32) × (Nat → Int64)) :=
  if mm < 0 ∨ 6 ≤ (mm).toNatClampNeg then none else (if (c_par (mm).toNatClampNeg) < 0 ∨ 7 ≤ ((c_par (mm).toNatClampNeg)).toNatClampNeg then none else (if mm < 0 ∨ 7 ≤ (mm).toNatClampNeg then none else (if (c_par (mm).toNatClampNeg) < 0 ∨ 7 ≤ ((c_par (mm).toNatClampNeg)).toNatClampNeg then none else (W_melt_24 mm n (c_par (mm).toNatClampNeg) (0 : Int32) c_lab c_par (eUp c_hp ((c_par (mm).toNatClampNeg)).toNatClampNeg ((c_hp ((c_par (mm).toNatClampNeg)).toNatClampNeg) + (c_hp (mm).toNatClampNeg)))))))
theorem T_W_melt_24 {X : Nat × (Nat → Int32)} {H : eH} {c : Nat} {mm : Int32} (hc_c : H.1 c = some (.inr (3, [.ref (c + 1), .ref (c + 2), .ref (c + 3)]))) (hok_c : c = 20 ∨ c = 348 ∨ c = 352 ∨ (25 ≤ c ∧ c ≤ 341 ∧ c % 4 = 1)) : ∀ (n : Nat) (L2 : Int32) (L3 : Int32) (c_lab : Nat → Int32) (c_par : Nat → Int32) (c_hp : Nat → Int64) (res : (Nat → Int32) × (Nat → Int32) × (Nat → Int64)), W_melt_24 mm  n L2 L3 c_lab c_par c_hp = some res → eGs pP X 2 123 (24, [some (.ref c), some (.int mm), some (.int L2), some (.int L3)], [], (eW2 H [(c + 1, .inl (0, 6, .inl c_lab)), (c + 2, .inl (0, 6, .inl c_par)), (c + 3, .inl (1, 7, .inr (.inl c_hp)))])) (.inl (none), (eW2 H [(c + 1, .inl (0, 6, .inl res.1)), (c + 2, .inl (0, 6, .inl res.2.1)), (c + 3, .inl (1, 7, .inr (.inl res.2.2)))])) := by
  have hN : ([c + 1, c + 2, c + 3] : List Nat).Nodup := by first | decide | (simp <;> omega)
  have hO_c : c ∉ ([c + 1, c + 2, c + 3] : List Nat) := by first | decide | (simp <;> omega)
  intro n
  induction n with
  | zero =>
    intro L2 L3 c_lab c_par c_hp res hM
    cases hM
  | succ n ih =>
    intro L2 L3 c_lab c_par c_hp res hM
    rw [W_melt_24] at hM
    refine eGs.steps 2 (y := (27, [some (.ref c), some (.int mm), some (.int L2), some (.int L3)], [.int (6 : Int32), .int L3], (eW2 H [(c + 1, .inl (0, 6, .inl c_lab)), (c + 2, .inl (0, 6, .inl c_par)), (c + 3, .inl (1, 7, .inr (.inl c_hp)))]))) rfl ?_
    by_cases hc : (6 : Int32) ≤ L3
    · rw [if_pos hc] at hM
      refine g_icmp (cd := .ge) (t := 53) true rfl (decide_eq_true hc) rfl ?_
      refine eGs.steps 2 (y := (55, [some (.ref c), some (.int mm), some (.int L2), some (.int L3)], [.int mm, .ref c], (eW2 H [(c + 1, .inl (0, 6, .inl c_lab)), (c + 2, .inl (0, 6, .inl c_par)), (c + 3, .inl (1, 7, .inr (.inl c_hp)))]))) rfl ?_
      obtain ⟨v5, hv, hM⟩ := dg_bind hM
      have hE := eEv_putA (T_K_close (X := X) (H := (eW2 H [(c + 1, .inl (0, 6, .inl c_lab)), (c + 2, .inl (0, 6, .inl c_par)), (c + 3, .inl (1, 7, .inr (.inl c_hp)))])) (hc_c := ((eW2_offA hO_c rfl).trans hc_c)) (hc_cl := (eW2_getA hN 0 rfl rfl)) (hc_cp := (eW2_getA hN 1 rfl rfl)) (hc_ch := (eW2_getA hN 2 rfl rfl)) (hok_c := by first | assumption | omega) hv) [0, 1, 2] hN rfl (by first | decide | (simp <;> omega)) rfl (eFor2_ok rfl)
      refine g_callV rfl rfl rfl rfl rfl (by omega) ((eW2_offA hO_c rfl).trans hc_c) rfl (hE.mono (by first | decide | omega)) ?_
      refine eGs.steps 0 (y := (58, [some (.ref c), some (.int mm), some (.int L2), some (.int L3)], [], (eW2 H [(c + 1, .inl (0, 6, .inl v5.1)), (c + 2, .inl (0, 6, .inl v5.2.1)), (c + 3, .inl (1, 7, .inr (.inl v5.2.2)))]))) rfl ?_
      cases hM
      exact eGs.fin rfl rfl rfl
    · rw [if_neg hc] at hM
      refine g_icmp (cd := .ge) (t := 53) false rfl (decide_eq_false hc) rfl ?_
      refine eGs.steps 1 (y := (31, [some (.ref c), some (.int mm), some (.int L2), some (.int L3)], [.ref c], (eW2 H [(c + 1, .inl (0, 6, .inl c_lab)), (c + 2, .inl (0, 6, .inl c_par)), (c + 3, .inl (1, 7, .inr (.inl c_hp)))]))) rfl ?_
      refine g_getf rfl rfl (by omega) ((eW2_offA hO_c rfl).trans hc_c) rfl ?_
      refine eGs.steps 0 (y := (34, [some (.ref c), some (.int mm), some (.int L2), some (.int L3)], [.ref (c + 2)], (eW2 H [(c + 1, .inl (0, 6, .inl c_lab)), (c + 2, .inl (0, 6, .inl c_par)), (c + 3, .inl (1, 7, .inr (.inl c_hp)))]))) rfl ?_
      refine eGs.steps 1 (y := (35, [some (.ref c), some (.int mm), some (.int L2), some (.int L3)], [.int L3, .ref (c + 2)], (eW2 H [(c + 1, .inl (0, 6, .inl c_lab)), (c + 2, .inl (0, 6, .inl c_par)), (c + 3, .inl (1, 7, .inr (.inl c_hp)))]))) rfl ?_
      obtain ⟨hg6, hM⟩ := dg_none hM
      refine g_iald rfl (by omega) (eW2_getA hN 1 rfl rfl) hg6 ?_
      refine eGs.steps 0 (y := (36, [some (.ref c), some (.int mm), some (.int L2), some (.int L3)], [.int (c_par (L3).toNatClampNeg)], (eW2 H [(c + 1, .inl (0, 6, .inl c_lab)), (c + 2, .inl (0, 6, .inl c_par)), (c + 3, .inl (1, 7, .inr (.inl c_hp)))]))) rfl ?_
      refine eGs.steps 1 (y := (37, [some (.ref c), some (.int mm), some (.int L2), some (.int L3)], [.int mm, .int (c_par (L3).toNatClampNeg)], (eW2 H [(c + 1, .inl (0, 6, .inl c_lab)), (c + 2, .inl (0, 6, .inl c_par)), (c + 3, .inl (1, 7, .inr (.inl c_hp)))]))) rfl ?_
      by_cases hc : (c_par (L3).toNatClampNeg) = mm
      · rw [if_pos hc] at hM
        refine g_icmp (cd := .ne) (t := 47) false rfl (decide_eq_false (fun z => z hc)) rfl ?_
        refine eGs.steps 1 (y := (41, [some (.ref c), some (.int mm), some (.int L2), some (.int L3)], [.ref c], (eW2 H [(c + 1, .inl (0, 6, .inl c_lab)), (c + 2, .inl (0, 6, .inl c_par)), (c + 3, .inl (1, 7, .inr (.inl c_hp)))]))) rfl ?_
        refine g_getf rfl rfl (by omega) ((eW2_offA hO_c rfl).trans hc_c) rfl ?_
        refine eGs.steps 0 (y := (44, [some (.ref c), some (.int mm), some (.int L2), some (.int L3)], [.ref (c + 2)], (eW2 H [(c + 1, .inl (0, 6, .inl c_lab)), (c + 2, .inl (0, 6, .inl c_par)), (c + 3, .inl (1, 7, .inr (.inl c_hp)))]))) rfl ?_
        refine eGs.steps 2 (y := (46, [some (.ref c), some (.int mm), some (.int L2), some (.int L3)], [.int L2, .int L3, .ref (c + 2)], (eW2 H [(c + 1, .inl (0, 6, .inl c_lab)), (c + 2, .inl (0, 6, .inl c_par)), (c + 3, .inl (1, 7, .inr (.inl c_hp)))]))) rfl ?_
        obtain ⟨hg7, hM⟩ := dg_none hM
        refine g_iastW rfl (by omega) (eW2_getA hN 1 rfl rfl) hg7 (eW2_setA hN 1 rfl rfl) ?_
        refine eGs.steps 0 (y := (47, [some (.ref c), some (.int mm), some (.int L2), some (.int L3)], [], (eW2 H [(c + 1, .inl (0, 6, .inl c_lab)), (c + 2, .inl (0, 6, .inl (eUp c_par (L3).toNatClampNeg L2))), (c + 3, .inl (1, 7, .inr (.inl c_hp)))]))) rfl ?_
        refine eGs.steps 2 (y := (24, [some (.ref c), some (.int mm), some (.int L2), some (.int (L3 + (1 : Int32)))], [], (eW2 H [(c + 1, .inl (0, 6, .inl c_lab)), (c + 2, .inl (0, 6, .inl (eUp c_par (L3).toNatClampNeg L2))), (c + 3, .inl (1, 7, .inr (.inl c_hp)))]))) rfl ?_
        exact ih _ _ _ _ _ _ hM
      · rw [if_neg hc] at hM
        refine g_icmp (cd := .ne) (t := 47) true rfl (decide_eq_true hc) rfl ?_
        refine eGs.steps 2 (y := (24, [some (.ref c), some (.int mm), some (.int L2), some (.int (L3 + (1 : Int32)))], [], (eW2 H [(c + 1, .inl (0, 6, .inl c_lab)), (c + 2, .inl (0, 6, .inl c_par)), (c + 3, .inl (1, 7, .inr (.inl c_hp)))]))) rfl ?_
        exact ih _ _ _ _ _ _ hM
theorem T_W_melt {X : Nat × (Nat → Int32)} {H : eH} {c : Nat} {mm : Int32} {c_lab : Nat → Int32} {c_par : Nat → Int32} {c_hp : Nat → Int64} {n : Nat} {res : (Nat → Int32) × (Nat → Int32) × (Nat → Int64)} (hc_c : H.1 c = some (.inr (3, [.ref (c + 1), .ref (c + 2), .ref (c + 3)]))) (hc_cl : H.1 (c + 1) = some (.inl (0, 6, .inl c_lab))) (hc_cp : H.1 (c + 2) = some (.inl (0, 6, .inl c_par))) (hc_ch : H.1 (c + 3) = some (.inl (1, 7, .inr (.inl c_hp)))) (hok_c : c = 20 ∨ c = 348 ∨ c = 352 ∨ (25 ≤ c ∧ c ≤ 341 ∧ c % 4 = 1)) (hM : W_melt n mm c_lab c_par c_hp = some res) : eEv pP X 3 123 [.ref c, .int mm] H (.inl (none), (eW2 H [(c + 1, .inl (0, 6, .inl res.1)), (c + 2, .inl (0, 6, .inl res.2.1)), (c + 3, .inl (1, 7, .inr (.inl res.2.2)))])) := by
  have hN : ([c + 1, c + 2, c + 3] : List Nat).Nodup := by first | decide | (simp <;> omega)
  have hO_c : c ∉ ([c + 1, c + 2, c + 3] : List Nat) := by first | decide | (simp <;> omega)
  have h0 : (eW2 H [(c + 1, .inl (0, 6, .inl c_lab)), (c + 2, .inl (0, 6, .inl c_par)), (c + 3, .inl (1, 7, .inr (.inl c_hp)))]) = H := eW2_self (by simp only [List.forall_mem_cons]; exact ⟨hc_cl, hc_cp, hc_ch, fun _ h => absurd h List.not_mem_nil⟩)
  rw [show eEv pP X 3 123 _ H = eEv pP X 3 123 _ (eW2 H [(c + 1, .inl (0, 6, .inl c_lab)), (c + 2, .inl (0, 6, .inl c_par)), (c + 3, .inl (1, 7, .inr (.inl c_hp)))]) by rw [h0]]
  refine eEv.of (Nat.not_lt.mpr (Nat.le_of_ble_eq_true rfl)) ?_
  refine eGs.steps 0 (y := (0, [some (.ref c), some (.int mm), none, none], [], (eW2 H [(c + 1, .inl (0, 6, .inl c_lab)), (c + 2, .inl (0, 6, .inl c_par)), (c + 3, .inl (1, 7, .inr (.inl c_hp)))]))) rfl ?_
  unfold W_melt at hM
  refine eGs.steps 1 (y := (1, [some (.ref c), some (.int mm), none, none], [.ref c], (eW2 H [(c + 1, .inl (0, 6, .inl c_lab)), (c + 2, .inl (0, 6, .inl c_par)), (c + 3, .inl (1, 7, .inr (.inl c_hp)))]))) rfl ?_
  refine g_getf rfl rfl (by omega) ((eW2_offA hO_c rfl).trans hc_c) rfl ?_
  refine eGs.steps 0 (y := (4, [some (.ref c), some (.int mm), none, none], [.ref (c + 2)], (eW2 H [(c + 1, .inl (0, 6, .inl c_lab)), (c + 2, .inl (0, 6, .inl c_par)), (c + 3, .inl (1, 7, .inr (.inl c_hp)))]))) rfl ?_
  refine eGs.steps 1 (y := (5, [some (.ref c), some (.int mm), none, none], [.int mm, .ref (c + 2)], (eW2 H [(c + 1, .inl (0, 6, .inl c_lab)), (c + 2, .inl (0, 6, .inl c_par)), (c + 3, .inl (1, 7, .inr (.inl c_hp)))]))) rfl ?_
  obtain ⟨hg1, hM⟩ := dg_none hM
  refine g_iald rfl (by omega) (eW2_getA hN 1 rfl rfl) hg1 ?_
  refine eGs.steps 0 (y := (6, [some (.ref c), some (.int mm), none, none], [.int (c_par (mm).toNatClampNeg)], (eW2 H [(c + 1, .inl (0, 6, .inl c_lab)), (c + 2, .inl (0, 6, .inl c_par)), (c + 3, .inl (1, 7, .inr (.inl c_hp)))]))) rfl ?_
  refine eGs.steps 2 (y := (8, [some (.ref c), some (.int mm), some (.int (c_par (mm).toNatClampNeg)), none], [.ref c], (eW2 H [(c + 1, .inl (0, 6, .inl c_lab)), (c + 2, .inl (0, 6, .inl c_par)), (c + 3, .inl (1, 7, .inr (.inl c_hp)))]))) rfl ?_
  refine g_getf rfl rfl (by omega) ((eW2_offA hO_c rfl).trans hc_c) rfl ?_
  refine eGs.steps 0 (y := (11, [some (.ref c), some (.int mm), some (.int (c_par (mm).toNatClampNeg)), none], [.ref (c + 3)], (eW2 H [(c + 1, .inl (0, 6, .inl c_lab)), (c + 2, .inl (0, 6, .inl c_par)), (c + 3, .inl (1, 7, .inr (.inl c_hp)))]))) rfl ?_
  refine eGs.steps 2 (y := (13, [some (.ref c), some (.int mm), some (.int (c_par (mm).toNatClampNeg)), none], [.int (c_par (mm).toNatClampNeg), .ref (c + 3), .int (c_par (mm).toNatClampNeg), .ref (c + 3)], (eW2 H [(c + 1, .inl (0, 6, .inl c_lab)), (c + 2, .inl (0, 6, .inl c_par)), (c + 3, .inl (1, 7, .inr (.inl c_hp)))]))) rfl ?_
  obtain ⟨hg2, hM⟩ := dg_none hM
  refine g_lald rfl (by omega) (eW2_getA hN 2 rfl rfl) hg2 ?_
  refine eGs.steps 0 (y := (14, [some (.ref c), some (.int mm), some (.int (c_par (mm).toNatClampNeg)), none], [.long (c_hp ((c_par (mm).toNatClampNeg)).toNatClampNeg), .int (c_par (mm).toNatClampNeg), .ref (c + 3)], (eW2 H [(c + 1, .inl (0, 6, .inl c_lab)), (c + 2, .inl (0, 6, .inl c_par)), (c + 3, .inl (1, 7, .inr (.inl c_hp)))]))) rfl ?_
  refine eGs.steps 1 (y := (15, [some (.ref c), some (.int mm), some (.int (c_par (mm).toNatClampNeg)), none], [.ref c, .long (c_hp ((c_par (mm).toNatClampNeg)).toNatClampNeg), .int (c_par (mm).toNatClampNeg), .ref (c + 3)], (eW2 H [(c + 1, .inl (0, 6, .inl c_lab)), (c + 2, .inl (0, 6, .inl c_par)), (c + 3, .inl (1, 7, .inr (.inl c_hp)))]))) rfl ?_
  refine g_getf rfl rfl (by omega) ((eW2_offA hO_c rfl).trans hc_c) rfl ?_
  refine eGs.steps 0 (y := (18, [some (.ref c), some (.int mm), some (.int (c_par (mm).toNatClampNeg)), none], [.ref (c + 3), .long (c_hp ((c_par (mm).toNatClampNeg)).toNatClampNeg), .int (c_par (mm).toNatClampNeg), .ref (c + 3)], (eW2 H [(c + 1, .inl (0, 6, .inl c_lab)), (c + 2, .inl (0, 6, .inl c_par)), (c + 3, .inl (1, 7, .inr (.inl c_hp)))]))) rfl ?_
  refine eGs.steps 1 (y := (19, [some (.ref c), some (.int mm), some (.int (c_par (mm).toNatClampNeg)), none], [.int mm, .ref (c + 3), .long (c_hp ((c_par (mm).toNatClampNeg)).toNatClampNeg), .int (c_par (mm).toNatClampNeg), .ref (c + 3)], (eW2 H [(c + 1, .inl (0, 6, .inl c_lab)), (c + 2, .inl (0, 6, .inl c_par)), (c + 3, .inl (1, 7, .inr (.inl c_hp)))]))) rfl ?_
  obtain ⟨hg3, hM⟩ := dg_none hM
  refine g_lald rfl (by omega) (eW2_getA hN 2 rfl rfl) hg3 ?_
  refine eGs.steps 0 (y := (20, [some (.ref c), some (.int mm), some (.int (c_par (mm).toNatClampNeg)), none], [.long (c_hp (mm).toNatClampNeg), .long (c_hp ((c_par (mm).toNatClampNeg)).toNatClampNeg), .int (c_par (mm).toNatClampNeg), .ref (c + 3)], (eW2 H [(c + 1, .inl (0, 6, .inl c_lab)), (c + 2, .inl (0, 6, .inl c_par)), (c + 3, .inl (1, 7, .inr (.inl c_hp)))]))) rfl ?_
  refine eGs.steps 1 (y := (21, [some (.ref c), some (.int mm), some (.int (c_par (mm).toNatClampNeg)), none], [.long ((c_hp ((c_par (mm).toNatClampNeg)).toNatClampNeg) + (c_hp (mm).toNatClampNeg)), .int (c_par (mm).toNatClampNeg), .ref (c + 3)], (eW2 H [(c + 1, .inl (0, 6, .inl c_lab)), (c + 2, .inl (0, 6, .inl c_par)), (c + 3, .inl (1, 7, .inr (.inl c_hp)))]))) rfl ?_
  obtain ⟨hg4, hM⟩ := dg_none hM
  refine g_lastW rfl (by omega) (eW2_getA hN 2 rfl rfl) hg4 (eW2_setA hN 2 rfl rfl) ?_
  refine eGs.steps 0 (y := (22, [some (.ref c), some (.int mm), some (.int (c_par (mm).toNatClampNeg)), none], [], (eW2 H [(c + 1, .inl (0, 6, .inl c_lab)), (c + 2, .inl (0, 6, .inl c_par)), (c + 3, .inl (1, 7, .inr (.inl (eUp c_hp ((c_par (mm).toNatClampNeg)).toNatClampNeg ((c_hp ((c_par (mm).toNatClampNeg)).toNatClampNeg) + (c_hp (mm).toNatClampNeg))))))]))) rfl ?_
  refine eGs.steps 2 (y := (24, [some (.ref c), some (.int mm), some (.int (c_par (mm).toNatClampNeg)), some (.int (0 : Int32))], [], (eW2 H [(c + 1, .inl (0, 6, .inl c_lab)), (c + 2, .inl (0, 6, .inl c_par)), (c + 3, .inl (1, 7, .inr (.inl (eUp c_hp ((c_par (mm).toNatClampNeg)).toNatClampNeg ((c_hp ((c_par (mm).toNatClampNeg)).toNatClampNeg) + (c_hp (mm).toNatClampNeg))))))]))) rfl ?_
  exact T_W_melt_24 (c := c) (mm := mm) (hc_c := hc_c) (hok_c := hok_c) n _ _ _ _ _ _ hM
def W_meltAll_2 (w_once : Nat → Option Nat) (u_dissolves : Nat → Int32)  : Nat → (Int32) → (Nat → Int32) → (Nat → Int32) → (Nat → Int64) → Option ((Nat → Int32) × (Nat → Int32) × (Nat → Int64))
  | 0, _, _, _, _ => none
  | n + 1, L2, c_lab, c_par, c_hp =>
    if (6 : Int32) ≤ L2 then (some (c_lab, c_par, c_hp)) else (if L2 < 0 ∨ 6 ≤ (L2).toNatClampNeg then none else (match (w_once (L2).toNatClampNeg) with | none => (W_meltAll_2 w_once u_dissolves n (L2 + (1 : Int32)) c_lab c_par c_hp) | some v2 => if 6 ≤ v2 then none else (if (u_dissolves v2) = 0 then (W_meltAll_2 w_once u_dissolves n (L2 + (1 : Int32)) c_lab c_par c_hp) else ((W_melt n L2 c_lab c_par c_hp).bind fun v3 => (W_meltAll_2 w_once u_dissolves n (L2 + (1 : Int32)) v3.1 v3.2.1 v3.2.2)))))
def W_meltAll (n : Nat) (w_once : Nat → Option Nat) (u_dissolves : Nat → Int32) (c_lab : Nat → Int32) (c_par : Nat → Int32) (c_hp : Nat → Int64) : Option ((Nat → Int32) × (Nat → Int32) × (Nat → Int64)) :=
  W_meltAll_2 w_once u_dissolves n (0 : Int32) c_lab c_par c_hp
theorem T_W_meltAll_2 {X : Nat × (Nat → Int32)} {H : eH} {c : Nat} {w_once : Nat → Option Nat} {u_label : Nat → Int32} {u_left : Nat → Int64} {u_leftKinds : Nat → Int64} {u_here : Nat → Int64} {u_out : Nat → Int64} {u_into : Nat → Int64} {u_intoLabel : Nat → Int32} {u_dissolves : Nat → Int32} {u_divides : Nat → Int32} {u_other : Nat → Int64} (hc_w : H.1 15 = some (.inr (8, [.ref 16]))) (hc_wo : H.1 16 = some (.inl (3, 6, .inr (.inr fun i => (w_once i).map fun j => 4 + j)))) (hc_c : H.1 c = some (.inr (3, [.ref (c + 1), .ref (c + 2), .ref (c + 3)]))) (hu : ∀ i, i < 6 → H.1 (4 + i) = some (.inr (5, [.int (nI i), .int (u_label i), .long (u_left i), .long (u_leftKinds i), .long (u_here i), .long (u_out i), .long (u_into i), .int (u_intoLabel i), .int (u_dissolves i), .int (u_divides i), .long (u_other i)]))) (hok_c : c = 20 ∨ c = 348 ∨ c = 352 ∨ (25 ≤ c ∧ c ≤ 341 ∧ c % 4 = 1)) : ∀ (n : Nat) (L2 : Int32) (c_lab : Nat → Int32) (c_par : Nat → Int32) (c_hp : Nat → Int64) (res : (Nat → Int32) × (Nat → Int32) × (Nat → Int64)), W_meltAll_2 w_once u_dissolves  n L2 c_lab c_par c_hp = some res → eGs pP X 3 122 (2, [some (.ref 15), some (.ref c), some (.int L2), none], [], (eW2 H [(c + 1, .inl (0, 6, .inl c_lab)), (c + 2, .inl (0, 6, .inl c_par)), (c + 3, .inl (1, 7, .inr (.inl c_hp)))])) (.inl (none), (eW2 H [(c + 1, .inl (0, 6, .inl res.1)), (c + 2, .inl (0, 6, .inl res.2.1)), (c + 3, .inl (1, 7, .inr (.inl res.2.2)))])) := by
  have hN : ([c + 1, c + 2, c + 3] : List Nat).Nodup := by first | decide | (simp <;> omega)
  have hO_w : 15 ∉ ([c + 1, c + 2, c + 3] : List Nat) := by first | decide | (simp <;> omega)
  have hO_wo : 16 ∉ ([c + 1, c + 2, c + 3] : List Nat) := by first | decide | (simp <;> omega)
  have hO_c : c ∉ ([c + 1, c + 2, c + 3] : List Nat) := by first | decide | (simp <;> omega)
  have hOu : ∀ i, i < 6 → 4 + i ∉ ([c + 1, c + 2, c + 3] : List Nat) := fun i hi => by simp <;> omega
  intro n
  induction n with
  | zero =>
    intro L2 c_lab c_par c_hp res hM
    cases hM
  | succ n ih =>
    intro L2 c_lab c_par c_hp res hM
    rw [W_meltAll_2] at hM
    refine eGs.steps 2 (y := (5, [some (.ref 15), some (.ref c), some (.int L2), none], [.int (6 : Int32), .int L2], (eW2 H [(c + 1, .inl (0, 6, .inl c_lab)), (c + 2, .inl (0, 6, .inl c_par)), (c + 3, .inl (1, 7, .inr (.inl c_hp)))]))) rfl ?_
    by_cases hc : (6 : Int32) ≤ L2
    · rw [if_pos hc] at hM
      refine g_icmp (cd := .ge) (t := 37) true rfl (decide_eq_true hc) rfl ?_
      cases hM
      exact eGs.fin rfl rfl rfl
    · rw [if_neg hc] at hM
      refine g_icmp (cd := .ge) (t := 37) false rfl (decide_eq_false hc) rfl ?_
      refine eGs.steps 1 (y := (9, [some (.ref 15), some (.ref c), some (.int L2), none], [.ref 15], (eW2 H [(c + 1, .inl (0, 6, .inl c_lab)), (c + 2, .inl (0, 6, .inl c_par)), (c + 3, .inl (1, 7, .inr (.inl c_hp)))]))) rfl ?_
      refine g_getf rfl rfl (by omega) ((eW2_offA hO_w rfl).trans hc_w) rfl ?_
      refine eGs.steps 0 (y := (12, [some (.ref 15), some (.ref c), some (.int L2), none], [.ref 16], (eW2 H [(c + 1, .inl (0, 6, .inl c_lab)), (c + 2, .inl (0, 6, .inl c_par)), (c + 3, .inl (1, 7, .inr (.inl c_hp)))]))) rfl ?_
      refine eGs.steps 1 (y := (13, [some (.ref 15), some (.ref c), some (.int L2), none], [.int L2, .ref 16], (eW2 H [(c + 1, .inl (0, 6, .inl c_lab)), (c + 2, .inl (0, 6, .inl c_par)), (c + 3, .inl (1, 7, .inr (.inl c_hp)))]))) rfl ?_
      obtain ⟨hg1, hM⟩ := dg_none hM
      refine g_aald rfl (by omega) ((eW2_offA hO_wo rfl).trans hc_wo) rfl hg1 ?_
      cases ho_v2 : (w_once (L2).toNatClampNeg) with
      | none =>
        rw [ho_v2] at hM
        dsimp only at hM
        simp only [ho_v2, Option.map, eRf]
        refine eGs.steps 0 (y := (14, [some (.ref 15), some (.ref c), some (.int L2), none], [.null], (eW2 H [(c + 1, .inl (0, 6, .inl c_lab)), (c + 2, .inl (0, 6, .inl c_par)), (c + 3, .inl (1, 7, .inr (.inl c_hp)))]))) rfl ?_
        refine eGs.steps 2 (y := (16, [some (.ref 15), some (.ref c), some (.int L2), some (.null)], [.null], (eW2 H [(c + 1, .inl (0, 6, .inl c_lab)), (c + 2, .inl (0, 6, .inl c_par)), (c + 3, .inl (1, 7, .inr (.inl c_hp)))]))) rfl ?_
        refine eGs.steps 1 (y := (31, [some (.ref 15), some (.ref c), some (.int L2), some (.null)], [], (eW2 H [(c + 1, .inl (0, 6, .inl c_lab)), (c + 2, .inl (0, 6, .inl c_par)), (c + 3, .inl (1, 7, .inr (.inl c_hp)))]))) rfl ?_
        refine eGs.steps 2 (y := (2, [some (.ref 15), some (.ref c), some (.int (L2 + (1 : Int32))), some (.null)], [], (eW2 H [(c + 1, .inl (0, 6, .inl c_lab)), (c + 2, .inl (0, 6, .inl c_par)), (c + 3, .inl (1, 7, .inr (.inl c_hp)))]))) rfl ?_
        refine eGs.weak (lo' := [some (.ref 15), some (.ref c), some (.int (L2 + (1 : Int32))), none]) (by repeat' first | exact trivial | exact rfl | constructor) ?_
        exact ih _ _ _ _ _ hM
      | some v2 =>
        rw [ho_v2] at hM
        dsimp only at hM
        obtain ⟨hqv2, hM⟩ := dg_none hM
        simp only [ho_v2, Option.map, eRf]
        refine eGs.steps 0 (y := (14, [some (.ref 15), some (.ref c), some (.int L2), none], [.ref (4 + v2)], (eW2 H [(c + 1, .inl (0, 6, .inl c_lab)), (c + 2, .inl (0, 6, .inl c_par)), (c + 3, .inl (1, 7, .inr (.inl c_hp)))]))) rfl ?_
        refine eGs.steps 2 (y := (16, [some (.ref 15), some (.ref c), some (.int L2), some (.ref (4 + v2))], [.ref (4 + v2)], (eW2 H [(c + 1, .inl (0, 6, .inl c_lab)), (c + 2, .inl (0, 6, .inl c_par)), (c + 3, .inl (1, 7, .inr (.inl c_hp)))]))) rfl ?_
        refine eGs.steps 1 (y := (19, [some (.ref 15), some (.ref c), some (.int L2), some (.ref (4 + v2))], [], (eW2 H [(c + 1, .inl (0, 6, .inl c_lab)), (c + 2, .inl (0, 6, .inl c_par)), (c + 3, .inl (1, 7, .inr (.inl c_hp)))]))) rfl ?_
        refine eGs.steps 1 (y := (20, [some (.ref 15), some (.ref c), some (.int L2), some (.ref (4 + v2))], [.ref (4 + v2)], (eW2 H [(c + 1, .inl (0, 6, .inl c_lab)), (c + 2, .inl (0, 6, .inl c_par)), (c + 3, .inl (1, 7, .inr (.inl c_hp)))]))) rfl ?_
        refine g_getf rfl rfl (by omega) ((eW2_offA (hOu _ (Nat.not_le.mp hqv2)) rfl).trans (hu _ (Nat.not_le.mp hqv2))) rfl ?_
        refine eGs.steps 0 (y := (23, [some (.ref 15), some (.ref c), some (.int L2), some (.ref (4 + v2))], [.int (u_dissolves v2)], (eW2 H [(c + 1, .inl (0, 6, .inl c_lab)), (c + 2, .inl (0, 6, .inl c_par)), (c + 3, .inl (1, 7, .inr (.inl c_hp)))]))) rfl ?_
        by_cases hc : (u_dissolves v2) = 0
        · rw [if_pos hc] at hM
          refine g_if (cd := .eq) (t := 31) true rfl (decide_eq_true hc) rfl ?_
          refine eGs.steps 2 (y := (2, [some (.ref 15), some (.ref c), some (.int (L2 + (1 : Int32))), some (.ref (4 + v2))], [], (eW2 H [(c + 1, .inl (0, 6, .inl c_lab)), (c + 2, .inl (0, 6, .inl c_par)), (c + 3, .inl (1, 7, .inr (.inl c_hp)))]))) rfl ?_
          refine eGs.weak (lo' := [some (.ref 15), some (.ref c), some (.int (L2 + (1 : Int32))), none]) (by repeat' first | exact trivial | exact rfl | constructor) ?_
          exact ih _ _ _ _ _ hM
        · rw [if_neg hc] at hM
          refine g_if (cd := .eq) (t := 31) false rfl (decide_eq_false hc) rfl ?_
          refine eGs.steps 2 (y := (28, [some (.ref 15), some (.ref c), some (.int L2), some (.ref (4 + v2))], [.int L2, .ref c], (eW2 H [(c + 1, .inl (0, 6, .inl c_lab)), (c + 2, .inl (0, 6, .inl c_par)), (c + 3, .inl (1, 7, .inr (.inl c_hp)))]))) rfl ?_
          obtain ⟨v3, hv, hM⟩ := dg_bind hM
          have hE := eEv_putA (T_W_melt (X := X) (H := (eW2 H [(c + 1, .inl (0, 6, .inl c_lab)), (c + 2, .inl (0, 6, .inl c_par)), (c + 3, .inl (1, 7, .inr (.inl c_hp)))])) (hc_c := ((eW2_offA hO_c rfl).trans hc_c)) (hc_cl := (eW2_getA hN 0 rfl rfl)) (hc_cp := (eW2_getA hN 1 rfl rfl)) (hc_ch := (eW2_getA hN 2 rfl rfl)) (hok_c := by first | assumption | omega) hv) [0, 1, 2] hN rfl (by first | decide | (simp <;> omega)) rfl (eFor2_ok rfl)
          refine g_callS rfl rfl rfl rfl rfl (hE.mono (by first | decide | omega)) ?_
          refine eGs.steps 0 (y := (31, [some (.ref 15), some (.ref c), some (.int L2), some (.ref (4 + v2))], [], (eW2 H [(c + 1, .inl (0, 6, .inl v3.1)), (c + 2, .inl (0, 6, .inl v3.2.1)), (c + 3, .inl (1, 7, .inr (.inl v3.2.2)))]))) rfl ?_
          refine eGs.steps 2 (y := (2, [some (.ref 15), some (.ref c), some (.int (L2 + (1 : Int32))), some (.ref (4 + v2))], [], (eW2 H [(c + 1, .inl (0, 6, .inl v3.1)), (c + 2, .inl (0, 6, .inl v3.2.1)), (c + 3, .inl (1, 7, .inr (.inl v3.2.2)))]))) rfl ?_
          refine eGs.weak (lo' := [some (.ref 15), some (.ref c), some (.int (L2 + (1 : Int32))), none]) (by repeat' first | exact trivial | exact rfl | constructor) ?_
          exact ih _ _ _ _ _ hM
theorem T_W_meltAll {X : Nat × (Nat → Int32)} {H : eH} {c : Nat} {w_once : Nat → Option Nat} {u_label : Nat → Int32} {u_left : Nat → Int64} {u_leftKinds : Nat → Int64} {u_here : Nat → Int64} {u_out : Nat → Int64} {u_into : Nat → Int64} {u_intoLabel : Nat → Int32} {u_dissolves : Nat → Int32} {u_divides : Nat → Int32} {u_other : Nat → Int64} {c_lab : Nat → Int32} {c_par : Nat → Int32} {c_hp : Nat → Int64} {n : Nat} {res : (Nat → Int32) × (Nat → Int32) × (Nat → Int64)} (hc_w : H.1 15 = some (.inr (8, [.ref 16]))) (hc_wo : H.1 16 = some (.inl (3, 6, .inr (.inr fun i => (w_once i).map fun j => 4 + j)))) (hc_c : H.1 c = some (.inr (3, [.ref (c + 1), .ref (c + 2), .ref (c + 3)]))) (hc_cl : H.1 (c + 1) = some (.inl (0, 6, .inl c_lab))) (hc_cp : H.1 (c + 2) = some (.inl (0, 6, .inl c_par))) (hc_ch : H.1 (c + 3) = some (.inl (1, 7, .inr (.inl c_hp)))) (hu : ∀ i, i < 6 → H.1 (4 + i) = some (.inr (5, [.int (nI i), .int (u_label i), .long (u_left i), .long (u_leftKinds i), .long (u_here i), .long (u_out i), .long (u_into i), .int (u_intoLabel i), .int (u_dissolves i), .int (u_divides i), .long (u_other i)]))) (hok_c : c = 20 ∨ c = 348 ∨ c = 352 ∨ (25 ≤ c ∧ c ≤ 341 ∧ c % 4 = 1)) (hM : W_meltAll n w_once u_dissolves c_lab c_par c_hp = some res) : eEv pP X 4 122 [.ref 15, .ref c] H (.inl (none), (eW2 H [(c + 1, .inl (0, 6, .inl res.1)), (c + 2, .inl (0, 6, .inl res.2.1)), (c + 3, .inl (1, 7, .inr (.inl res.2.2)))])) := by
  have hN : ([c + 1, c + 2, c + 3] : List Nat).Nodup := by first | decide | (simp <;> omega)
  have hO_w : 15 ∉ ([c + 1, c + 2, c + 3] : List Nat) := by first | decide | (simp <;> omega)
  have hO_wo : 16 ∉ ([c + 1, c + 2, c + 3] : List Nat) := by first | decide | (simp <;> omega)
  have hO_c : c ∉ ([c + 1, c + 2, c + 3] : List Nat) := by first | decide | (simp <;> omega)
  have hOu : ∀ i, i < 6 → 4 + i ∉ ([c + 1, c + 2, c + 3] : List Nat) := fun i hi => by simp <;> omega
  have h0 : (eW2 H [(c + 1, .inl (0, 6, .inl c_lab)), (c + 2, .inl (0, 6, .inl c_par)), (c + 3, .inl (1, 7, .inr (.inl c_hp)))]) = H := eW2_self (by simp only [List.forall_mem_cons]; exact ⟨hc_cl, hc_cp, hc_ch, fun _ h => absurd h List.not_mem_nil⟩)
  rw [show eEv pP X 4 122 _ H = eEv pP X 4 122 _ (eW2 H [(c + 1, .inl (0, 6, .inl c_lab)), (c + 2, .inl (0, 6, .inl c_par)), (c + 3, .inl (1, 7, .inr (.inl c_hp)))]) by rw [h0]]
  refine eEv.of (Nat.not_lt.mpr (Nat.le_of_ble_eq_true rfl)) ?_
  refine eGs.steps 0 (y := (0, [some (.ref 15), some (.ref c), none, none], [], (eW2 H [(c + 1, .inl (0, 6, .inl c_lab)), (c + 2, .inl (0, 6, .inl c_par)), (c + 3, .inl (1, 7, .inr (.inl c_hp)))]))) rfl ?_
  unfold W_meltAll at hM
  refine eGs.steps 2 (y := (2, [some (.ref 15), some (.ref c), some (.int (0 : Int32)), none], [], (eW2 H [(c + 1, .inl (0, 6, .inl c_lab)), (c + 2, .inl (0, 6, .inl c_par)), (c + 3, .inl (1, 7, .inr (.inl c_hp)))]))) rfl ?_
  exact T_W_meltAll_2 (c := c) (w_once := w_once) (u_label := u_label) (u_left := u_left) (u_leftKinds := u_leftKinds) (u_here := u_here) (u_out := u_out) (u_into := u_into) (u_intoLabel := u_intoLabel) (u_dissolves := u_dissolves) (u_divides := u_divides) (u_other := u_other) (hc_w := hc_w) (hc_wo := hc_wo) (hc_c := hc_c) (hu := hu) (hok_c := hok_c) n _ _ _ _ _ hM
def W_carryOut_21 (u_left : Nat → Int64) (u_here : Nat → Int64) (u_out : Nat → Int64) (u_into : Nat → Int64) (u_intoLabel : Nat → Int32) (u_dissolves : Nat → Int32) (u_divides : Nat → Int32) (b_count : Int32) (q_a : Nat → Int32) (k3 : (Int32) → (Nat → Option Nat) → (Nat → Int32) → (Nat → Int32) → (Nat → Int64) → Option (Int32 × (Nat → Option Nat) × (Nat → Int32) × (Nat → Int32) × (Nat → Int64))) : Nat → (Int32) → (Int32) → (Nat → Option Nat) → (Nat → Int32) → (Nat → Int32) → (Nat → Int64) → Option (Int32 × (Nat → Option Nat) × (Nat → Int32) × (Nat → Int32) × (Nat → Int64))
  | 0, _, _, _, _, _, _ => none
  | n + 1, L4, L5, w_once, c_lab, c_par, c_hp =>
    if b_count ≤ L5 then (k3 (L4 + (1 : Int32)) w_once c_lab c_par c_hp) else (if L4 < 0 ∨ 6 ≤ (L4).toNatClampNeg then none else ((Ch_usesOf n (q_a (L4).toNatClampNeg) L5).bind fun v6 => (if v6 ≤ 0 then (W_carryOut_21 u_left u_here u_out u_into u_intoLabel u_dissolves u_divides b_count q_a k3 n L4 (L5 + (1 : Int32)) w_once c_lab c_par c_hp) else (if L5 < 0 ∨ 6 ≤ (L5).toNatClampNeg then none else ((W_takeAndMake n L4 ((L5).toNatClampNeg) v6 w_once u_left u_here u_out u_into u_intoLabel u_dissolves u_divides c_lab c_par c_hp).bind fun v8 => (W_carryOut_21 u_left u_here u_out u_into u_intoLabel u_dissolves u_divides b_count q_a k3 n L4 (L5 + (1 : Int32)) v8.1 c_lab c_par v8.2))))))
def W_carryOut_3 (u_left : Nat → Int64) (u_here : Nat → Int64) (u_out : Nat → Int64) (u_into : Nat → Int64) (u_intoLabel : Nat → Int32) (u_dissolves : Nat → Int32) (u_divides : Nat → Int32) (u_other : Nat → Int64) (b_count : Int32) (q_a : Nat → Int32)  : Nat → (Int32) → (Nat → Option Nat) → (Nat → Int32) → (Nat → Int32) → (Nat → Int64) → Option (Int32 × (Nat → Option Nat) × (Nat → Int32) × (Nat → Int32) × (Nat → Int64))
  | 0, _, _, _, _, _ => none
  | n + 1, L4, w_once, c_lab, c_par, c_hp =>
    if (6 : Int32) ≤ L4 then ((W_splitAll n w_once u_here u_divides u_other c_lab c_par c_hp).bind fun v1 => (if v1.1 = 0 then (some (((0 : Int32) &&& 1), w_once, v1.2.1, v1.2.2.1, v1.2.2.2)) else ((W_meltAll n w_once u_dissolves v1.2.1 v1.2.2.1 v1.2.2.2).bind fun v2 => ((K_isTooMuch n v2.2.2).bind fun v3 => (if v3 = 0 then (some (((1 : Int32) &&& 1), w_once, v2.1, v2.2.1, v2.2.2)) else (some (((0 : Int32) &&& 1), w_once, v2.1, v2.2.1, v2.2.2))))))) else (if L4 < 0 ∨ 6 ≤ (L4).toNatClampNeg then none else (W_carryOut_21 u_left u_here u_out u_into u_intoLabel u_dissolves u_divides b_count q_a (W_carryOut_3 u_left u_here u_out u_into u_intoLabel u_dissolves u_divides u_other b_count q_a n) n L4 (0 : Int32) (eUp w_once (L4).toNatClampNeg none) c_lab c_par c_hp))
def W_carryOut (n : Nat) (w_once : Nat → Option Nat) (u_left : Nat → Int64) (u_here : Nat → Int64) (u_out : Nat → Int64) (u_into : Nat → Int64) (u_intoLabel : Nat → Int32) (u_dissolves : Nat → Int32) (u_divides : Nat → Int32) (u_other : Nat → Int64) (c_lab : Nat → Int32) (c_par : Nat → Int32) (c_hp : Nat → Int64) (b_count : Int32) (q_a : Nat → Int32) : Option (Int32 × (Nat → Option Nat) × (Nat → Int32) × (Nat → Int32) × (Nat → Int64)) :=
  W_carryOut_3 u_left u_here u_out u_into u_intoLabel u_dissolves u_divides u_other b_count q_a n (0 : Int32) w_once c_lab c_par c_hp
theorem T_W_carryOut_21 {X : Nat × (Nat → Int32)} {H : eH} {c : Nat} {q : Nat} {u_label : Nat → Int32} {u_left : Nat → Int64} {u_leftKinds : Nat → Int64} {u_here : Nat → Int64} {u_out : Nat → Int64} {u_into : Nat → Int64} {u_intoLabel : Nat → Int32} {u_dissolves : Nat → Int32} {u_divides : Nat → Int32} {u_other : Nat → Int64} {b_count : Int32} {q_a : Nat → Int32} {k3 : (Int32) → (Nat → Option Nat) → (Nat → Int32) → (Nat → Int32) → (Nat → Int64) → Option (Int32 × (Nat → Option Nat) × (Nat → Int32) × (Nat → Int32) × (Nat → Int64))} (hc_w : H.1 15 = some (.inr (8, [.ref 16]))) (hc_c : H.1 c = some (.inr (3, [.ref (c + 1), .ref (c + 2), .ref (c + 3)]))) (hc_b : H.1 2 = some (.inr (6, [.ref 3, .int b_count]))) (hc_ba : H.1 3 = some (.inl (3, 6, .inr (.inr fun i => if i < 6 then some (4 + i) else none)))) (hc_q : H.1 q = some (.inl (0, 6, .inl q_a))) (hu : ∀ i, i < 6 → H.1 (4 + i) = some (.inr (5, [.int (nI i), .int (u_label i), .long (u_left i), .long (u_leftKinds i), .long (u_here i), .long (u_out i), .long (u_into i), .int (u_intoLabel i), .int (u_dissolves i), .int (u_divides i), .long (u_other i)]))) (hok_c : c = 20 ∨ c = 348 ∨ c = 352 ∨ (25 ≤ c ∧ c ≤ 341 ∧ c % 4 = 1)) (hok_q : q = 24 ∨ q = 347) (hk3 : ∀ (y0 : Int32) (y1 : Nat → Option Nat) (y2 : Nat → Int32) (y3 : Nat → Int32) (y4 : Nat → Int64) (res : Int32 × (Nat → Option Nat) × (Nat → Int32) × (Nat → Int32) × (Nat → Int64)), k3 y0 y1 y2 y3 y4 = some res → eGs pP X 4 119 (3, [some (.ref 15), some (.ref 2), some (.ref c), some (.ref q), some (.int y0), none, none], [], (eW2 H [(16, .inl (3, 6, .inr (.inr fun i => (y1 i).map fun j => 4 + j))), (c + 1, .inl (0, 6, .inl y2)), (c + 2, .inl (0, 6, .inl y3)), (c + 3, .inl (1, 7, .inr (.inl y4)))])) (.inl (some (.int res.1)), (eW2 H [(16, .inl (3, 6, .inr (.inr fun i => (res.2.1 i).map fun j => 4 + j))), (c + 1, .inl (0, 6, .inl res.2.2.1)), (c + 2, .inl (0, 6, .inl res.2.2.2.1)), (c + 3, .inl (1, 7, .inr (.inl res.2.2.2.2)))]))) : ∀ (n : Nat) (L4 : Int32) (L5 : Int32) (w_once : Nat → Option Nat) (c_lab : Nat → Int32) (c_par : Nat → Int32) (c_hp : Nat → Int64) (res : Int32 × (Nat → Option Nat) × (Nat → Int32) × (Nat → Int32) × (Nat → Int64)), W_carryOut_21 u_left u_here u_out u_into u_intoLabel u_dissolves u_divides b_count q_a k3 n L4 L5 w_once c_lab c_par c_hp = some res → eGs pP X 4 119 (21, [some (.ref 15), some (.ref 2), some (.ref c), some (.ref q), some (.int L4), some (.int L5), none], [], (eW2 H [(16, .inl (3, 6, .inr (.inr fun i => (w_once i).map fun j => 4 + j))), (c + 1, .inl (0, 6, .inl c_lab)), (c + 2, .inl (0, 6, .inl c_par)), (c + 3, .inl (1, 7, .inr (.inl c_hp)))])) (.inl (some (.int res.1)), (eW2 H [(16, .inl (3, 6, .inr (.inr fun i => (res.2.1 i).map fun j => 4 + j))), (c + 1, .inl (0, 6, .inl res.2.2.1)), (c + 2, .inl (0, 6, .inl res.2.2.2.1)), (c + 3, .inl (1, 7, .inr (.inl res.2.2.2.2)))])) := by
  have hN : ([16, c + 1, c + 2, c + 3] : List Nat).Nodup := by first | decide | (simp <;> omega)
  have hO_w : 15 ∉ ([16, c + 1, c + 2, c + 3] : List Nat) := by first | decide | (simp <;> omega)
  have hO_c : c ∉ ([16, c + 1, c + 2, c + 3] : List Nat) := by first | decide | (simp <;> omega)
  have hO_b : 2 ∉ ([16, c + 1, c + 2, c + 3] : List Nat) := by first | decide | (simp <;> omega)
  have hO_ba : 3 ∉ ([16, c + 1, c + 2, c + 3] : List Nat) := by first | decide | (simp <;> omega)
  have hO_q : q ∉ ([16, c + 1, c + 2, c + 3] : List Nat) := by first | decide | (simp <;> omega)
  have hOu : ∀ i, i < 6 → 4 + i ∉ ([16, c + 1, c + 2, c + 3] : List Nat) := fun i hi => by simp <;> omega
  intro n
  induction n with
  | zero =>
    intro L4 L5 w_once c_lab c_par c_hp res hM
    cases hM
  | succ n ih =>
    intro L4 L5 w_once c_lab c_par c_hp res hM
    rw [W_carryOut_21] at hM
    refine eGs.steps 2 (y := (24, [some (.ref 15), some (.ref 2), some (.ref c), some (.ref q), some (.int L4), some (.int L5), none], [.ref 2, .int L5], (eW2 H [(16, .inl (3, 6, .inr (.inr fun i => (w_once i).map fun j => 4 + j))), (c + 1, .inl (0, 6, .inl c_lab)), (c + 2, .inl (0, 6, .inl c_par)), (c + 3, .inl (1, 7, .inr (.inl c_hp)))]))) rfl ?_
    refine g_getf rfl rfl (by omega) ((eW2_offA hO_b rfl).trans hc_b) rfl ?_
    refine eGs.steps 0 (y := (27, [some (.ref 15), some (.ref 2), some (.ref c), some (.ref q), some (.int L4), some (.int L5), none], [.int b_count, .int L5], (eW2 H [(16, .inl (3, 6, .inr (.inr fun i => (w_once i).map fun j => 4 + j))), (c + 1, .inl (0, 6, .inl c_lab)), (c + 2, .inl (0, 6, .inl c_par)), (c + 3, .inl (1, 7, .inr (.inl c_hp)))]))) rfl ?_
    by_cases hc : b_count ≤ L5
    · rw [if_pos hc] at hM
      refine g_icmp (cd := .ge) (t := 68) true rfl (decide_eq_true hc) rfl ?_
      refine eGs.steps 2 (y := (3, [some (.ref 15), some (.ref 2), some (.ref c), some (.ref q), some (.int (L4 + (1 : Int32))), some (.int L5), none], [], (eW2 H [(16, .inl (3, 6, .inr (.inr fun i => (w_once i).map fun j => 4 + j))), (c + 1, .inl (0, 6, .inl c_lab)), (c + 2, .inl (0, 6, .inl c_par)), (c + 3, .inl (1, 7, .inr (.inl c_hp)))]))) rfl ?_
      refine eGs.weak (lo' := [some (.ref 15), some (.ref 2), some (.ref c), some (.ref q), some (.int (L4 + (1 : Int32))), none, none]) (by repeat' first | exact trivial | exact rfl | constructor) ?_
      exact hk3 _ _ _ _ _ _ hM
    · rw [if_neg hc] at hM
      refine g_icmp (cd := .ge) (t := 68) false rfl (decide_eq_false hc) rfl ?_
      refine eGs.steps 2 (y := (33, [some (.ref 15), some (.ref 2), some (.ref c), some (.ref q), some (.int L4), some (.int L5), none], [.int L4, .ref q], (eW2 H [(16, .inl (3, 6, .inr (.inr fun i => (w_once i).map fun j => 4 + j))), (c + 1, .inl (0, 6, .inl c_lab)), (c + 2, .inl (0, 6, .inl c_par)), (c + 3, .inl (1, 7, .inr (.inl c_hp)))]))) rfl ?_
      obtain ⟨hg5, hM⟩ := dg_none hM
      refine g_iald rfl (by omega) ((eW2_offA hO_q rfl).trans hc_q) hg5 ?_
      refine eGs.steps 0 (y := (34, [some (.ref 15), some (.ref 2), some (.ref c), some (.ref q), some (.int L4), some (.int L5), none], [.int (q_a (L4).toNatClampNeg)], (eW2 H [(16, .inl (3, 6, .inr (.inr fun i => (w_once i).map fun j => 4 + j))), (c + 1, .inl (0, 6, .inl c_lab)), (c + 2, .inl (0, 6, .inl c_par)), (c + 3, .inl (1, 7, .inr (.inl c_hp)))]))) rfl ?_
      refine eGs.steps 1 (y := (36, [some (.ref 15), some (.ref 2), some (.ref c), some (.ref q), some (.int L4), some (.int L5), none], [.int L5, .int (q_a (L4).toNatClampNeg)], (eW2 H [(16, .inl (3, 6, .inr (.inr fun i => (w_once i).map fun j => 4 + j))), (c + 1, .inl (0, 6, .inl c_lab)), (c + 2, .inl (0, 6, .inl c_par)), (c + 3, .inl (1, 7, .inr (.inl c_hp)))]))) rfl ?_
      obtain ⟨v6, hv, hM⟩ := dg_bind hM
      have hE := T_Ch_usesOf (X := X) (H := (eW2 H [(16, .inl (3, 6, .inr (.inr fun i => (w_once i).map fun j => 4 + j))), (c + 1, .inl (0, 6, .inl c_lab)), (c + 2, .inl (0, 6, .inl c_par)), (c + 3, .inl (1, 7, .inr (.inl c_hp)))]))  hv
      refine g_callS rfl rfl rfl rfl rfl (hE.mono (by first | decide | omega)) ?_
      refine eGs.steps 0 (y := (39, [some (.ref 15), some (.ref 2), some (.ref c), some (.ref q), some (.int L4), some (.int L5), none], [.int v6], (eW2 H [(16, .inl (3, 6, .inr (.inr fun i => (w_once i).map fun j => 4 + j))), (c + 1, .inl (0, 6, .inl c_lab)), (c + 2, .inl (0, 6, .inl c_par)), (c + 3, .inl (1, 7, .inr (.inl c_hp)))]))) rfl ?_
      refine eGs.steps 2 (y := (43, [some (.ref 15), some (.ref 2), some (.ref c), some (.ref q), some (.int L4), some (.int L5), some (.int v6)], [.int v6], (eW2 H [(16, .inl (3, 6, .inr (.inr fun i => (w_once i).map fun j => 4 + j))), (c + 1, .inl (0, 6, .inl c_lab)), (c + 2, .inl (0, 6, .inl c_par)), (c + 3, .inl (1, 7, .inr (.inl c_hp)))]))) rfl ?_
      by_cases hc : v6 ≤ 0
      · rw [if_pos hc] at hM
        refine g_if (cd := .le) (t := 62) true rfl (decide_eq_true hc) rfl ?_
        refine eGs.steps 2 (y := (21, [some (.ref 15), some (.ref 2), some (.ref c), some (.ref q), some (.int L4), some (.int (L5 + (1 : Int32))), some (.int v6)], [], (eW2 H [(16, .inl (3, 6, .inr (.inr fun i => (w_once i).map fun j => 4 + j))), (c + 1, .inl (0, 6, .inl c_lab)), (c + 2, .inl (0, 6, .inl c_par)), (c + 3, .inl (1, 7, .inr (.inl c_hp)))]))) rfl ?_
        refine eGs.weak (lo' := [some (.ref 15), some (.ref 2), some (.ref c), some (.ref q), some (.int L4), some (.int (L5 + (1 : Int32))), none]) (by repeat' first | exact trivial | exact rfl | constructor) ?_
        exact ih _ _ _ _ _ _ _ hM
      · rw [if_neg hc] at hM
        refine g_if (cd := .le) (t := 62) false rfl (decide_eq_false hc) rfl ?_
        refine eGs.steps 4 (y := (51, [some (.ref 15), some (.ref 2), some (.ref c), some (.ref q), some (.int L4), some (.int L5), some (.int v6)], [.ref 2, .int L4, .ref c, .ref 15], (eW2 H [(16, .inl (3, 6, .inr (.inr fun i => (w_once i).map fun j => 4 + j))), (c + 1, .inl (0, 6, .inl c_lab)), (c + 2, .inl (0, 6, .inl c_par)), (c + 3, .inl (1, 7, .inr (.inl c_hp)))]))) rfl ?_
        refine g_getf rfl rfl (by omega) ((eW2_offA hO_b rfl).trans hc_b) rfl ?_
        refine eGs.steps 0 (y := (54, [some (.ref 15), some (.ref 2), some (.ref c), some (.ref q), some (.int L4), some (.int L5), some (.int v6)], [.ref 3, .int L4, .ref c, .ref 15], (eW2 H [(16, .inl (3, 6, .inr (.inr fun i => (w_once i).map fun j => 4 + j))), (c + 1, .inl (0, 6, .inl c_lab)), (c + 2, .inl (0, 6, .inl c_par)), (c + 3, .inl (1, 7, .inr (.inl c_hp)))]))) rfl ?_
        refine eGs.steps 1 (y := (56, [some (.ref 15), some (.ref 2), some (.ref c), some (.ref q), some (.int L4), some (.int L5), some (.int v6)], [.int L5, .ref 3, .int L4, .ref c, .ref 15], (eW2 H [(16, .inl (3, 6, .inr (.inr fun i => (w_once i).map fun j => 4 + j))), (c + 1, .inl (0, 6, .inl c_lab)), (c + 2, .inl (0, 6, .inl c_par)), (c + 3, .inl (1, 7, .inr (.inl c_hp)))]))) rfl ?_
        obtain ⟨hg7, hM⟩ := dg_none hM
        refine g_aald rfl (by omega) ((eW2_offA hO_ba rfl).trans hc_ba) rfl hg7 ?_
        rw [if_pos (Nat.not_le.mp fun z => hg7 (Or.inr z))]
        refine eGs.steps 0 (y := (57, [some (.ref 15), some (.ref 2), some (.ref c), some (.ref q), some (.int L4), some (.int L5), some (.int v6)], [.ref (4 + (L5).toNatClampNeg), .int L4, .ref c, .ref 15], (eW2 H [(16, .inl (3, 6, .inr (.inr fun i => (w_once i).map fun j => 4 + j))), (c + 1, .inl (0, 6, .inl c_lab)), (c + 2, .inl (0, 6, .inl c_par)), (c + 3, .inl (1, 7, .inr (.inl c_hp)))]))) rfl ?_
        refine eGs.steps 1 (y := (59, [some (.ref 15), some (.ref 2), some (.ref c), some (.ref q), some (.int L4), some (.int L5), some (.int v6)], [.int v6, .ref (4 + (L5).toNatClampNeg), .int L4, .ref c, .ref 15], (eW2 H [(16, .inl (3, 6, .inr (.inr fun i => (w_once i).map fun j => 4 + j))), (c + 1, .inl (0, 6, .inl c_lab)), (c + 2, .inl (0, 6, .inl c_par)), (c + 3, .inl (1, 7, .inr (.inl c_hp)))]))) rfl ?_
        obtain ⟨v8, hv, hM⟩ := dg_bind hM
        have hE := eEv_putA (T_W_takeAndMake (X := X) (H := (eW2 H [(16, .inl (3, 6, .inr (.inr fun i => (w_once i).map fun j => 4 + j))), (c + 1, .inl (0, 6, .inl c_lab)), (c + 2, .inl (0, 6, .inl c_par)), (c + 3, .inl (1, 7, .inr (.inl c_hp)))])) (hc_w := ((eW2_offA hO_w rfl).trans hc_w)) (hc_wo := (eW2_getA hN 0 rfl rfl)) (hc_c := ((eW2_offA hO_c rfl).trans hc_c)) (hc_cl := (eW2_getA hN 1 rfl rfl)) (hc_cp := (eW2_getA hN 2 rfl rfl)) (hc_ch := (eW2_getA hN 3 rfl rfl)) (hu := fun i hi => (eW2_offA (hOu i hi) rfl).trans (hu i hi)) (h_uu := (Nat.not_le.mp fun z => hg7 (Or.inr z))) (hok_c := by first | assumption | omega) hv) [0, 3] hN rfl (by first | decide | (simp <;> omega)) rfl (eFor2_ok rfl)
        refine g_callV rfl rfl rfl rfl rfl (by omega) ((eW2_offA hO_w rfl).trans hc_w) rfl (hE.mono (by first | decide | omega)) ?_
        refine eGs.steps 0 (y := (62, [some (.ref 15), some (.ref 2), some (.ref c), some (.ref q), some (.int L4), some (.int L5), some (.int v6)], [], (eW2 H [(16, .inl (3, 6, .inr (.inr fun i => (v8.1 i).map fun j => 4 + j))), (c + 1, .inl (0, 6, .inl c_lab)), (c + 2, .inl (0, 6, .inl c_par)), (c + 3, .inl (1, 7, .inr (.inl v8.2)))]))) rfl ?_
        refine eGs.steps 2 (y := (21, [some (.ref 15), some (.ref 2), some (.ref c), some (.ref q), some (.int L4), some (.int (L5 + (1 : Int32))), some (.int v6)], [], (eW2 H [(16, .inl (3, 6, .inr (.inr fun i => (v8.1 i).map fun j => 4 + j))), (c + 1, .inl (0, 6, .inl c_lab)), (c + 2, .inl (0, 6, .inl c_par)), (c + 3, .inl (1, 7, .inr (.inl v8.2)))]))) rfl ?_
        refine eGs.weak (lo' := [some (.ref 15), some (.ref 2), some (.ref c), some (.ref q), some (.int L4), some (.int (L5 + (1 : Int32))), none]) (by repeat' first | exact trivial | exact rfl | constructor) ?_
        exact ih _ _ _ _ _ _ _ hM
theorem T_W_carryOut_3 {X : Nat × (Nat → Int32)} {H : eH} {c : Nat} {q : Nat} {u_label : Nat → Int32} {u_left : Nat → Int64} {u_leftKinds : Nat → Int64} {u_here : Nat → Int64} {u_out : Nat → Int64} {u_into : Nat → Int64} {u_intoLabel : Nat → Int32} {u_dissolves : Nat → Int32} {u_divides : Nat → Int32} {u_other : Nat → Int64} {b_count : Int32} {q_a : Nat → Int32} (hc_w : H.1 15 = some (.inr (8, [.ref 16]))) (hc_c : H.1 c = some (.inr (3, [.ref (c + 1), .ref (c + 2), .ref (c + 3)]))) (hc_b : H.1 2 = some (.inr (6, [.ref 3, .int b_count]))) (hc_ba : H.1 3 = some (.inl (3, 6, .inr (.inr fun i => if i < 6 then some (4 + i) else none)))) (hc_q : H.1 q = some (.inl (0, 6, .inl q_a))) (hu : ∀ i, i < 6 → H.1 (4 + i) = some (.inr (5, [.int (nI i), .int (u_label i), .long (u_left i), .long (u_leftKinds i), .long (u_here i), .long (u_out i), .long (u_into i), .int (u_intoLabel i), .int (u_dissolves i), .int (u_divides i), .long (u_other i)]))) (hok_c : c = 20 ∨ c = 348 ∨ c = 352 ∨ (25 ≤ c ∧ c ≤ 341 ∧ c % 4 = 1)) (hok_q : q = 24 ∨ q = 347) : ∀ (n : Nat) (L4 : Int32) (w_once : Nat → Option Nat) (c_lab : Nat → Int32) (c_par : Nat → Int32) (c_hp : Nat → Int64) (res : Int32 × (Nat → Option Nat) × (Nat → Int32) × (Nat → Int32) × (Nat → Int64)), W_carryOut_3 u_left u_here u_out u_into u_intoLabel u_dissolves u_divides u_other b_count q_a  n L4 w_once c_lab c_par c_hp = some res → eGs pP X 4 119 (3, [some (.ref 15), some (.ref 2), some (.ref c), some (.ref q), some (.int L4), none, none], [], (eW2 H [(16, .inl (3, 6, .inr (.inr fun i => (w_once i).map fun j => 4 + j))), (c + 1, .inl (0, 6, .inl c_lab)), (c + 2, .inl (0, 6, .inl c_par)), (c + 3, .inl (1, 7, .inr (.inl c_hp)))])) (.inl (some (.int res.1)), (eW2 H [(16, .inl (3, 6, .inr (.inr fun i => (res.2.1 i).map fun j => 4 + j))), (c + 1, .inl (0, 6, .inl res.2.2.1)), (c + 2, .inl (0, 6, .inl res.2.2.2.1)), (c + 3, .inl (1, 7, .inr (.inl res.2.2.2.2)))])) := by
  have hN : ([16, c + 1, c + 2, c + 3] : List Nat).Nodup := by first | decide | (simp <;> omega)
  have hO_w : 15 ∉ ([16, c + 1, c + 2, c + 3] : List Nat) := by first | decide | (simp <;> omega)
  have hO_c : c ∉ ([16, c + 1, c + 2, c + 3] : List Nat) := by first | decide | (simp <;> omega)
  have hO_b : 2 ∉ ([16, c + 1, c + 2, c + 3] : List Nat) := by first | decide | (simp <;> omega)
  have hO_ba : 3 ∉ ([16, c + 1, c + 2, c + 3] : List Nat) := by first | decide | (simp <;> omega)
  have hO_q : q ∉ ([16, c + 1, c + 2, c + 3] : List Nat) := by first | decide | (simp <;> omega)
  have hOu : ∀ i, i < 6 → 4 + i ∉ ([16, c + 1, c + 2, c + 3] : List Nat) := fun i hi => by simp <;> omega
  intro n
  induction n with
  | zero =>
    intro L4 w_once c_lab c_par c_hp res hM
    cases hM
  | succ n ih =>
    intro L4 w_once c_lab c_par c_hp res hM
    rw [W_carryOut_3] at hM
    refine eGs.steps 2 (y := (7, [some (.ref 15), some (.ref 2), some (.ref c), some (.ref q), some (.int L4), none, none], [.int (6 : Int32), .int L4], (eW2 H [(16, .inl (3, 6, .inr (.inr fun i => (w_once i).map fun j => 4 + j))), (c + 1, .inl (0, 6, .inl c_lab)), (c + 2, .inl (0, 6, .inl c_par)), (c + 3, .inl (1, 7, .inr (.inl c_hp)))]))) rfl ?_
    by_cases hc : (6 : Int32) ≤ L4
    · rw [if_pos hc] at hM
      refine g_icmp (cd := .ge) (t := 74) true rfl (decide_eq_true hc) rfl ?_
      refine eGs.steps 2 (y := (76, [some (.ref 15), some (.ref 2), some (.ref c), some (.ref q), some (.int L4), none, none], [.ref c, .ref 15], (eW2 H [(16, .inl (3, 6, .inr (.inr fun i => (w_once i).map fun j => 4 + j))), (c + 1, .inl (0, 6, .inl c_lab)), (c + 2, .inl (0, 6, .inl c_par)), (c + 3, .inl (1, 7, .inr (.inl c_hp)))]))) rfl ?_
      obtain ⟨v1, hv, hM⟩ := dg_bind hM
      have hE := eEv_putA (T_W_splitAll (X := X) (H := (eW2 H [(16, .inl (3, 6, .inr (.inr fun i => (w_once i).map fun j => 4 + j))), (c + 1, .inl (0, 6, .inl c_lab)), (c + 2, .inl (0, 6, .inl c_par)), (c + 3, .inl (1, 7, .inr (.inl c_hp)))])) (hc_w := ((eW2_offA hO_w rfl).trans hc_w)) (hc_wo := (eW2_getA hN 0 rfl rfl)) (hc_c := ((eW2_offA hO_c rfl).trans hc_c)) (hc_cl := (eW2_getA hN 1 rfl rfl)) (hc_cp := (eW2_getA hN 2 rfl rfl)) (hc_ch := (eW2_getA hN 3 rfl rfl)) (hu := fun i hi => (eW2_offA (hOu i hi) rfl).trans (hu i hi)) (hok_c := by first | assumption | omega) hv) [1, 2, 3] hN rfl (by first | decide | (simp <;> omega)) rfl (eFor2_ok rfl)
      refine g_callV rfl rfl rfl rfl rfl (by omega) ((eW2_offA hO_w rfl).trans hc_w) rfl (hE.mono (by first | decide | omega)) ?_
      refine eGs.steps 0 (y := (79, [some (.ref 15), some (.ref 2), some (.ref c), some (.ref q), some (.int L4), none, none], [.int v1.1], (eW2 H [(16, .inl (3, 6, .inr (.inr fun i => (w_once i).map fun j => 4 + j))), (c + 1, .inl (0, 6, .inl v1.2.1)), (c + 2, .inl (0, 6, .inl v1.2.2.1)), (c + 3, .inl (1, 7, .inr (.inl v1.2.2.2)))]))) rfl ?_
      by_cases hc : v1.1 = 0
      · rw [if_pos hc] at hM
        refine g_if (cd := .ne) (t := 84) false rfl (decide_eq_false (fun z => z hc)) rfl ?_
        refine eGs.steps 1 (y := (83, [some (.ref 15), some (.ref 2), some (.ref c), some (.ref q), some (.int L4), none, none], [.int (0 : Int32)], (eW2 H [(16, .inl (3, 6, .inr (.inr fun i => (w_once i).map fun j => 4 + j))), (c + 1, .inl (0, 6, .inl v1.2.1)), (c + 2, .inl (0, 6, .inl v1.2.2.1)), (c + 3, .inl (1, 7, .inr (.inl v1.2.2.2)))]))) rfl ?_
        cases hM
        exact eGs.fin rfl rfl rfl
      · rw [if_neg hc] at hM
        refine g_if (cd := .ne) (t := 84) true rfl (decide_eq_true hc) rfl ?_
        refine eGs.steps 2 (y := (86, [some (.ref 15), some (.ref 2), some (.ref c), some (.ref q), some (.int L4), none, none], [.ref c, .ref 15], (eW2 H [(16, .inl (3, 6, .inr (.inr fun i => (w_once i).map fun j => 4 + j))), (c + 1, .inl (0, 6, .inl v1.2.1)), (c + 2, .inl (0, 6, .inl v1.2.2.1)), (c + 3, .inl (1, 7, .inr (.inl v1.2.2.2)))]))) rfl ?_
        obtain ⟨v2, hv, hM⟩ := dg_bind hM
        have hE := eEv_putA (T_W_meltAll (X := X) (H := (eW2 H [(16, .inl (3, 6, .inr (.inr fun i => (w_once i).map fun j => 4 + j))), (c + 1, .inl (0, 6, .inl v1.2.1)), (c + 2, .inl (0, 6, .inl v1.2.2.1)), (c + 3, .inl (1, 7, .inr (.inl v1.2.2.2)))])) (hc_w := ((eW2_offA hO_w rfl).trans hc_w)) (hc_wo := (eW2_getA hN 0 rfl rfl)) (hc_c := ((eW2_offA hO_c rfl).trans hc_c)) (hc_cl := (eW2_getA hN 1 rfl rfl)) (hc_cp := (eW2_getA hN 2 rfl rfl)) (hc_ch := (eW2_getA hN 3 rfl rfl)) (hu := fun i hi => (eW2_offA (hOu i hi) rfl).trans (hu i hi)) (hok_c := by first | assumption | omega) hv) [1, 2, 3] hN rfl (by first | decide | (simp <;> omega)) rfl (eFor2_ok rfl)
        refine g_callV rfl rfl rfl rfl rfl (by omega) ((eW2_offA hO_w rfl).trans hc_w) rfl (hE.mono (by first | decide | omega)) ?_
        refine eGs.steps 0 (y := (89, [some (.ref 15), some (.ref 2), some (.ref c), some (.ref q), some (.int L4), none, none], [], (eW2 H [(16, .inl (3, 6, .inr (.inr fun i => (w_once i).map fun j => 4 + j))), (c + 1, .inl (0, 6, .inl v2.1)), (c + 2, .inl (0, 6, .inl v2.2.1)), (c + 3, .inl (1, 7, .inr (.inl v2.2.2)))]))) rfl ?_
        refine eGs.steps 1 (y := (90, [some (.ref 15), some (.ref 2), some (.ref c), some (.ref q), some (.int L4), none, none], [.ref c], (eW2 H [(16, .inl (3, 6, .inr (.inr fun i => (w_once i).map fun j => 4 + j))), (c + 1, .inl (0, 6, .inl v2.1)), (c + 2, .inl (0, 6, .inl v2.2.1)), (c + 3, .inl (1, 7, .inr (.inl v2.2.2)))]))) rfl ?_
        obtain ⟨v3, hv, hM⟩ := dg_bind hM
        have hE := T_K_isTooMuch (X := X) (H := (eW2 H [(16, .inl (3, 6, .inr (.inr fun i => (w_once i).map fun j => 4 + j))), (c + 1, .inl (0, 6, .inl v2.1)), (c + 2, .inl (0, 6, .inl v2.2.1)), (c + 3, .inl (1, 7, .inr (.inl v2.2.2)))])) (hc_c := ((eW2_offA hO_c rfl).trans hc_c)) (hc_ch := (eW2_getA hN 3 rfl rfl)) (hok_c := by first | assumption | omega) hv
        refine g_callV rfl rfl rfl rfl rfl (by omega) ((eW2_offA hO_c rfl).trans hc_c) rfl (hE.mono (by first | decide | omega)) ?_
        refine eGs.steps 0 (y := (93, [some (.ref 15), some (.ref 2), some (.ref c), some (.ref q), some (.int L4), none, none], [.int v3], (eW2 H [(16, .inl (3, 6, .inr (.inr fun i => (w_once i).map fun j => 4 + j))), (c + 1, .inl (0, 6, .inl v2.1)), (c + 2, .inl (0, 6, .inl v2.2.1)), (c + 3, .inl (1, 7, .inr (.inl v2.2.2)))]))) rfl ?_
        by_cases hc : v3 = 0
        · rw [if_pos hc] at hM
          refine g_if (cd := .ne) (t := 100) false rfl (decide_eq_false (fun z => z hc)) rfl ?_
          refine eGs.steps 2 (y := (101, [some (.ref 15), some (.ref 2), some (.ref c), some (.ref q), some (.int L4), none, none], [.int (1 : Int32)], (eW2 H [(16, .inl (3, 6, .inr (.inr fun i => (w_once i).map fun j => 4 + j))), (c + 1, .inl (0, 6, .inl v2.1)), (c + 2, .inl (0, 6, .inl v2.2.1)), (c + 3, .inl (1, 7, .inr (.inl v2.2.2)))]))) rfl ?_
          cases hM
          exact eGs.fin rfl rfl rfl
        · rw [if_neg hc] at hM
          refine g_if (cd := .ne) (t := 100) true rfl (decide_eq_true hc) rfl ?_
          refine eGs.steps 1 (y := (101, [some (.ref 15), some (.ref 2), some (.ref c), some (.ref q), some (.int L4), none, none], [.int (0 : Int32)], (eW2 H [(16, .inl (3, 6, .inr (.inr fun i => (w_once i).map fun j => 4 + j))), (c + 1, .inl (0, 6, .inl v2.1)), (c + 2, .inl (0, 6, .inl v2.2.1)), (c + 3, .inl (1, 7, .inr (.inl v2.2.2)))]))) rfl ?_
          cases hM
          exact eGs.fin rfl rfl rfl
    · rw [if_neg hc] at hM
      refine g_icmp (cd := .ge) (t := 74) false rfl (decide_eq_false hc) rfl ?_
      refine eGs.steps 1 (y := (11, [some (.ref 15), some (.ref 2), some (.ref c), some (.ref q), some (.int L4), none, none], [.ref 15], (eW2 H [(16, .inl (3, 6, .inr (.inr fun i => (w_once i).map fun j => 4 + j))), (c + 1, .inl (0, 6, .inl c_lab)), (c + 2, .inl (0, 6, .inl c_par)), (c + 3, .inl (1, 7, .inr (.inl c_hp)))]))) rfl ?_
      refine g_getf rfl rfl (by omega) ((eW2_offA hO_w rfl).trans hc_w) rfl ?_
      refine eGs.steps 0 (y := (14, [some (.ref 15), some (.ref 2), some (.ref c), some (.ref q), some (.int L4), none, none], [.ref 16], (eW2 H [(16, .inl (3, 6, .inr (.inr fun i => (w_once i).map fun j => 4 + j))), (c + 1, .inl (0, 6, .inl c_lab)), (c + 2, .inl (0, 6, .inl c_par)), (c + 3, .inl (1, 7, .inr (.inl c_hp)))]))) rfl ?_
      refine eGs.steps 2 (y := (17, [some (.ref 15), some (.ref 2), some (.ref c), some (.ref q), some (.int L4), none, none], [.null, .int L4, .ref 16], (eW2 H [(16, .inl (3, 6, .inr (.inr fun i => (w_once i).map fun j => 4 + j))), (c + 1, .inl (0, 6, .inl c_lab)), (c + 2, .inl (0, 6, .inl c_par)), (c + 3, .inl (1, 7, .inr (.inl c_hp)))]))) rfl ?_
      obtain ⟨hg4, hM⟩ := dg_none hM
      refine g_aastNW rfl (by omega) (eW2_getA hN 0 rfl rfl) rfl hg4 (eW2_setA hN 0 rfl rfl) ?_
      rw [eUp_mapN w_once ((L4).toNatClampNeg)]
      refine eGs.steps 0 (y := (18, [some (.ref 15), some (.ref 2), some (.ref c), some (.ref q), some (.int L4), none, none], [], (eW2 H [(16, .inl (3, 6, .inr (.inr fun i => ((eUp w_once (L4).toNatClampNeg none) i).map fun j => 4 + j))), (c + 1, .inl (0, 6, .inl c_lab)), (c + 2, .inl (0, 6, .inl c_par)), (c + 3, .inl (1, 7, .inr (.inl c_hp)))]))) rfl ?_
      refine eGs.steps 2 (y := (21, [some (.ref 15), some (.ref 2), some (.ref c), some (.ref q), some (.int L4), some (.int (0 : Int32)), none], [], (eW2 H [(16, .inl (3, 6, .inr (.inr fun i => ((eUp w_once (L4).toNatClampNeg none) i).map fun j => 4 + j))), (c + 1, .inl (0, 6, .inl c_lab)), (c + 2, .inl (0, 6, .inl c_par)), (c + 3, .inl (1, 7, .inr (.inl c_hp)))]))) rfl ?_
      exact T_W_carryOut_21 (c := c) (q := q) (u_label := u_label) (u_left := u_left) (u_leftKinds := u_leftKinds) (u_here := u_here) (u_out := u_out) (u_into := u_into) (u_intoLabel := u_intoLabel) (u_dissolves := u_dissolves) (u_divides := u_divides) (u_other := u_other) (b_count := b_count) (q_a := q_a) (hc_w := hc_w) (hc_c := hc_c) (hc_b := hc_b) (hc_ba := hc_ba) (hc_q := hc_q) (hu := hu) (hok_c := hok_c) (hok_q := hok_q) (fun x0 x1 x2 x3 x4 res q => ih x0 x1 x2 x3 x4 res q) n _ _ _ _ _ _ _ hM
theorem T_W_carryOut {X : Nat × (Nat → Int32)} {H : eH} {c : Nat} {q : Nat} {w_once : Nat → Option Nat} {u_label : Nat → Int32} {u_left : Nat → Int64} {u_leftKinds : Nat → Int64} {u_here : Nat → Int64} {u_out : Nat → Int64} {u_into : Nat → Int64} {u_intoLabel : Nat → Int32} {u_dissolves : Nat → Int32} {u_divides : Nat → Int32} {u_other : Nat → Int64} {c_lab : Nat → Int32} {c_par : Nat → Int32} {c_hp : Nat → Int64} {b_count : Int32} {q_a : Nat → Int32} {n : Nat} {res : Int32 × (Nat → Option Nat) × (Nat → Int32) × (Nat → Int32) × (Nat → Int64)} (hc_w : H.1 15 = some (.inr (8, [.ref 16]))) (hc_wo : H.1 16 = some (.inl (3, 6, .inr (.inr fun i => (w_once i).map fun j => 4 + j)))) (hc_c : H.1 c = some (.inr (3, [.ref (c + 1), .ref (c + 2), .ref (c + 3)]))) (hc_cl : H.1 (c + 1) = some (.inl (0, 6, .inl c_lab))) (hc_cp : H.1 (c + 2) = some (.inl (0, 6, .inl c_par))) (hc_ch : H.1 (c + 3) = some (.inl (1, 7, .inr (.inl c_hp)))) (hc_b : H.1 2 = some (.inr (6, [.ref 3, .int b_count]))) (hc_ba : H.1 3 = some (.inl (3, 6, .inr (.inr fun i => if i < 6 then some (4 + i) else none)))) (hc_q : H.1 q = some (.inl (0, 6, .inl q_a))) (hu : ∀ i, i < 6 → H.1 (4 + i) = some (.inr (5, [.int (nI i), .int (u_label i), .long (u_left i), .long (u_leftKinds i), .long (u_here i), .long (u_out i), .long (u_into i), .int (u_intoLabel i), .int (u_dissolves i), .int (u_divides i), .long (u_other i)]))) (hok_c : c = 20 ∨ c = 348 ∨ c = 352 ∨ (25 ≤ c ∧ c ≤ 341 ∧ c % 4 = 1)) (hok_q : q = 24 ∨ q = 347) (hM : W_carryOut n w_once u_left u_here u_out u_into u_intoLabel u_dissolves u_divides u_other c_lab c_par c_hp b_count q_a = some res) : eEv pP X 5 119 [.ref 15, .ref 2, .ref c, .ref q] H (.inl (some (.int res.1)), (eW2 H [(16, .inl (3, 6, .inr (.inr fun i => (res.2.1 i).map fun j => 4 + j))), (c + 1, .inl (0, 6, .inl res.2.2.1)), (c + 2, .inl (0, 6, .inl res.2.2.2.1)), (c + 3, .inl (1, 7, .inr (.inl res.2.2.2.2)))])) := by
  have hN : ([16, c + 1, c + 2, c + 3] : List Nat).Nodup := by first | decide | (simp <;> omega)
  have hO_w : 15 ∉ ([16, c + 1, c + 2, c + 3] : List Nat) := by first | decide | (simp <;> omega)
  have hO_c : c ∉ ([16, c + 1, c + 2, c + 3] : List Nat) := by first | decide | (simp <;> omega)
  have hO_b : 2 ∉ ([16, c + 1, c + 2, c + 3] : List Nat) := by first | decide | (simp <;> omega)
  have hO_ba : 3 ∉ ([16, c + 1, c + 2, c + 3] : List Nat) := by first | decide | (simp <;> omega)
  have hO_q : q ∉ ([16, c + 1, c + 2, c + 3] : List Nat) := by first | decide | (simp <;> omega)
  have hOu : ∀ i, i < 6 → 4 + i ∉ ([16, c + 1, c + 2, c + 3] : List Nat) := fun i hi => by simp <;> omega
  have h0 : (eW2 H [(16, .inl (3, 6, .inr (.inr fun i => (w_once i).map fun j => 4 + j))), (c + 1, .inl (0, 6, .inl c_lab)), (c + 2, .inl (0, 6, .inl c_par)), (c + 3, .inl (1, 7, .inr (.inl c_hp)))]) = H := eW2_self (by simp only [List.forall_mem_cons]; exact ⟨hc_wo, hc_cl, hc_cp, hc_ch, fun _ h => absurd h List.not_mem_nil⟩)
  rw [show eEv pP X 5 119 _ H = eEv pP X 5 119 _ (eW2 H [(16, .inl (3, 6, .inr (.inr fun i => (w_once i).map fun j => 4 + j))), (c + 1, .inl (0, 6, .inl c_lab)), (c + 2, .inl (0, 6, .inl c_par)), (c + 3, .inl (1, 7, .inr (.inl c_hp)))]) by rw [h0]]
  refine eEv.of (Nat.not_lt.mpr (Nat.le_of_ble_eq_true rfl)) ?_
  refine eGs.steps 0 (y := (0, [some (.ref 15), some (.ref 2), some (.ref c), some (.ref q), none, none, none], [], (eW2 H [(16, .inl (3, 6, .inr (.inr fun i => (w_once i).map fun j => 4 + j))), (c + 1, .inl (0, 6, .inl c_lab)), (c + 2, .inl (0, 6, .inl c_par)), (c + 3, .inl (1, 7, .inr (.inl c_hp)))]))) rfl ?_
  unfold W_carryOut at hM
  refine eGs.steps 2 (y := (3, [some (.ref 15), some (.ref 2), some (.ref c), some (.ref q), some (.int (0 : Int32)), none, none], [], (eW2 H [(16, .inl (3, 6, .inr (.inr fun i => (w_once i).map fun j => 4 + j))), (c + 1, .inl (0, 6, .inl c_lab)), (c + 2, .inl (0, 6, .inl c_par)), (c + 3, .inl (1, 7, .inr (.inl c_hp)))]))) rfl ?_
  exact T_W_carryOut_3 (c := c) (q := q) (u_label := u_label) (u_left := u_left) (u_leftKinds := u_leftKinds) (u_here := u_here) (u_out := u_out) (u_into := u_into) (u_intoLabel := u_intoLabel) (u_dissolves := u_dissolves) (u_divides := u_divides) (u_other := u_other) (b_count := b_count) (q_a := q_a) (hc_w := hc_w) (hc_c := hc_c) (hc_b := hc_b) (hc_ba := hc_ba) (hc_q := hc_q) (hu := hu) (hok_c := hok_c) (hok_q := hok_q) n _ _ _ _ _ _ hM
def Sc_add (n : Nat) (ltr : Int32) (s_length : Int32) (s_row : Nat → Int32) : Option (Int32 × (Nat → Int32)) :=
  if (378 : Int32) ≤ s_length then (some (s_length, s_row)) else (if s_length < 0 ∨ 378 ≤ (s_length).toNatClampNeg then none else (some ((s_length + (1 : Int32)), (eUp s_row (s_length).toNatClampNeg (vp_nar .char ltr)))))
theorem T_Sc_add {X : Nat × (Nat → Int32)} {H : eH} {ltr : Int32} {s_length : Int32} {s_row : Nat → Int32} {n : Nat} {res : Int32 × (Nat → Int32)} (hc_s : H.1 345 = some (.inr (7, [.ref 346, .int s_length]))) (hc_sr : H.1 346 = some (.inl (2, 378, .inl s_row))) (hM : Sc_add n ltr s_length s_row = some res) : eEv pP X 1 117 [.ref 345, .int ltr] H (.inl (none), (eW2 H [(345, .inr (7, [.ref 346, .int res.1])), (346, .inl (2, 378, .inl res.2))])) := by
  have hN : ([345, 346] : List Nat).Nodup := by first | decide | (simp <;> omega)
  have h0 : (eW2 H [(345, .inr (7, [.ref 346, .int s_length])), (346, .inl (2, 378, .inl s_row))]) = H := eW2_self (by simp only [List.forall_mem_cons]; exact ⟨hc_s, hc_sr, fun _ h => absurd h List.not_mem_nil⟩)
  rw [show eEv pP X 1 117 _ H = eEv pP X 1 117 _ (eW2 H [(345, .inr (7, [.ref 346, .int s_length])), (346, .inl (2, 378, .inl s_row))]) by rw [h0]]
  refine eEv.of (Nat.not_lt.mpr (Nat.le_of_ble_eq_true rfl)) ?_
  refine eGs.steps 0 (y := (0, [some (.ref 345), some (.int ltr)], [], (eW2 H [(345, .inr (7, [.ref 346, .int s_length])), (346, .inl (2, 378, .inl s_row))]))) rfl ?_
  unfold Sc_add at hM
  refine eGs.steps 1 (y := (1, [some (.ref 345), some (.int ltr)], [.ref 345], (eW2 H [(345, .inr (7, [.ref 346, .int s_length])), (346, .inl (2, 378, .inl s_row))]))) rfl ?_
  refine g_getf rfl rfl (by omega) (eW2_getA hN 0 rfl rfl) rfl ?_
  refine eGs.steps 0 (y := (4, [some (.ref 345), some (.int ltr)], [.int s_length], (eW2 H [(345, .inr (7, [.ref 346, .int s_length])), (346, .inl (2, 378, .inl s_row))]))) rfl ?_
  refine eGs.steps 1 (y := (7, [some (.ref 345), some (.int ltr)], [.int (378 : Int32), .int s_length], (eW2 H [(345, .inr (7, [.ref 346, .int s_length])), (346, .inl (2, 378, .inl s_row))]))) rfl ?_
  by_cases hc : (378 : Int32) ≤ s_length
  · rw [if_pos hc] at hM
    refine g_icmp (cd := .ge) (t := 30) true rfl (decide_eq_true hc) rfl ?_
    cases hM
    exact eGs.fin rfl rfl rfl
  · rw [if_neg hc] at hM
    refine g_icmp (cd := .ge) (t := 30) false rfl (decide_eq_false hc) rfl ?_
    refine eGs.steps 1 (y := (11, [some (.ref 345), some (.int ltr)], [.ref 345], (eW2 H [(345, .inr (7, [.ref 346, .int s_length])), (346, .inl (2, 378, .inl s_row))]))) rfl ?_
    refine g_getf rfl rfl (by omega) (eW2_getA hN 0 rfl rfl) rfl ?_
    refine eGs.steps 0 (y := (14, [some (.ref 345), some (.int ltr)], [.ref 346], (eW2 H [(345, .inr (7, [.ref 346, .int s_length])), (346, .inl (2, 378, .inl s_row))]))) rfl ?_
    refine eGs.steps 1 (y := (15, [some (.ref 345), some (.int ltr)], [.ref 345, .ref 346], (eW2 H [(345, .inr (7, [.ref 346, .int s_length])), (346, .inl (2, 378, .inl s_row))]))) rfl ?_
    refine g_getf rfl rfl (by omega) (eW2_getA hN 0 rfl rfl) rfl ?_
    refine eGs.steps 0 (y := (18, [some (.ref 345), some (.int ltr)], [.int s_length, .ref 346], (eW2 H [(345, .inr (7, [.ref 346, .int s_length])), (346, .inl (2, 378, .inl s_row))]))) rfl ?_
    refine eGs.steps 1 (y := (19, [some (.ref 345), some (.int ltr)], [.int ltr, .int s_length, .ref 346], (eW2 H [(345, .inr (7, [.ref 346, .int s_length])), (346, .inl (2, 378, .inl s_row))]))) rfl ?_
    obtain ⟨hg1, hM⟩ := dg_none hM
    refine g_castW rfl (by omega) (eW2_getA hN 1 rfl rfl) hg1 (eW2_setA hN 1 rfl rfl) ?_
    refine eGs.steps 0 (y := (20, [some (.ref 345), some (.int ltr)], [], (eW2 H [(345, .inr (7, [.ref 346, .int s_length])), (346, .inl (2, 378, .inl (eUp s_row (s_length).toNatClampNeg (vp_nar .char ltr))))]))) rfl ?_
    refine eGs.steps 2 (y := (22, [some (.ref 345), some (.int ltr)], [.ref 345, .ref 345], (eW2 H [(345, .inr (7, [.ref 346, .int s_length])), (346, .inl (2, 378, .inl (eUp s_row (s_length).toNatClampNeg (vp_nar .char ltr))))]))) rfl ?_
    refine g_getf rfl rfl (by omega) (eW2_getA hN 0 rfl rfl) rfl ?_
    refine eGs.steps 0 (y := (25, [some (.ref 345), some (.int ltr)], [.int s_length, .ref 345], (eW2 H [(345, .inr (7, [.ref 346, .int s_length])), (346, .inl (2, 378, .inl (eUp s_row (s_length).toNatClampNeg (vp_nar .char ltr))))]))) rfl ?_
    refine eGs.steps 2 (y := (27, [some (.ref 345), some (.int ltr)], [.int (s_length + (1 : Int32)), .ref 345], (eW2 H [(345, .inr (7, [.ref 346, .int s_length])), (346, .inl (2, 378, .inl (eUp s_row (s_length).toNatClampNeg (vp_nar .char ltr))))]))) rfl ?_
    refine g_putfW rfl rfl (by omega) (eW2_getA hN 0 rfl rfl) rfl (Nat.le_of_ble_eq_true rfl) rfl (eW2_setA hN 0 rfl rfl) ?_
    refine eGs.steps 0 (y := (30, [some (.ref 345), some (.int ltr)], [], (eW2 H [(345, .inr (7, [.ref 346, .int (s_length + (1 : Int32))])), (346, .inl (2, 378, .inl (eUp s_row (s_length).toNatClampNeg (vp_nar .char ltr))))]))) rfl ?_
    cases hM
    exact eGs.fin rfl rfl rfl
def Sc_writeMembrane_84 (mm : Int32) (depth : Int32) (c_lab : Nat → Int32) (c_par : Nat → Int32) (c_hp : Nat → Int64) (self : (Int32) → (Int32) → (Int32) → (Nat → Int32) → (Nat → Int32) → (Nat → Int32) → (Nat → Int64) → Option (Int32 × (Nat → Int32)))  : Nat → (Int32) → (Int32) → (Nat → Int32) → Option (Int32 × (Nat → Int32))
  | 0, _, _, _ => none
  | n + 1, L4, s_length, s_row =>
    if (6 : Int32) ≤ L4 then ((Sc_add n (41 : Int32) s_length s_row).bind fun v7 => (some (v7.1, v7.2))) else (if L4 < 0 ∨ 6 ≤ (L4).toNatClampNeg then none else (if (c_par (L4).toNatClampNeg) = mm then ((self L4 (depth + (1 : Int32)) s_length s_row c_lab c_par c_hp).bind fun v9 => (Sc_writeMembrane_84 mm depth c_lab c_par c_hp self n (L4 + (1 : Int32)) v9.1 v9.2)) else (Sc_writeMembrane_84 mm depth c_lab c_par c_hp self n (L4 + (1 : Int32)) s_length s_row)))
def Sc_writeMembrane_52  (self : (Int32) → (Int32) → (Int32) → (Nat → Int32) → (Nat → Int32) → (Nat → Int32) → (Nat → Int64) → Option (Int32 × (Nat → Int32))) (k30 : (Int32) → (Int32) → (Nat → Int32) → Option (Int32 × (Nat → Int32))) : Nat → (Int32) → (Int32) → (Int32) → (Int32) → (Nat → Int32) → Option (Int32 × (Nat → Int32))
  | 0, _, _, _, _, _ => none
  | n + 1, L4, L5, L6, s_length, s_row =>
    if L5 ≤ L6 then (k30 (L4 + (1 : Int32)) s_length s_row) else ((Sc_add n (((((97 : Int32) + L4)).toUInt32 % 65536).toInt32) s_length s_row).bind fun v6 => (Sc_writeMembrane_52 self k30 n L4 L5 (L6 + (1 : Int32)) v6.1 v6.2))
def Sc_writeMembrane_30 (mm : Int32) (depth : Int32) (c_lab : Nat → Int32) (c_par : Nat → Int32) (c_hp : Nat → Int64) (self : (Int32) → (Int32) → (Int32) → (Nat → Int32) → (Nat → Int32) → (Nat → Int32) → (Nat → Int64) → Option (Int32 × (Nat → Int32)))  : Nat → (Int32) → (Int32) → (Nat → Int32) → Option (Int32 × (Nat → Int32))
  | 0, _, _, _ => none
  | n + 1, L4, s_length, s_row =>
    if (5 : Int32) ≤ L4 then (Sc_writeMembrane_84 mm depth c_lab c_par c_hp self n (0 : Int32) s_length s_row) else (if mm < 0 ∨ 7 ≤ (mm).toNatClampNeg then none else ((H_count n (c_hp (mm).toNatClampNeg) L4).bind fun v5 => (Sc_writeMembrane_52 self (Sc_writeMembrane_30 mm depth c_lab c_par c_hp self n) n L4 v5 (0 : Int32) s_length s_row)))
def Sc_writeMembrane (n : Nat) : Nat → (Int32) → (Int32) → (Int32) → (Nat → Int32) → (Nat → Int32) → (Nat → Int32) → (Nat → Int64) → Option (Int32 × (Nat → Int32))
  | 0, _, _, _, _, _, _, _ => none
  | r + 1, mm, depth, s_length, s_row, c_lab, c_par, c_hp =>
    if depth < (6 : Int32) then (if mm < 0 ∨ 6 ≤ (mm).toNatClampNeg then none else ((Sc_add n (((((48 : Int32) + (c_lab (mm).toNatClampNeg))).toUInt32 % 65536).toInt32) s_length s_row).bind fun v2 => ((Sc_add n (40 : Int32) v2.1 v2.2).bind fun v3 => (Sc_writeMembrane_30 mm depth c_lab c_par c_hp (Sc_writeMembrane n r) n (0 : Int32) v3.1 v3.2)))) else (some (s_length, s_row))
theorem T_Sc_writeMembrane_84 {X : Nat × (Nat → Int32)} {H : eH} {c : Nat} {mm : Int32} {depth : Int32} {c_lab : Nat → Int32} {c_par : Nat → Int32} {c_hp : Nat → Int64} (hc_c : H.1 c = some (.inr (3, [.ref (c + 1), .ref (c + 2), .ref (c + 3)]))) (hc_cl : H.1 (c + 1) = some (.inl (0, 6, .inl c_lab))) (hc_cp : H.1 (c + 2) = some (.inl (0, 6, .inl c_par))) (hc_ch : H.1 (c + 3) = some (.inl (1, 7, .inr (.inl c_hp)))) (hok_c : c = 20 ∨ c = 348 ∨ c = 352 ∨ (25 ≤ c ∧ c ≤ 341 ∧ c % 4 = 1)) {self : (Int32) → (Int32) → (Int32) → (Nat → Int32) → (Nat → Int32) → (Nat → Int32) → (Nat → Int64) → Option (Int32 × (Nat → Int32))} {d : Nat} (hd : 1 ≤ d) (hself : ∀ (H : eH) (c : Nat) (mm : Int32) (depth : Int32) (s_length : Int32) (s_row : Nat → Int32) (c_lab : Nat → Int32) (c_par : Nat → Int32) (c_hp : Nat → Int64) (res : Int32 × (Nat → Int32)), (H.1 345 = some (.inr (7, [.ref 346, .int s_length]))) → (H.1 346 = some (.inl (2, 378, .inl s_row))) → (H.1 c = some (.inr (3, [.ref (c + 1), .ref (c + 2), .ref (c + 3)]))) → (H.1 (c + 1) = some (.inl (0, 6, .inl c_lab))) → (H.1 (c + 2) = some (.inl (0, 6, .inl c_par))) → (H.1 (c + 3) = some (.inl (1, 7, .inr (.inl c_hp)))) → (c = 20 ∨ c = 348 ∨ c = 352 ∨ (25 ≤ c ∧ c ≤ 341 ∧ c % 4 = 1)) → self mm depth s_length s_row c_lab c_par c_hp = some res → eEv pP X d 116 [.ref 345, .ref c, .int mm, .int depth] H (.inl (none), (eW2 H [(345, .inr (7, [.ref 346, .int res.1])), (346, .inl (2, 378, .inl res.2))]))) : ∀ (n : Nat) (L4 : Int32) (s_length : Int32) (s_row : Nat → Int32) (res : Int32 × (Nat → Int32)), Sc_writeMembrane_84 mm depth c_lab c_par c_hp self  n L4 s_length s_row = some res → eGs pP X d 116 (84, [some (.ref 345), some (.ref c), some (.int mm), some (.int depth), some (.int L4), none, none], [], (eW2 H [(345, .inr (7, [.ref 346, .int s_length])), (346, .inl (2, 378, .inl s_row))])) (.inl (none), (eW2 H [(345, .inr (7, [.ref 346, .int res.1])), (346, .inl (2, 378, .inl res.2))])) := by
  have hN : ([345, 346] : List Nat).Nodup := by first | decide | (simp <;> omega)
  have hO_c : c ∉ ([345, 346] : List Nat) := by first | decide | (simp <;> omega)
  have hO_cl : c + 1 ∉ ([345, 346] : List Nat) := by first | decide | (simp <;> omega)
  have hO_cp : c + 2 ∉ ([345, 346] : List Nat) := by first | decide | (simp <;> omega)
  have hO_ch : c + 3 ∉ ([345, 346] : List Nat) := by first | decide | (simp <;> omega)
  intro n
  induction n with
  | zero =>
    intro L4 s_length s_row res hM
    cases hM
  | succ n ih =>
    intro L4 s_length s_row res hM
    rw [Sc_writeMembrane_84] at hM
    refine eGs.steps 2 (y := (88, [some (.ref 345), some (.ref c), some (.int mm), some (.int depth), some (.int L4), none, none], [.int (6 : Int32), .int L4], (eW2 H [(345, .inr (7, [.ref 346, .int s_length])), (346, .inl (2, 378, .inl s_row))]))) rfl ?_
    by_cases hc : (6 : Int32) ≤ L4
    · rw [if_pos hc] at hM
      refine g_icmp (cd := .ge) (t := 118) true rfl (decide_eq_true hc) rfl ?_
      refine eGs.steps 2 (y := (121, [some (.ref 345), some (.ref c), some (.int mm), some (.int depth), some (.int L4), none, none], [.int (41 : Int32), .ref 345], (eW2 H [(345, .inr (7, [.ref 346, .int s_length])), (346, .inl (2, 378, .inl s_row))]))) rfl ?_
      obtain ⟨v7, hv, hM⟩ := dg_bind hM
      have hE := eEv_putA (T_Sc_add (X := X) (H := (eW2 H [(345, .inr (7, [.ref 346, .int s_length])), (346, .inl (2, 378, .inl s_row))])) (hc_s := (eW2_getA hN 0 rfl rfl)) (hc_sr := (eW2_getA hN 1 rfl rfl)) hv) [0, 1] hN rfl (by first | decide | (simp <;> omega)) rfl (eFor2_ok rfl)
      refine g_callV rfl rfl rfl rfl rfl (by omega) (eW2_getA hN 0 rfl rfl) rfl (hE.mono (by first | decide | omega)) ?_
      refine eGs.steps 0 (y := (124, [some (.ref 345), some (.ref c), some (.int mm), some (.int depth), some (.int L4), none, none], [], (eW2 H [(345, .inr (7, [.ref 346, .int v7.1])), (346, .inl (2, 378, .inl v7.2))]))) rfl ?_
      cases hM
      exact eGs.fin rfl rfl rfl
    · rw [if_neg hc] at hM
      refine g_icmp (cd := .ge) (t := 118) false rfl (decide_eq_false hc) rfl ?_
      refine eGs.steps 1 (y := (92, [some (.ref 345), some (.ref c), some (.int mm), some (.int depth), some (.int L4), none, none], [.ref c], (eW2 H [(345, .inr (7, [.ref 346, .int s_length])), (346, .inl (2, 378, .inl s_row))]))) rfl ?_
      refine g_getf rfl rfl (by omega) ((eW2_offA hO_c rfl).trans hc_c) rfl ?_
      refine eGs.steps 0 (y := (95, [some (.ref 345), some (.ref c), some (.int mm), some (.int depth), some (.int L4), none, none], [.ref (c + 2)], (eW2 H [(345, .inr (7, [.ref 346, .int s_length])), (346, .inl (2, 378, .inl s_row))]))) rfl ?_
      refine eGs.steps 1 (y := (97, [some (.ref 345), some (.ref c), some (.int mm), some (.int depth), some (.int L4), none, none], [.int L4, .ref (c + 2)], (eW2 H [(345, .inr (7, [.ref 346, .int s_length])), (346, .inl (2, 378, .inl s_row))]))) rfl ?_
      obtain ⟨hg8, hM⟩ := dg_none hM
      refine g_iald rfl (by omega) ((eW2_offA hO_cp rfl).trans hc_cp) hg8 ?_
      refine eGs.steps 0 (y := (98, [some (.ref 345), some (.ref c), some (.int mm), some (.int depth), some (.int L4), none, none], [.int (c_par (L4).toNatClampNeg)], (eW2 H [(345, .inr (7, [.ref 346, .int s_length])), (346, .inl (2, 378, .inl s_row))]))) rfl ?_
      refine eGs.steps 1 (y := (99, [some (.ref 345), some (.ref c), some (.int mm), some (.int depth), some (.int L4), none, none], [.int mm, .int (c_par (L4).toNatClampNeg)], (eW2 H [(345, .inr (7, [.ref 346, .int s_length])), (346, .inl (2, 378, .inl s_row))]))) rfl ?_
      by_cases hc : (c_par (L4).toNatClampNeg) = mm
      · rw [if_pos hc] at hM
        refine g_icmp (cd := .ne) (t := 112) false rfl (decide_eq_false (fun z => z hc)) rfl ?_
        refine eGs.steps 6 (y := (109, [some (.ref 345), some (.ref c), some (.int mm), some (.int depth), some (.int L4), none, none], [.int (depth + (1 : Int32)), .int L4, .ref c, .ref 345], (eW2 H [(345, .inr (7, [.ref 346, .int s_length])), (346, .inl (2, 378, .inl s_row))]))) rfl ?_
        obtain ⟨v9, hv, hM⟩ := dg_bind hM
        have hE := eEv_putA (hself (eW2 H [(345, .inr (7, [.ref 346, .int s_length])), (346, .inl (2, 378, .inl s_row))]) _ L4 (depth + (1 : Int32)) s_length s_row c_lab c_par c_hp _ ((eW2_getA hN 0 rfl rfl)) ((eW2_getA hN 1 rfl rfl)) (((eW2_offA hO_c rfl).trans hc_c)) (((eW2_offA hO_cl rfl).trans hc_cl)) (((eW2_offA hO_cp rfl).trans hc_cp)) (((eW2_offA hO_ch rfl).trans hc_ch)) (by first | assumption | omega) hv) [0, 1] hN rfl (by first | decide | (simp <;> omega)) rfl (eFor2_ok rfl)
        refine g_callV rfl rfl rfl rfl rfl (by omega) (eW2_getA hN 0 rfl rfl) rfl (hE.mono (by first | decide | omega)) ?_
        refine eGs.steps 0 (y := (112, [some (.ref 345), some (.ref c), some (.int mm), some (.int depth), some (.int L4), none, none], [], (eW2 H [(345, .inr (7, [.ref 346, .int v9.1])), (346, .inl (2, 378, .inl v9.2))]))) rfl ?_
        refine eGs.steps 2 (y := (84, [some (.ref 345), some (.ref c), some (.int mm), some (.int depth), some (.int (L4 + (1 : Int32))), none, none], [], (eW2 H [(345, .inr (7, [.ref 346, .int v9.1])), (346, .inl (2, 378, .inl v9.2))]))) rfl ?_
        exact ih _ _ _ _ hM
      · rw [if_neg hc] at hM
        refine g_icmp (cd := .ne) (t := 112) true rfl (decide_eq_true hc) rfl ?_
        refine eGs.steps 2 (y := (84, [some (.ref 345), some (.ref c), some (.int mm), some (.int depth), some (.int (L4 + (1 : Int32))), none, none], [], (eW2 H [(345, .inr (7, [.ref 346, .int s_length])), (346, .inl (2, 378, .inl s_row))]))) rfl ?_
        exact ih _ _ _ _ hM
theorem T_Sc_writeMembrane_52 {X : Nat × (Nat → Int32)} {H : eH} {c : Nat} {mm : Int32} {depth : Int32} {c_lab : Nat → Int32} {c_par : Nat → Int32} {c_hp : Nat → Int64} {k30 : (Int32) → (Int32) → (Nat → Int32) → Option (Int32 × (Nat → Int32))} (hc_c : H.1 c = some (.inr (3, [.ref (c + 1), .ref (c + 2), .ref (c + 3)]))) (hc_cl : H.1 (c + 1) = some (.inl (0, 6, .inl c_lab))) (hc_cp : H.1 (c + 2) = some (.inl (0, 6, .inl c_par))) (hc_ch : H.1 (c + 3) = some (.inl (1, 7, .inr (.inl c_hp)))) (hok_c : c = 20 ∨ c = 348 ∨ c = 352 ∨ (25 ≤ c ∧ c ≤ 341 ∧ c % 4 = 1)) {self : (Int32) → (Int32) → (Int32) → (Nat → Int32) → (Nat → Int32) → (Nat → Int32) → (Nat → Int64) → Option (Int32 × (Nat → Int32))} {d : Nat} (hd : 1 ≤ d) (hself : ∀ (H : eH) (c : Nat) (mm : Int32) (depth : Int32) (s_length : Int32) (s_row : Nat → Int32) (c_lab : Nat → Int32) (c_par : Nat → Int32) (c_hp : Nat → Int64) (res : Int32 × (Nat → Int32)), (H.1 345 = some (.inr (7, [.ref 346, .int s_length]))) → (H.1 346 = some (.inl (2, 378, .inl s_row))) → (H.1 c = some (.inr (3, [.ref (c + 1), .ref (c + 2), .ref (c + 3)]))) → (H.1 (c + 1) = some (.inl (0, 6, .inl c_lab))) → (H.1 (c + 2) = some (.inl (0, 6, .inl c_par))) → (H.1 (c + 3) = some (.inl (1, 7, .inr (.inl c_hp)))) → (c = 20 ∨ c = 348 ∨ c = 352 ∨ (25 ≤ c ∧ c ≤ 341 ∧ c % 4 = 1)) → self mm depth s_length s_row c_lab c_par c_hp = some res → eEv pP X d 116 [.ref 345, .ref c, .int mm, .int depth] H (.inl (none), (eW2 H [(345, .inr (7, [.ref 346, .int res.1])), (346, .inl (2, 378, .inl res.2))]))) (hk30 : ∀ (y0 : Int32) (y1 : Int32) (y2 : Nat → Int32) (res : Int32 × (Nat → Int32)), k30 y0 y1 y2 = some res → eGs pP X d 116 (30, [some (.ref 345), some (.ref c), some (.int mm), some (.int depth), some (.int y0), none, none], [], (eW2 H [(345, .inr (7, [.ref 346, .int y1])), (346, .inl (2, 378, .inl y2))])) (.inl (none), (eW2 H [(345, .inr (7, [.ref 346, .int res.1])), (346, .inl (2, 378, .inl res.2))]))) : ∀ (n : Nat) (L4 : Int32) (L5 : Int32) (L6 : Int32) (s_length : Int32) (s_row : Nat → Int32) (res : Int32 × (Nat → Int32)), Sc_writeMembrane_52  self k30 n L4 L5 L6 s_length s_row = some res → eGs pP X d 116 (52, [some (.ref 345), some (.ref c), some (.int mm), some (.int depth), some (.int L4), some (.int L5), some (.int L6)], [], (eW2 H [(345, .inr (7, [.ref 346, .int s_length])), (346, .inl (2, 378, .inl s_row))])) (.inl (none), (eW2 H [(345, .inr (7, [.ref 346, .int res.1])), (346, .inl (2, 378, .inl res.2))])) := by
  have hN : ([345, 346] : List Nat).Nodup := by first | decide | (simp <;> omega)
  have hO_c : c ∉ ([345, 346] : List Nat) := by first | decide | (simp <;> omega)
  have hO_cl : c + 1 ∉ ([345, 346] : List Nat) := by first | decide | (simp <;> omega)
  have hO_cp : c + 2 ∉ ([345, 346] : List Nat) := by first | decide | (simp <;> omega)
  have hO_ch : c + 3 ∉ ([345, 346] : List Nat) := by first | decide | (simp <;> omega)
  intro n
  induction n with
  | zero =>
    intro L4 L5 L6 s_length s_row res hM
    cases hM
  | succ n ih =>
    intro L4 L5 L6 s_length s_row res hM
    rw [Sc_writeMembrane_52] at hM
    refine eGs.steps 2 (y := (56, [some (.ref 345), some (.ref c), some (.int mm), some (.int depth), some (.int L4), some (.int L5), some (.int L6)], [.int L5, .int L6], (eW2 H [(345, .inr (7, [.ref 346, .int s_length])), (346, .inl (2, 378, .inl s_row))]))) rfl ?_
    by_cases hc : L5 ≤ L6
    · rw [if_pos hc] at hM
      refine g_icmp (cd := .ge) (t := 75) true rfl (decide_eq_true hc) rfl ?_
      refine eGs.steps 2 (y := (30, [some (.ref 345), some (.ref c), some (.int mm), some (.int depth), some (.int (L4 + (1 : Int32))), some (.int L5), some (.int L6)], [], (eW2 H [(345, .inr (7, [.ref 346, .int s_length])), (346, .inl (2, 378, .inl s_row))]))) rfl ?_
      refine eGs.weak (lo' := [some (.ref 345), some (.ref c), some (.int mm), some (.int depth), some (.int (L4 + (1 : Int32))), none, none]) (by repeat' first | exact trivial | exact rfl | constructor) ?_
      exact hk30 _ _ _ _ hM
    · rw [if_neg hc] at hM
      refine g_icmp (cd := .ge) (t := 75) false rfl (decide_eq_false hc) rfl ?_
      refine eGs.steps 5 (y := (66, [some (.ref 345), some (.ref c), some (.int mm), some (.int depth), some (.int L4), some (.int L5), some (.int L6)], [.int (((((97 : Int32) + L4)).toUInt32 % 65536).toInt32), .ref 345], (eW2 H [(345, .inr (7, [.ref 346, .int s_length])), (346, .inl (2, 378, .inl s_row))]))) rfl ?_
      obtain ⟨v6, hv, hM⟩ := dg_bind hM
      have hE := eEv_putA (T_Sc_add (X := X) (H := (eW2 H [(345, .inr (7, [.ref 346, .int s_length])), (346, .inl (2, 378, .inl s_row))])) (hc_s := (eW2_getA hN 0 rfl rfl)) (hc_sr := (eW2_getA hN 1 rfl rfl)) hv) [0, 1] hN rfl (by first | decide | (simp <;> omega)) rfl (eFor2_ok rfl)
      refine g_callV rfl rfl rfl rfl rfl (by omega) (eW2_getA hN 0 rfl rfl) rfl (hE.mono (by first | decide | omega)) ?_
      refine eGs.steps 0 (y := (69, [some (.ref 345), some (.ref c), some (.int mm), some (.int depth), some (.int L4), some (.int L5), some (.int L6)], [], (eW2 H [(345, .inr (7, [.ref 346, .int v6.1])), (346, .inl (2, 378, .inl v6.2))]))) rfl ?_
      refine eGs.steps 2 (y := (52, [some (.ref 345), some (.ref c), some (.int mm), some (.int depth), some (.int L4), some (.int L5), some (.int (L6 + (1 : Int32)))], [], (eW2 H [(345, .inr (7, [.ref 346, .int v6.1])), (346, .inl (2, 378, .inl v6.2))]))) rfl ?_
      exact ih _ _ _ _ _ _ hM
theorem T_Sc_writeMembrane_30 {X : Nat × (Nat → Int32)} {H : eH} {c : Nat} {mm : Int32} {depth : Int32} {c_lab : Nat → Int32} {c_par : Nat → Int32} {c_hp : Nat → Int64} (hc_c : H.1 c = some (.inr (3, [.ref (c + 1), .ref (c + 2), .ref (c + 3)]))) (hc_cl : H.1 (c + 1) = some (.inl (0, 6, .inl c_lab))) (hc_cp : H.1 (c + 2) = some (.inl (0, 6, .inl c_par))) (hc_ch : H.1 (c + 3) = some (.inl (1, 7, .inr (.inl c_hp)))) (hok_c : c = 20 ∨ c = 348 ∨ c = 352 ∨ (25 ≤ c ∧ c ≤ 341 ∧ c % 4 = 1)) {self : (Int32) → (Int32) → (Int32) → (Nat → Int32) → (Nat → Int32) → (Nat → Int32) → (Nat → Int64) → Option (Int32 × (Nat → Int32))} {d : Nat} (hd : 1 ≤ d) (hself : ∀ (H : eH) (c : Nat) (mm : Int32) (depth : Int32) (s_length : Int32) (s_row : Nat → Int32) (c_lab : Nat → Int32) (c_par : Nat → Int32) (c_hp : Nat → Int64) (res : Int32 × (Nat → Int32)), (H.1 345 = some (.inr (7, [.ref 346, .int s_length]))) → (H.1 346 = some (.inl (2, 378, .inl s_row))) → (H.1 c = some (.inr (3, [.ref (c + 1), .ref (c + 2), .ref (c + 3)]))) → (H.1 (c + 1) = some (.inl (0, 6, .inl c_lab))) → (H.1 (c + 2) = some (.inl (0, 6, .inl c_par))) → (H.1 (c + 3) = some (.inl (1, 7, .inr (.inl c_hp)))) → (c = 20 ∨ c = 348 ∨ c = 352 ∨ (25 ≤ c ∧ c ≤ 341 ∧ c % 4 = 1)) → self mm depth s_length s_row c_lab c_par c_hp = some res → eEv pP X d 116 [.ref 345, .ref c, .int mm, .int depth] H (.inl (none), (eW2 H [(345, .inr (7, [.ref 346, .int res.1])), (346, .inl (2, 378, .inl res.2))]))) : ∀ (n : Nat) (L4 : Int32) (s_length : Int32) (s_row : Nat → Int32) (res : Int32 × (Nat → Int32)), Sc_writeMembrane_30 mm depth c_lab c_par c_hp self  n L4 s_length s_row = some res → eGs pP X d 116 (30, [some (.ref 345), some (.ref c), some (.int mm), some (.int depth), some (.int L4), none, none], [], (eW2 H [(345, .inr (7, [.ref 346, .int s_length])), (346, .inl (2, 378, .inl s_row))])) (.inl (none), (eW2 H [(345, .inr (7, [.ref 346, .int res.1])), (346, .inl (2, 378, .inl res.2))])) := by
  have hN : ([345, 346] : List Nat).Nodup := by first | decide | (simp <;> omega)
  have hO_c : c ∉ ([345, 346] : List Nat) := by first | decide | (simp <;> omega)
  have hO_cl : c + 1 ∉ ([345, 346] : List Nat) := by first | decide | (simp <;> omega)
  have hO_cp : c + 2 ∉ ([345, 346] : List Nat) := by first | decide | (simp <;> omega)
  have hO_ch : c + 3 ∉ ([345, 346] : List Nat) := by first | decide | (simp <;> omega)
  intro n
  induction n with
  | zero =>
    intro L4 s_length s_row res hM
    cases hM
  | succ n ih =>
    intro L4 s_length s_row res hM
    rw [Sc_writeMembrane_30] at hM
    refine eGs.steps 2 (y := (33, [some (.ref 345), some (.ref c), some (.int mm), some (.int depth), some (.int L4), none, none], [.int (5 : Int32), .int L4], (eW2 H [(345, .inr (7, [.ref 346, .int s_length])), (346, .inl (2, 378, .inl s_row))]))) rfl ?_
    by_cases hc : (5 : Int32) ≤ L4
    · rw [if_pos hc] at hM
      refine g_icmp (cd := .ge) (t := 81) true rfl (decide_eq_true hc) rfl ?_
      refine eGs.steps 2 (y := (84, [some (.ref 345), some (.ref c), some (.int mm), some (.int depth), some (.int (0 : Int32)), none, none], [], (eW2 H [(345, .inr (7, [.ref 346, .int s_length])), (346, .inl (2, 378, .inl s_row))]))) rfl ?_
      exact T_Sc_writeMembrane_84 (c := c) (mm := mm) (depth := depth) (c_lab := c_lab) (c_par := c_par) (c_hp := c_hp) (hc_c := hc_c) (hc_cl := hc_cl) (hc_cp := hc_cp) (hc_ch := hc_ch) (hok_c := hok_c) (d := d) hd hself n _ _ _ _ hM
    · rw [if_neg hc] at hM
      refine g_icmp (cd := .ge) (t := 81) false rfl (decide_eq_false hc) rfl ?_
      refine eGs.steps 1 (y := (37, [some (.ref 345), some (.ref c), some (.int mm), some (.int depth), some (.int L4), none, none], [.ref c], (eW2 H [(345, .inr (7, [.ref 346, .int s_length])), (346, .inl (2, 378, .inl s_row))]))) rfl ?_
      refine g_getf rfl rfl (by omega) ((eW2_offA hO_c rfl).trans hc_c) rfl ?_
      refine eGs.steps 0 (y := (40, [some (.ref 345), some (.ref c), some (.int mm), some (.int depth), some (.int L4), none, none], [.ref (c + 3)], (eW2 H [(345, .inr (7, [.ref 346, .int s_length])), (346, .inl (2, 378, .inl s_row))]))) rfl ?_
      refine eGs.steps 1 (y := (41, [some (.ref 345), some (.ref c), some (.int mm), some (.int depth), some (.int L4), none, none], [.int mm, .ref (c + 3)], (eW2 H [(345, .inr (7, [.ref 346, .int s_length])), (346, .inl (2, 378, .inl s_row))]))) rfl ?_
      obtain ⟨hg4, hM⟩ := dg_none hM
      refine g_lald rfl (by omega) ((eW2_offA hO_ch rfl).trans hc_ch) hg4 ?_
      refine eGs.steps 0 (y := (42, [some (.ref 345), some (.ref c), some (.int mm), some (.int depth), some (.int L4), none, none], [.long (c_hp (mm).toNatClampNeg)], (eW2 H [(345, .inr (7, [.ref 346, .int s_length])), (346, .inl (2, 378, .inl s_row))]))) rfl ?_
      refine eGs.steps 1 (y := (44, [some (.ref 345), some (.ref c), some (.int mm), some (.int depth), some (.int L4), none, none], [.int L4, .long (c_hp (mm).toNatClampNeg)], (eW2 H [(345, .inr (7, [.ref 346, .int s_length])), (346, .inl (2, 378, .inl s_row))]))) rfl ?_
      obtain ⟨v5, hv, hM⟩ := dg_bind hM
      have hE := T_H_count (X := X) (H := (eW2 H [(345, .inr (7, [.ref 346, .int s_length])), (346, .inl (2, 378, .inl s_row))]))  hv
      refine g_callS rfl rfl rfl rfl rfl (hE.mono (by first | decide | omega)) ?_
      refine eGs.steps 0 (y := (47, [some (.ref 345), some (.ref c), some (.int mm), some (.int depth), some (.int L4), none, none], [.int v5], (eW2 H [(345, .inr (7, [.ref 346, .int s_length])), (346, .inl (2, 378, .inl s_row))]))) rfl ?_
      refine eGs.steps 3 (y := (52, [some (.ref 345), some (.ref c), some (.int mm), some (.int depth), some (.int L4), some (.int v5), some (.int (0 : Int32))], [], (eW2 H [(345, .inr (7, [.ref 346, .int s_length])), (346, .inl (2, 378, .inl s_row))]))) rfl ?_
      exact T_Sc_writeMembrane_52 (c := c) (mm := mm) (depth := depth) (c_lab := c_lab) (c_par := c_par) (c_hp := c_hp) (hc_c := hc_c) (hc_cl := hc_cl) (hc_cp := hc_cp) (hc_ch := hc_ch) (hok_c := hok_c) (d := d) hd hself (fun x0 x1 x2 res q => ih x0 x1 x2 res q) n _ _ _ _ _ _ hM
theorem T_Sc_writeMembrane0 {X : Nat × (Nat → Int32)} {n : Nat} : ∀ (r : Nat), ∀ (H : eH) (c : Nat) (mm : Int32) (depth : Int32) (s_length : Int32) (s_row : Nat → Int32) (c_lab : Nat → Int32) (c_par : Nat → Int32) (c_hp : Nat → Int64) (res : Int32 × (Nat → Int32)), (H.1 345 = some (.inr (7, [.ref 346, .int s_length]))) → (H.1 346 = some (.inl (2, 378, .inl s_row))) → (H.1 c = some (.inr (3, [.ref (c + 1), .ref (c + 2), .ref (c + 3)]))) → (H.1 (c + 1) = some (.inl (0, 6, .inl c_lab))) → (H.1 (c + 2) = some (.inl (0, 6, .inl c_par))) → (H.1 (c + 3) = some (.inl (1, 7, .inr (.inl c_hp)))) → (c = 20 ∨ c = 348 ∨ c = 352 ∨ (25 ≤ c ∧ c ≤ 341 ∧ c % 4 = 1)) → Sc_writeMembrane n r mm depth s_length s_row c_lab c_par c_hp = some res → eEv pP X (r + 2) 116 [.ref 345, .ref c, .int mm, .int depth] H (.inl (none), (eW2 H [(345, .inr (7, [.ref 346, .int res.1])), (346, .inl (2, 378, .inl res.2))])) := by
  intro r
  induction r with
  | zero =>
    intro H c mm depth s_length s_row c_lab c_par c_hp res hc_s hc_sr hc_c hc_cl hc_cp hc_ch hok_c hM
    cases hM
  | succ r ih =>
    intro H c mm depth s_length s_row c_lab c_par c_hp res hc_s hc_sr hc_c hc_cl hc_cp hc_ch hok_c hM
    have hN : ([345, 346] : List Nat).Nodup := by first | decide | (simp <;> omega)
    have hO_c : c ∉ ([345, 346] : List Nat) := by first | decide | (simp <;> omega)
    have hO_cl : c + 1 ∉ ([345, 346] : List Nat) := by first | decide | (simp <;> omega)
    have hO_cp : c + 2 ∉ ([345, 346] : List Nat) := by first | decide | (simp <;> omega)
    have hO_ch : c + 3 ∉ ([345, 346] : List Nat) := by first | decide | (simp <;> omega)
    have h0 : (eW2 H [(345, .inr (7, [.ref 346, .int s_length])), (346, .inl (2, 378, .inl s_row))]) = H := eW2_self (by simp only [List.forall_mem_cons]; exact ⟨hc_s, hc_sr, fun _ h => absurd h List.not_mem_nil⟩)
    rw [show eEv pP X (r + 1 + 2) 116 _ H = eEv pP X (r + 1 + 2) 116 _ (eW2 H [(345, .inr (7, [.ref 346, .int s_length])), (346, .inl (2, 378, .inl s_row))]) by rw [h0]]
    refine eEv.of (d0 := r + 2) (Nat.not_lt.mpr (Nat.le_of_ble_eq_true rfl)) ?_
    refine eGs.steps 0 (y := (0, [some (.ref 345), some (.ref c), some (.int mm), some (.int depth), none, none, none], [], (eW2 H [(345, .inr (7, [.ref 346, .int s_length])), (346, .inl (2, 378, .inl s_row))]))) rfl ?_
    rw [Sc_writeMembrane] at hM
    refine eGs.steps 2 (y := (3, [some (.ref 345), some (.ref c), some (.int mm), some (.int depth), none, none, none], [.int (6 : Int32), .int depth], (eW2 H [(345, .inr (7, [.ref 346, .int s_length])), (346, .inl (2, 378, .inl s_row))]))) rfl ?_
    by_cases hc : depth < (6 : Int32)
    · rw [if_pos hc] at hM
      refine g_icmp (cd := .lt) (t := 7) true rfl (decide_eq_true hc) rfl ?_
      refine eGs.steps 3 (y := (11, [some (.ref 345), some (.ref c), some (.int mm), some (.int depth), none, none, none], [.ref c, .int (48 : Int32), .ref 345], (eW2 H [(345, .inr (7, [.ref 346, .int s_length])), (346, .inl (2, 378, .inl s_row))]))) rfl ?_
      refine g_getf rfl rfl (by omega) ((eW2_offA hO_c rfl).trans hc_c) rfl ?_
      refine eGs.steps 0 (y := (14, [some (.ref 345), some (.ref c), some (.int mm), some (.int depth), none, none, none], [.ref (c + 1), .int (48 : Int32), .ref 345], (eW2 H [(345, .inr (7, [.ref 346, .int s_length])), (346, .inl (2, 378, .inl s_row))]))) rfl ?_
      refine eGs.steps 1 (y := (15, [some (.ref 345), some (.ref c), some (.int mm), some (.int depth), none, none, none], [.int mm, .ref (c + 1), .int (48 : Int32), .ref 345], (eW2 H [(345, .inr (7, [.ref 346, .int s_length])), (346, .inl (2, 378, .inl s_row))]))) rfl ?_
      obtain ⟨hg1, hM⟩ := dg_none hM
      refine g_iald rfl (by omega) ((eW2_offA hO_cl rfl).trans hc_cl) hg1 ?_
      refine eGs.steps 0 (y := (16, [some (.ref 345), some (.ref c), some (.int mm), some (.int depth), none, none, none], [.int (c_lab (mm).toNatClampNeg), .int (48 : Int32), .ref 345], (eW2 H [(345, .inr (7, [.ref 346, .int s_length])), (346, .inl (2, 378, .inl s_row))]))) rfl ?_
      refine eGs.steps 2 (y := (18, [some (.ref 345), some (.ref c), some (.int mm), some (.int depth), none, none, none], [.int (((((48 : Int32) + (c_lab (mm).toNatClampNeg))).toUInt32 % 65536).toInt32), .ref 345], (eW2 H [(345, .inr (7, [.ref 346, .int s_length])), (346, .inl (2, 378, .inl s_row))]))) rfl ?_
      obtain ⟨v2, hv, hM⟩ := dg_bind hM
      have hE := eEv_putA (T_Sc_add (X := X) (H := (eW2 H [(345, .inr (7, [.ref 346, .int s_length])), (346, .inl (2, 378, .inl s_row))])) (hc_s := (eW2_getA hN 0 rfl rfl)) (hc_sr := (eW2_getA hN 1 rfl rfl)) hv) [0, 1] hN rfl (by first | decide | (simp <;> omega)) rfl (eFor2_ok rfl)
      refine g_callV rfl rfl rfl rfl rfl (by omega) (eW2_getA hN 0 rfl rfl) rfl (hE.mono (by first | decide | omega)) ?_
      refine eGs.steps 0 (y := (21, [some (.ref 345), some (.ref c), some (.int mm), some (.int depth), none, none, none], [], (eW2 H [(345, .inr (7, [.ref 346, .int v2.1])), (346, .inl (2, 378, .inl v2.2))]))) rfl ?_
      refine eGs.steps 2 (y := (24, [some (.ref 345), some (.ref c), some (.int mm), some (.int depth), none, none, none], [.int (40 : Int32), .ref 345], (eW2 H [(345, .inr (7, [.ref 346, .int v2.1])), (346, .inl (2, 378, .inl v2.2))]))) rfl ?_
      obtain ⟨v3, hv, hM⟩ := dg_bind hM
      have hE := eEv_putA (T_Sc_add (X := X) (H := (eW2 H [(345, .inr (7, [.ref 346, .int v2.1])), (346, .inl (2, 378, .inl v2.2))])) (hc_s := (eW2_getA hN 0 rfl rfl)) (hc_sr := (eW2_getA hN 1 rfl rfl)) hv) [0, 1] hN rfl (by first | decide | (simp <;> omega)) rfl (eFor2_ok rfl)
      refine g_callV rfl rfl rfl rfl rfl (by omega) (eW2_getA hN 0 rfl rfl) rfl (hE.mono (by first | decide | omega)) ?_
      refine eGs.steps 0 (y := (27, [some (.ref 345), some (.ref c), some (.int mm), some (.int depth), none, none, none], [], (eW2 H [(345, .inr (7, [.ref 346, .int v3.1])), (346, .inl (2, 378, .inl v3.2))]))) rfl ?_
      refine eGs.steps 2 (y := (30, [some (.ref 345), some (.ref c), some (.int mm), some (.int depth), some (.int (0 : Int32)), none, none], [], (eW2 H [(345, .inr (7, [.ref 346, .int v3.1])), (346, .inl (2, 378, .inl v3.2))]))) rfl ?_
      exact T_Sc_writeMembrane_30 (c := c) (mm := mm) (depth := depth) (c_lab := c_lab) (c_par := c_par) (c_hp := c_hp) (hc_c := hc_c) (hc_cl := hc_cl) (hc_cp := hc_cp) (hc_ch := hc_ch) (hok_c := hok_c) (d := r + 2) (by omega) ih n _ _ _ _ hM
    · rw [if_neg hc] at hM
      refine g_icmp (cd := .lt) (t := 7) false rfl (decide_eq_false hc) rfl ?_
      cases hM
      exact eGs.fin rfl rfl rfl
theorem T_Sc_writeMembrane {X : Nat × (Nat → Int32)} {H : eH} {c : Nat} {mm : Int32} {depth : Int32} {s_length : Int32} {s_row : Nat → Int32} {c_lab : Nat → Int32} {c_par : Nat → Int32} {c_hp : Nat → Int64} {n : Nat} {res : Int32 × (Nat → Int32)} (hc_s : H.1 345 = some (.inr (7, [.ref 346, .int s_length]))) (hc_sr : H.1 346 = some (.inl (2, 378, .inl s_row))) (hc_c : H.1 c = some (.inr (3, [.ref (c + 1), .ref (c + 2), .ref (c + 3)]))) (hc_cl : H.1 (c + 1) = some (.inl (0, 6, .inl c_lab))) (hc_cp : H.1 (c + 2) = some (.inl (0, 6, .inl c_par))) (hc_ch : H.1 (c + 3) = some (.inl (1, 7, .inr (.inl c_hp)))) (hok_c : c = 20 ∨ c = 348 ∨ c = 352 ∨ (25 ≤ c ∧ c ≤ 341 ∧ c % 4 = 1)) (hM : Sc_writeMembrane n 8 mm depth s_length s_row c_lab c_par c_hp = some res) : eEv pP X 10 116 [.ref 345, .ref c, .int mm, .int depth] H (.inl (none), (eW2 H [(345, .inr (7, [.ref 346, .int res.1])), (346, .inl (2, 378, .inl res.2))])) :=
  T_Sc_writeMembrane0 8 H c mm depth s_length s_row c_lab c_par c_hp res hc_s hc_sr hc_c hc_cl hc_cp hc_ch hok_c hM
def Sc_character (n : Nat) (ii : Int32) (s_row : Nat → Int32) (c_lab : Nat → Int32) (c_par : Nat → Int32) (c_hp : Nat → Int64) : Option (Int32 × Int32 × (Nat → Int32)) :=
  (Sc_writeMembrane n 8 (0 : Int32) (0 : Int32) (0 : Int32) s_row c_lab c_par c_hp).bind fun v1 => (if ii < 0 then (some ((-1 : Int32), v1.1, v1.2)) else (if v1.1 ≤ ii then (some ((-1 : Int32), v1.1, v1.2)) else (if ii < 0 ∨ 378 ≤ (ii).toNatClampNeg then none else (some ((v1.2 (ii).toNatClampNeg), v1.1, v1.2)))))
theorem T_Sc_character {X : Nat × (Nat → Int32)} {H : eH} {c : Nat} {ii : Int32} {s_length : Int32} {s_row : Nat → Int32} {c_lab : Nat → Int32} {c_par : Nat → Int32} {c_hp : Nat → Int64} {n : Nat} {res : Int32 × Int32 × (Nat → Int32)} (hc_s : H.1 345 = some (.inr (7, [.ref 346, .int s_length]))) (hc_sr : H.1 346 = some (.inl (2, 378, .inl s_row))) (hc_c : H.1 c = some (.inr (3, [.ref (c + 1), .ref (c + 2), .ref (c + 3)]))) (hc_cl : H.1 (c + 1) = some (.inl (0, 6, .inl c_lab))) (hc_cp : H.1 (c + 2) = some (.inl (0, 6, .inl c_par))) (hc_ch : H.1 (c + 3) = some (.inl (1, 7, .inr (.inl c_hp)))) (hok_c : c = 20 ∨ c = 348 ∨ c = 352 ∨ (25 ≤ c ∧ c ≤ 341 ∧ c % 4 = 1)) (hM : Sc_character n ii s_row c_lab c_par c_hp = some res) : eEv pP X 11 115 [.ref 345, .ref c, .int ii] H (.inl (some (.int res.1)), (eW2 H [(345, .inr (7, [.ref 346, .int res.2.1])), (346, .inl (2, 378, .inl res.2.2))])) := by
  have hN : ([345, 346] : List Nat).Nodup := by first | decide | (simp <;> omega)
  have hO_c : c ∉ ([345, 346] : List Nat) := by first | decide | (simp <;> omega)
  have hO_cl : c + 1 ∉ ([345, 346] : List Nat) := by first | decide | (simp <;> omega)
  have hO_cp : c + 2 ∉ ([345, 346] : List Nat) := by first | decide | (simp <;> omega)
  have hO_ch : c + 3 ∉ ([345, 346] : List Nat) := by first | decide | (simp <;> omega)
  have h0 : (eW2 H [(345, .inr (7, [.ref 346, .int s_length])), (346, .inl (2, 378, .inl s_row))]) = H := eW2_self (by simp only [List.forall_mem_cons]; exact ⟨hc_s, hc_sr, fun _ h => absurd h List.not_mem_nil⟩)
  rw [show eEv pP X 11 115 _ H = eEv pP X 11 115 _ (eW2 H [(345, .inr (7, [.ref 346, .int s_length])), (346, .inl (2, 378, .inl s_row))]) by rw [h0]]
  refine eEv.of (Nat.not_lt.mpr (Nat.le_of_ble_eq_true rfl)) ?_
  refine eGs.steps 0 (y := (0, [some (.ref 345), some (.ref c), some (.int ii)], [], (eW2 H [(345, .inr (7, [.ref 346, .int s_length])), (346, .inl (2, 378, .inl s_row))]))) rfl ?_
  unfold Sc_character at hM
  refine eGs.steps 2 (y := (2, [some (.ref 345), some (.ref c), some (.int ii)], [.int (0 : Int32), .ref 345], (eW2 H [(345, .inr (7, [.ref 346, .int s_length])), (346, .inl (2, 378, .inl s_row))]))) rfl ?_
  refine g_putfW rfl rfl (by omega) (eW2_getA hN 0 rfl rfl) rfl (Nat.le_of_ble_eq_true rfl) rfl (eW2_setA hN 0 rfl rfl) ?_
  refine eGs.steps 0 (y := (5, [some (.ref 345), some (.ref c), some (.int ii)], [], (eW2 H [(345, .inr (7, [.ref 346, .int (0 : Int32)])), (346, .inl (2, 378, .inl s_row))]))) rfl ?_
  refine eGs.steps 4 (y := (9, [some (.ref 345), some (.ref c), some (.int ii)], [.int (0 : Int32), .int (0 : Int32), .ref c, .ref 345], (eW2 H [(345, .inr (7, [.ref 346, .int (0 : Int32)])), (346, .inl (2, 378, .inl s_row))]))) rfl ?_
  obtain ⟨v1, hv, hM⟩ := dg_bind hM
  have hE := eEv_putA (T_Sc_writeMembrane (X := X) (H := (eW2 H [(345, .inr (7, [.ref 346, .int (0 : Int32)])), (346, .inl (2, 378, .inl s_row))])) (hc_s := (eW2_getA hN 0 rfl rfl)) (hc_sr := (eW2_getA hN 1 rfl rfl)) (hc_c := ((eW2_offA hO_c rfl).trans hc_c)) (hc_cl := ((eW2_offA hO_cl rfl).trans hc_cl)) (hc_cp := ((eW2_offA hO_cp rfl).trans hc_cp)) (hc_ch := ((eW2_offA hO_ch rfl).trans hc_ch)) (hok_c := by first | assumption | omega) hv) [0, 1] hN rfl (by first | decide | (simp <;> omega)) rfl (eFor2_ok rfl)
  refine g_callV rfl rfl rfl rfl rfl (by omega) (eW2_getA hN 0 rfl rfl) rfl (hE.mono (by first | decide | omega)) ?_
  refine eGs.steps 0 (y := (12, [some (.ref 345), some (.ref c), some (.int ii)], [], (eW2 H [(345, .inr (7, [.ref 346, .int v1.1])), (346, .inl (2, 378, .inl v1.2))]))) rfl ?_
  refine eGs.steps 1 (y := (13, [some (.ref 345), some (.ref c), some (.int ii)], [.int ii], (eW2 H [(345, .inr (7, [.ref 346, .int v1.1])), (346, .inl (2, 378, .inl v1.2))]))) rfl ?_
  by_cases hc : ii < 0
  · rw [if_pos hc] at hM
    refine g_if (cd := .lt) (t := 33) true rfl (decide_eq_true hc) rfl ?_
    refine eGs.steps 1 (y := (34, [some (.ref 345), some (.ref c), some (.int ii)], [.int (-1 : Int32)], (eW2 H [(345, .inr (7, [.ref 346, .int v1.1])), (346, .inl (2, 378, .inl v1.2))]))) rfl ?_
    cases hM
    exact eGs.fin rfl rfl rfl
  · rw [if_neg hc] at hM
    refine g_if (cd := .lt) (t := 33) false rfl (decide_eq_false hc) rfl ?_
    refine eGs.steps 2 (y := (18, [some (.ref 345), some (.ref c), some (.int ii)], [.ref 345, .int ii], (eW2 H [(345, .inr (7, [.ref 346, .int v1.1])), (346, .inl (2, 378, .inl v1.2))]))) rfl ?_
    refine g_getf rfl rfl (by omega) (eW2_getA hN 0 rfl rfl) rfl ?_
    refine eGs.steps 0 (y := (21, [some (.ref 345), some (.ref c), some (.int ii)], [.int v1.1, .int ii], (eW2 H [(345, .inr (7, [.ref 346, .int v1.1])), (346, .inl (2, 378, .inl v1.2))]))) rfl ?_
    by_cases hc : v1.1 ≤ ii
    · rw [if_pos hc] at hM
      refine g_icmp (cd := .ge) (t := 33) true rfl (decide_eq_true hc) rfl ?_
      refine eGs.steps 1 (y := (34, [some (.ref 345), some (.ref c), some (.int ii)], [.int (-1 : Int32)], (eW2 H [(345, .inr (7, [.ref 346, .int v1.1])), (346, .inl (2, 378, .inl v1.2))]))) rfl ?_
      cases hM
      exact eGs.fin rfl rfl rfl
    · rw [if_neg hc] at hM
      refine g_icmp (cd := .ge) (t := 33) false rfl (decide_eq_false hc) rfl ?_
      refine eGs.steps 1 (y := (25, [some (.ref 345), some (.ref c), some (.int ii)], [.ref 345], (eW2 H [(345, .inr (7, [.ref 346, .int v1.1])), (346, .inl (2, 378, .inl v1.2))]))) rfl ?_
      refine g_getf rfl rfl (by omega) (eW2_getA hN 0 rfl rfl) rfl ?_
      refine eGs.steps 0 (y := (28, [some (.ref 345), some (.ref c), some (.int ii)], [.ref 346], (eW2 H [(345, .inr (7, [.ref 346, .int v1.1])), (346, .inl (2, 378, .inl v1.2))]))) rfl ?_
      refine eGs.steps 1 (y := (29, [some (.ref 345), some (.ref c), some (.int ii)], [.int ii, .ref 346], (eW2 H [(345, .inr (7, [.ref 346, .int v1.1])), (346, .inl (2, 378, .inl v1.2))]))) rfl ?_
      obtain ⟨hg2, hM⟩ := dg_none hM
      refine g_cald rfl (by omega) (eW2_getA hN 1 rfl rfl) hg2 ?_
      refine eGs.steps 0 (y := (30, [some (.ref 345), some (.ref c), some (.int ii)], [.int (v1.2 (ii).toNatClampNeg)], (eW2 H [(345, .inr (7, [.ref 346, .int v1.1])), (346, .inl (2, 378, .inl v1.2))]))) rfl ?_
      refine eGs.steps 1 (y := (34, [some (.ref 345), some (.ref c), some (.int ii)], [.int (v1.2 (ii).toNatClampNeg)], (eW2 H [(345, .inr (7, [.ref 346, .int v1.1])), (346, .inl (2, 378, .inl v1.2))]))) rfl ?_
      cases hM
      exact eGs.fin rfl rfl rfl

def H_ofHandful_4 (handful : Int32)  : Nat → (Int64) → (Int32) → Option (Int64)
  | 0, _, _ => none
  | n + 1, L1, L3 =>
    if (5 : Int32) ≤ L3 then (some L1) else (H_ofHandful_4 handful n (L1 ||| ((((handful >>> (((2 : Int32) * L3) &&& 31)) &&& (3 : Int32))).toInt64 <<< ((((12 : Int32) * L3)).toInt64 &&& 63))) (L3 + (1 : Int32)))
def H_ofHandful (n : Nat) (handful : Int32) : Option (Int64) :=
  H_ofHandful_4 handful n (0 : Int64) (0 : Int32)
theorem T_H_ofHandful_4 {X : Nat × (Nat → Int32)} {H : eH} {handful : Int32} : ∀ (n : Nat) (L1 : Int64) (L3 : Int32) (res : Int64), H_ofHandful_4 handful  n L1 L3 = some res → eGs pP X 0 100 (4, [some (.int handful), some (.long L1), none, some (.int L3), none, none], [], H) (.inl (some (.long res)), H) := by
  intro n
  induction n with
  | zero =>
    intro L1 L3 res hM
    cases hM
  | succ n ih =>
    intro L1 L3 res hM
    rw [H_ofHandful_4] at hM
    refine eGs.steps 2 (y := (6, [some (.int handful), some (.long L1), none, some (.int L3), none, none], [.int (5 : Int32), .int L3], H)) rfl ?_
    by_cases hc : (5 : Int32) ≤ L3
    · rw [if_pos hc] at hM
      refine g_icmp (cd := .ge) (t := 35) true rfl (decide_eq_true hc) rfl ?_
      refine eGs.steps 1 (y := (36, [some (.int handful), some (.long L1), none, some (.int L3), none, none], [.long L1], H)) rfl ?_
      cases hM
      exact eGs.fin rfl rfl rfl
    · rw [if_neg hc] at hM
      refine g_icmp (cd := .ge) (t := 35) false rfl (decide_eq_false hc) rfl ?_
      refine eGs.steps 19 (y := (4, [some (.int handful), some (.long (L1 ||| ((((handful >>> (((2 : Int32) * L3) &&& 31)) &&& (3 : Int32))).toInt64 <<< ((((12 : Int32) * L3)).toInt64 &&& 63)))), none, some (.int (L3 + (1 : Int32))), some (.long ((((handful >>> (((2 : Int32) * L3) &&& 31)) &&& (3 : Int32))).toInt64)), none], [], H)) rfl ?_
      refine eGs.weak (lo' := [some (.int handful), some (.long (L1 ||| ((((handful >>> (((2 : Int32) * L3) &&& 31)) &&& (3 : Int32))).toInt64 <<< ((((12 : Int32) * L3)).toInt64 &&& 63)))), none, some (.int (L3 + (1 : Int32))), none, none]) (by repeat' first | exact trivial | exact rfl | constructor) ?_
      exact ih _ _ _ hM
theorem T_H_ofHandful {X : Nat × (Nat → Int32)} {H : eH} {handful : Int32} {n : Nat} {res : Int64} (hM : H_ofHandful n handful = some res) : eEv pP X 1 100 [.int handful] H (.inl (some (.long res)), H) := by
  refine eEv.of (Nat.not_lt.mpr (Nat.le_of_ble_eq_true rfl)) ?_
  refine eGs.steps 0 (y := (0, [some (.int handful), none, none, none, none, none], [], H)) rfl ?_
  unfold H_ofHandful at hM
  refine eGs.steps 4 (y := (4, [some (.int handful), some (.long (0 : Int64)), none, some (.int (0 : Int32)), none, none], [], H)) rfl ?_
  exact T_H_ofHandful_4 (handful := handful) n _ _ _ hM
def H_count (n : Nat) (heap : Int64) (kind : Int32) : Option (Int32) :=
  some (((((heap).toUInt64 >>> ((((12 : Int32) * kind)).toInt64.toUInt64 &&& Int64.toUInt64 63)).toInt64 &&& (4095 : Int64))).toInt32)
theorem T_H_count {X : Nat × (Nat → Int32)} {H : eH} {heap : Int64} {kind : Int32} {n : Nat} {res : Int32} (hM : H_count n heap kind = some res) : eEv pP X 1 101 [.long heap, .int kind] H (.inl (some (.int res)), H) := by
  refine eEv.of (Nat.not_lt.mpr (Nat.le_of_ble_eq_true rfl)) ?_
  refine eGs.steps 0 (y := (0, [some (.long heap), none, some (.int kind)], [], H)) rfl ?_
  unfold H_count at hM
  refine eGs.steps 8 (y := (11, [some (.long heap), none, some (.int kind)], [.int (((((heap).toUInt64 >>> ((((12 : Int32) * kind)).toInt64.toUInt64 &&& Int64.toUInt64 63)).toInt64 &&& (4095 : Int64))).toInt32)], H)) rfl ?_
  cases hM
  exact eGs.fin rfl rfl rfl
def H_holds (n : Nat) (heap : Int64) (part : Int64) : Option (Int32) :=
  if (lg_cmp (((heap ||| (576601524159907840 : Int64)) - part) &&& (576601524159907840 : Int64)) (576601524159907840 : Int64)) = 0 then (some ((1 : Int32) &&& 1)) else (some ((0 : Int32) &&& 1))
theorem T_H_holds {X : Nat × (Nat → Int32)} {H : eH} {heap : Int64} {part : Int64} {n : Nat} {res : Int32} (hM : H_holds n heap part = some res) : eEv pP X 1 102 [.long heap, .long part] H (.inl (some (.int res)), H) := by
  refine eEv.of (Nat.not_lt.mpr (Nat.le_of_ble_eq_true rfl)) ?_
  refine eGs.steps 0 (y := (0, [some (.long heap), none, some (.long part), none], [], H)) rfl ?_
  unfold H_holds at hM
  refine eGs.steps 9 (y := (15, [some (.long heap), none, some (.long part), none], [.int (lg_cmp (((heap ||| (576601524159907840 : Int64)) - part) &&& (576601524159907840 : Int64)) (576601524159907840 : Int64))], H)) rfl ?_
  by_cases hc : (lg_cmp (((heap ||| (576601524159907840 : Int64)) - part) &&& (576601524159907840 : Int64)) (576601524159907840 : Int64)) = 0
  · rw [if_pos hc] at hM
    refine g_if (cd := .ne) (t := 22) false rfl (decide_eq_false (fun z => z hc)) rfl ?_
    refine eGs.steps 2 (y := (23, [some (.long heap), none, some (.long part), none], [.int (1 : Int32)], H)) rfl ?_
    cases hM
    exact eGs.fin rfl rfl rfl
  · rw [if_neg hc] at hM
    refine g_if (cd := .ne) (t := 22) true rfl (decide_eq_true hc) rfl ?_
    refine eGs.steps 1 (y := (23, [some (.long heap), none, some (.long part), none], [.int (0 : Int32)], H)) rfl ?_
    cases hM
    exact eGs.fin rfl rfl rfl
def H_within (n : Nat) (heap : Int64) (most : Int64) : Option (Int32) :=
  if (lg_cmp (heap &&& (576601524159907840 : Int64)) (0 : Int64)) = 0 then ((H_holds n most heap).bind fun v1 => (if v1 = 0 then (some ((0 : Int32) &&& 1)) else (some ((1 : Int32) &&& 1)))) else (some ((0 : Int32) &&& 1))
theorem T_H_within {X : Nat × (Nat → Int32)} {H : eH} {heap : Int64} {most : Int64} {n : Nat} {res : Int32} (hM : H_within n heap most = some res) : eEv pP X 2 103 [.long heap, .long most] H (.inl (some (.int res)), H) := by
  refine eEv.of (Nat.not_lt.mpr (Nat.le_of_ble_eq_true rfl)) ?_
  refine eGs.steps 0 (y := (0, [some (.long heap), none, some (.long most), none], [], H)) rfl ?_
  unfold H_within at hM
  refine eGs.steps 5 (y := (7, [some (.long heap), none, some (.long most), none], [.int (lg_cmp (heap &&& (576601524159907840 : Int64)) (0 : Int64))], H)) rfl ?_
  by_cases hc : (lg_cmp (heap &&& (576601524159907840 : Int64)) (0 : Int64)) = 0
  · rw [if_pos hc] at hM
    refine g_if (cd := .ne) (t := 22) false rfl (decide_eq_false (fun z => z hc)) rfl ?_
    refine eGs.steps 2 (y := (12, [some (.long heap), none, some (.long most), none], [.long heap, .long most], H)) rfl ?_
    obtain ⟨v1, hv, hM⟩ := dg_bind hM
    have hE := T_H_holds (X := X) (H := H)  hv
    refine g_callS rfl rfl rfl rfl rfl (hE.mono (by first | decide | omega)) ?_
    refine eGs.steps 0 (y := (15, [some (.long heap), none, some (.long most), none], [.int v1], H)) rfl ?_
    by_cases hc : v1 = 0
    · rw [if_pos hc] at hM
      refine g_if (cd := .eq) (t := 22) true rfl (decide_eq_true hc) rfl ?_
      refine eGs.steps 1 (y := (23, [some (.long heap), none, some (.long most), none], [.int (0 : Int32)], H)) rfl ?_
      cases hM
      exact eGs.fin rfl rfl rfl
    · rw [if_neg hc] at hM
      refine g_if (cd := .eq) (t := 22) false rfl (decide_eq_false hc) rfl ?_
      refine eGs.steps 2 (y := (23, [some (.long heap), none, some (.long most), none], [.int (1 : Int32)], H)) rfl ?_
      cases hM
      exact eGs.fin rfl rfl rfl
  · rw [if_neg hc] at hM
    refine g_if (cd := .ne) (t := 22) true rfl (decide_eq_true hc) rfl ?_
    refine eGs.steps 1 (y := (23, [some (.long heap), none, some (.long most), none], [.int (0 : Int32)], H)) rfl ?_
    cases hM
    exact eGs.fin rfl rfl rfl
def H_kindsOf_5 (heap : Int64)  : Nat → (Int64) → (Int32) → Option (Int64)
  | 0, _, _ => none
  | n + 1, L2, L4 =>
    if (5 : Int32) ≤ L4 then (some L2) else ((H_count n heap L4).bind fun v1 => (if v1 ≤ 0 then (H_kindsOf_5 heap n L2 (L4 + (1 : Int32))) else (H_kindsOf_5 heap n (L2 ||| ((4095 : Int64) <<< ((((12 : Int32) * L4)).toInt64 &&& 63))) (L4 + (1 : Int32)))))
def H_kindsOf (n : Nat) (heap : Int64) : Option (Int64) :=
  H_kindsOf_5 heap n (0 : Int64) (0 : Int32)
theorem T_H_kindsOf_5 {X : Nat × (Nat → Int32)} {H : eH} {heap : Int64} : ∀ (n : Nat) (L2 : Int64) (L4 : Int32) (res : Int64), H_kindsOf_5 heap  n L2 L4 = some res → eGs pP X 1 104 (5, [some (.long heap), none, some (.long L2), none, some (.int L4)], [], H) (.inl (some (.long res)), H) := by
  intro n
  induction n with
  | zero =>
    intro L2 L4 res hM
    cases hM
  | succ n ih =>
    intro L2 L4 res hM
    rw [H_kindsOf_5] at hM
    refine eGs.steps 2 (y := (8, [some (.long heap), none, some (.long L2), none, some (.int L4)], [.int (5 : Int32), .int L4], H)) rfl ?_
    by_cases hc : (5 : Int32) ≤ L4
    · rw [if_pos hc] at hM
      refine g_icmp (cd := .ge) (t := 38) true rfl (decide_eq_true hc) rfl ?_
      refine eGs.steps 1 (y := (39, [some (.long heap), none, some (.long L2), none, some (.int L4)], [.long L2], H)) rfl ?_
      cases hM
      exact eGs.fin rfl rfl rfl
    · rw [if_neg hc] at hM
      refine g_icmp (cd := .ge) (t := 38) false rfl (decide_eq_false hc) rfl ?_
      refine eGs.steps 2 (y := (14, [some (.long heap), none, some (.long L2), none, some (.int L4)], [.int L4, .long heap], H)) rfl ?_
      obtain ⟨v1, hv, hM⟩ := dg_bind hM
      have hE := T_H_count (X := X) (H := H)  hv
      refine g_callS rfl rfl rfl rfl rfl (hE.mono (by first | decide | omega)) ?_
      refine eGs.steps 0 (y := (17, [some (.long heap), none, some (.long L2), none, some (.int L4)], [.int v1], H)) rfl ?_
      by_cases hc : v1 ≤ 0
      · rw [if_pos hc] at hM
        refine g_if (cd := .le) (t := 32) true rfl (decide_eq_true hc) rfl ?_
        refine eGs.steps 2 (y := (5, [some (.long heap), none, some (.long L2), none, some (.int (L4 + (1 : Int32)))], [], H)) rfl ?_
        exact ih _ _ _ hM
      · rw [if_neg hc] at hM
        refine g_if (cd := .le) (t := 32) false rfl (decide_eq_false hc) rfl ?_
        refine eGs.steps 10 (y := (5, [some (.long heap), none, some (.long (L2 ||| ((4095 : Int64) <<< ((((12 : Int32) * L4)).toInt64 &&& 63)))), none, some (.int (L4 + (1 : Int32)))], [], H)) rfl ?_
        exact ih _ _ _ hM
theorem T_H_kindsOf {X : Nat × (Nat → Int32)} {H : eH} {heap : Int64} {n : Nat} {res : Int64} (hM : H_kindsOf n heap = some res) : eEv pP X 2 104 [.long heap] H (.inl (some (.long res)), H) := by
  refine eEv.of (Nat.not_lt.mpr (Nat.le_of_ble_eq_true rfl)) ?_
  refine eGs.steps 0 (y := (0, [some (.long heap), none, none, none, none], [], H)) rfl ?_
  unfold H_kindsOf at hM
  refine eGs.steps 4 (y := (5, [some (.long heap), none, some (.long (0 : Int64)), none, some (.int (0 : Int32))], [], H)) rfl ?_
  exact T_H_kindsOf_5 (heap := heap) n _ _ _ hM
def Ch_with (n : Nat) (choice : Int32) (rule : Int32) (uses : Int32) : Option (Int32) :=
  some (choice ||| (uses <<< (((4 : Int32) * rule) &&& 31)))
theorem T_Ch_with {X : Nat × (Nat → Int32)} {H : eH} {choice : Int32} {rule : Int32} {uses : Int32} {n : Nat} {res : Int32} (hM : Ch_with n choice rule uses = some res) : eEv pP X 1 76 [.int choice, .int rule, .int uses] H (.inl (some (.int res)), H) := by
  refine eEv.of (Nat.not_lt.mpr (Nat.le_of_ble_eq_true rfl)) ?_
  refine eGs.steps 0 (y := (0, [some (.int choice), some (.int rule), some (.int uses)], [], H)) rfl ?_
  unfold Ch_with at hM
  refine eGs.steps 7 (y := (7, [some (.int choice), some (.int rule), some (.int uses)], [.int (choice ||| (uses <<< (((4 : Int32) * rule) &&& 31)))], H)) rfl ?_
  cases hM
  exact eGs.fin rfl rfl rfl
def Ch_usesOf (n : Nat) (choice : Int32) (rule : Int32) : Option (Int32) :=
  some ((choice >>> (((4 : Int32) * rule) &&& 31)) &&& (15 : Int32))
theorem T_Ch_usesOf {X : Nat × (Nat → Int32)} {H : eH} {choice : Int32} {rule : Int32} {n : Nat} {res : Int32} (hM : Ch_usesOf n choice rule = some res) : eEv pP X 1 77 [.int choice, .int rule] H (.inl (some (.int res)), H) := by
  refine eEv.of (Nat.not_lt.mpr (Nat.le_of_ble_eq_true rfl)) ?_
  refine eGs.steps 0 (y := (0, [some (.int choice), some (.int rule)], [], H)) rfl ?_
  unfold Ch_usesOf at hM
  refine eGs.steps 7 (y := (8, [some (.int choice), some (.int rule)], [.int ((choice >>> (((4 : Int32) * rule) &&& 31)) &&& (15 : Int32))], H)) rfl ?_
  cases hM
  exact eGs.fin rfl rfl rfl
def Ch_usesTogether_4 (choice : Int32)  : Nat → (Int32) → (Int32) → Option (Int32)
  | 0, _, _ => none
  | n + 1, L1, L2 =>
    if (6 : Int32) ≤ L2 then (some L1) else ((Ch_usesOf n choice L2).bind fun v1 => (Ch_usesTogether_4 choice n (L1 + v1) (L2 + (1 : Int32))))
def Ch_usesTogether (n : Nat) (choice : Int32) : Option (Int32) :=
  Ch_usesTogether_4 choice n (0 : Int32) (0 : Int32)
theorem T_Ch_usesTogether_4 {X : Nat × (Nat → Int32)} {H : eH} {choice : Int32} : ∀ (n : Nat) (L1 : Int32) (L2 : Int32) (res : Int32), Ch_usesTogether_4 choice  n L1 L2 = some res → eGs pP X 1 78 (4, [some (.int choice), some (.int L1), some (.int L2)], [], H) (.inl (some (.int res)), H) := by
  intro n
  induction n with
  | zero =>
    intro L1 L2 res hM
    cases hM
  | succ n ih =>
    intro L1 L2 res hM
    rw [Ch_usesTogether_4] at hM
    refine eGs.steps 2 (y := (7, [some (.int choice), some (.int L1), some (.int L2)], [.int (6 : Int32), .int L2], H)) rfl ?_
    by_cases hc : (6 : Int32) ≤ L2
    · rw [if_pos hc] at hM
      refine g_icmp (cd := .ge) (t := 24) true rfl (decide_eq_true hc) rfl ?_
      refine eGs.steps 1 (y := (25, [some (.int choice), some (.int L1), some (.int L2)], [.int L1], H)) rfl ?_
      cases hM
      exact eGs.fin rfl rfl rfl
    · rw [if_neg hc] at hM
      refine g_icmp (cd := .ge) (t := 24) false rfl (decide_eq_false hc) rfl ?_
      refine eGs.steps 3 (y := (13, [some (.int choice), some (.int L1), some (.int L2)], [.int L2, .int choice, .int L1], H)) rfl ?_
      obtain ⟨v1, hv, hM⟩ := dg_bind hM
      have hE := T_Ch_usesOf (X := X) (H := H)  hv
      refine g_callS rfl rfl rfl rfl rfl (hE.mono (by first | decide | omega)) ?_
      refine eGs.steps 0 (y := (16, [some (.int choice), some (.int L1), some (.int L2)], [.int v1, .int L1], H)) rfl ?_
      refine eGs.steps 4 (y := (4, [some (.int choice), some (.int (L1 + v1)), some (.int (L2 + (1 : Int32)))], [], H)) rfl ?_
      exact ih _ _ _ hM
theorem T_Ch_usesTogether {X : Nat × (Nat → Int32)} {H : eH} {choice : Int32} {n : Nat} {res : Int32} (hM : Ch_usesTogether n choice = some res) : eEv pP X 2 78 [.int choice] H (.inl (some (.int res)), H) := by
  refine eEv.of (Nat.not_lt.mpr (Nat.le_of_ble_eq_true rfl)) ?_
  refine eGs.steps 0 (y := (0, [some (.int choice), none, none], [], H)) rfl ?_
  unfold Ch_usesTogether at hM
  refine eGs.steps 4 (y := (4, [some (.int choice), some (.int (0 : Int32)), some (.int (0 : Int32))], [], H)) rfl ?_
  exact T_Ch_usesTogether_4 (choice := choice) n _ _ _ hM
def R_isOnce (n : Nat) (r_dissolves : Int32) (r_divides : Int32) : Option (Int32) :=
  if r_dissolves = 0 then (if r_divides = 0 then (some ((0 : Int32) &&& 1)) else (some ((1 : Int32) &&& 1))) else (some ((1 : Int32) &&& 1))
theorem T_R_isOnce {X : Nat × (Nat → Int32)} {H : eH} {r : Nat} {r_number : Int32} {r_label : Int32} {r_left : Int64} {r_leftKinds : Int64} {r_here : Int64} {r_out : Int64} {r_into : Int64} {r_intoLabel : Int32} {r_dissolves : Int32} {r_divides : Int32} {r_other : Int64} {n : Nat} {res : Int32} (hc_r : H.1 r = some (.inr (5, [.int r_number, .int r_label, .long r_left, .long r_leftKinds, .long r_here, .long r_out, .long r_into, .int r_intoLabel, .int r_dissolves, .int r_divides, .long r_other]))) (hz_r : ¬ r = 0) (hM : R_isOnce n r_dissolves r_divides = some res) : eEv pP X 1 110 [.ref r] H (.inl (some (.int res)), H) := by
  refine eEv.of (Nat.not_lt.mpr (Nat.le_of_ble_eq_true rfl)) ?_
  refine eGs.steps 0 (y := (0, [some (.ref r)], [], H)) rfl ?_
  unfold R_isOnce at hM
  refine eGs.steps 1 (y := (1, [some (.ref r)], [.ref r], H)) rfl ?_
  refine g_getf rfl rfl (by omega) hc_r rfl ?_
  refine eGs.steps 0 (y := (4, [some (.ref r)], [.int r_dissolves], H)) rfl ?_
  by_cases hc : r_dissolves = 0
  · rw [if_pos hc] at hM
    refine g_if (cd := .ne) (t := 14) false rfl (decide_eq_false (fun z => z hc)) rfl ?_
    refine eGs.steps 1 (y := (8, [some (.ref r)], [.ref r], H)) rfl ?_
    refine g_getf rfl rfl (by omega) hc_r rfl ?_
    refine eGs.steps 0 (y := (11, [some (.ref r)], [.int r_divides], H)) rfl ?_
    by_cases hc : r_divides = 0
    · rw [if_pos hc] at hM
      refine g_if (cd := .eq) (t := 18) true rfl (decide_eq_true hc) rfl ?_
      refine eGs.steps 1 (y := (19, [some (.ref r)], [.int (0 : Int32)], H)) rfl ?_
      cases hM
      exact eGs.fin rfl rfl rfl
    · rw [if_neg hc] at hM
      refine g_if (cd := .eq) (t := 18) false rfl (decide_eq_false hc) rfl ?_
      refine eGs.steps 2 (y := (19, [some (.ref r)], [.int (1 : Int32)], H)) rfl ?_
      cases hM
      exact eGs.fin rfl rfl rfl
  · rw [if_neg hc] at hM
    refine g_if (cd := .ne) (t := 14) true rfl (decide_eq_true hc) rfl ?_
    refine eGs.steps 2 (y := (19, [some (.ref r)], [.int (1 : Int32)], H)) rfl ?_
    cases hM
    exact eGs.fin rfl rfl rfl
def R_mostUses_38 (rest : Int64) (r_left : Int64)  : Nat → (Int32) → (Int64) → (Int32) → Option (Int32)
  | 0, _, _, _ => none
  | n + 1, L4, L5, L7 =>
    if L4 ≤ L7 then (some L7) else ((H_holds n rest L5).bind fun v3 => (if v3 = 0 then (some L7) else (R_mostUses_38 rest r_left n L4 (L5 + r_left) (L7 + (1 : Int32)))))
def R_mostUses_13 (rest : Int64) (once : Int32) (r_left : Int64) (r_dissolves : Int32) (r_divides : Int32)  (n : Nat) (S0 : Int32) : Option (Int32) :=
  if once = 0 then (R_mostUses_38 rest r_left n S0 r_left (0 : Int32)) else ((R_isOnce n r_dissolves r_divides).bind fun v2 => (if v2 = 0 then (R_mostUses_38 rest r_left n S0 r_left (0 : Int32)) else (R_mostUses_38 rest r_left n (0 : Int32) r_left (0 : Int32))))
def R_mostUses (n : Nat) (rest : Int64) (once : Int32) (r_left : Int64) (r_dissolves : Int32) (r_divides : Int32) : Option (Int32) :=
  (R_isOnce n r_dissolves r_divides).bind fun v1 => (if v1 = 0 then (R_mostUses_13 rest once r_left r_dissolves r_divides n (12 : Int32)) else (R_mostUses_13 rest once r_left r_dissolves r_divides n (1 : Int32)))
theorem T_R_mostUses_38 {X : Nat × (Nat → Int32)} {H : eH} {r : Nat} {rest : Int64} {once : Int32} {r_number : Int32} {r_label : Int32} {r_left : Int64} {r_leftKinds : Int64} {r_here : Int64} {r_out : Int64} {r_into : Int64} {r_intoLabel : Int32} {r_dissolves : Int32} {r_divides : Int32} {r_other : Int64} (hc_r : H.1 r = some (.inr (5, [.int r_number, .int r_label, .long r_left, .long r_leftKinds, .long r_here, .long r_out, .long r_into, .int r_intoLabel, .int r_dissolves, .int r_divides, .long r_other]))) (hz_r : ¬ r = 0) : ∀ (n : Nat) (L4 : Int32) (L5 : Int64) (L7 : Int32) (res : Int32), R_mostUses_38 rest r_left  n L4 L5 L7 = some res → eGs pP X 1 111 (38, [some (.ref r), some (.long rest), none, none, some (.int L4), some (.long L5), none, some (.int L7)], [], H) (.inl (some (.int res)), H) := by
  intro n
  induction n with
  | zero =>
    intro L4 L5 L7 res hM
    cases hM
  | succ n ih =>
    intro L4 L5 L7 res hM
    rw [R_mostUses_38] at hM
    refine eGs.steps 2 (y := (42, [some (.ref r), some (.long rest), none, none, some (.int L4), some (.long L5), none, some (.int L7)], [.int L4, .int L7], H)) rfl ?_
    by_cases hc : L4 ≤ L7
    · rw [if_pos hc] at hM
      refine g_icmp (cd := .ge) (t := 69) true rfl (decide_eq_true hc) rfl ?_
      refine eGs.steps 1 (y := (71, [some (.ref r), some (.long rest), none, none, some (.int L4), some (.long L5), none, some (.int L7)], [.int L7], H)) rfl ?_
      cases hM
      exact eGs.fin rfl rfl rfl
    · rw [if_neg hc] at hM
      refine g_icmp (cd := .ge) (t := 69) false rfl (decide_eq_false hc) rfl ?_
      refine eGs.steps 2 (y := (48, [some (.ref r), some (.long rest), none, none, some (.int L4), some (.long L5), none, some (.int L7)], [.long L5, .long rest], H)) rfl ?_
      obtain ⟨v3, hv, hM⟩ := dg_bind hM
      have hE := T_H_holds (X := X) (H := H)  hv
      refine g_callS rfl rfl rfl rfl rfl (hE.mono (by first | decide | omega)) ?_
      refine eGs.steps 0 (y := (51, [some (.ref r), some (.long rest), none, none, some (.int L4), some (.long L5), none, some (.int L7)], [.int v3], H)) rfl ?_
      by_cases hc : v3 = 0
      · rw [if_pos hc] at hM
        refine g_if (cd := .eq) (t := 69) true rfl (decide_eq_true hc) rfl ?_
        refine eGs.steps 1 (y := (71, [some (.ref r), some (.long rest), none, none, some (.int L4), some (.long L5), none, some (.int L7)], [.int L7], H)) rfl ?_
        cases hM
        exact eGs.fin rfl rfl rfl
      · rw [if_neg hc] at hM
        refine g_if (cd := .eq) (t := 69) false rfl (decide_eq_false hc) rfl ?_
        refine eGs.steps 3 (y := (60, [some (.ref r), some (.long rest), none, none, some (.int L4), some (.long L5), none, some (.int (L7 + (1 : Int32)))], [.ref r, .long L5], H)) rfl ?_
        refine g_getf rfl rfl (by omega) hc_r rfl ?_
        refine eGs.steps 0 (y := (63, [some (.ref r), some (.long rest), none, none, some (.int L4), some (.long L5), none, some (.int (L7 + (1 : Int32)))], [.long r_left, .long L5], H)) rfl ?_
        refine eGs.steps 3 (y := (38, [some (.ref r), some (.long rest), none, none, some (.int L4), some (.long (L5 + r_left)), none, some (.int (L7 + (1 : Int32)))], [], H)) rfl ?_
        exact ih _ _ _ _ hM
theorem T_R_mostUses_13 {X : Nat × (Nat → Int32)} {H : eH} {r : Nat} {rest : Int64} {once : Int32} {r_number : Int32} {r_label : Int32} {r_left : Int64} {r_leftKinds : Int64} {r_here : Int64} {r_out : Int64} {r_into : Int64} {r_intoLabel : Int32} {r_dissolves : Int32} {r_divides : Int32} {r_other : Int64} (hc_r : H.1 r = some (.inr (5, [.int r_number, .int r_label, .long r_left, .long r_leftKinds, .long r_here, .long r_out, .long r_into, .int r_intoLabel, .int r_dissolves, .int r_divides, .long r_other]))) (hz_r : ¬ r = 0) : ∀ (n : Nat) (S0 : Int32) (res : Int32), R_mostUses_13 rest once r_left r_dissolves r_divides  n S0 = some res → eGs pP X 1 111 (13, [some (.ref r), some (.long rest), none, some (.int once), none, none, none, none], [.int S0], H) (.inl (some (.int res)), H) := by
  intro n S0 res hM
  unfold R_mostUses_13 at hM
  refine eGs.steps 2 (y := (16, [some (.ref r), some (.long rest), none, some (.int once), some (.int S0), none, none, none], [.int once], H)) rfl ?_
  by_cases hc : once = 0
  · rw [if_pos hc] at hM
    refine g_if (cd := .eq) (t := 29) true rfl (decide_eq_true hc) rfl ?_
    refine eGs.steps 1 (y := (30, [some (.ref r), some (.long rest), none, some (.int once), some (.int S0), none, none, none], [.ref r], H)) rfl ?_
    refine g_getf rfl rfl (by omega) hc_r rfl ?_
    refine eGs.steps 0 (y := (33, [some (.ref r), some (.long rest), none, some (.int once), some (.int S0), none, none, none], [.long r_left], H)) rfl ?_
    refine eGs.steps 3 (y := (38, [some (.ref r), some (.long rest), none, some (.int once), some (.int S0), some (.long r_left), none, some (.int (0 : Int32))], [], H)) rfl ?_
    refine eGs.weak (lo' := [some (.ref r), some (.long rest), none, none, some (.int S0), some (.long r_left), none, some (.int (0 : Int32))]) (by repeat' first | exact trivial | exact rfl | constructor) ?_
    exact T_R_mostUses_38 (r := r) (rest := rest) (once := once) (r_number := r_number) (r_label := r_label) (r_left := r_left) (r_leftKinds := r_leftKinds) (r_here := r_here) (r_out := r_out) (r_into := r_into) (r_intoLabel := r_intoLabel) (r_dissolves := r_dissolves) (r_divides := r_divides) (r_other := r_other) (hc_r := hc_r) (hz_r := hz_r) n _ _ _ _ hM
  · rw [if_neg hc] at hM
    refine g_if (cd := .eq) (t := 29) false rfl (decide_eq_false hc) rfl ?_
    refine eGs.steps 1 (y := (20, [some (.ref r), some (.long rest), none, some (.int once), some (.int S0), none, none, none], [.ref r], H)) rfl ?_
    obtain ⟨v2, hv, hM⟩ := dg_bind hM
    have hE := T_R_isOnce (X := X) (H := H) (hc_r := hc_r) (hz_r := by first | assumption | omega) hv
    refine g_callV rfl rfl rfl rfl rfl (by omega) hc_r rfl (hE.mono (by first | decide | omega)) ?_
    refine eGs.steps 0 (y := (23, [some (.ref r), some (.long rest), none, some (.int once), some (.int S0), none, none, none], [.int v2], H)) rfl ?_
    by_cases hc : v2 = 0
    · rw [if_pos hc] at hM
      refine g_if (cd := .eq) (t := 29) true rfl (decide_eq_true hc) rfl ?_
      refine eGs.steps 1 (y := (30, [some (.ref r), some (.long rest), none, some (.int once), some (.int S0), none, none, none], [.ref r], H)) rfl ?_
      refine g_getf rfl rfl (by omega) hc_r rfl ?_
      refine eGs.steps 0 (y := (33, [some (.ref r), some (.long rest), none, some (.int once), some (.int S0), none, none, none], [.long r_left], H)) rfl ?_
      refine eGs.steps 3 (y := (38, [some (.ref r), some (.long rest), none, some (.int once), some (.int S0), some (.long r_left), none, some (.int (0 : Int32))], [], H)) rfl ?_
      refine eGs.weak (lo' := [some (.ref r), some (.long rest), none, none, some (.int S0), some (.long r_left), none, some (.int (0 : Int32))]) (by repeat' first | exact trivial | exact rfl | constructor) ?_
      exact T_R_mostUses_38 (r := r) (rest := rest) (once := once) (r_number := r_number) (r_label := r_label) (r_left := r_left) (r_leftKinds := r_leftKinds) (r_here := r_here) (r_out := r_out) (r_into := r_into) (r_intoLabel := r_intoLabel) (r_dissolves := r_dissolves) (r_divides := r_divides) (r_other := r_other) (hc_r := hc_r) (hz_r := hz_r) n _ _ _ _ hM
    · rw [if_neg hc] at hM
      refine g_if (cd := .eq) (t := 29) false rfl (decide_eq_false hc) rfl ?_
      refine eGs.steps 3 (y := (30, [some (.ref r), some (.long rest), none, some (.int once), some (.int (0 : Int32)), none, none, none], [.ref r], H)) rfl ?_
      refine g_getf rfl rfl (by omega) hc_r rfl ?_
      refine eGs.steps 0 (y := (33, [some (.ref r), some (.long rest), none, some (.int once), some (.int (0 : Int32)), none, none, none], [.long r_left], H)) rfl ?_
      refine eGs.steps 3 (y := (38, [some (.ref r), some (.long rest), none, some (.int once), some (.int (0 : Int32)), some (.long r_left), none, some (.int (0 : Int32))], [], H)) rfl ?_
      refine eGs.weak (lo' := [some (.ref r), some (.long rest), none, none, some (.int (0 : Int32)), some (.long r_left), none, some (.int (0 : Int32))]) (by repeat' first | exact trivial | exact rfl | constructor) ?_
      exact T_R_mostUses_38 (r := r) (rest := rest) (once := once) (r_number := r_number) (r_label := r_label) (r_left := r_left) (r_leftKinds := r_leftKinds) (r_here := r_here) (r_out := r_out) (r_into := r_into) (r_intoLabel := r_intoLabel) (r_dissolves := r_dissolves) (r_divides := r_divides) (r_other := r_other) (hc_r := hc_r) (hz_r := hz_r) n _ _ _ _ hM
theorem T_R_mostUses {X : Nat × (Nat → Int32)} {H : eH} {r : Nat} {rest : Int64} {once : Int32} {r_number : Int32} {r_label : Int32} {r_left : Int64} {r_leftKinds : Int64} {r_here : Int64} {r_out : Int64} {r_into : Int64} {r_intoLabel : Int32} {r_dissolves : Int32} {r_divides : Int32} {r_other : Int64} {n : Nat} {res : Int32} (hc_r : H.1 r = some (.inr (5, [.int r_number, .int r_label, .long r_left, .long r_leftKinds, .long r_here, .long r_out, .long r_into, .int r_intoLabel, .int r_dissolves, .int r_divides, .long r_other]))) (hz_r : ¬ r = 0) (hM : R_mostUses n rest once r_left r_dissolves r_divides = some res) : eEv pP X 2 111 [.ref r, .long rest, .int once] H (.inl (some (.int res)), H) := by
  refine eEv.of (Nat.not_lt.mpr (Nat.le_of_ble_eq_true rfl)) ?_
  refine eGs.steps 0 (y := (0, [some (.ref r), some (.long rest), none, some (.int once), none, none, none, none], [], H)) rfl ?_
  unfold R_mostUses at hM
  refine eGs.steps 1 (y := (1, [some (.ref r), some (.long rest), none, some (.int once), none, none, none, none], [.ref r], H)) rfl ?_
  obtain ⟨v1, hv, hM⟩ := dg_bind hM
  have hE := T_R_isOnce (X := X) (H := H) (hc_r := hc_r) (hz_r := by first | assumption | omega) hv
  refine g_callV rfl rfl rfl rfl rfl (by omega) hc_r rfl (hE.mono (by first | decide | omega)) ?_
  refine eGs.steps 0 (y := (4, [some (.ref r), some (.long rest), none, some (.int once), none, none, none, none], [.int v1], H)) rfl ?_
  by_cases hc : v1 = 0
  · rw [if_pos hc] at hM
    refine g_if (cd := .eq) (t := 11) true rfl (decide_eq_true hc) rfl ?_
    refine eGs.steps 1 (y := (13, [some (.ref r), some (.long rest), none, some (.int once), none, none, none, none], [.int (12 : Int32)], H)) rfl ?_
    exact T_R_mostUses_13 (r := r) (rest := rest) (once := once) (r_number := r_number) (r_label := r_label) (r_left := r_left) (r_leftKinds := r_leftKinds) (r_here := r_here) (r_out := r_out) (r_into := r_into) (r_intoLabel := r_intoLabel) (r_dissolves := r_dissolves) (r_divides := r_divides) (r_other := r_other) (hc_r := hc_r) (hz_r := hz_r) n _ _ hM
  · rw [if_neg hc] at hM
    refine g_if (cd := .eq) (t := 11) false rfl (decide_eq_false hc) rfl ?_
    refine eGs.steps 2 (y := (13, [some (.ref r), some (.long rest), none, some (.int once), none, none, none, none], [.int (1 : Int32)], H)) rfl ?_
    exact T_R_mostUses_13 (r := r) (rest := rest) (once := once) (r_number := r_number) (r_label := r_label) (r_left := r_left) (r_leftKinds := r_leftKinds) (r_here := r_here) (r_out := r_out) (r_into := r_into) (r_intoLabel := r_intoLabel) (r_dissolves := r_dissolves) (r_divides := r_divides) (r_other := r_other) (hc_r := hc_r) (hz_r := hz_r) n _ _ hM

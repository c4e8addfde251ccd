def s_uses (A : qA) (p r : Int32) : Nat × Int32 × qA := if qpb A.1 p = true ∧ qrb A r = true then (0, nI (qgm A p.toNatClampNeg r.toNatClampNeg), A) else (1, 0, A)
theorem r_uses {A : qA} (hA : AI A) {rules : Int32} {ml me mh mo mi mt ma mx cells : Nat → Int32} {found : Int32} (h : RM A rules ml me mh mo mi mt ma mx cells found) (p r code : Int32) (R U : Nat → Int32) (a : Int32) {n : Nat} (hn : 60 ≤ n) : ∃ R' U' a', M_uses n p r code rules ml me mi mt ma cells R U a = some ((s_uses A p r).2.1, nI (s_uses A p r).1, R', U', a') := by
  obtain ⟨h1, h2, h3, h4, h5⟩ := h
  obtain ⟨⟨hl, ht, hk, ha⟩, hu, _⟩ := hA
  have c6 := hu.1
  have hs : M_has n 0 p cells = some (qb (qpb A.1 p)) := q_MhasI (row := 0) hl h3 (by omega) p n
  have bad : M_uses_18 p r (nI A.2.1) ml me mi mt ma cells n code R U a = some (0, 1, R, U, a) := by
    unfold M_uses_18 M_uses_23
    rw [if_neg (by decide)]
  unfold M_uses s_uses
  rw [h1, hs, Option.bind_some]
  by_cases pr : qpb A.1 p = true
  · rw [pr, if_neg qb_t, q_noRule A r n, Option.bind_some]
    by_cases rr : qrb A r = true
    · rw [rr, if_pos (show qb (!true) = 0 by decide), if_pos ⟨rfl, rfl⟩]
      obtain ⟨m, hm, rfl, hp⟩ := qpb_t pr
      obtain ⟨i, hi, rfl⟩ := qrb_t hu rr
      have u12 : ∀ i, i < 6 → qgm A m i ≤ 12 := (qchosen_good hu (qgm_chosen (A := A) m hm)).1.2
      obtain ⟨R', U', a', f⟩ := q_greedyM (row := 0) hl h3 (by omega) hu h2 hm (hk.1 m hm) R U a (n := n) (by omega)
      have f' : M_greedy n 0 (nI m) (nI A.2.1) ml me mi mt ma cells R U a = some (nI (c5p (qgm A m)), R', U', qb a') := f
      unfold M_uses_23
      rw [if_pos (by decide), f', Option.bind_some, q_used (fun k hk => by have := u12 k hk; omega) (by omega), Option.bind_some, nI_clamp (by omega), nI_clamp (by omega)]
      exact ⟨_, _, _, rfl⟩
    · rw [Bool.eq_false_iff.mpr rr, if_neg (show ¬ qb (!false) = 0 by decide), bad, if_neg (fun w => by cases w.2)]
      exact ⟨_, _, _, rfl⟩
  · rw [Bool.eq_false_iff.mpr pr, if_pos qb_f, bad, if_neg (fun w => by cases w.1)]
    exact ⟨_, _, _, rfl⟩
def s_choices (A : qA) (p : Int32) : Nat × Int32 × qA := if qpb A.1 p = true then (0, nI ((qL A.1 A.2.1 A.2.2.1 p.toNatClampNeg).take 1000).length, A) else (1, 0, A)
theorem r_choices {A : qA} (hA : AI A) (p : Int32) : ∃ K, ∀ (rules : Int32) (ml me mh mo mi mt ma mx cells : Nat → Int32) (found : Int32), RM A rules ml me mh mo mi mt ma mx cells found → ∀ n, K ≤ n → ∀ (code : Int32) (R U : Nat → Int32) (a : Int32) (li : Nat → Int32) (ld : Int32), ∃ R' U' a' li' ld', M_choices n p code rules ml me mi mt ma cells R U a li ld = some ((s_choices A p).2.1, nI (s_choices A p).1, R', U', a', li', ld') := by
  obtain ⟨⟨hl, ht, hk, ha⟩, hu, _⟩ := hA
  unfold s_choices
  by_cases pr : qpb A.1 p = true
  · obtain ⟨m, hm, rfl, hp⟩ := qpb_t pr
    obtain ⟨K, hK⟩ := q_write (m := m) (most := 1000) hl hu hm (by omega) (by omega) (hk.1 m hm)
    refine ⟨K, fun rules ml me mh mo mi mt ma mx cells found h n hn code R U a li ld => ?_⟩
    obtain ⟨h1, h2, h3, h4, h5⟩ := h
    obtain ⟨R', U', a', f⟩ := hK 0 ml me mh mo mi mt ma mx cells h3 (by omega) h2 n hn R U a li 0 (by omega)
    have f' : M_write n 0 (nI m) 1000 (nI A.2.1) ml me mi mt ma cells R U a li 0 = some (nI ((qL A.1 A.2.1 A.2.2.1 m).take 1000).length, R', U', a', qput c5p li 0 ((qL A.1 A.2.1 A.2.2.1 m).take 1000), nI (0 + ((qL A.1 A.2.1 A.2.2.1 m).take 1000).length)) := f
    have hs : M_has n 0 (nI m) cells = some (qb (qpb A.1 (nI m))) := q_MhasI (row := 0) hl h3 (by omega) (nI m) n
    unfold M_choices
    rw [hs, Option.bind_some, pr, if_neg qb_t, if_pos rfl]
    unfold M_choices_15
    rw [if_pos (by decide), h1, f', Option.bind_some, nI_clamp (by omega)]
    exact ⟨_, _, _, _, _, rfl⟩
  · refine ⟨0, fun rules ml me mh mo mi mt ma mx cells found h n hn code R U a li ld => ?_⟩
    obtain ⟨h1, h2, h3, h4, h5⟩ := h
    have hs : M_has n 0 p cells = some (qb (qpb A.1 p)) := q_MhasI (row := 0) hl h3 (by omega) p n
    unfold M_choices
    rw [hs, Option.bind_some, Bool.eq_false_iff.mpr pr, if_pos qb_f, if_neg (by decide)]
    unfold M_choices_15
    rw [if_neg (by decide)]
    exact ⟨_, _, _, _, _, rfl⟩
def qaw (s : qC) (m : Nat) (w : Int32) : Int32 := if w = 5 then s.1 m else if w = 6 then (if m = 0 then -1 else nI (s.2.1 m)) else if w = 7 then nI (qcnt (qkid s.1 s.2.1 m) 1 5) else nI (s.2.2 m w.toNatClampNeg)
def s_at (A : qA) (p w : Int32) : Nat × Int32 × qA := if qpb A.1 p = true then (if 0 ≤ w ∧ w < 8 then (0, qaw A.1 p.toNatClampNeg w, A) else (2, 0, A)) else (1, 0, A)
theorem q_lt_le {w : Int32} {a b : Int32} (h : b.toInt = a.toInt + 1) : w ≤ a ↔ w < b := by
  rw [Int32.le_iff_toInt_le, Int32.lt_iff_toInt_lt]
  omega
theorem r_at {A : qA} (hA : AI A) {rules : Int32} {ml me mh mo mi mt ma mx cells : Nat → Int32} {found : Int32} (h : RM A rules ml me mh mo mi mt ma mx cells found) (p w code : Int32) {n : Nat} (hn : 10 ≤ n) : M_at n p w code cells = some ((s_at A p w).2.1, nI (s_at A p w).1) := by
  obtain ⟨h1, h2, h3, h4, h5⟩ := h
  obtain ⟨⟨hl, ht, hk, ha⟩, hu, _⟩ := hA
  have hs : M_has n 0 p cells = some (qb (qpb A.1 p)) := q_MhasI (row := 0) hl h3 (by omega) p n
  have bad : ∀ c : Int32, ¬ c ≤ 0 → M_at_29 p w cells n c code = some (0, c) := fun c hc => by
    unfold M_at_29
    rw [if_neg hc]
  have e8 : w ≤ (7 : Int32) ↔ w < (8 : Int32) := q_lt_le rfl
  unfold M_at s_at
  rw [hs, Option.bind_some]
  by_cases pr : qpb A.1 p = true
  · rw [if_pos pr, pr, if_neg qb_t]
    by_cases z : w < 0
    · rw [if_pos z, if_neg (show ¬ (0 ≤ w ∧ w < 8) from fun v => q_nn v.1 z)]
      unfold M_at_24
      exact bad 2 (by decide)
    · rw [if_neg z]
      by_cases y : w ≤ (7 : Int32)
      · obtain ⟨m, hm, rfl, hp⟩ := qpb_t pr
        obtain ⟨x, hx, rfl⟩ := q_inN (N := 8) (by decide) (q_neg z) (e8.mp y)
        rw [if_pos y, if_pos (show 0 ≤ nI x ∧ nI x < 8 from ⟨q_neg z, e8.mp y⟩)]
        unfold M_at_29
        rw [if_pos (by decide), nI_clamp (by omega)]
        have kd : M_children n 0 (nI m) cells = some (nI (qcnt (qkid A.1.1 A.1.2.1 m) 1 5)) := q_kids (row := 0) hl h3 (by omega) hm (by omega)
        have cl := q_cell (row := 0) (m := m) (w := x) (cells := cells) (n := n) (by omega)
        have cl' : M_cell n 0 (nI m) (nI x) cells = some (cells (47 * 0 + 7 * m + x)) := cl
        unfold qaw
        by_cases x7 : x = 7
        · subst x7
          have y7 : nI 7 = (7 : Int32) := rfl
          rw [if_pos y7, kd, Option.bind_some, if_neg (show ¬ nI 7 = (5 : Int32) by decide), if_neg (show ¬ nI 7 = (6 : Int32) by decide), if_pos y7]
          rfl
        · have n7 : ¬ nI x = (7 : Int32) := fun v => x7 ((nI_eq (b := 7) (by omega) (by decide)).mp v)
          rw [if_neg n7, cl', Option.bind_some]
          by_cases x5 : x = 5
          · subst x5
            have y5 : nI 5 = (5 : Int32) := rfl
            rw [if_pos y5, h3.1 m hm]
            rfl
          · have n5 : ¬ nI x = (5 : Int32) := fun v => x5 ((nI_eq (b := 5) (by omega) (by decide)).mp v)
            rw [if_neg n5]
            by_cases x6 : x = 6
            · subst x6
              have y6 : nI 6 = (6 : Int32) := rfl
              rw [if_pos y6, h3.2.1 m hm]
              unfold qpM
              rw [if_neg hp]
              rfl
            · have n6 : ¬ nI x = (6 : Int32) := fun v => x6 ((nI_eq (b := 6) (by omega) (by decide)).mp v)
              rw [if_neg n6, if_neg n7, h3.2.2 m (by omega) x (by omega), nI_clamp (by omega)]
              rfl
      · rw [if_neg y, if_neg (show ¬ (0 ≤ w ∧ w < 8) from fun v => y (e8.mpr v.2))]
        unfold M_at_24
        exact bad 2 (by decide)
  · rw [if_neg pr, Bool.eq_false_iff.mpr pr, if_pos qb_f]
    exact bad 1 (by decide)
theorem r_there {A : qA} (hA : AI A) {rules : Int32} {ml me mh mo mi mt ma mx cells : Nat → Int32} {found : Int32} (h : RM A rules ml me mh mo mi mt ma mx cells found) (p : Int32) (n : Nat) : M_there n p cells = some (qb (qpb A.1 p), 0) := by
  obtain ⟨h1, h2, h3, h4, h5⟩ := h
  obtain ⟨⟨hl, ht, hk, ha⟩, hu, _⟩ := hA
  have hs : M_has n 0 p cells = some (qb (qpb A.1 p)) := q_MhasI (row := 0) hl h3 (by omega) p n
  unfold M_there
  rw [hs, Option.bind_some]
  cases qpb A.1 p <;> rfl
def s_outside (A : qA) (k : Int32) : Nat × Int32 × qA := if 0 ≤ k ∧ k < 5 then (0, nI (A.1.2.2 6 k.toNatClampNeg), A) else (1, 0, A)
theorem r_outside {A : qA} {rules : Int32} {ml me mh mo mi mt ma mx cells : Nat → Int32} {found : Int32} (h : RM A rules ml me mh mo mi mt ma mx cells found) (k code : Int32) (n : Nat) : M_outside n k code cells = some ((s_outside A k).2.1, nI (s_outside A k).1) := by
  obtain ⟨h1, h2, h3, h4, h5⟩ := h
  have bad : M_outside_10 k cells n code = some (0, 1) := by
    unfold M_outside_10 M_outside_15
    rw [if_neg (by decide)]
  have e5 : k ≤ (4 : Int32) ↔ k < (5 : Int32) := q_lt_le rfl
  unfold M_outside s_outside
  by_cases z : k < 0
  · rw [if_pos z, if_neg (show ¬ (0 ≤ k ∧ k < 5) from fun v => q_nn v.1 z), bad]
    rfl
  · rw [if_neg z]
    by_cases y : k ≤ (4 : Int32)
    · obtain ⟨x, hx, rfl⟩ := q_inN (N := 5) (by decide) (q_neg z) (e5.mp y)
      have e1 : (42 : Int32) + nI x = nI (42 + x) := nI_add 42 x
      have c := h3.2.2 6 (by omega) x hx
      rw [if_pos y, if_pos (show 0 ≤ nI x ∧ nI x < 5 from ⟨q_neg z, e5.mp y⟩)]
      unfold M_outside_15
      rw [if_pos (by decide), e1, nI_clamp (by omega), if_neg (q_in (by omega) (by omega)), nI_clamp (by omega), ← c]
      rfl
    · rw [if_neg y, if_neg (show ¬ (0 ≤ k ∧ k < 5) from fun v => y (e5.mpr v.2)), bad]
      rfl
def qob (A : qA) (i : Int32) : Bool := decide (0 ≤ i ∧ i < nI A.2.2.2.length)
theorem qob_t {A : qA} (h40 : A.2.2.2.length ≤ 40) {i : Int32} (w : qob A i = true) : ∃ j s, j < A.2.2.2.length ∧ i = nI j ∧ A.2.2.2[j]? = some s := by
  have v := decide_eq_true_iff.mp w
  obtain ⟨j, hj, e⟩ := q_inN (N := A.2.2.2.length) (by omega) v.1 v.2
  exact ⟨j, _, hj, e, List.getElem?_eq_getElem hj⟩
def s_adopt (A : qA) (i : Int32) : Nat × Int32 × qA := if qob A i = true then (match A.2.2.2[i.toNatClampNeg]? with
  | none => (1, 0, A)
  | some s => (0, 0, (s, A.2))) else (1, 0, A)
theorem r_adopt {A : qA} (hA : AI A) {rules : Int32} {ml me mh mo mi mt ma mx cells : Nat → Int32} {found : Int32} (h : RM A rules ml me mh mo mi mt ma mx cells found) (i code : Int32) {n : Nat} (hn : 60 ≤ n) : ∃ cells', M_adopt n i code cells found = some (nI (s_adopt A i).1, cells') ∧ RM (s_adopt A i).2.2 rules ml me mh mo mi mt ma mx cells' found := by
  have same := h
  obtain ⟨h1, h2, h3, h4, h5⟩ := h
  have h40 := hA.2.2.2
  have bad : M_adopt_13 i n code cells = some (1, cells) := by
    unfold M_adopt_13 M_adopt_18
    rw [if_neg (by decide)]
  unfold M_adopt s_adopt
  rw [h4]
  rw [h4] at same
  by_cases z : i < 0
  · rw [if_pos z, bad, if_neg (show ¬ qob A i = true from fun w => q_nn (decide_eq_true_iff.mp w).1 z)]
    exact ⟨cells, rfl, same⟩
  · rw [if_neg z]
    by_cases y : i < nI A.2.2.2.length
    · have ob : qob A i = true := decide_eq_true ⟨q_neg z, y⟩
      obtain ⟨j, s, hj, rfl, gs⟩ := qob_t h40 ob
      have e1 : (1 : Int32) + nI j = nI (1 + j) := nI_add 1 j
      obtain ⟨c1, f1, f2, f3⟩ := q_copyM (fr := 1 + j) (to := 0) (by omega) (by omega) (by omega) cells (n := n) (by omega)
      have f1' : M_copy n (nI (1 + j)) 0 cells = some c1 := f1
      rw [if_pos y, if_pos ob, nI_clamp (by omega), gs]
      unfold M_adopt_18
      rw [if_pos rfl, e1, f1', Option.bind_some]
      exact ⟨c1, rfl, h1, h2, KM_copy (h5 j s gs) f2, rfl, KMs_47 h5 fun x hx => f3 x (by omega)⟩
    · rw [if_neg y, bad, if_neg (show ¬ qob A i = true from fun w => y (decide_eq_true_iff.mp w).2)]
      exact ⟨cells, rfl, same⟩

def tc (l : List Nat) (c : Nat) : Nat := l.getD c 0
theorem c_label (l : Int32) (n : Nat) : P_checkLabel n l = some (if qlb l = true then 0 else 9, ()) := by
  unfold P_checkLabel
  by_cases z : l < 0
  · rw [if_pos z, if_neg (show ¬ qlb l = true from fun w => q_nn (decide_eq_true_iff.mp w).1 z)]
  · rw [if_neg z]
    by_cases y : l < (4 : Int32)
    · rw [if_pos y, if_pos (show qlb l = true from decide_eq_true ⟨q_neg z, y⟩)]
    · rw [if_neg y, if_neg (show ¬ qlb l = true from fun w => y (decide_eq_true_iff.mp w).2)]
theorem c_handful (h : Int32) (n : Nat) : P_checkHandful n h = some (if qhb h = true then 0 else 9, ()) := by
  unfold P_checkHandful
  by_cases z : h < 0
  · rw [if_pos z, if_neg (show ¬ qhb h = true from fun w => q_nn (decide_eq_true_iff.mp w).1 z)]
  · rw [if_neg z]
    by_cases y : h < (1024 : Int32)
    · rw [if_pos y, if_pos (show qhb h = true from decide_eq_true ⟨q_neg z, y⟩)]
    · rw [if_neg y, if_neg (show ¬ qhb h = true from fun w => y (decide_eq_true_iff.mp w).2)]
theorem c_empty (h : Int32) (n : Nat) : P_checkNotEmpty n h = some (if h = 0 then 9 else 0, ()) := by
  unfold P_checkNotEmpty
  by_cases z : h = 0
  · rw [if_pos z, if_pos z]
  · rw [if_neg z, if_neg z]
theorem c_what (w last : Int32) (n : Nat) : P_checkWhat n w last = some (if 0 ≤ w ∧ w ≤ last then 0 else 9, ()) := by
  unfold P_checkWhat
  by_cases z : w < 0
  · rw [if_pos z, if_neg (fun v => q_nn v.1 z)]
  · rw [if_neg z]
    by_cases y : w ≤ last
    · rw [if_pos y, if_pos ⟨q_neg z, y⟩]
    · rw [if_neg y, if_neg (fun v => y v.2)]
theorem c_has {st : qC} {cl cp : Nat → Int32} {ch : Nat → Int64} (h : KC st.1 st.2.1 st.2.2 cl cp ch) (p : Int32) (n : Nat) : K_has n p cl = some (qb (qpb st p)) := by
  unfold K_has
  by_cases z : p < 0
  · rw [if_pos z, show qpb st p = false from decide_eq_false (fun w => q_nn w.1 z)]
    rfl
  · rw [if_neg z]
    by_cases y : (6 : Int32) ≤ p
    · rw [if_pos y, show qpb st p = false from decide_eq_false (fun w => q_ng y w.2.1)]
      rfl
    · obtain ⟨m, hm, rfl⟩ := q_i6 (q_neg z) (q_lt y)
      rw [if_neg y, nI_clamp (by omega), if_neg (q_in hm (by omega)), h.1 m hm]
      by_cases x : st.1 m = -1
      · rw [if_pos x, show qpb st (nI m) = false from decide_eq_false (fun w => by rw [nI_clamp (by omega)] at w; exact w.2.2 x)]
        rfl
      · rw [if_neg x, show qpb st (nI m) = true from decide_eq_true ⟨q_neg z, q_lt y, by rw [nI_clamp (by omega)]; exact x⟩]
        rfl
theorem c_chkM {st : qC} {cl cp : Nat → Int32} {ch : Nat → Int64} (h : KC st.1 st.2.1 st.2.2 cl cp ch) (p : Int32) (n : Nat) : P_checkMembrane n p cl = some (if qpb st p = true then 0 else 10, ()) := by
  unfold P_checkMembrane
  rw [c_has h, Option.bind_some]
  by_cases z : qpb st p = true
  · rw [z, if_neg qb_t, if_pos rfl]
  · rw [if_neg z, Bool.eq_false_iff.mpr z, if_pos qb_f]
theorem c_chkR (A : qA) (r : Int32) (n : Nat) : P_checkRule n r (nI A.2.1) = some (if qrb A r = true then 0 else 10, ()) := by
  unfold P_checkRule
  by_cases z : r < 0
  · rw [if_pos z, if_neg (show ¬ qrb A r = true from fun w => q_nn (decide_eq_true_iff.mp w).1 z)]
  · rw [if_neg z]
    by_cases y : r < nI A.2.1
    · rw [if_pos y, if_pos (show qrb A r = true from decide_eq_true ⟨q_neg z, y⟩)]
    · rw [if_neg y, if_neg (show ¬ qrb A r = true from fun w => y (decide_eq_true_iff.mp w).2)]
theorem c_chkO (A : qA) (i : Int32) (n : Nat) : P_checkOutcome n i (nI A.2.2.2.length) = some (if qob A i = true then 0 else 10, ()) := by
  unfold P_checkOutcome
  by_cases z : i < 0
  · rw [if_pos z, if_neg (show ¬ qob A i = true from fun w => q_nn (decide_eq_true_iff.mp w).1 z)]
  · rw [if_neg z]
    by_cases y : i < nI A.2.2.2.length
    · rw [if_pos y, if_pos (show qob A i = true from decide_eq_true ⟨q_neg z, y⟩)]
    · rw [if_neg y, if_neg (show ¬ qob A i = true from fun w => y (decide_eq_true_iff.mp w).2)]
theorem c_chkE {i x : Nat} (hi : i < 6) (hx : x ≤ 2) (n : Nat) : P_checkEndsNothing n (nI i) (qb (decide (x = 1))) (qb (decide (x = 2))) = some (if x = 0 then 0 else 11, ()) := by
  unfold P_checkEndsNothing R_isOnce
  rw [nI_clamp (by omega), if_neg (q_in hi (by omega))]
  have : x = 0 ∨ x = 1 ∨ x = 2 := by omega
  rcases this with rfl | rfl | rfl <;> rfl
theorem c_reset {l : Int32} (cl cp : Nat → Int32) (ch : Nat → Int64) {n : Nat} (hn : 8 ≤ n) : ∃ cl' cp' ch', K_reset n l cl cp ch = some (cl', cp', ch') ∧ KC (eUp (fun _ => -1) 0 l) (fun _ => 0) (fun _ _ => 0) cl' cp' ch' := by
  have key : ∀ (d m n : Nat) (cl cp : Nat → Int32) (ch : Nat → Int64), m + d = 6 → d + 1 ≤ n → (∀ j, j < m → cl j = -1 ∧ cp j = -1 ∧ ch j = 0) → ∃ cl' cp' ch', K_reset_2 l n (nI m) cl cp ch = some (cl', cp', ch') ∧ KC (eUp (fun _ => -1) 0 l) (fun _ => 0) (fun _ _ => 0) cl' cp' ch' := by
    intro d
    induction d with
    | zero =>
      intro m n cl cp ch e hn g
      obtain ⟨n, rfl⟩ : ∃ m, n = m + 1 := ⟨n - 1, by omega⟩
      have : m = 6 := by omega
      subst this
      have z0 : (0 : Int32).toNatClampNeg = 0 := by decide
      have z6 : (6 : Int32).toNatClampNeg = 6 := by decide
      refine ⟨eUp cl 0 l, eUp cp 0 6, eUp (eUp ch 0 0) 6 0, ?_, fun j hj => ?_, fun j hj => ?_, fun j hj => ?_⟩
      · rw [K_reset_2, if_pos q_y6]
        unfold K_open
        rw [if_neg (by decide), if_neg (by decide), if_neg (by decide), Option.bind_some, if_neg (by decide), z0, z6]
      · by_cases j0 : j = 0
        · subst j0; rw [q_up, q_up]
        · rw [q_un j0, q_un j0]; exact (g j hj).1
      · unfold qpC
        by_cases j0 : j = 0
        · subst j0; rw [q_up]; rfl
        · rw [q_un j0, if_neg j0, q_un j0, if_pos rfl]; exact (g j hj).2.1
      · by_cases j6 : j = 6
        · subst j6; rw [q_up]; rfl
        · rw [q_un j6]
          by_cases j0 : j = 0
          · subst j0; rw [q_up]; rfl
          · rw [q_un j0]; exact (g j (by omega)).2.2
    | succ d ih =>
      intro m n cl cp ch e hn g
      obtain ⟨n, rfl⟩ : ∃ m, n = m + 1 := ⟨n - 1, by omega⟩
      have hm : m < 6 := by omega
      rw [K_reset_2, if_neg (q_n6 hm)]
      unfold K_close K_open
      rw [nI_clamp (by omega), if_neg (q_in hm (by omega)), if_neg (q_in hm (by omega)), if_neg (q_in (by omega) (by omega)), Option.bind_some, Option.bind_some, nI_1]
      refine ih (m + 1) n _ _ _ (by omega) (by omega) (fun j hj => ?_)
      by_cases jm : j = m
      · subst jm
        exact ⟨q_up .., q_up .., q_up ..⟩
      · obtain ⟨a1, a2, a3⟩ := g j (by omega)
        exact ⟨(q_un jm).trans a1, (q_un jm).trans a2, (q_un jm).trans a3⟩
  exact key 6 0 n cl cp ch (by omega) (by omega) (fun j hj => absurd hj (by omega))
theorem c_clear {A : qA} {cl cp : Nat → Int32} {ch : Nat → Int64} (h : KC A.1.1 A.1.2.1 A.1.2.2 cl cp ch) (l : Int32) {n : Nat} (hn : 8 ≤ n) : ∃ cl' cp' ch', P_clear n l cl cp ch (nI A.2.1) (nI A.2.2.2.length) = some (tc [0, 9] (s_clear A l).1, cl', cp', ch', nI (s_clear A l).2.2.2.1, nI (s_clear A l).2.2.2.2.2.length) ∧ KC (s_clear A l).2.2.1.1 (s_clear A l).2.2.1.2.1 (s_clear A l).2.2.1.2.2 cl' cp' ch' := by
  unfold P_clear
  rw [c_label, Option.bind_some]
  by_cases ok : qlb l = true
  · have e : s_clear A l = (0, 0, ((eUp (fun _ => -1) 0 l, fun _ => 0, fun _ _ => 0), 0, A.2.2.1, [])) := if_pos (decide_eq_true_iff.mp ok)
    obtain ⟨cl', cp', ch', f1, f2⟩ := c_reset (l := l) cl cp ch hn
    rw [if_pos ok, e]
    dsimp only
    rw [f1, Option.bind_some]
    exact ⟨cl', cp', ch', rfl, f2⟩
  · have e : s_clear A l = (1, 0, A) := if_neg (fun w => ok (decide_eq_true w))
    rw [if_neg ok, e]
    exact ⟨cl, cp, ch, rfl, h⟩
theorem c_membrane {A : qA} (hA : AI A) {cl cp : Nat → Int32} {ch : Nat → Int64} (h : KC A.1.1 A.1.2.1 A.1.2.2 cl cp ch) (p l : Int32) {n : Nat} (hn : 8 ≤ n) : ∃ cl' cp' ch', P_membrane n p l cl cp ch = some (tc [0, 10, 9, 11] (s_membrane A p l).1, (s_membrane A p l).2.1, cl', cp', ch') ∧ KC (s_membrane A p l).2.2.1.1 (s_membrane A p l).2.2.1.2.1 (s_membrane A p l).2.2.1.2.2 cl' cp' ch' := by
  obtain ⟨⟨hl, ht, hk, ha⟩, _⟩ := hA
  unfold P_membrane s_membrane
  rw [c_chkM h, Option.bind_some]
  by_cases pr : qpb A.1 p = true
  · rw [if_pos pr, if_pos pr]
    dsimp only
    rw [c_label, Option.bind_some]
    by_cases ok : qlb l = true
    · have ok' := decide_eq_true_iff.mp ok
      rw [if_pos ok, if_pos ok']
      dsimp only
      rw [q_least hl h (by omega), Option.bind_some]
      cases q : qfind (qfree A.1.1) 1 5 with
      | none => exact ⟨cl, cp, ch, rfl, h⟩
      | some f =>
        obtain ⟨fl, f0, f6⟩ := qfree_lab q
        obtain ⟨m, hm, rfl, hp⟩ := qpb_t pr
        obtain ⟨x, hx, rfl⟩ := qlb_t ok
        rw [show qoI (some f) = nI f from rfl, if_neg (q_m1' (by omega))]
        unfold K_open
        rw [nI_clamp (by omega), if_neg (q_in f6 (by omega)), if_neg (q_in f6 (by omega)), if_neg (q_in (by omega) (by omega)), Option.bind_some]
        refine ⟨eUp cl f (nI x), eUp cp f (nI m), eUp ch f 0, rfl, fun j hj => ?_, fun j hj => ?_, fun j hj => ?_⟩
        · show _ = eUp A.1.1 f (nI x) j
          by_cases jf : j = f
          · subst jf; rw [q_up, q_up]
          · rw [q_un jf, q_un jf]; exact h.1 j hj
        · show _ = qpC (eUp A.1.1 f (nI x)) (eUp A.1.2.1 f (nI m).toNatClampNeg) j
          unfold qpC
          by_cases jf : j = f
          · subst jf; rw [q_up, if_neg f0, q_up, if_neg (q_m1' (by omega)), q_up, nI_clamp (by omega)]
          · rw [q_un jf, q_un jf, q_un jf]; exact h.2.1 j hj
        · show _ = qh (eUp A.1.2.2 f (fun _ => 0) j)
          by_cases jf : j = f
          · subst jf; rw [q_up, q_up]; rfl
          · rw [q_un jf, q_un jf]; exact h.2.2 j hj
    · rw [if_neg ok, if_neg (fun w => ok (decide_eq_true w))]
      exact ⟨cl, cp, ch, rfl, h⟩
  · rw [if_neg pr, if_neg pr]
    exact ⟨cl, cp, ch, rfl, h⟩
theorem c_put {A : qA} (hA : AI A) {cl cp : Nat → Int32} {ch : Nat → Int64} (h : KC A.1.1 A.1.2.1 A.1.2.2 cl cp ch) (p hh : Int32) {n : Nat} (hn : 8 ≤ n) : ∃ ch', P_put n p hh cl ch = some (tc [0, 10, 9, 11] (s_put A p hh).1, ch') ∧ KC (s_put A p hh).2.2.1.1 (s_put A p hh).2.2.1.2.1 (s_put A p hh).2.2.1.2.2 cl cp ch' := by
  obtain ⟨⟨hl, ht, hk, ha⟩, _⟩ := hA
  unfold P_put s_put
  rw [c_chkM h, Option.bind_some]
  by_cases pr : qpb A.1 p = true
  · rw [if_pos pr, if_pos pr]
    dsimp only
    rw [c_handful, Option.bind_some]
    by_cases ok : qhb hh = true
    · rw [if_pos ok, if_pos ok]
      dsimp only
      obtain ⟨m, hm, rfl, hp⟩ := qpb_t pr
      obtain ⟨x, hx, rfl⟩ := qhb_t ok
      have c12 : (3378524555624460 : Int64) = qh fun _ => 12 := by decide
      rw [nI_clamp (by omega), nI_clamp (by omega), if_neg (q_in (by omega) (by omega)), q_ofH (by omega) (by omega), Option.bind_some, h.2.2 m (by omega), qh_add, c12]
      by_cases y : qfull (A.1.2.2 m) x = true
      · rw [q_within_t (fun _ _ => by omega) (qfull_iff.mp y), Option.bind_some, if_neg (by decide), if_neg (q_in (by omega) (by omega)), if_pos y]
        refine ⟨_, rfl, h.1, h.2.1, fun j hj => ?_⟩
        show _ = qh (eUp A.1.2.2 m _ j)
        by_cases jm : j = m
        · subst jm; rw [q_up, q_up]
        · rw [q_un jm, q_un jm]; exact h.2.2 j hj
      · rw [q_within_f (fun k hk5 => by have := hk.1 m hm k hk5; have := qf_lt x k; omega) (fun _ _ => by omega) (fun w => y (qfull_iff.mpr w)), Option.bind_some, if_pos rfl, if_neg y]
        exact ⟨ch, rfl, h⟩
    · rw [if_neg ok, if_neg ok]
      exact ⟨ch, rfl, h⟩
  · rw [if_neg pr, if_neg pr]
    exact ⟨ch, rfl, h⟩

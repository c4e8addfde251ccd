theorem g_scr {P : eP} {X : Nat × (Nat → Int32)} {d0 k pc : Nat} {lo : eLo} {st : List Value} {h : eH} {r : eR × eH} {i j : Nat} (hi : P.ins k pc = some (.iaload, 1)) (hl : i + j < X.1) (hb : X.1 ≤ 2560) (q : eGs P X d0 k (pc + 1, lo, .int (X.2 (i + j)) :: st, h) r) : eGs P X d0 k (pc, lo, .int (nI i + nI j) :: .ref 0 :: st, h) r := by
  refine eGs.step hi rfl ?_ q
  have hin : ¬ (nI (i + j) < 0 ∨ X.1 ≤ (nI (i + j)).toNatClampNeg) := by rw [nI_clamp (by omega)]; exact q_in hl (by omega)
  rw [nI_add]
  simp only [eIns, eLdI, eIA, eN, eIn, if_neg hin, if_true]
  rw [nI_clamp (by omega)]
def lL (i : Nat) : eLo := [some (.ref 0), some (.ref 1), some (.ref 356), some (.ref 374), some (.int (nI i)), none, none]
def LI (H : eH) (A : qA) (t : Nat) : Prop := AI A ∧ (∃ nw tr fa ga pf pg, SC H A nw tr fa ga pf pg) ∧ (∃ code, SM H A code) ∧ (∃ f, H.1 374 = some (.inl (1, 1, .inr (.inl f)))) ∧ 375 ≤ H.2.1 ∧ H.2.1 ≤ 375 + t ∧ H.2.2 ≤ 20000 + 6 * t
theorem l_clear {X : Nat × (Nat → Int32)} {H : eH} {A : qA} {t i : Nat} (h : LI H A t) (hi : i + 4 < X.1) (hX : X.1 ≤ 2560) : ∃ H' A', LI H' A' (t + 1) ∧ ∀ res, eGs pP X 60 139 (1022, lL i, [], H') res → eGs pP X 60 139 (120, lL i, [], H) res := by
  obtain ⟨hA, ⟨nw, tr, fa, ga, pf, pg, sc⟩, ⟨code, sm⟩, ⟨f, o0⟩, n1, n2, n3⟩ := h
  obtain ⟨H1, nw', tr', fa', ga', pf', pg', f', ev1, sc1, g1, o1, fo, b1, b2, b3⟩ := k_clear (X := X) sc hA o0 n1 (X.2 (i + 1))
  have sm1 := SM_fr sm g1
  obtain ⟨H2, ev2, sm2, p2, t2⟩ := m_clear (X := X) sm1 hA (X.2 (i + 1))
  have ev3 := m_thrown (X := X) sm2
  have hA' : AI (s_clear A (X.2 (i + 1))).2.2 := AI_clear hA (X.2 (i + 1))
  have c1 : ∃ fs, H1.1 356 = some (.inr (1, fs)) := by
    obtain ⟨rules, ml, me, mh, mo, mi, mt, ma, mx, cells, found, more, rest, uses, acted, list, listed, begins, many, digits, chosen, length, wanted, letter, opn, c, _⟩ := sm1
    exact ⟨_, c⟩
  obtain ⟨fs_c1, c1⟩ := c1
  have c2 : ∃ fs, H2.1 356 = some (.inr (1, fs)) := by
    obtain ⟨rules, ml, me, mh, mo, mi, mt, ma, mx, cells, found, more, rest, uses, acted, list, listed, begins, many, digits, chosen, length, wanted, letter, opn, c, _⟩ := sm2
    exact ⟨_, c⟩
  obtain ⟨fs_c2, c2⟩ := c2
  have o2 := (t2 374 (by omega)).trans o1
  refine ⟨H2, (s_clear A (X.2 (i + 1))).2.2, ⟨hA', ⟨nw', tr', fa', ga', pf', pg', SC_fr sc1 hA' (fun a h1 h2 => t2 a (by omega))⟩, ⟨_, sm2⟩, ⟨f', o2⟩, by rw [p2]; omega, by rw [p2]; omega, by rw [p2]; omega⟩, fun res q => ?_⟩
  refine eGs.steps 5 (y := (126, [some (.ref 0), some (.ref 1), some (.ref 356), some (.ref 374), some (.int (nI i)), none, none], [.int (nI i + nI 1), .ref 0, .ref 1], H)) rfl ?_
  refine g_scr rfl (by omega) hX ?_
  refine eGs.steps 0 (y := (127, [some (.ref 0), some (.ref 1), some (.ref 356), some (.ref 374), some (.int (nI i)), none, none], [.int (X.2 (i + 1)), .ref 1], H)) rfl ?_
  refine g_callS rfl rfl rfl rfl rfl (ev1.mono (by decide)) ?_
  refine eGs.steps 6 (y := (138, [some (.ref 0), some (.ref 1), some (.ref 356), some (.ref 374), some (.int (nI i)), some (.int (nI (s_clear A (X.2 (i + 1))).1)), none], [.int (nI i + nI 1), .ref 0, .ref 356], H1)) rfl ?_
  refine g_scr rfl (by omega) hX ?_
  refine eGs.steps 0 (y := (139, [some (.ref 0), some (.ref 1), some (.ref 356), some (.ref 374), some (.int (nI i)), some (.int (nI (s_clear A (X.2 (i + 1))).1)), none], [.int (X.2 (i + 1)), .ref 356], H1)) rfl ?_
  refine g_callV rfl rfl rfl rfl rfl (by omega) c1 rfl (ev2.mono (by decide)) ?_
  refine eGs.steps 1 (y := (143, [some (.ref 0), some (.ref 1), some (.ref 356), some (.ref 374), some (.int (nI i)), some (.int (nI (s_clear A (X.2 (i + 1))).1)), none], [.ref 356], H2)) rfl ?_
  refine g_callV rfl rfl rfl rfl rfl (by omega) c2 rfl (ev3.mono (by decide)) ?_
  refine eGs.steps 1 (y := (148, [some (.ref 0), some (.ref 1), some (.ref 356), some (.ref 374), some (.int (nI i)), some (.int (nI (s_clear A (X.2 (i + 1))).1)), none], [.int (nI (s_clear A (X.2 (i + 1))).1), .int (nI (s_clear A (X.2 (i + 1))).1)], H2)) rfl ?_
  refine g_icmp (cd := .eq) (t := 153) true rfl (decide_eq_true rfl) rfl ?_
  refine eGs.steps 1 (y := (1022, [some (.ref 0), some (.ref 1), some (.ref 356), some (.ref 374), some (.int (nI i)), some (.int (nI (s_clear A (X.2 (i + 1))).1)), none], [], H2)) rfl ?_
  refine eGs.weak (lo' := lL i) (by repeat' first | exact trivial | exact rfl | constructor) ?_
  exact q
theorem l_membrane {X : Nat × (Nat → Int32)} {H : eH} {A : qA} {t i : Nat} (h : LI H A t) (hi : i + 4 < X.1) (hX : X.1 ≤ 2560) : ∃ H' A', LI H' A' (t + 1) ∧ ∀ res, eGs pP X 60 139 (1022, lL i, [], H') res → eGs pP X 60 139 (156, lL i, [], H) res := by
  obtain ⟨hA, ⟨nw, tr, fa, ga, pf, pg, sc⟩, ⟨code, sm⟩, ⟨f, o0⟩, n1, n2, n3⟩ := h
  obtain ⟨H1, nw', tr', fa', ga', pf', pg', f', ev1, sc1, g1, o1, fo, b1, b2, b3⟩ := k_membrane (X := X) sc hA o0 n1 (X.2 (i + 1)) (X.2 (i + 2))
  have sm1 := SM_fr sm g1
  obtain ⟨H2, ev2, sm2, p2, t2⟩ := m_membrane (X := X) sm1 hA (X.2 (i + 1)) (X.2 (i + 2))
  have ev3 := m_thrown (X := X) sm2
  have hA' : AI (s_membrane A (X.2 (i + 1)) (X.2 (i + 2))).2.2 := AI_membrane hA (X.2 (i + 1)) (X.2 (i + 2))
  have c1 : ∃ fs, H1.1 356 = some (.inr (1, fs)) := by
    obtain ⟨rules, ml, me, mh, mo, mi, mt, ma, mx, cells, found, more, rest, uses, acted, list, listed, begins, many, digits, chosen, length, wanted, letter, opn, c, _⟩ := sm1
    exact ⟨_, c⟩
  obtain ⟨fs_c1, c1⟩ := c1
  have c2 : ∃ fs, H2.1 356 = some (.inr (1, fs)) := by
    obtain ⟨rules, ml, me, mh, mo, mi, mt, ma, mx, cells, found, more, rest, uses, acted, list, listed, begins, many, digits, chosen, length, wanted, letter, opn, c, _⟩ := sm2
    exact ⟨_, c⟩
  obtain ⟨fs_c2, c2⟩ := c2
  have o2 := (t2 374 (by omega)).trans o1
  have cd : (s_membrane A (X.2 (i + 1)) (X.2 (i + 2))).1 ≤ 3 := by
    unfold s_membrane
    repeat' split
    all_goals first | exact (show 0 ≤ 3 by decide) | exact (show 1 ≤ 3 by decide) | exact (show 2 ≤ 3 by decide) | exact (show 3 ≤ 3 by decide)
  refine ⟨H2, (s_membrane A (X.2 (i + 1)) (X.2 (i + 2))).2.2, ⟨hA', ⟨nw', tr', fa', ga', pf', pg', SC_fr sc1 hA' (fun a h1 h2 => t2 a (by omega))⟩, ⟨_, sm2⟩, ⟨f', o2⟩, by rw [p2]; omega, by rw [p2]; omega, by rw [p2]; omega⟩, fun res q => ?_⟩
  refine eGs.steps 5 (y := (162, [some (.ref 0), some (.ref 1), some (.ref 356), some (.ref 374), some (.int (nI i)), none, none], [.int (nI i + nI 1), .ref 0, .ref 1], H)) rfl ?_
  refine g_scr rfl (by omega) hX ?_
  refine eGs.steps 4 (y := (168, [some (.ref 0), some (.ref 1), some (.ref 356), some (.ref 374), some (.int (nI i)), none, none], [.int (nI i + nI 2), .ref 0, .int (X.2 (i + 1)), .ref 1], H)) rfl ?_
  refine g_scr rfl (by omega) hX ?_
  refine eGs.steps 1 (y := (170, [some (.ref 0), some (.ref 1), some (.ref 356), some (.ref 374), some (.int (nI i)), none, none], [.ref 374, .int (X.2 (i + 2)), .int (X.2 (i + 1)), .ref 1], H)) rfl ?_
  refine g_callS rfl rfl rfl rfl rfl (ev1.mono (by decide)) ?_
  refine eGs.steps 6 (y := (181, [some (.ref 0), some (.ref 1), some (.ref 356), some (.ref 374), some (.int (nI i)), some (.int (nI (s_membrane A (X.2 (i + 1)) (X.2 (i + 2))).1)), none], [.int (nI i + nI 1), .ref 0, .ref 356], H1)) rfl ?_
  refine g_scr rfl (by omega) hX ?_
  refine eGs.steps 4 (y := (187, [some (.ref 0), some (.ref 1), some (.ref 356), some (.ref 374), some (.int (nI i)), some (.int (nI (s_membrane A (X.2 (i + 1)) (X.2 (i + 2))).1)), none], [.int (nI i + nI 2), .ref 0, .int (X.2 (i + 1)), .ref 356], H1)) rfl ?_
  refine g_scr rfl (by omega) hX ?_
  refine eGs.steps 0 (y := (188, [some (.ref 0), some (.ref 1), some (.ref 356), some (.ref 374), some (.int (nI i)), some (.int (nI (s_membrane A (X.2 (i + 1)) (X.2 (i + 2))).1)), none], [.int (X.2 (i + 2)), .int (X.2 (i + 1)), .ref 356], H1)) rfl ?_
  refine g_callV rfl rfl rfl rfl rfl (by omega) c1 rfl (ev2.mono (by decide)) ?_
  refine eGs.steps 2 (y := (194, [some (.ref 0), some (.ref 1), some (.ref 356), some (.ref 374), some (.int (nI i)), some (.int (nI (s_membrane A (X.2 (i + 1)) (X.2 (i + 2))).1)), some (.int (s_membrane A (X.2 (i + 1)) (X.2 (i + 2))).2.1)], [.ref 356], H2)) rfl ?_
  refine g_callV rfl rfl rfl rfl rfl (by omega) c2 rfl (ev3.mono (by decide)) ?_
  refine eGs.steps 1 (y := (199, [some (.ref 0), some (.ref 1), some (.ref 356), some (.ref 374), some (.int (nI i)), some (.int (nI (s_membrane A (X.2 (i + 1)) (X.2 (i + 2))).1)), some (.int (s_membrane A (X.2 (i + 1)) (X.2 (i + 2))).2.1)], [.int (nI (s_membrane A (X.2 (i + 1)) (X.2 (i + 2))).1), .int (nI (s_membrane A (X.2 (i + 1)) (X.2 (i + 2))).1)], H2)) rfl ?_
  refine g_icmp (cd := .eq) (t := 204) true rfl (decide_eq_true rfl) rfl ?_
  refine eGs.steps 1 (y := (206, [some (.ref 0), some (.ref 1), some (.ref 356), some (.ref 374), some (.int (nI i)), some (.int (nI (s_membrane A (X.2 (i + 1)) (X.2 (i + 2))).1)), some (.int (s_membrane A (X.2 (i + 1)) (X.2 (i + 2))).2.1)], [.int (nI (s_membrane A (X.2 (i + 1)) (X.2 (i + 2))).1)], H2)) rfl ?_
  by_cases z : (s_membrane A (X.2 (i + 1)) (X.2 (i + 2))).1 = 0
  · refine g_if (cd := .ne) (t := 221) false rfl (decide_eq_false (fun w => w (by rw [z]; rfl))) rfl ?_
    refine eGs.steps 2 (y := (211, [some (.ref 0), some (.ref 1), some (.ref 356), some (.ref 374), some (.int (nI i)), some (.int (nI (s_membrane A (X.2 (i + 1)) (X.2 (i + 2))).1)), some (.int (s_membrane A (X.2 (i + 1)) (X.2 (i + 2))).2.1)], [.int 0, .ref 374], H2)) rfl ?_
    refine g_lald rfl (by omega) o2 (by decide) ?_
    refine eGs.steps 3 (y := (216, [some (.ref 0), some (.ref 1), some (.ref 356), some (.ref 374), some (.int (nI i)), some (.int (nI (s_membrane A (X.2 (i + 1)) (X.2 (i + 2))).1)), some (.int (s_membrane A (X.2 (i + 1)) (X.2 (i + 2))).2.1)], [.int (lg_cmp (f' (0 : Int32).toNatClampNeg) (s_membrane A (X.2 (i + 1)) (X.2 (i + 2))).2.1.toInt64)], H2)) rfl ?_
    refine g_if (cd := .eq) (t := 221) true rfl (decide_eq_true (q_cmp0.mpr (by rw [show (0 : Int32).toNatClampNeg = 0 by decide]; exact fo z))) rfl ?_
    refine eGs.steps 1 (y := (1022, [some (.ref 0), some (.ref 1), some (.ref 356), some (.ref 374), some (.int (nI i)), some (.int (nI (s_membrane A (X.2 (i + 1)) (X.2 (i + 2))).1)), some (.int (s_membrane A (X.2 (i + 1)) (X.2 (i + 2))).2.1)], [], H2)) rfl ?_
    refine eGs.weak (lo' := lL i) (by repeat' first | exact trivial | exact rfl | constructor) ?_
    exact q
  · refine g_if (cd := .ne) (t := 221) true rfl (decide_eq_true (nI_ne0 (by omega) (by omega))) rfl ?_
    refine eGs.steps 1 (y := (1022, [some (.ref 0), some (.ref 1), some (.ref 356), some (.ref 374), some (.int (nI i)), some (.int (nI (s_membrane A (X.2 (i + 1)) (X.2 (i + 2))).1)), some (.int (s_membrane A (X.2 (i + 1)) (X.2 (i + 2))).2.1)], [], H2)) rfl ?_
    refine eGs.weak (lo' := lL i) (by repeat' first | exact trivial | exact rfl | constructor) ?_
    exact q
theorem l_put {X : Nat × (Nat → Int32)} {H : eH} {A : qA} {t i : Nat} (h : LI H A t) (hi : i + 4 < X.1) (hX : X.1 ≤ 2560) : ∃ H' A', LI H' A' (t + 1) ∧ ∀ res, eGs pP X 60 139 (1022, lL i, [], H') res → eGs pP X 60 139 (224, lL i, [], H) res := by
  obtain ⟨hA, ⟨nw, tr, fa, ga, pf, pg, sc⟩, ⟨code, sm⟩, ⟨f, o0⟩, n1, n2, n3⟩ := h
  obtain ⟨H1, nw', tr', fa', ga', pf', pg', f', ev1, sc1, g1, o1, fo, b1, b2, b3⟩ := k_put (X := X) sc hA o0 n1 (X.2 (i + 1)) (X.2 (i + 2))
  have sm1 := SM_fr sm g1
  obtain ⟨H2, ev2, sm2, p2, t2⟩ := m_put (X := X) sm1 hA (X.2 (i + 1)) (X.2 (i + 2))
  have ev3 := m_thrown (X := X) sm2
  have hA' : AI (s_put A (X.2 (i + 1)) (X.2 (i + 2))).2.2 := AI_put hA (X.2 (i + 1)) (X.2 (i + 2))
  have c1 : ∃ fs, H1.1 356 = some (.inr (1, fs)) := by
    obtain ⟨rules, ml, me, mh, mo, mi, mt, ma, mx, cells, found, more, rest, uses, acted, list, listed, begins, many, digits, chosen, length, wanted, letter, opn, c, _⟩ := sm1
    exact ⟨_, c⟩
  obtain ⟨fs_c1, c1⟩ := c1
  have c2 : ∃ fs, H2.1 356 = some (.inr (1, fs)) := by
    obtain ⟨rules, ml, me, mh, mo, mi, mt, ma, mx, cells, found, more, rest, uses, acted, list, listed, begins, many, digits, chosen, length, wanted, letter, opn, c, _⟩ := sm2
    exact ⟨_, c⟩
  obtain ⟨fs_c2, c2⟩ := c2
  have o2 := (t2 374 (by omega)).trans o1
  refine ⟨H2, (s_put A (X.2 (i + 1)) (X.2 (i + 2))).2.2, ⟨hA', ⟨nw', tr', fa', ga', pf', pg', SC_fr sc1 hA' (fun a h1 h2 => t2 a (by omega))⟩, ⟨_, sm2⟩, ⟨f', o2⟩, by rw [p2]; omega, by rw [p2]; omega, by rw [p2]; omega⟩, fun res q => ?_⟩
  refine eGs.steps 5 (y := (230, [some (.ref 0), some (.ref 1), some (.ref 356), some (.ref 374), some (.int (nI i)), none, none], [.int (nI i + nI 1), .ref 0, .ref 1], H)) rfl ?_
  refine g_scr rfl (by omega) hX ?_
  refine eGs.steps 4 (y := (236, [some (.ref 0), some (.ref 1), some (.ref 356), some (.ref 374), some (.int (nI i)), none, none], [.int (nI i + nI 2), .ref 0, .int (X.2 (i + 1)), .ref 1], H)) rfl ?_
  refine g_scr rfl (by omega) hX ?_
  refine eGs.steps 0 (y := (237, [some (.ref 0), some (.ref 1), some (.ref 356), some (.ref 374), some (.int (nI i)), none, none], [.int (X.2 (i + 2)), .int (X.2 (i + 1)), .ref 1], H)) rfl ?_
  refine g_callS rfl rfl rfl rfl rfl (ev1.mono (by decide)) ?_
  refine eGs.steps 6 (y := (248, [some (.ref 0), some (.ref 1), some (.ref 356), some (.ref 374), some (.int (nI i)), some (.int (nI (s_put A (X.2 (i + 1)) (X.2 (i + 2))).1)), none], [.int (nI i + nI 1), .ref 0, .ref 356], H1)) rfl ?_
  refine g_scr rfl (by omega) hX ?_
  refine eGs.steps 4 (y := (254, [some (.ref 0), some (.ref 1), some (.ref 356), some (.ref 374), some (.int (nI i)), some (.int (nI (s_put A (X.2 (i + 1)) (X.2 (i + 2))).1)), none], [.int (nI i + nI 2), .ref 0, .int (X.2 (i + 1)), .ref 356], H1)) rfl ?_
  refine g_scr rfl (by omega) hX ?_
  refine eGs.steps 0 (y := (255, [some (.ref 0), some (.ref 1), some (.ref 356), some (.ref 374), some (.int (nI i)), some (.int (nI (s_put A (X.2 (i + 1)) (X.2 (i + 2))).1)), none], [.int (X.2 (i + 2)), .int (X.2 (i + 1)), .ref 356], H1)) rfl ?_
  refine g_callV rfl rfl rfl rfl rfl (by omega) c1 rfl (ev2.mono (by decide)) ?_
  refine eGs.steps 1 (y := (259, [some (.ref 0), some (.ref 1), some (.ref 356), some (.ref 374), some (.int (nI i)), some (.int (nI (s_put A (X.2 (i + 1)) (X.2 (i + 2))).1)), none], [.ref 356], H2)) rfl ?_
  refine g_callV rfl rfl rfl rfl rfl (by omega) c2 rfl (ev3.mono (by decide)) ?_
  refine eGs.steps 1 (y := (264, [some (.ref 0), some (.ref 1), some (.ref 356), some (.ref 374), some (.int (nI i)), some (.int (nI (s_put A (X.2 (i + 1)) (X.2 (i + 2))).1)), none], [.int (nI (s_put A (X.2 (i + 1)) (X.2 (i + 2))).1), .int (nI (s_put A (X.2 (i + 1)) (X.2 (i + 2))).1)], H2)) rfl ?_
  refine g_icmp (cd := .eq) (t := 269) true rfl (decide_eq_true rfl) rfl ?_
  refine eGs.steps 1 (y := (1022, [some (.ref 0), some (.ref 1), some (.ref 356), some (.ref 374), some (.int (nI i)), some (.int (nI (s_put A (X.2 (i + 1)) (X.2 (i + 2))).1)), none], [], H2)) rfl ?_
  refine eGs.weak (lo' := lL i) (by repeat' first | exact trivial | exact rfl | constructor) ?_
  exact q
theorem l_rule {X : Nat × (Nat → Int32)} {H : eH} {A : qA} {t i : Nat} (h : LI H A t) (hi : i + 4 < X.1) (hX : X.1 ≤ 2560) : ∃ H' A', LI H' A' (t + 1) ∧ ∀ res, eGs pP X 60 139 (1022, lL i, [], H') res → eGs pP X 60 139 (272, lL i, [], H) res := by
  obtain ⟨hA, ⟨nw, tr, fa, ga, pf, pg, sc⟩, ⟨code, sm⟩, ⟨f, o0⟩, n1, n2, n3⟩ := h
  obtain ⟨H1, nw', tr', fa', ga', pf', pg', f', ev1, sc1, g1, o1, fo, b1, b2, b3⟩ := k_rule (X := X) sc hA o0 n1 (X.2 (i + 1)) (X.2 (i + 2)) (X.2 (i + 3)) (X.2 (i + 4))
  have sm1 := SM_fr sm g1
  obtain ⟨H2, ev2, sm2, p2, t2⟩ := m_rule (X := X) sm1 hA (X.2 (i + 1)) (X.2 (i + 2)) (X.2 (i + 3)) (X.2 (i + 4))
  have ev3 := m_thrown (X := X) sm2
  have hA' : AI (s_rule A (X.2 (i + 1)) (X.2 (i + 2)) (X.2 (i + 3)) (X.2 (i + 4))).2.2 := AI_rule hA (X.2 (i + 1)) (X.2 (i + 2)) (X.2 (i + 3)) (X.2 (i + 4))
  have c1 : ∃ fs, H1.1 356 = some (.inr (1, fs)) := by
    obtain ⟨rules, ml, me, mh, mo, mi, mt, ma, mx, cells, found, more, rest, uses, acted, list, listed, begins, many, digits, chosen, length, wanted, letter, opn, c, _⟩ := sm1
    exact ⟨_, c⟩
  obtain ⟨fs_c1, c1⟩ := c1
  have c2 : ∃ fs, H2.1 356 = some (.inr (1, fs)) := by
    obtain ⟨rules, ml, me, mh, mo, mi, mt, ma, mx, cells, found, more, rest, uses, acted, list, listed, begins, many, digits, chosen, length, wanted, letter, opn, c, _⟩ := sm2
    exact ⟨_, c⟩
  obtain ⟨fs_c2, c2⟩ := c2
  have o2 := (t2 374 (by omega)).trans o1
  have cd : (s_rule A (X.2 (i + 1)) (X.2 (i + 2)) (X.2 (i + 3)) (X.2 (i + 4))).1 ≤ 3 := by
    unfold s_rule
    repeat' split
    all_goals first | exact (show 0 ≤ 3 by decide) | exact (show 1 ≤ 3 by decide) | exact (show 2 ≤ 3 by decide) | exact (show 3 ≤ 3 by decide)
  refine ⟨H2, (s_rule A (X.2 (i + 1)) (X.2 (i + 2)) (X.2 (i + 3)) (X.2 (i + 4))).2.2, ⟨hA', ⟨nw', tr', fa', ga', pf', pg', SC_fr sc1 hA' (fun a h1 h2 => t2 a (by omega))⟩, ⟨_, sm2⟩, ⟨f', o2⟩, by rw [p2]; omega, by rw [p2]; omega, by rw [p2]; omega⟩, fun res q => ?_⟩
  refine eGs.steps 5 (y := (278, [some (.ref 0), some (.ref 1), some (.ref 356), some (.ref 374), some (.int (nI i)), none, none], [.int (nI i + nI 1), .ref 0, .ref 1], H)) rfl ?_
  refine g_scr rfl (by omega) hX ?_
  refine eGs.steps 4 (y := (284, [some (.ref 0), some (.ref 1), some (.ref 356), some (.ref 374), some (.int (nI i)), none, none], [.int (nI i + nI 2), .ref 0, .int (X.2 (i + 1)), .ref 1], H)) rfl ?_
  refine g_scr rfl (by omega) hX ?_
  refine eGs.steps 4 (y := (290, [some (.ref 0), some (.ref 1), some (.ref 356), some (.ref 374), some (.int (nI i)), none, none], [.int (nI i + nI 3), .ref 0, .int (X.2 (i + 2)), .int (X.2 (i + 1)), .ref 1], H)) rfl ?_
  refine g_scr rfl (by omega) hX ?_
  refine eGs.steps 4 (y := (296, [some (.ref 0), some (.ref 1), some (.ref 356), some (.ref 374), some (.int (nI i)), none, none], [.int (nI i + nI 4), .ref 0, .int (X.2 (i + 3)), .int (X.2 (i + 2)), .int (X.2 (i + 1)), .ref 1], H)) rfl ?_
  refine g_scr rfl (by omega) hX ?_
  refine eGs.steps 1 (y := (298, [some (.ref 0), some (.ref 1), some (.ref 356), some (.ref 374), some (.int (nI i)), none, none], [.ref 374, .int (X.2 (i + 4)), .int (X.2 (i + 3)), .int (X.2 (i + 2)), .int (X.2 (i + 1)), .ref 1], H)) rfl ?_
  refine g_callS rfl rfl rfl rfl rfl (ev1.mono (by decide)) ?_
  refine eGs.steps 6 (y := (309, [some (.ref 0), some (.ref 1), some (.ref 356), some (.ref 374), some (.int (nI i)), some (.int (nI (s_rule A (X.2 (i + 1)) (X.2 (i + 2)) (X.2 (i + 3)) (X.2 (i + 4))).1)), none], [.int (nI i + nI 1), .ref 0, .ref 356], H1)) rfl ?_
  refine g_scr rfl (by omega) hX ?_
  refine eGs.steps 4 (y := (315, [some (.ref 0), some (.ref 1), some (.ref 356), some (.ref 374), some (.int (nI i)), some (.int (nI (s_rule A (X.2 (i + 1)) (X.2 (i + 2)) (X.2 (i + 3)) (X.2 (i + 4))).1)), none], [.int (nI i + nI 2), .ref 0, .int (X.2 (i + 1)), .ref 356], H1)) rfl ?_
  refine g_scr rfl (by omega) hX ?_
  refine eGs.steps 4 (y := (321, [some (.ref 0), some (.ref 1), some (.ref 356), some (.ref 374), some (.int (nI i)), some (.int (nI (s_rule A (X.2 (i + 1)) (X.2 (i + 2)) (X.2 (i + 3)) (X.2 (i + 4))).1)), none], [.int (nI i + nI 3), .ref 0, .int (X.2 (i + 2)), .int (X.2 (i + 1)), .ref 356], H1)) rfl ?_
  refine g_scr rfl (by omega) hX ?_
  refine eGs.steps 4 (y := (327, [some (.ref 0), some (.ref 1), some (.ref 356), some (.ref 374), some (.int (nI i)), some (.int (nI (s_rule A (X.2 (i + 1)) (X.2 (i + 2)) (X.2 (i + 3)) (X.2 (i + 4))).1)), none], [.int (nI i + nI 4), .ref 0, .int (X.2 (i + 3)), .int (X.2 (i + 2)), .int (X.2 (i + 1)), .ref 356], H1)) rfl ?_
  refine g_scr rfl (by omega) hX ?_
  refine eGs.steps 0 (y := (328, [some (.ref 0), some (.ref 1), some (.ref 356), some (.ref 374), some (.int (nI i)), some (.int (nI (s_rule A (X.2 (i + 1)) (X.2 (i + 2)) (X.2 (i + 3)) (X.2 (i + 4))).1)), none], [.int (X.2 (i + 4)), .int (X.2 (i + 3)), .int (X.2 (i + 2)), .int (X.2 (i + 1)), .ref 356], H1)) rfl ?_
  refine g_callV rfl rfl rfl rfl rfl (by omega) c1 rfl (ev2.mono (by decide)) ?_
  refine eGs.steps 2 (y := (334, [some (.ref 0), some (.ref 1), some (.ref 356), some (.ref 374), some (.int (nI i)), some (.int (nI (s_rule A (X.2 (i + 1)) (X.2 (i + 2)) (X.2 (i + 3)) (X.2 (i + 4))).1)), some (.int (s_rule A (X.2 (i + 1)) (X.2 (i + 2)) (X.2 (i + 3)) (X.2 (i + 4))).2.1)], [.ref 356], H2)) rfl ?_
  refine g_callV rfl rfl rfl rfl rfl (by omega) c2 rfl (ev3.mono (by decide)) ?_
  refine eGs.steps 1 (y := (339, [some (.ref 0), some (.ref 1), some (.ref 356), some (.ref 374), some (.int (nI i)), some (.int (nI (s_rule A (X.2 (i + 1)) (X.2 (i + 2)) (X.2 (i + 3)) (X.2 (i + 4))).1)), some (.int (s_rule A (X.2 (i + 1)) (X.2 (i + 2)) (X.2 (i + 3)) (X.2 (i + 4))).2.1)], [.int (nI (s_rule A (X.2 (i + 1)) (X.2 (i + 2)) (X.2 (i + 3)) (X.2 (i + 4))).1), .int (nI (s_rule A (X.2 (i + 1)) (X.2 (i + 2)) (X.2 (i + 3)) (X.2 (i + 4))).1)], H2)) rfl ?_
  refine g_icmp (cd := .eq) (t := 344) true rfl (decide_eq_true rfl) rfl ?_
  refine eGs.steps 1 (y := (346, [some (.ref 0), some (.ref 1), some (.ref 356), some (.ref 374), some (.int (nI i)), some (.int (nI (s_rule A (X.2 (i + 1)) (X.2 (i + 2)) (X.2 (i + 3)) (X.2 (i + 4))).1)), some (.int (s_rule A (X.2 (i + 1)) (X.2 (i + 2)) (X.2 (i + 3)) (X.2 (i + 4))).2.1)], [.int (nI (s_rule A (X.2 (i + 1)) (X.2 (i + 2)) (X.2 (i + 3)) (X.2 (i + 4))).1)], H2)) rfl ?_
  by_cases z : (s_rule A (X.2 (i + 1)) (X.2 (i + 2)) (X.2 (i + 3)) (X.2 (i + 4))).1 = 0
  · refine g_if (cd := .ne) (t := 361) false rfl (decide_eq_false (fun w => w (by rw [z]; rfl))) rfl ?_
    refine eGs.steps 2 (y := (351, [some (.ref 0), some (.ref 1), some (.ref 356), some (.ref 374), some (.int (nI i)), some (.int (nI (s_rule A (X.2 (i + 1)) (X.2 (i + 2)) (X.2 (i + 3)) (X.2 (i + 4))).1)), some (.int (s_rule A (X.2 (i + 1)) (X.2 (i + 2)) (X.2 (i + 3)) (X.2 (i + 4))).2.1)], [.int 0, .ref 374], H2)) rfl ?_
    refine g_lald rfl (by omega) o2 (by decide) ?_
    refine eGs.steps 3 (y := (356, [some (.ref 0), some (.ref 1), some (.ref 356), some (.ref 374), some (.int (nI i)), some (.int (nI (s_rule A (X.2 (i + 1)) (X.2 (i + 2)) (X.2 (i + 3)) (X.2 (i + 4))).1)), some (.int (s_rule A (X.2 (i + 1)) (X.2 (i + 2)) (X.2 (i + 3)) (X.2 (i + 4))).2.1)], [.int (lg_cmp (f' (0 : Int32).toNatClampNeg) (s_rule A (X.2 (i + 1)) (X.2 (i + 2)) (X.2 (i + 3)) (X.2 (i + 4))).2.1.toInt64)], H2)) rfl ?_
    refine g_if (cd := .eq) (t := 361) true rfl (decide_eq_true (q_cmp0.mpr (by rw [show (0 : Int32).toNatClampNeg = 0 by decide]; exact fo z))) rfl ?_
    refine eGs.steps 1 (y := (1022, [some (.ref 0), some (.ref 1), some (.ref 356), some (.ref 374), some (.int (nI i)), some (.int (nI (s_rule A (X.2 (i + 1)) (X.2 (i + 2)) (X.2 (i + 3)) (X.2 (i + 4))).1)), some (.int (s_rule A (X.2 (i + 1)) (X.2 (i + 2)) (X.2 (i + 3)) (X.2 (i + 4))).2.1)], [], H2)) rfl ?_
    refine eGs.weak (lo' := lL i) (by repeat' first | exact trivial | exact rfl | constructor) ?_
    exact q
  · refine g_if (cd := .ne) (t := 361) true rfl (decide_eq_true (nI_ne0 (by omega) (by omega))) rfl ?_
    refine eGs.steps 1 (y := (1022, [some (.ref 0), some (.ref 1), some (.ref 356), some (.ref 374), some (.int (nI i)), some (.int (nI (s_rule A (X.2 (i + 1)) (X.2 (i + 2)) (X.2 (i + 3)) (X.2 (i + 4))).1)), some (.int (s_rule A (X.2 (i + 1)) (X.2 (i + 2)) (X.2 (i + 3)) (X.2 (i + 4))).2.1)], [], H2)) rfl ?_
    refine eGs.weak (lo' := lL i) (by repeat' first | exact trivial | exact rfl | constructor) ?_
    exact q
theorem l_into {X : Nat × (Nat → Int32)} {H : eH} {A : qA} {t i : Nat} (h : LI H A t) (hi : i + 4 < X.1) (hX : X.1 ≤ 2560) : ∃ H' A', LI H' A' (t + 1) ∧ ∀ res, eGs pP X 60 139 (1022, lL i, [], H') res → eGs pP X 60 139 (364, lL i, [], H) res := by
  obtain ⟨hA, ⟨nw, tr, fa, ga, pf, pg, sc⟩, ⟨code, sm⟩, ⟨f, o0⟩, n1, n2, n3⟩ := h
  obtain ⟨H1, nw', tr', fa', ga', pf', pg', f', ev1, sc1, g1, o1, fo, b1, b2, b3⟩ := k_into (X := X) sc hA o0 n1 (X.2 (i + 1)) (X.2 (i + 2)) (X.2 (i + 3))
  have sm1 := SM_fr sm g1
  obtain ⟨H2, ev2, sm2, p2, t2⟩ := m_into (X := X) sm1 hA (X.2 (i + 1)) (X.2 (i + 2)) (X.2 (i + 3))
  have ev3 := m_thrown (X := X) sm2
  have hA' : AI (s_into A (X.2 (i + 1)) (X.2 (i + 2)) (X.2 (i + 3))).2.2 := AI_into hA (X.2 (i + 1)) (X.2 (i + 2)) (X.2 (i + 3))
  have c1 : ∃ fs, H1.1 356 = some (.inr (1, fs)) := by
    obtain ⟨rules, ml, me, mh, mo, mi, mt, ma, mx, cells, found, more, rest, uses, acted, list, listed, begins, many, digits, chosen, length, wanted, letter, opn, c, _⟩ := sm1
    exact ⟨_, c⟩
  obtain ⟨fs_c1, c1⟩ := c1
  have c2 : ∃ fs, H2.1 356 = some (.inr (1, fs)) := by
    obtain ⟨rules, ml, me, mh, mo, mi, mt, ma, mx, cells, found, more, rest, uses, acted, list, listed, begins, many, digits, chosen, length, wanted, letter, opn, c, _⟩ := sm2
    exact ⟨_, c⟩
  obtain ⟨fs_c2, c2⟩ := c2
  have o2 := (t2 374 (by omega)).trans o1
  refine ⟨H2, (s_into A (X.2 (i + 1)) (X.2 (i + 2)) (X.2 (i + 3))).2.2, ⟨hA', ⟨nw', tr', fa', ga', pf', pg', SC_fr sc1 hA' (fun a h1 h2 => t2 a (by omega))⟩, ⟨_, sm2⟩, ⟨f', o2⟩, by rw [p2]; omega, by rw [p2]; omega, by rw [p2]; omega⟩, fun res q => ?_⟩
  refine eGs.steps 5 (y := (370, [some (.ref 0), some (.ref 1), some (.ref 356), some (.ref 374), some (.int (nI i)), none, none], [.int (nI i + nI 1), .ref 0, .ref 1], H)) rfl ?_
  refine g_scr rfl (by omega) hX ?_
  refine eGs.steps 4 (y := (376, [some (.ref 0), some (.ref 1), some (.ref 356), some (.ref 374), some (.int (nI i)), none, none], [.int (nI i + nI 2), .ref 0, .int (X.2 (i + 1)), .ref 1], H)) rfl ?_
  refine g_scr rfl (by omega) hX ?_
  refine eGs.steps 4 (y := (382, [some (.ref 0), some (.ref 1), some (.ref 356), some (.ref 374), some (.int (nI i)), none, none], [.int (nI i + nI 3), .ref 0, .int (X.2 (i + 2)), .int (X.2 (i + 1)), .ref 1], H)) rfl ?_
  refine g_scr rfl (by omega) hX ?_
  refine eGs.steps 0 (y := (383, [some (.ref 0), some (.ref 1), some (.ref 356), some (.ref 374), some (.int (nI i)), none, none], [.int (X.2 (i + 3)), .int (X.2 (i + 2)), .int (X.2 (i + 1)), .ref 1], H)) rfl ?_
  refine g_callS rfl rfl rfl rfl rfl (ev1.mono (by decide)) ?_
  refine eGs.steps 6 (y := (394, [some (.ref 0), some (.ref 1), some (.ref 356), some (.ref 374), some (.int (nI i)), some (.int (nI (s_into A (X.2 (i + 1)) (X.2 (i + 2)) (X.2 (i + 3))).1)), none], [.int (nI i + nI 1), .ref 0, .ref 356], H1)) rfl ?_
  refine g_scr rfl (by omega) hX ?_
  refine eGs.steps 4 (y := (400, [some (.ref 0), some (.ref 1), some (.ref 356), some (.ref 374), some (.int (nI i)), some (.int (nI (s_into A (X.2 (i + 1)) (X.2 (i + 2)) (X.2 (i + 3))).1)), none], [.int (nI i + nI 2), .ref 0, .int (X.2 (i + 1)), .ref 356], H1)) rfl ?_
  refine g_scr rfl (by omega) hX ?_
  refine eGs.steps 4 (y := (406, [some (.ref 0), some (.ref 1), some (.ref 356), some (.ref 374), some (.int (nI i)), some (.int (nI (s_into A (X.2 (i + 1)) (X.2 (i + 2)) (X.2 (i + 3))).1)), none], [.int (nI i + nI 3), .ref 0, .int (X.2 (i + 2)), .int (X.2 (i + 1)), .ref 356], H1)) rfl ?_
  refine g_scr rfl (by omega) hX ?_
  refine eGs.steps 0 (y := (407, [some (.ref 0), some (.ref 1), some (.ref 356), some (.ref 374), some (.int (nI i)), some (.int (nI (s_into A (X.2 (i + 1)) (X.2 (i + 2)) (X.2 (i + 3))).1)), none], [.int (X.2 (i + 3)), .int (X.2 (i + 2)), .int (X.2 (i + 1)), .ref 356], H1)) rfl ?_
  refine g_callV rfl rfl rfl rfl rfl (by omega) c1 rfl (ev2.mono (by decide)) ?_
  refine eGs.steps 1 (y := (411, [some (.ref 0), some (.ref 1), some (.ref 356), some (.ref 374), some (.int (nI i)), some (.int (nI (s_into A (X.2 (i + 1)) (X.2 (i + 2)) (X.2 (i + 3))).1)), none], [.ref 356], H2)) rfl ?_
  refine g_callV rfl rfl rfl rfl rfl (by omega) c2 rfl (ev3.mono (by decide)) ?_
  refine eGs.steps 1 (y := (416, [some (.ref 0), some (.ref 1), some (.ref 356), some (.ref 374), some (.int (nI i)), some (.int (nI (s_into A (X.2 (i + 1)) (X.2 (i + 2)) (X.2 (i + 3))).1)), none], [.int (nI (s_into A (X.2 (i + 1)) (X.2 (i + 2)) (X.2 (i + 3))).1), .int (nI (s_into A (X.2 (i + 1)) (X.2 (i + 2)) (X.2 (i + 3))).1)], H2)) rfl ?_
  refine g_icmp (cd := .eq) (t := 421) true rfl (decide_eq_true rfl) rfl ?_
  refine eGs.steps 1 (y := (1022, [some (.ref 0), some (.ref 1), some (.ref 356), some (.ref 374), some (.int (nI i)), some (.int (nI (s_into A (X.2 (i + 1)) (X.2 (i + 2)) (X.2 (i + 3))).1)), none], [], H2)) rfl ?_
  refine eGs.weak (lo' := lL i) (by repeat' first | exact trivial | exact rfl | constructor) ?_
  exact q
theorem l_dissolve {X : Nat × (Nat → Int32)} {H : eH} {A : qA} {t i : Nat} (h : LI H A t) (hi : i + 4 < X.1) (hX : X.1 ≤ 2560) : ∃ H' A', LI H' A' (t + 1) ∧ ∀ res, eGs pP X 60 139 (1022, lL i, [], H') res → eGs pP X 60 139 (424, lL i, [], H) res := by
  obtain ⟨hA, ⟨nw, tr, fa, ga, pf, pg, sc⟩, ⟨code, sm⟩, ⟨f, o0⟩, n1, n2, n3⟩ := h
  obtain ⟨H1, nw', tr', fa', ga', pf', pg', f', ev1, sc1, g1, o1, fo, b1, b2, b3⟩ := k_dissolve (X := X) sc hA o0 n1 (X.2 (i + 1))
  have sm1 := SM_fr sm g1
  obtain ⟨H2, ev2, sm2, p2, t2⟩ := m_dissolve (X := X) sm1 hA (X.2 (i + 1))
  have ev3 := m_thrown (X := X) sm2
  have hA' : AI (s_dissolve A (X.2 (i + 1))).2.2 := AI_dissolve hA (X.2 (i + 1))
  have c1 : ∃ fs, H1.1 356 = some (.inr (1, fs)) := by
    obtain ⟨rules, ml, me, mh, mo, mi, mt, ma, mx, cells, found, more, rest, uses, acted, list, listed, begins, many, digits, chosen, length, wanted, letter, opn, c, _⟩ := sm1
    exact ⟨_, c⟩
  obtain ⟨fs_c1, c1⟩ := c1
  have c2 : ∃ fs, H2.1 356 = some (.inr (1, fs)) := by
    obtain ⟨rules, ml, me, mh, mo, mi, mt, ma, mx, cells, found, more, rest, uses, acted, list, listed, begins, many, digits, chosen, length, wanted, letter, opn, c, _⟩ := sm2
    exact ⟨_, c⟩
  obtain ⟨fs_c2, c2⟩ := c2
  have o2 := (t2 374 (by omega)).trans o1
  refine ⟨H2, (s_dissolve A (X.2 (i + 1))).2.2, ⟨hA', ⟨nw', tr', fa', ga', pf', pg', SC_fr sc1 hA' (fun a h1 h2 => t2 a (by omega))⟩, ⟨_, sm2⟩, ⟨f', o2⟩, by rw [p2]; omega, by rw [p2]; omega, by rw [p2]; omega⟩, fun res q => ?_⟩
  refine eGs.steps 5 (y := (430, [some (.ref 0), some (.ref 1), some (.ref 356), some (.ref 374), some (.int (nI i)), none, none], [.int (nI i + nI 1), .ref 0, .ref 1], H)) rfl ?_
  refine g_scr rfl (by omega) hX ?_
  refine eGs.steps 0 (y := (431, [some (.ref 0), some (.ref 1), some (.ref 356), some (.ref 374), some (.int (nI i)), none, none], [.int (X.2 (i + 1)), .ref 1], H)) rfl ?_
  refine g_callS rfl rfl rfl rfl rfl (ev1.mono (by decide)) ?_
  refine eGs.steps 6 (y := (442, [some (.ref 0), some (.ref 1), some (.ref 356), some (.ref 374), some (.int (nI i)), some (.int (nI (s_dissolve A (X.2 (i + 1))).1)), none], [.int (nI i + nI 1), .ref 0, .ref 356], H1)) rfl ?_
  refine g_scr rfl (by omega) hX ?_
  refine eGs.steps 0 (y := (443, [some (.ref 0), some (.ref 1), some (.ref 356), some (.ref 374), some (.int (nI i)), some (.int (nI (s_dissolve A (X.2 (i + 1))).1)), none], [.int (X.2 (i + 1)), .ref 356], H1)) rfl ?_
  refine g_callV rfl rfl rfl rfl rfl (by omega) c1 rfl (ev2.mono (by decide)) ?_
  refine eGs.steps 1 (y := (447, [some (.ref 0), some (.ref 1), some (.ref 356), some (.ref 374), some (.int (nI i)), some (.int (nI (s_dissolve A (X.2 (i + 1))).1)), none], [.ref 356], H2)) rfl ?_
  refine g_callV rfl rfl rfl rfl rfl (by omega) c2 rfl (ev3.mono (by decide)) ?_
  refine eGs.steps 1 (y := (452, [some (.ref 0), some (.ref 1), some (.ref 356), some (.ref 374), some (.int (nI i)), some (.int (nI (s_dissolve A (X.2 (i + 1))).1)), none], [.int (nI (s_dissolve A (X.2 (i + 1))).1), .int (nI (s_dissolve A (X.2 (i + 1))).1)], H2)) rfl ?_
  refine g_icmp (cd := .eq) (t := 457) true rfl (decide_eq_true rfl) rfl ?_
  refine eGs.steps 1 (y := (1022, [some (.ref 0), some (.ref 1), some (.ref 356), some (.ref 374), some (.int (nI i)), some (.int (nI (s_dissolve A (X.2 (i + 1))).1)), none], [], H2)) rfl ?_
  refine eGs.weak (lo' := lL i) (by repeat' first | exact trivial | exact rfl | constructor) ?_
  exact q
theorem l_divide {X : Nat × (Nat → Int32)} {H : eH} {A : qA} {t i : Nat} (h : LI H A t) (hi : i + 4 < X.1) (hX : X.1 ≤ 2560) : ∃ H' A', LI H' A' (t + 1) ∧ ∀ res, eGs pP X 60 139 (1022, lL i, [], H') res → eGs pP X 60 139 (460, lL i, [], H) res := by
  obtain ⟨hA, ⟨nw, tr, fa, ga, pf, pg, sc⟩, ⟨code, sm⟩, ⟨f, o0⟩, n1, n2, n3⟩ := h
  obtain ⟨H1, nw', tr', fa', ga', pf', pg', f', ev1, sc1, g1, o1, fo, b1, b2, b3⟩ := k_divide (X := X) sc hA o0 n1 (X.2 (i + 1)) (X.2 (i + 2))
  have sm1 := SM_fr sm g1
  obtain ⟨H2, ev2, sm2, p2, t2⟩ := m_divide (X := X) sm1 hA (X.2 (i + 1)) (X.2 (i + 2))
  have ev3 := m_thrown (X := X) sm2
  have hA' : AI (s_divide A (X.2 (i + 1)) (X.2 (i + 2))).2.2 := AI_divide hA (X.2 (i + 1)) (X.2 (i + 2))
  have c1 : ∃ fs, H1.1 356 = some (.inr (1, fs)) := by
    obtain ⟨rules, ml, me, mh, mo, mi, mt, ma, mx, cells, found, more, rest, uses, acted, list, listed, begins, many, digits, chosen, length, wanted, letter, opn, c, _⟩ := sm1
    exact ⟨_, c⟩
  obtain ⟨fs_c1, c1⟩ := c1
  have c2 : ∃ fs, H2.1 356 = some (.inr (1, fs)) := by
    obtain ⟨rules, ml, me, mh, mo, mi, mt, ma, mx, cells, found, more, rest, uses, acted, list, listed, begins, many, digits, chosen, length, wanted, letter, opn, c, _⟩ := sm2
    exact ⟨_, c⟩
  obtain ⟨fs_c2, c2⟩ := c2
  have o2 := (t2 374 (by omega)).trans o1
  refine ⟨H2, (s_divide A (X.2 (i + 1)) (X.2 (i + 2))).2.2, ⟨hA', ⟨nw', tr', fa', ga', pf', pg', SC_fr sc1 hA' (fun a h1 h2 => t2 a (by omega))⟩, ⟨_, sm2⟩, ⟨f', o2⟩, by rw [p2]; omega, by rw [p2]; omega, by rw [p2]; omega⟩, fun res q => ?_⟩
  refine eGs.steps 5 (y := (466, [some (.ref 0), some (.ref 1), some (.ref 356), some (.ref 374), some (.int (nI i)), none, none], [.int (nI i + nI 1), .ref 0, .ref 1], H)) rfl ?_
  refine g_scr rfl (by omega) hX ?_
  refine eGs.steps 4 (y := (472, [some (.ref 0), some (.ref 1), some (.ref 356), some (.ref 374), some (.int (nI i)), none, none], [.int (nI i + nI 2), .ref 0, .int (X.2 (i + 1)), .ref 1], H)) rfl ?_
  refine g_scr rfl (by omega) hX ?_
  refine eGs.steps 0 (y := (473, [some (.ref 0), some (.ref 1), some (.ref 356), some (.ref 374), some (.int (nI i)), none, none], [.int (X.2 (i + 2)), .int (X.2 (i + 1)), .ref 1], H)) rfl ?_
  refine g_callS rfl rfl rfl rfl rfl (ev1.mono (by decide)) ?_
  refine eGs.steps 6 (y := (484, [some (.ref 0), some (.ref 1), some (.ref 356), some (.ref 374), some (.int (nI i)), some (.int (nI (s_divide A (X.2 (i + 1)) (X.2 (i + 2))).1)), none], [.int (nI i + nI 1), .ref 0, .ref 356], H1)) rfl ?_
  refine g_scr rfl (by omega) hX ?_
  refine eGs.steps 4 (y := (490, [some (.ref 0), some (.ref 1), some (.ref 356), some (.ref 374), some (.int (nI i)), some (.int (nI (s_divide A (X.2 (i + 1)) (X.2 (i + 2))).1)), none], [.int (nI i + nI 2), .ref 0, .int (X.2 (i + 1)), .ref 356], H1)) rfl ?_
  refine g_scr rfl (by omega) hX ?_
  refine eGs.steps 0 (y := (491, [some (.ref 0), some (.ref 1), some (.ref 356), some (.ref 374), some (.int (nI i)), some (.int (nI (s_divide A (X.2 (i + 1)) (X.2 (i + 2))).1)), none], [.int (X.2 (i + 2)), .int (X.2 (i + 1)), .ref 356], H1)) rfl ?_
  refine g_callV rfl rfl rfl rfl rfl (by omega) c1 rfl (ev2.mono (by decide)) ?_
  refine eGs.steps 1 (y := (495, [some (.ref 0), some (.ref 1), some (.ref 356), some (.ref 374), some (.int (nI i)), some (.int (nI (s_divide A (X.2 (i + 1)) (X.2 (i + 2))).1)), none], [.ref 356], H2)) rfl ?_
  refine g_callV rfl rfl rfl rfl rfl (by omega) c2 rfl (ev3.mono (by decide)) ?_
  refine eGs.steps 1 (y := (500, [some (.ref 0), some (.ref 1), some (.ref 356), some (.ref 374), some (.int (nI i)), some (.int (nI (s_divide A (X.2 (i + 1)) (X.2 (i + 2))).1)), none], [.int (nI (s_divide A (X.2 (i + 1)) (X.2 (i + 2))).1), .int (nI (s_divide A (X.2 (i + 1)) (X.2 (i + 2))).1)], H2)) rfl ?_
  refine g_icmp (cd := .eq) (t := 505) true rfl (decide_eq_true rfl) rfl ?_
  refine eGs.steps 1 (y := (1022, [some (.ref 0), some (.ref 1), some (.ref 356), some (.ref 374), some (.int (nI i)), some (.int (nI (s_divide A (X.2 (i + 1)) (X.2 (i + 2))).1)), none], [], H2)) rfl ?_
  refine eGs.weak (lo' := lL i) (by repeat' first | exact trivial | exact rfl | constructor) ?_
  exact q
theorem l_round {X : Nat × (Nat → Int32)} {H : eH} {A : qA} {t i : Nat} (h : LI H A t) (hi : i + 4 < X.1) (hX : X.1 ≤ 2560) : ∃ H' A', LI H' A' (t + 1) ∧ ∀ res, eGs pP X 60 139 (1022, lL i, [], H') res → eGs pP X 60 139 (508, lL i, [], H) res := by
  obtain ⟨hA, ⟨nw, tr, fa, ga, pf, pg, sc⟩, ⟨code, sm⟩, ⟨f, o0⟩, n1, n2, n3⟩ := h
  obtain ⟨H1, nw', tr', fa', ga', pf', pg', f', ev1, sc1, g1, o1, fo, b1, b2, b3⟩ := k_round (X := X) sc hA o0 n1
  have sm1 := SM_fr sm g1
  obtain ⟨H2, ev2, sm2, p2, t2⟩ := m_round (X := X) sm1 hA
  have ev3 := m_thrown (X := X) sm2
  have hA' : AI (s_round A).2.2 := AI_round hA
  have c1 : ∃ fs, H1.1 356 = some (.inr (1, fs)) := by
    obtain ⟨rules, ml, me, mh, mo, mi, mt, ma, mx, cells, found, more, rest, uses, acted, list, listed, begins, many, digits, chosen, length, wanted, letter, opn, c, _⟩ := sm1
    exact ⟨_, c⟩
  obtain ⟨fs_c1, c1⟩ := c1
  have c2 : ∃ fs, H2.1 356 = some (.inr (1, fs)) := by
    obtain ⟨rules, ml, me, mh, mo, mi, mt, ma, mx, cells, found, more, rest, uses, acted, list, listed, begins, many, digits, chosen, length, wanted, letter, opn, c, _⟩ := sm2
    exact ⟨_, c⟩
  obtain ⟨fs_c2, c2⟩ := c2
  have o2 := (t2 374 (by omega)).trans o1
  have cd : (s_round A).1 ≤ 3 := by
    unfold s_round
    repeat' split
    all_goals first | exact (show 0 ≤ 3 by decide) | exact (show 1 ≤ 3 by decide) | exact (show 2 ≤ 3 by decide) | exact (show 3 ≤ 3 by decide)
  refine ⟨H2, (s_round A).2.2, ⟨hA', ⟨nw', tr', fa', ga', pf', pg', SC_fr sc1 hA' (fun a h1 h2 => t2 a (by omega))⟩, ⟨_, sm2⟩, ⟨f', o2⟩, by rw [p2]; omega, by rw [p2]; omega, by rw [p2]; omega⟩, fun res q => ?_⟩
  refine eGs.steps 2 (y := (510, [some (.ref 0), some (.ref 1), some (.ref 356), some (.ref 374), some (.int (nI i)), none, none], [.ref 374, .ref 1], H)) rfl ?_
  refine g_callS rfl rfl rfl rfl rfl (ev1.mono (by decide)) ?_
  refine eGs.steps 2 (y := (516, [some (.ref 0), some (.ref 1), some (.ref 356), some (.ref 374), some (.int (nI i)), some (.int (nI (s_round A).1)), none], [.ref 356], H1)) rfl ?_
  refine g_callV rfl rfl rfl rfl rfl (by omega) c1 rfl (ev2.mono (by decide)) ?_
  refine eGs.steps 2 (y := (522, [some (.ref 0), some (.ref 1), some (.ref 356), some (.ref 374), some (.int (nI i)), some (.int (nI (s_round A).1)), some (.int (s_round A).2.1)], [.ref 356], H2)) rfl ?_
  refine g_callV rfl rfl rfl rfl rfl (by omega) c2 rfl (ev3.mono (by decide)) ?_
  refine eGs.steps 1 (y := (527, [some (.ref 0), some (.ref 1), some (.ref 356), some (.ref 374), some (.int (nI i)), some (.int (nI (s_round A).1)), some (.int (s_round A).2.1)], [.int (nI (s_round A).1), .int (nI (s_round A).1)], H2)) rfl ?_
  refine g_icmp (cd := .eq) (t := 532) true rfl (decide_eq_true rfl) rfl ?_
  refine eGs.steps 1 (y := (534, [some (.ref 0), some (.ref 1), some (.ref 356), some (.ref 374), some (.int (nI i)), some (.int (nI (s_round A).1)), some (.int (s_round A).2.1)], [.int (nI (s_round A).1)], H2)) rfl ?_
  by_cases z : (s_round A).1 = 0
  · refine g_if (cd := .ne) (t := 549) false rfl (decide_eq_false (fun w => w (by rw [z]; rfl))) rfl ?_
    refine eGs.steps 2 (y := (539, [some (.ref 0), some (.ref 1), some (.ref 356), some (.ref 374), some (.int (nI i)), some (.int (nI (s_round A).1)), some (.int (s_round A).2.1)], [.int 0, .ref 374], H2)) rfl ?_
    refine g_lald rfl (by omega) o2 (by decide) ?_
    refine eGs.steps 3 (y := (544, [some (.ref 0), some (.ref 1), some (.ref 356), some (.ref 374), some (.int (nI i)), some (.int (nI (s_round A).1)), some (.int (s_round A).2.1)], [.int (lg_cmp (f' (0 : Int32).toNatClampNeg) (s_round A).2.1.toInt64)], H2)) rfl ?_
    refine g_if (cd := .eq) (t := 549) true rfl (decide_eq_true (q_cmp0.mpr (by rw [show (0 : Int32).toNatClampNeg = 0 by decide]; exact fo z))) rfl ?_
    refine eGs.steps 1 (y := (1022, [some (.ref 0), some (.ref 1), some (.ref 356), some (.ref 374), some (.int (nI i)), some (.int (nI (s_round A).1)), some (.int (s_round A).2.1)], [], H2)) rfl ?_
    refine eGs.weak (lo' := lL i) (by repeat' first | exact trivial | exact rfl | constructor) ?_
    exact q
  · refine g_if (cd := .ne) (t := 549) true rfl (decide_eq_true (nI_ne0 (by omega) (by omega))) rfl ?_
    refine eGs.steps 1 (y := (1022, [some (.ref 0), some (.ref 1), some (.ref 356), some (.ref 374), some (.int (nI i)), some (.int (nI (s_round A).1)), some (.int (s_round A).2.1)], [], H2)) rfl ?_
    refine eGs.weak (lo' := lL i) (by repeat' first | exact trivial | exact rfl | constructor) ?_
    exact q
theorem l_uses {X : Nat × (Nat → Int32)} {H : eH} {A : qA} {t i : Nat} (h : LI H A t) (hi : i + 4 < X.1) (hX : X.1 ≤ 2560) : ∃ H' A', LI H' A' (t + 1) ∧ ∀ res, eGs pP X 60 139 (1022, lL i, [], H') res → eGs pP X 60 139 (552, lL i, [], H) res := by
  obtain ⟨hA, ⟨nw, tr, fa, ga, pf, pg, sc⟩, ⟨code, sm⟩, ⟨f, o0⟩, n1, n2, n3⟩ := h
  obtain ⟨H1, nw', tr', fa', ga', pf', pg', f', ev1, sc1, g1, o1, fo, b1, b2, b3⟩ := k_uses (X := X) sc hA o0 n1 (X.2 (i + 1)) (X.2 (i + 2))
  have sm1 := SM_fr sm g1
  obtain ⟨H2, ev2, sm2, p2, t2⟩ := m_uses (X := X) sm1 hA (X.2 (i + 1)) (X.2 (i + 2))
  have ev3 := m_thrown (X := X) sm2
  have hA' : AI A := hA
  have c1 : ∃ fs, H1.1 356 = some (.inr (1, fs)) := by
    obtain ⟨rules, ml, me, mh, mo, mi, mt, ma, mx, cells, found, more, rest, uses, acted, list, listed, begins, many, digits, chosen, length, wanted, letter, opn, c, _⟩ := sm1
    exact ⟨_, c⟩
  obtain ⟨fs_c1, c1⟩ := c1
  have c2 : ∃ fs, H2.1 356 = some (.inr (1, fs)) := by
    obtain ⟨rules, ml, me, mh, mo, mi, mt, ma, mx, cells, found, more, rest, uses, acted, list, listed, begins, many, digits, chosen, length, wanted, letter, opn, c, _⟩ := sm2
    exact ⟨_, c⟩
  obtain ⟨fs_c2, c2⟩ := c2
  have o2 := (t2 374 (by omega)).trans o1
  have cd : (s_uses A (X.2 (i + 1)) (X.2 (i + 2))).1 ≤ 3 := by
    unfold s_uses
    repeat' split
    all_goals first | exact (show 0 ≤ 3 by decide) | exact (show 1 ≤ 3 by decide) | exact (show 2 ≤ 3 by decide) | exact (show 3 ≤ 3 by decide)
  refine ⟨H2, A, ⟨hA', ⟨nw', tr', fa', ga', pf', pg', SC_fr sc1 hA' (fun a h1 h2 => t2 a (by omega))⟩, ⟨_, sm2⟩, ⟨f', o2⟩, by rw [p2]; omega, by rw [p2]; omega, by rw [p2]; omega⟩, fun res q => ?_⟩
  refine eGs.steps 5 (y := (558, [some (.ref 0), some (.ref 1), some (.ref 356), some (.ref 374), some (.int (nI i)), none, none], [.int (nI i + nI 1), .ref 0, .ref 1], H)) rfl ?_
  refine g_scr rfl (by omega) hX ?_
  refine eGs.steps 4 (y := (564, [some (.ref 0), some (.ref 1), some (.ref 356), some (.ref 374), some (.int (nI i)), none, none], [.int (nI i + nI 2), .ref 0, .int (X.2 (i + 1)), .ref 1], H)) rfl ?_
  refine g_scr rfl (by omega) hX ?_
  refine eGs.steps 1 (y := (566, [some (.ref 0), some (.ref 1), some (.ref 356), some (.ref 374), some (.int (nI i)), none, none], [.ref 374, .int (X.2 (i + 2)), .int (X.2 (i + 1)), .ref 1], H)) rfl ?_
  refine g_callS rfl rfl rfl rfl rfl (ev1.mono (by decide)) ?_
  refine eGs.steps 6 (y := (577, [some (.ref 0), some (.ref 1), some (.ref 356), some (.ref 374), some (.int (nI i)), some (.int (nI (s_uses A (X.2 (i + 1)) (X.2 (i + 2))).1)), none], [.int (nI i + nI 1), .ref 0, .ref 356], H1)) rfl ?_
  refine g_scr rfl (by omega) hX ?_
  refine eGs.steps 4 (y := (583, [some (.ref 0), some (.ref 1), some (.ref 356), some (.ref 374), some (.int (nI i)), some (.int (nI (s_uses A (X.2 (i + 1)) (X.2 (i + 2))).1)), none], [.int (nI i + nI 2), .ref 0, .int (X.2 (i + 1)), .ref 356], H1)) rfl ?_
  refine g_scr rfl (by omega) hX ?_
  refine eGs.steps 0 (y := (584, [some (.ref 0), some (.ref 1), some (.ref 356), some (.ref 374), some (.int (nI i)), some (.int (nI (s_uses A (X.2 (i + 1)) (X.2 (i + 2))).1)), none], [.int (X.2 (i + 2)), .int (X.2 (i + 1)), .ref 356], H1)) rfl ?_
  refine g_callV rfl rfl rfl rfl rfl (by omega) c1 rfl (ev2.mono (by decide)) ?_
  refine eGs.steps 2 (y := (590, [some (.ref 0), some (.ref 1), some (.ref 356), some (.ref 374), some (.int (nI i)), some (.int (nI (s_uses A (X.2 (i + 1)) (X.2 (i + 2))).1)), some (.int (s_uses A (X.2 (i + 1)) (X.2 (i + 2))).2.1)], [.ref 356], H2)) rfl ?_
  refine g_callV rfl rfl rfl rfl rfl (by omega) c2 rfl (ev3.mono (by decide)) ?_
  refine eGs.steps 1 (y := (595, [some (.ref 0), some (.ref 1), some (.ref 356), some (.ref 374), some (.int (nI i)), some (.int (nI (s_uses A (X.2 (i + 1)) (X.2 (i + 2))).1)), some (.int (s_uses A (X.2 (i + 1)) (X.2 (i + 2))).2.1)], [.int (nI (s_uses A (X.2 (i + 1)) (X.2 (i + 2))).1), .int (nI (s_uses A (X.2 (i + 1)) (X.2 (i + 2))).1)], H2)) rfl ?_
  refine g_icmp (cd := .eq) (t := 600) true rfl (decide_eq_true rfl) rfl ?_
  refine eGs.steps 1 (y := (602, [some (.ref 0), some (.ref 1), some (.ref 356), some (.ref 374), some (.int (nI i)), some (.int (nI (s_uses A (X.2 (i + 1)) (X.2 (i + 2))).1)), some (.int (s_uses A (X.2 (i + 1)) (X.2 (i + 2))).2.1)], [.int (nI (s_uses A (X.2 (i + 1)) (X.2 (i + 2))).1)], H2)) rfl ?_
  by_cases z : (s_uses A (X.2 (i + 1)) (X.2 (i + 2))).1 = 0
  · refine g_if (cd := .ne) (t := 617) false rfl (decide_eq_false (fun w => w (by rw [z]; rfl))) rfl ?_
    refine eGs.steps 2 (y := (607, [some (.ref 0), some (.ref 1), some (.ref 356), some (.ref 374), some (.int (nI i)), some (.int (nI (s_uses A (X.2 (i + 1)) (X.2 (i + 2))).1)), some (.int (s_uses A (X.2 (i + 1)) (X.2 (i + 2))).2.1)], [.int 0, .ref 374], H2)) rfl ?_
    refine g_lald rfl (by omega) o2 (by decide) ?_
    refine eGs.steps 3 (y := (612, [some (.ref 0), some (.ref 1), some (.ref 356), some (.ref 374), some (.int (nI i)), some (.int (nI (s_uses A (X.2 (i + 1)) (X.2 (i + 2))).1)), some (.int (s_uses A (X.2 (i + 1)) (X.2 (i + 2))).2.1)], [.int (lg_cmp (f' (0 : Int32).toNatClampNeg) (s_uses A (X.2 (i + 1)) (X.2 (i + 2))).2.1.toInt64)], H2)) rfl ?_
    refine g_if (cd := .eq) (t := 617) true rfl (decide_eq_true (q_cmp0.mpr (by rw [show (0 : Int32).toNatClampNeg = 0 by decide]; exact fo z))) rfl ?_
    refine eGs.steps 1 (y := (1022, [some (.ref 0), some (.ref 1), some (.ref 356), some (.ref 374), some (.int (nI i)), some (.int (nI (s_uses A (X.2 (i + 1)) (X.2 (i + 2))).1)), some (.int (s_uses A (X.2 (i + 1)) (X.2 (i + 2))).2.1)], [], H2)) rfl ?_
    refine eGs.weak (lo' := lL i) (by repeat' first | exact trivial | exact rfl | constructor) ?_
    exact q
  · refine g_if (cd := .ne) (t := 617) true rfl (decide_eq_true (nI_ne0 (by omega) (by omega))) rfl ?_
    refine eGs.steps 1 (y := (1022, [some (.ref 0), some (.ref 1), some (.ref 356), some (.ref 374), some (.int (nI i)), some (.int (nI (s_uses A (X.2 (i + 1)) (X.2 (i + 2))).1)), some (.int (s_uses A (X.2 (i + 1)) (X.2 (i + 2))).2.1)], [], H2)) rfl ?_
    refine eGs.weak (lo' := lL i) (by repeat' first | exact trivial | exact rfl | constructor) ?_
    exact q
theorem l_choices {X : Nat × (Nat → Int32)} {H : eH} {A : qA} {t i : Nat} (h : LI H A t) (hi : i + 4 < X.1) (hX : X.1 ≤ 2560) : ∃ H' A', LI H' A' (t + 1) ∧ ∀ res, eGs pP X 60 139 (1022, lL i, [], H') res → eGs pP X 60 139 (620, lL i, [], H) res := by
  obtain ⟨hA, ⟨nw, tr, fa, ga, pf, pg, sc⟩, ⟨code, sm⟩, ⟨f, o0⟩, n1, n2, n3⟩ := h
  obtain ⟨H1, nw', tr', fa', ga', pf', pg', f', ev1, sc1, g1, o1, fo, b1, b2, b3⟩ := k_choices (X := X) sc hA o0 n1 (X.2 (i + 1))
  have sm1 := SM_fr sm g1
  obtain ⟨H2, ev2, sm2, p2, t2⟩ := m_choices (X := X) sm1 hA (X.2 (i + 1))
  have ev3 := m_thrown (X := X) sm2
  have hA' : AI A := hA
  have c1 : ∃ fs, H1.1 356 = some (.inr (1, fs)) := by
    obtain ⟨rules, ml, me, mh, mo, mi, mt, ma, mx, cells, found, more, rest, uses, acted, list, listed, begins, many, digits, chosen, length, wanted, letter, opn, c, _⟩ := sm1
    exact ⟨_, c⟩
  obtain ⟨fs_c1, c1⟩ := c1
  have c2 : ∃ fs, H2.1 356 = some (.inr (1, fs)) := by
    obtain ⟨rules, ml, me, mh, mo, mi, mt, ma, mx, cells, found, more, rest, uses, acted, list, listed, begins, many, digits, chosen, length, wanted, letter, opn, c, _⟩ := sm2
    exact ⟨_, c⟩
  obtain ⟨fs_c2, c2⟩ := c2
  have o2 := (t2 374 (by omega)).trans o1
  have cd : (s_choices A (X.2 (i + 1))).1 ≤ 3 := by
    unfold s_choices
    repeat' split
    all_goals first | exact (show 0 ≤ 3 by decide) | exact (show 1 ≤ 3 by decide) | exact (show 2 ≤ 3 by decide) | exact (show 3 ≤ 3 by decide)
  refine ⟨H2, A, ⟨hA', ⟨nw', tr', fa', ga', pf', pg', SC_fr sc1 hA' (fun a h1 h2 => t2 a (by omega))⟩, ⟨_, sm2⟩, ⟨f', o2⟩, by rw [p2]; omega, by rw [p2]; omega, by rw [p2]; omega⟩, fun res q => ?_⟩
  refine eGs.steps 5 (y := (626, [some (.ref 0), some (.ref 1), some (.ref 356), some (.ref 374), some (.int (nI i)), none, none], [.int (nI i + nI 1), .ref 0, .ref 1], H)) rfl ?_
  refine g_scr rfl (by omega) hX ?_
  refine eGs.steps 1 (y := (628, [some (.ref 0), some (.ref 1), some (.ref 356), some (.ref 374), some (.int (nI i)), none, none], [.ref 374, .int (X.2 (i + 1)), .ref 1], H)) rfl ?_
  refine g_callS rfl rfl rfl rfl rfl (ev1.mono (by decide)) ?_
  refine eGs.steps 6 (y := (639, [some (.ref 0), some (.ref 1), some (.ref 356), some (.ref 374), some (.int (nI i)), some (.int (nI (s_choices A (X.2 (i + 1))).1)), none], [.int (nI i + nI 1), .ref 0, .ref 356], H1)) rfl ?_
  refine g_scr rfl (by omega) hX ?_
  refine eGs.steps 0 (y := (640, [some (.ref 0), some (.ref 1), some (.ref 356), some (.ref 374), some (.int (nI i)), some (.int (nI (s_choices A (X.2 (i + 1))).1)), none], [.int (X.2 (i + 1)), .ref 356], H1)) rfl ?_
  refine g_callV rfl rfl rfl rfl rfl (by omega) c1 rfl (ev2.mono (by decide)) ?_
  refine eGs.steps 2 (y := (646, [some (.ref 0), some (.ref 1), some (.ref 356), some (.ref 374), some (.int (nI i)), some (.int (nI (s_choices A (X.2 (i + 1))).1)), some (.int (s_choices A (X.2 (i + 1))).2.1)], [.ref 356], H2)) rfl ?_
  refine g_callV rfl rfl rfl rfl rfl (by omega) c2 rfl (ev3.mono (by decide)) ?_
  refine eGs.steps 1 (y := (651, [some (.ref 0), some (.ref 1), some (.ref 356), some (.ref 374), some (.int (nI i)), some (.int (nI (s_choices A (X.2 (i + 1))).1)), some (.int (s_choices A (X.2 (i + 1))).2.1)], [.int (nI (s_choices A (X.2 (i + 1))).1), .int (nI (s_choices A (X.2 (i + 1))).1)], H2)) rfl ?_
  refine g_icmp (cd := .eq) (t := 656) true rfl (decide_eq_true rfl) rfl ?_
  refine eGs.steps 1 (y := (658, [some (.ref 0), some (.ref 1), some (.ref 356), some (.ref 374), some (.int (nI i)), some (.int (nI (s_choices A (X.2 (i + 1))).1)), some (.int (s_choices A (X.2 (i + 1))).2.1)], [.int (nI (s_choices A (X.2 (i + 1))).1)], H2)) rfl ?_
  by_cases z : (s_choices A (X.2 (i + 1))).1 = 0
  · refine g_if (cd := .ne) (t := 673) false rfl (decide_eq_false (fun w => w (by rw [z]; rfl))) rfl ?_
    refine eGs.steps 2 (y := (663, [some (.ref 0), some (.ref 1), some (.ref 356), some (.ref 374), some (.int (nI i)), some (.int (nI (s_choices A (X.2 (i + 1))).1)), some (.int (s_choices A (X.2 (i + 1))).2.1)], [.int 0, .ref 374], H2)) rfl ?_
    refine g_lald rfl (by omega) o2 (by decide) ?_
    refine eGs.steps 3 (y := (668, [some (.ref 0), some (.ref 1), some (.ref 356), some (.ref 374), some (.int (nI i)), some (.int (nI (s_choices A (X.2 (i + 1))).1)), some (.int (s_choices A (X.2 (i + 1))).2.1)], [.int (lg_cmp (f' (0 : Int32).toNatClampNeg) (s_choices A (X.2 (i + 1))).2.1.toInt64)], H2)) rfl ?_
    refine g_if (cd := .eq) (t := 673) true rfl (decide_eq_true (q_cmp0.mpr (by rw [show (0 : Int32).toNatClampNeg = 0 by decide]; exact fo z))) rfl ?_
    refine eGs.steps 1 (y := (1022, [some (.ref 0), some (.ref 1), some (.ref 356), some (.ref 374), some (.int (nI i)), some (.int (nI (s_choices A (X.2 (i + 1))).1)), some (.int (s_choices A (X.2 (i + 1))).2.1)], [], H2)) rfl ?_
    refine eGs.weak (lo' := lL i) (by repeat' first | exact trivial | exact rfl | constructor) ?_
    exact q
  · refine g_if (cd := .ne) (t := 673) true rfl (decide_eq_true (nI_ne0 (by omega) (by omega))) rfl ?_
    refine eGs.steps 1 (y := (1022, [some (.ref 0), some (.ref 1), some (.ref 356), some (.ref 374), some (.int (nI i)), some (.int (nI (s_choices A (X.2 (i + 1))).1)), some (.int (s_choices A (X.2 (i + 1))).2.1)], [], H2)) rfl ?_
    refine eGs.weak (lo' := lL i) (by repeat' first | exact trivial | exact rfl | constructor) ?_
    exact q
theorem l_at {X : Nat × (Nat → Int32)} {H : eH} {A : qA} {t i : Nat} (h : LI H A t) (hi : i + 4 < X.1) (hX : X.1 ≤ 2560) : ∃ H' A', LI H' A' (t + 1) ∧ ∀ res, eGs pP X 60 139 (1022, lL i, [], H') res → eGs pP X 60 139 (676, lL i, [], H) res := by
  obtain ⟨hA, ⟨nw, tr, fa, ga, pf, pg, sc⟩, ⟨code, sm⟩, ⟨f, o0⟩, n1, n2, n3⟩ := h
  obtain ⟨H1, nw', tr', fa', ga', pf', pg', f', ev1, sc1, g1, o1, fo, b1, b2, b3⟩ := k_at (X := X) sc hA o0 n1 (X.2 (i + 1)) (X.2 (i + 2))
  have sm1 := SM_fr sm g1
  obtain ⟨H2, ev2, sm2, p2, t2⟩ := m_at (X := X) sm1 hA (X.2 (i + 1)) (X.2 (i + 2))
  have ev3 := m_thrown (X := X) sm2
  have hA' : AI A := hA
  have c1 : ∃ fs, H1.1 356 = some (.inr (1, fs)) := by
    obtain ⟨rules, ml, me, mh, mo, mi, mt, ma, mx, cells, found, more, rest, uses, acted, list, listed, begins, many, digits, chosen, length, wanted, letter, opn, c, _⟩ := sm1
    exact ⟨_, c⟩
  obtain ⟨fs_c1, c1⟩ := c1
  have c2 : ∃ fs, H2.1 356 = some (.inr (1, fs)) := by
    obtain ⟨rules, ml, me, mh, mo, mi, mt, ma, mx, cells, found, more, rest, uses, acted, list, listed, begins, many, digits, chosen, length, wanted, letter, opn, c, _⟩ := sm2
    exact ⟨_, c⟩
  obtain ⟨fs_c2, c2⟩ := c2
  have o2 := (t2 374 (by omega)).trans o1
  have cd : (s_at A (X.2 (i + 1)) (X.2 (i + 2))).1 ≤ 3 := by
    unfold s_at
    repeat' split
    all_goals first | exact (show 0 ≤ 3 by decide) | exact (show 1 ≤ 3 by decide) | exact (show 2 ≤ 3 by decide) | exact (show 3 ≤ 3 by decide)
  refine ⟨H2, A, ⟨hA', ⟨nw', tr', fa', ga', pf', pg', SC_fr sc1 hA' (fun a h1 h2 => t2 a (by omega))⟩, ⟨_, sm2⟩, ⟨f', o2⟩, by rw [p2]; omega, by rw [p2]; omega, by rw [p2]; omega⟩, fun res q => ?_⟩
  refine eGs.steps 5 (y := (682, [some (.ref 0), some (.ref 1), some (.ref 356), some (.ref 374), some (.int (nI i)), none, none], [.int (nI i + nI 1), .ref 0, .ref 1], H)) rfl ?_
  refine g_scr rfl (by omega) hX ?_
  refine eGs.steps 4 (y := (688, [some (.ref 0), some (.ref 1), some (.ref 356), some (.ref 374), some (.int (nI i)), none, none], [.int (nI i + nI 2), .ref 0, .int (X.2 (i + 1)), .ref 1], H)) rfl ?_
  refine g_scr rfl (by omega) hX ?_
  refine eGs.steps 1 (y := (690, [some (.ref 0), some (.ref 1), some (.ref 356), some (.ref 374), some (.int (nI i)), none, none], [.ref 374, .int (X.2 (i + 2)), .int (X.2 (i + 1)), .ref 1], H)) rfl ?_
  refine g_callS rfl rfl rfl rfl rfl (ev1.mono (by decide)) ?_
  refine eGs.steps 6 (y := (701, [some (.ref 0), some (.ref 1), some (.ref 356), some (.ref 374), some (.int (nI i)), some (.int (nI (s_at A (X.2 (i + 1)) (X.2 (i + 2))).1)), none], [.int (nI i + nI 1), .ref 0, .ref 356], H1)) rfl ?_
  refine g_scr rfl (by omega) hX ?_
  refine eGs.steps 4 (y := (707, [some (.ref 0), some (.ref 1), some (.ref 356), some (.ref 374), some (.int (nI i)), some (.int (nI (s_at A (X.2 (i + 1)) (X.2 (i + 2))).1)), none], [.int (nI i + nI 2), .ref 0, .int (X.2 (i + 1)), .ref 356], H1)) rfl ?_
  refine g_scr rfl (by omega) hX ?_
  refine eGs.steps 0 (y := (708, [some (.ref 0), some (.ref 1), some (.ref 356), some (.ref 374), some (.int (nI i)), some (.int (nI (s_at A (X.2 (i + 1)) (X.2 (i + 2))).1)), none], [.int (X.2 (i + 2)), .int (X.2 (i + 1)), .ref 356], H1)) rfl ?_
  refine g_callV rfl rfl rfl rfl rfl (by omega) c1 rfl (ev2.mono (by decide)) ?_
  refine eGs.steps 2 (y := (714, [some (.ref 0), some (.ref 1), some (.ref 356), some (.ref 374), some (.int (nI i)), some (.int (nI (s_at A (X.2 (i + 1)) (X.2 (i + 2))).1)), some (.int (s_at A (X.2 (i + 1)) (X.2 (i + 2))).2.1)], [.ref 356], H2)) rfl ?_
  refine g_callV rfl rfl rfl rfl rfl (by omega) c2 rfl (ev3.mono (by decide)) ?_
  refine eGs.steps 1 (y := (719, [some (.ref 0), some (.ref 1), some (.ref 356), some (.ref 374), some (.int (nI i)), some (.int (nI (s_at A (X.2 (i + 1)) (X.2 (i + 2))).1)), some (.int (s_at A (X.2 (i + 1)) (X.2 (i + 2))).2.1)], [.int (nI (s_at A (X.2 (i + 1)) (X.2 (i + 2))).1), .int (nI (s_at A (X.2 (i + 1)) (X.2 (i + 2))).1)], H2)) rfl ?_
  refine g_icmp (cd := .eq) (t := 724) true rfl (decide_eq_true rfl) rfl ?_
  refine eGs.steps 1 (y := (726, [some (.ref 0), some (.ref 1), some (.ref 356), some (.ref 374), some (.int (nI i)), some (.int (nI (s_at A (X.2 (i + 1)) (X.2 (i + 2))).1)), some (.int (s_at A (X.2 (i + 1)) (X.2 (i + 2))).2.1)], [.int (nI (s_at A (X.2 (i + 1)) (X.2 (i + 2))).1)], H2)) rfl ?_
  by_cases z : (s_at A (X.2 (i + 1)) (X.2 (i + 2))).1 = 0
  · refine g_if (cd := .ne) (t := 741) false rfl (decide_eq_false (fun w => w (by rw [z]; rfl))) rfl ?_
    refine eGs.steps 2 (y := (731, [some (.ref 0), some (.ref 1), some (.ref 356), some (.ref 374), some (.int (nI i)), some (.int (nI (s_at A (X.2 (i + 1)) (X.2 (i + 2))).1)), some (.int (s_at A (X.2 (i + 1)) (X.2 (i + 2))).2.1)], [.int 0, .ref 374], H2)) rfl ?_
    refine g_lald rfl (by omega) o2 (by decide) ?_
    refine eGs.steps 3 (y := (736, [some (.ref 0), some (.ref 1), some (.ref 356), some (.ref 374), some (.int (nI i)), some (.int (nI (s_at A (X.2 (i + 1)) (X.2 (i + 2))).1)), some (.int (s_at A (X.2 (i + 1)) (X.2 (i + 2))).2.1)], [.int (lg_cmp (f' (0 : Int32).toNatClampNeg) (s_at A (X.2 (i + 1)) (X.2 (i + 2))).2.1.toInt64)], H2)) rfl ?_
    refine g_if (cd := .eq) (t := 741) true rfl (decide_eq_true (q_cmp0.mpr (by rw [show (0 : Int32).toNatClampNeg = 0 by decide]; exact fo z))) rfl ?_
    refine eGs.steps 1 (y := (1022, [some (.ref 0), some (.ref 1), some (.ref 356), some (.ref 374), some (.int (nI i)), some (.int (nI (s_at A (X.2 (i + 1)) (X.2 (i + 2))).1)), some (.int (s_at A (X.2 (i + 1)) (X.2 (i + 2))).2.1)], [], H2)) rfl ?_
    refine eGs.weak (lo' := lL i) (by repeat' first | exact trivial | exact rfl | constructor) ?_
    exact q
  · refine g_if (cd := .ne) (t := 741) true rfl (decide_eq_true (nI_ne0 (by omega) (by omega))) rfl ?_
    refine eGs.steps 1 (y := (1022, [some (.ref 0), some (.ref 1), some (.ref 356), some (.ref 374), some (.int (nI i)), some (.int (nI (s_at A (X.2 (i + 1)) (X.2 (i + 2))).1)), some (.int (s_at A (X.2 (i + 1)) (X.2 (i + 2))).2.1)], [], H2)) rfl ?_
    refine eGs.weak (lo' := lL i) (by repeat' first | exact trivial | exact rfl | constructor) ?_
    exact q
theorem l_there {X : Nat × (Nat → Int32)} {H : eH} {A : qA} {t i : Nat} (h : LI H A t) (hi : i + 4 < X.1) (hX : X.1 ≤ 2560) : ∃ H' A', LI H' A' (t + 1) ∧ ∀ res, eGs pP X 60 139 (1022, lL i, [], H') res → eGs pP X 60 139 (744, lL i, [], H) res := by
  obtain ⟨hA, ⟨nw, tr, fa, ga, pf, pg, sc⟩, ⟨code, sm⟩, ⟨f, o0⟩, n1, n2, n3⟩ := h
  have ev1 := x_there (X := X) sc (X.2 (i + 1))
  have sc1 := sc
  have g1 : ag H H 356 374 := ag_id
  have o1 := o0
  have cx := sc.1.1
  have sm1 := SM_fr sm g1
  obtain ⟨H2, ev2, sm2, p2, t2⟩ := m_there (X := X) sm1 hA (X.2 (i + 1))
  have c1 : ∃ fs, H.1 356 = some (.inr (1, fs)) := by
    obtain ⟨rules, ml, me, mh, mo, mi, mt, ma, mx, cells, found, more, rest, uses, acted, list, listed, begins, many, digits, chosen, length, wanted, letter, opn, c, _⟩ := sm1
    exact ⟨_, c⟩
  obtain ⟨fs1, c1⟩ := c1
  refine ⟨H2, A, ⟨hA, ⟨nw, tr, fa, ga, pf, pg, SC_fr sc1 hA (fun a h1 h2 => t2 a (by omega))⟩, ⟨_, sm2⟩, ⟨f, (t2 374 (by omega)).trans o1⟩, by rw [p2]; omega, by rw [p2]; omega, by rw [p2]; omega⟩, fun res q => ?_⟩
  refine eGs.steps 5 (y := (750, [some (.ref 0), some (.ref 1), some (.ref 356), some (.ref 374), some (.int (nI i)), none, none], [.int (nI i + nI 1), .ref 0, .ref 1], H)) rfl ?_
  refine g_scr rfl (by omega) hX ?_
  refine eGs.steps 0 (y := (751, [some (.ref 0), some (.ref 1), some (.ref 356), some (.ref 374), some (.int (nI i)), none, none], [.int (X.2 (i + 1)), .ref 1], H)) rfl ?_
  refine g_callV rfl rfl rfl rfl rfl (by omega) cx rfl (ev1.mono (by decide)) ?_
  refine eGs.steps 5 (y := (760, [some (.ref 0), some (.ref 1), some (.ref 356), some (.ref 374), some (.int (nI i)), none, none], [.int (nI i + nI 1), .ref 0, .ref 356, .int (qb (qpb A.1 (X.2 (i + 1))))], H)) rfl ?_
  refine g_scr rfl (by omega) hX ?_
  refine eGs.steps 0 (y := (761, [some (.ref 0), some (.ref 1), some (.ref 356), some (.ref 374), some (.int (nI i)), none, none], [.int (X.2 (i + 1)), .ref 356, .int (qb (qpb A.1 (X.2 (i + 1))))], H)) rfl ?_
  refine g_callV rfl rfl rfl rfl rfl (by omega) c1 rfl (ev2.mono (by decide)) ?_
  refine eGs.steps 0 (y := (764, [some (.ref 0), some (.ref 1), some (.ref 356), some (.ref 374), some (.int (nI i)), none, none], [.int (qb (qpb A.1 (X.2 (i + 1)))), .int (qb (qpb A.1 (X.2 (i + 1))))], H2)) rfl ?_
  refine g_icmp (cd := .eq) (t := 1022) true rfl (decide_eq_true rfl) rfl ?_
  refine eGs.weak (lo' := lL i) (by repeat' first | exact trivial | exact rfl | constructor) ?_
  exact q
theorem l_outside {X : Nat × (Nat → Int32)} {H : eH} {A : qA} {t i : Nat} (h : LI H A t) (hi : i + 4 < X.1) (hX : X.1 ≤ 2560) : ∃ H' A', LI H' A' (t + 1) ∧ ∀ res, eGs pP X 60 139 (1022, lL i, [], H') res → eGs pP X 60 139 (769, lL i, [], H) res := by
  obtain ⟨hA, ⟨nw, tr, fa, ga, pf, pg, sc⟩, ⟨code, sm⟩, ⟨f, o0⟩, n1, n2, n3⟩ := h
  obtain ⟨H1, nw', tr', fa', ga', pf', pg', f', ev1, sc1, g1, o1, fo, b1, b2, b3⟩ := k_outside (X := X) sc hA o0 n1 (X.2 (i + 1))
  have sm1 := SM_fr sm g1
  obtain ⟨H2, ev2, sm2, p2, t2⟩ := m_outside (X := X) sm1 hA (X.2 (i + 1))
  have ev3 := m_thrown (X := X) sm2
  have hA' : AI A := hA
  have c1 : ∃ fs, H1.1 356 = some (.inr (1, fs)) := by
    obtain ⟨rules, ml, me, mh, mo, mi, mt, ma, mx, cells, found, more, rest, uses, acted, list, listed, begins, many, digits, chosen, length, wanted, letter, opn, c, _⟩ := sm1
    exact ⟨_, c⟩
  obtain ⟨fs_c1, c1⟩ := c1
  have c2 : ∃ fs, H2.1 356 = some (.inr (1, fs)) := by
    obtain ⟨rules, ml, me, mh, mo, mi, mt, ma, mx, cells, found, more, rest, uses, acted, list, listed, begins, many, digits, chosen, length, wanted, letter, opn, c, _⟩ := sm2
    exact ⟨_, c⟩
  obtain ⟨fs_c2, c2⟩ := c2
  have o2 := (t2 374 (by omega)).trans o1
  have cd : (s_outside A (X.2 (i + 1))).1 ≤ 3 := by
    unfold s_outside
    repeat' split
    all_goals first | exact (show 0 ≤ 3 by decide) | exact (show 1 ≤ 3 by decide) | exact (show 2 ≤ 3 by decide) | exact (show 3 ≤ 3 by decide)
  refine ⟨H2, A, ⟨hA', ⟨nw', tr', fa', ga', pf', pg', SC_fr sc1 hA' (fun a h1 h2 => t2 a (by omega))⟩, ⟨_, sm2⟩, ⟨f', o2⟩, by rw [p2]; omega, by rw [p2]; omega, by rw [p2]; omega⟩, fun res q => ?_⟩
  refine eGs.steps 5 (y := (775, [some (.ref 0), some (.ref 1), some (.ref 356), some (.ref 374), some (.int (nI i)), none, none], [.int (nI i + nI 1), .ref 0, .ref 1], H)) rfl ?_
  refine g_scr rfl (by omega) hX ?_
  refine eGs.steps 1 (y := (777, [some (.ref 0), some (.ref 1), some (.ref 356), some (.ref 374), some (.int (nI i)), none, none], [.ref 374, .int (X.2 (i + 1)), .ref 1], H)) rfl ?_
  refine g_callS rfl rfl rfl rfl rfl (ev1.mono (by decide)) ?_
  refine eGs.steps 6 (y := (788, [some (.ref 0), some (.ref 1), some (.ref 356), some (.ref 374), some (.int (nI i)), some (.int (nI (s_outside A (X.2 (i + 1))).1)), none], [.int (nI i + nI 1), .ref 0, .ref 356], H1)) rfl ?_
  refine g_scr rfl (by omega) hX ?_
  refine eGs.steps 0 (y := (789, [some (.ref 0), some (.ref 1), some (.ref 356), some (.ref 374), some (.int (nI i)), some (.int (nI (s_outside A (X.2 (i + 1))).1)), none], [.int (X.2 (i + 1)), .ref 356], H1)) rfl ?_
  refine g_callV rfl rfl rfl rfl rfl (by omega) c1 rfl (ev2.mono (by decide)) ?_
  refine eGs.steps 2 (y := (795, [some (.ref 0), some (.ref 1), some (.ref 356), some (.ref 374), some (.int (nI i)), some (.int (nI (s_outside A (X.2 (i + 1))).1)), some (.int (s_outside A (X.2 (i + 1))).2.1)], [.ref 356], H2)) rfl ?_
  refine g_callV rfl rfl rfl rfl rfl (by omega) c2 rfl (ev3.mono (by decide)) ?_
  refine eGs.steps 1 (y := (800, [some (.ref 0), some (.ref 1), some (.ref 356), some (.ref 374), some (.int (nI i)), some (.int (nI (s_outside A (X.2 (i + 1))).1)), some (.int (s_outside A (X.2 (i + 1))).2.1)], [.int (nI (s_outside A (X.2 (i + 1))).1), .int (nI (s_outside A (X.2 (i + 1))).1)], H2)) rfl ?_
  refine g_icmp (cd := .eq) (t := 805) true rfl (decide_eq_true rfl) rfl ?_
  refine eGs.steps 1 (y := (807, [some (.ref 0), some (.ref 1), some (.ref 356), some (.ref 374), some (.int (nI i)), some (.int (nI (s_outside A (X.2 (i + 1))).1)), some (.int (s_outside A (X.2 (i + 1))).2.1)], [.int (nI (s_outside A (X.2 (i + 1))).1)], H2)) rfl ?_
  by_cases z : (s_outside A (X.2 (i + 1))).1 = 0
  · refine g_if (cd := .ne) (t := 822) false rfl (decide_eq_false (fun w => w (by rw [z]; rfl))) rfl ?_
    refine eGs.steps 2 (y := (812, [some (.ref 0), some (.ref 1), some (.ref 356), some (.ref 374), some (.int (nI i)), some (.int (nI (s_outside A (X.2 (i + 1))).1)), some (.int (s_outside A (X.2 (i + 1))).2.1)], [.int 0, .ref 374], H2)) rfl ?_
    refine g_lald rfl (by omega) o2 (by decide) ?_
    refine eGs.steps 3 (y := (817, [some (.ref 0), some (.ref 1), some (.ref 356), some (.ref 374), some (.int (nI i)), some (.int (nI (s_outside A (X.2 (i + 1))).1)), some (.int (s_outside A (X.2 (i + 1))).2.1)], [.int (lg_cmp (f' (0 : Int32).toNatClampNeg) (s_outside A (X.2 (i + 1))).2.1.toInt64)], H2)) rfl ?_
    refine g_if (cd := .eq) (t := 822) true rfl (decide_eq_true (q_cmp0.mpr (by rw [show (0 : Int32).toNatClampNeg = 0 by decide]; exact fo z))) rfl ?_
    refine eGs.steps 1 (y := (1022, [some (.ref 0), some (.ref 1), some (.ref 356), some (.ref 374), some (.int (nI i)), some (.int (nI (s_outside A (X.2 (i + 1))).1)), some (.int (s_outside A (X.2 (i + 1))).2.1)], [], H2)) rfl ?_
    refine eGs.weak (lo' := lL i) (by repeat' first | exact trivial | exact rfl | constructor) ?_
    exact q
  · refine g_if (cd := .ne) (t := 822) true rfl (decide_eq_true (nI_ne0 (by omega) (by omega))) rfl ?_
    refine eGs.steps 1 (y := (1022, [some (.ref 0), some (.ref 1), some (.ref 356), some (.ref 374), some (.int (nI i)), some (.int (nI (s_outside A (X.2 (i + 1))).1)), some (.int (s_outside A (X.2 (i + 1))).2.1)], [], H2)) rfl ?_
    refine eGs.weak (lo' := lL i) (by repeat' first | exact trivial | exact rfl | constructor) ?_
    exact q
theorem l_outcomes {X : Nat × (Nat → Int32)} {H : eH} {A : qA} {t i : Nat} (h : LI H A t) (hi : i + 4 < X.1) (hX : X.1 ≤ 2560) : ∃ H' A', LI H' A' (t + 1) ∧ ∀ res, eGs pP X 60 139 (1022, lL i, [], H') res → eGs pP X 60 139 (825, lL i, [], H) res := by
  obtain ⟨hA, ⟨nw, tr, fa, ga, pf, pg, sc⟩, ⟨code, sm⟩, ⟨f, o0⟩, n1, n2, n3⟩ := h
  obtain ⟨H1, nw', tr', fa', ga', pf', pg', f', ev1, sc1, g1, o1, fo, b1, b2, b3⟩ := k_outcomes (X := X) sc hA o0 n1 (X.2 (i + 1))
  have sm1 := SM_fr sm g1
  obtain ⟨H2, ev2, sm2, p2, t2⟩ := m_outcomes (X := X) sm1 hA (X.2 (i + 1))
  have ev3 := m_thrown (X := X) sm2
  have hA' : AI (s_outcomes A (X.2 (i + 1))).2.2 := AI_outcomes hA (X.2 (i + 1))
  have c1 : ∃ fs, H1.1 356 = some (.inr (1, fs)) := by
    obtain ⟨rules, ml, me, mh, mo, mi, mt, ma, mx, cells, found, more, rest, uses, acted, list, listed, begins, many, digits, chosen, length, wanted, letter, opn, c, _⟩ := sm1
    exact ⟨_, c⟩
  obtain ⟨fs_c1, c1⟩ := c1
  have c2 : ∃ fs, H2.1 356 = some (.inr (1, fs)) := by
    obtain ⟨rules, ml, me, mh, mo, mi, mt, ma, mx, cells, found, more, rest, uses, acted, list, listed, begins, many, digits, chosen, length, wanted, letter, opn, c, _⟩ := sm2
    exact ⟨_, c⟩
  obtain ⟨fs_c2, c2⟩ := c2
  have o2 := (t2 374 (by omega)).trans o1
  have cd : (s_outcomes A (X.2 (i + 1))).1 ≤ 3 := by
    unfold s_outcomes
    repeat' split
    all_goals first | exact (show 0 ≤ 3 by decide) | exact (show 1 ≤ 3 by decide) | exact (show 2 ≤ 3 by decide) | exact (show 3 ≤ 3 by decide)
  refine ⟨H2, (s_outcomes A (X.2 (i + 1))).2.2, ⟨hA', ⟨nw', tr', fa', ga', pf', pg', SC_fr sc1 hA' (fun a h1 h2 => t2 a (by omega))⟩, ⟨_, sm2⟩, ⟨f', o2⟩, by rw [p2]; omega, by rw [p2]; omega, by rw [p2]; omega⟩, fun res q => ?_⟩
  refine eGs.steps 5 (y := (831, [some (.ref 0), some (.ref 1), some (.ref 356), some (.ref 374), some (.int (nI i)), none, none], [.int (nI i + nI 1), .ref 0, .ref 1], H)) rfl ?_
  refine g_scr rfl (by omega) hX ?_
  refine eGs.steps 1 (y := (833, [some (.ref 0), some (.ref 1), some (.ref 356), some (.ref 374), some (.int (nI i)), none, none], [.ref 374, .int (X.2 (i + 1)), .ref 1], H)) rfl ?_
  refine g_callS rfl rfl rfl rfl rfl (ev1.mono (by decide)) ?_
  refine eGs.steps 6 (y := (844, [some (.ref 0), some (.ref 1), some (.ref 356), some (.ref 374), some (.int (nI i)), some (.int (nI (s_outcomes A (X.2 (i + 1))).1)), none], [.int (nI i + nI 1), .ref 0, .ref 356], H1)) rfl ?_
  refine g_scr rfl (by omega) hX ?_
  refine eGs.steps 0 (y := (845, [some (.ref 0), some (.ref 1), some (.ref 356), some (.ref 374), some (.int (nI i)), some (.int (nI (s_outcomes A (X.2 (i + 1))).1)), none], [.int (X.2 (i + 1)), .ref 356], H1)) rfl ?_
  refine g_callV rfl rfl rfl rfl rfl (by omega) c1 rfl (ev2.mono (by decide)) ?_
  refine eGs.steps 2 (y := (851, [some (.ref 0), some (.ref 1), some (.ref 356), some (.ref 374), some (.int (nI i)), some (.int (nI (s_outcomes A (X.2 (i + 1))).1)), some (.int (s_outcomes A (X.2 (i + 1))).2.1)], [.ref 356], H2)) rfl ?_
  refine g_callV rfl rfl rfl rfl rfl (by omega) c2 rfl (ev3.mono (by decide)) ?_
  refine eGs.steps 1 (y := (856, [some (.ref 0), some (.ref 1), some (.ref 356), some (.ref 374), some (.int (nI i)), some (.int (nI (s_outcomes A (X.2 (i + 1))).1)), some (.int (s_outcomes A (X.2 (i + 1))).2.1)], [.int (nI (s_outcomes A (X.2 (i + 1))).1), .int (nI (s_outcomes A (X.2 (i + 1))).1)], H2)) rfl ?_
  refine g_icmp (cd := .eq) (t := 861) true rfl (decide_eq_true rfl) rfl ?_
  refine eGs.steps 1 (y := (863, [some (.ref 0), some (.ref 1), some (.ref 356), some (.ref 374), some (.int (nI i)), some (.int (nI (s_outcomes A (X.2 (i + 1))).1)), some (.int (s_outcomes A (X.2 (i + 1))).2.1)], [.int (nI (s_outcomes A (X.2 (i + 1))).1)], H2)) rfl ?_
  by_cases z : (s_outcomes A (X.2 (i + 1))).1 = 0
  · refine g_if (cd := .ne) (t := 878) false rfl (decide_eq_false (fun w => w (by rw [z]; rfl))) rfl ?_
    refine eGs.steps 2 (y := (868, [some (.ref 0), some (.ref 1), some (.ref 356), some (.ref 374), some (.int (nI i)), some (.int (nI (s_outcomes A (X.2 (i + 1))).1)), some (.int (s_outcomes A (X.2 (i + 1))).2.1)], [.int 0, .ref 374], H2)) rfl ?_
    refine g_lald rfl (by omega) o2 (by decide) ?_
    refine eGs.steps 3 (y := (873, [some (.ref 0), some (.ref 1), some (.ref 356), some (.ref 374), some (.int (nI i)), some (.int (nI (s_outcomes A (X.2 (i + 1))).1)), some (.int (s_outcomes A (X.2 (i + 1))).2.1)], [.int (lg_cmp (f' (0 : Int32).toNatClampNeg) (s_outcomes A (X.2 (i + 1))).2.1.toInt64)], H2)) rfl ?_
    refine g_if (cd := .eq) (t := 878) true rfl (decide_eq_true (q_cmp0.mpr (by rw [show (0 : Int32).toNatClampNeg = 0 by decide]; exact fo z))) rfl ?_
    refine eGs.steps 1 (y := (1022, [some (.ref 0), some (.ref 1), some (.ref 356), some (.ref 374), some (.int (nI i)), some (.int (nI (s_outcomes A (X.2 (i + 1))).1)), some (.int (s_outcomes A (X.2 (i + 1))).2.1)], [], H2)) rfl ?_
    refine eGs.weak (lo' := lL i) (by repeat' first | exact trivial | exact rfl | constructor) ?_
    exact q
  · refine g_if (cd := .ne) (t := 878) true rfl (decide_eq_true (nI_ne0 (by omega) (by omega))) rfl ?_
    refine eGs.steps 1 (y := (1022, [some (.ref 0), some (.ref 1), some (.ref 356), some (.ref 374), some (.int (nI i)), some (.int (nI (s_outcomes A (X.2 (i + 1))).1)), some (.int (s_outcomes A (X.2 (i + 1))).2.1)], [], H2)) rfl ?_
    refine eGs.weak (lo' := lL i) (by repeat' first | exact trivial | exact rfl | constructor) ?_
    exact q
theorem l_outcome {X : Nat × (Nat → Int32)} {H : eH} {A : qA} {t i : Nat} (h : LI H A t) (hi : i + 4 < X.1) (hX : X.1 ≤ 2560) : ∃ H' A', LI H' A' (t + 1) ∧ ∀ res, eGs pP X 60 139 (1022, lL i, [], H') res → eGs pP X 60 139 (881, lL i, [], H) res := by
  obtain ⟨hA, ⟨nw, tr, fa, ga, pf, pg, sc⟩, ⟨code, sm⟩, ⟨f, o0⟩, n1, n2, n3⟩ := h
  obtain ⟨H1, nw', tr', fa', ga', pf', pg', f', ev1, sc1, g1, o1, fo, b1, b2, b3⟩ := k_outcome (X := X) sc hA o0 n1 (X.2 (i + 1)) (X.2 (i + 2)) (X.2 (i + 3))
  have sm1 := SM_fr sm g1
  obtain ⟨H2, ev2, sm2, p2, t2⟩ := m_outcome (X := X) sm1 hA (X.2 (i + 1)) (X.2 (i + 2)) (X.2 (i + 3))
  have ev3 := m_thrown (X := X) sm2
  have hA' : AI A := hA
  have c1 : ∃ fs, H1.1 356 = some (.inr (1, fs)) := by
    obtain ⟨rules, ml, me, mh, mo, mi, mt, ma, mx, cells, found, more, rest, uses, acted, list, listed, begins, many, digits, chosen, length, wanted, letter, opn, c, _⟩ := sm1
    exact ⟨_, c⟩
  obtain ⟨fs_c1, c1⟩ := c1
  have c2 : ∃ fs, H2.1 356 = some (.inr (1, fs)) := by
    obtain ⟨rules, ml, me, mh, mo, mi, mt, ma, mx, cells, found, more, rest, uses, acted, list, listed, begins, many, digits, chosen, length, wanted, letter, opn, c, _⟩ := sm2
    exact ⟨_, c⟩
  obtain ⟨fs_c2, c2⟩ := c2
  have o2 := (t2 374 (by omega)).trans o1
  have cd : (s_outcome A (X.2 (i + 1)) (X.2 (i + 2)) (X.2 (i + 3))).1 ≤ 3 := by
    unfold s_outcome
    repeat' split
    all_goals first | exact (show 0 ≤ 3 by decide) | exact (show 1 ≤ 3 by decide) | exact (show 2 ≤ 3 by decide) | exact (show 3 ≤ 3 by decide)
  refine ⟨H2, A, ⟨hA', ⟨nw', tr', fa', ga', pf', pg', SC_fr sc1 hA' (fun a h1 h2 => t2 a (by omega))⟩, ⟨_, sm2⟩, ⟨f', o2⟩, by rw [p2]; omega, by rw [p2]; omega, by rw [p2]; omega⟩, fun res q => ?_⟩
  refine eGs.steps 5 (y := (887, [some (.ref 0), some (.ref 1), some (.ref 356), some (.ref 374), some (.int (nI i)), none, none], [.int (nI i + nI 1), .ref 0, .ref 1], H)) rfl ?_
  refine g_scr rfl (by omega) hX ?_
  refine eGs.steps 4 (y := (893, [some (.ref 0), some (.ref 1), some (.ref 356), some (.ref 374), some (.int (nI i)), none, none], [.int (nI i + nI 2), .ref 0, .int (X.2 (i + 1)), .ref 1], H)) rfl ?_
  refine g_scr rfl (by omega) hX ?_
  refine eGs.steps 4 (y := (899, [some (.ref 0), some (.ref 1), some (.ref 356), some (.ref 374), some (.int (nI i)), none, none], [.int (nI i + nI 3), .ref 0, .int (X.2 (i + 2)), .int (X.2 (i + 1)), .ref 1], H)) rfl ?_
  refine g_scr rfl (by omega) hX ?_
  refine eGs.steps 1 (y := (901, [some (.ref 0), some (.ref 1), some (.ref 356), some (.ref 374), some (.int (nI i)), none, none], [.ref 374, .int (X.2 (i + 3)), .int (X.2 (i + 2)), .int (X.2 (i + 1)), .ref 1], H)) rfl ?_
  refine g_callS rfl rfl rfl rfl rfl (ev1.mono (by decide)) ?_
  refine eGs.steps 6 (y := (912, [some (.ref 0), some (.ref 1), some (.ref 356), some (.ref 374), some (.int (nI i)), some (.int (nI (s_outcome A (X.2 (i + 1)) (X.2 (i + 2)) (X.2 (i + 3))).1)), none], [.int (nI i + nI 1), .ref 0, .ref 356], H1)) rfl ?_
  refine g_scr rfl (by omega) hX ?_
  refine eGs.steps 4 (y := (918, [some (.ref 0), some (.ref 1), some (.ref 356), some (.ref 374), some (.int (nI i)), some (.int (nI (s_outcome A (X.2 (i + 1)) (X.2 (i + 2)) (X.2 (i + 3))).1)), none], [.int (nI i + nI 2), .ref 0, .int (X.2 (i + 1)), .ref 356], H1)) rfl ?_
  refine g_scr rfl (by omega) hX ?_
  refine eGs.steps 4 (y := (924, [some (.ref 0), some (.ref 1), some (.ref 356), some (.ref 374), some (.int (nI i)), some (.int (nI (s_outcome A (X.2 (i + 1)) (X.2 (i + 2)) (X.2 (i + 3))).1)), none], [.int (nI i + nI 3), .ref 0, .int (X.2 (i + 2)), .int (X.2 (i + 1)), .ref 356], H1)) rfl ?_
  refine g_scr rfl (by omega) hX ?_
  refine eGs.steps 0 (y := (925, [some (.ref 0), some (.ref 1), some (.ref 356), some (.ref 374), some (.int (nI i)), some (.int (nI (s_outcome A (X.2 (i + 1)) (X.2 (i + 2)) (X.2 (i + 3))).1)), none], [.int (X.2 (i + 3)), .int (X.2 (i + 2)), .int (X.2 (i + 1)), .ref 356], H1)) rfl ?_
  refine g_callV rfl rfl rfl rfl rfl (by omega) c1 rfl (ev2.mono (by decide)) ?_
  refine eGs.steps 2 (y := (931, [some (.ref 0), some (.ref 1), some (.ref 356), some (.ref 374), some (.int (nI i)), some (.int (nI (s_outcome A (X.2 (i + 1)) (X.2 (i + 2)) (X.2 (i + 3))).1)), some (.int (s_outcome A (X.2 (i + 1)) (X.2 (i + 2)) (X.2 (i + 3))).2.1)], [.ref 356], H2)) rfl ?_
  refine g_callV rfl rfl rfl rfl rfl (by omega) c2 rfl (ev3.mono (by decide)) ?_
  refine eGs.steps 1 (y := (936, [some (.ref 0), some (.ref 1), some (.ref 356), some (.ref 374), some (.int (nI i)), some (.int (nI (s_outcome A (X.2 (i + 1)) (X.2 (i + 2)) (X.2 (i + 3))).1)), some (.int (s_outcome A (X.2 (i + 1)) (X.2 (i + 2)) (X.2 (i + 3))).2.1)], [.int (nI (s_outcome A (X.2 (i + 1)) (X.2 (i + 2)) (X.2 (i + 3))).1), .int (nI (s_outcome A (X.2 (i + 1)) (X.2 (i + 2)) (X.2 (i + 3))).1)], H2)) rfl ?_
  refine g_icmp (cd := .eq) (t := 941) true rfl (decide_eq_true rfl) rfl ?_
  refine eGs.steps 1 (y := (943, [some (.ref 0), some (.ref 1), some (.ref 356), some (.ref 374), some (.int (nI i)), some (.int (nI (s_outcome A (X.2 (i + 1)) (X.2 (i + 2)) (X.2 (i + 3))).1)), some (.int (s_outcome A (X.2 (i + 1)) (X.2 (i + 2)) (X.2 (i + 3))).2.1)], [.int (nI (s_outcome A (X.2 (i + 1)) (X.2 (i + 2)) (X.2 (i + 3))).1)], H2)) rfl ?_
  by_cases z : (s_outcome A (X.2 (i + 1)) (X.2 (i + 2)) (X.2 (i + 3))).1 = 0
  · refine g_if (cd := .ne) (t := 958) false rfl (decide_eq_false (fun w => w (by rw [z]; rfl))) rfl ?_
    refine eGs.steps 2 (y := (948, [some (.ref 0), some (.ref 1), some (.ref 356), some (.ref 374), some (.int (nI i)), some (.int (nI (s_outcome A (X.2 (i + 1)) (X.2 (i + 2)) (X.2 (i + 3))).1)), some (.int (s_outcome A (X.2 (i + 1)) (X.2 (i + 2)) (X.2 (i + 3))).2.1)], [.int 0, .ref 374], H2)) rfl ?_
    refine g_lald rfl (by omega) o2 (by decide) ?_
    refine eGs.steps 3 (y := (953, [some (.ref 0), some (.ref 1), some (.ref 356), some (.ref 374), some (.int (nI i)), some (.int (nI (s_outcome A (X.2 (i + 1)) (X.2 (i + 2)) (X.2 (i + 3))).1)), some (.int (s_outcome A (X.2 (i + 1)) (X.2 (i + 2)) (X.2 (i + 3))).2.1)], [.int (lg_cmp (f' (0 : Int32).toNatClampNeg) (s_outcome A (X.2 (i + 1)) (X.2 (i + 2)) (X.2 (i + 3))).2.1.toInt64)], H2)) rfl ?_
    refine g_if (cd := .eq) (t := 958) true rfl (decide_eq_true (q_cmp0.mpr (by rw [show (0 : Int32).toNatClampNeg = 0 by decide]; exact fo z))) rfl ?_
    refine eGs.steps 1 (y := (1022, [some (.ref 0), some (.ref 1), some (.ref 356), some (.ref 374), some (.int (nI i)), some (.int (nI (s_outcome A (X.2 (i + 1)) (X.2 (i + 2)) (X.2 (i + 3))).1)), some (.int (s_outcome A (X.2 (i + 1)) (X.2 (i + 2)) (X.2 (i + 3))).2.1)], [], H2)) rfl ?_
    refine eGs.weak (lo' := lL i) (by repeat' first | exact trivial | exact rfl | constructor) ?_
    exact q
  · refine g_if (cd := .ne) (t := 958) true rfl (decide_eq_true (nI_ne0 (by omega) (by omega))) rfl ?_
    refine eGs.steps 1 (y := (1022, [some (.ref 0), some (.ref 1), some (.ref 356), some (.ref 374), some (.int (nI i)), some (.int (nI (s_outcome A (X.2 (i + 1)) (X.2 (i + 2)) (X.2 (i + 3))).1)), some (.int (s_outcome A (X.2 (i + 1)) (X.2 (i + 2)) (X.2 (i + 3))).2.1)], [], H2)) rfl ?_
    refine eGs.weak (lo' := lL i) (by repeat' first | exact trivial | exact rfl | constructor) ?_
    exact q
theorem l_adopt {X : Nat × (Nat → Int32)} {H : eH} {A : qA} {t i : Nat} (h : LI H A t) (hi : i + 4 < X.1) (hX : X.1 ≤ 2560) : ∃ H' A', LI H' A' (t + 1) ∧ ∀ res, eGs pP X 60 139 (1022, lL i, [], H') res → eGs pP X 60 139 (961, lL i, [], H) res := by
  obtain ⟨hA, ⟨nw, tr, fa, ga, pf, pg, sc⟩, ⟨code, sm⟩, ⟨f, o0⟩, n1, n2, n3⟩ := h
  obtain ⟨H1, nw', tr', fa', ga', pf', pg', f', ev1, sc1, g1, o1, fo, b1, b2, b3⟩ := k_adopt (X := X) sc hA o0 n1 (X.2 (i + 1))
  have sm1 := SM_fr sm g1
  obtain ⟨H2, ev2, sm2, p2, t2⟩ := m_adopt (X := X) sm1 hA (X.2 (i + 1))
  have ev3 := m_thrown (X := X) sm2
  have hA' : AI (s_adopt A (X.2 (i + 1))).2.2 := AI_adopt hA (X.2 (i + 1))
  have c1 : ∃ fs, H1.1 356 = some (.inr (1, fs)) := by
    obtain ⟨rules, ml, me, mh, mo, mi, mt, ma, mx, cells, found, more, rest, uses, acted, list, listed, begins, many, digits, chosen, length, wanted, letter, opn, c, _⟩ := sm1
    exact ⟨_, c⟩
  obtain ⟨fs_c1, c1⟩ := c1
  have c2 : ∃ fs, H2.1 356 = some (.inr (1, fs)) := by
    obtain ⟨rules, ml, me, mh, mo, mi, mt, ma, mx, cells, found, more, rest, uses, acted, list, listed, begins, many, digits, chosen, length, wanted, letter, opn, c, _⟩ := sm2
    exact ⟨_, c⟩
  obtain ⟨fs_c2, c2⟩ := c2
  have o2 := (t2 374 (by omega)).trans o1
  refine ⟨H2, (s_adopt A (X.2 (i + 1))).2.2, ⟨hA', ⟨nw', tr', fa', ga', pf', pg', SC_fr sc1 hA' (fun a h1 h2 => t2 a (by omega))⟩, ⟨_, sm2⟩, ⟨f', o2⟩, by rw [p2]; omega, by rw [p2]; omega, by rw [p2]; omega⟩, fun res q => ?_⟩
  refine eGs.steps 5 (y := (967, [some (.ref 0), some (.ref 1), some (.ref 356), some (.ref 374), some (.int (nI i)), none, none], [.int (nI i + nI 1), .ref 0, .ref 1], H)) rfl ?_
  refine g_scr rfl (by omega) hX ?_
  refine eGs.steps 0 (y := (968, [some (.ref 0), some (.ref 1), some (.ref 356), some (.ref 374), some (.int (nI i)), none, none], [.int (X.2 (i + 1)), .ref 1], H)) rfl ?_
  refine g_callS rfl rfl rfl rfl rfl (ev1.mono (by decide)) ?_
  refine eGs.steps 6 (y := (979, [some (.ref 0), some (.ref 1), some (.ref 356), some (.ref 374), some (.int (nI i)), some (.int (nI (s_adopt A (X.2 (i + 1))).1)), none], [.int (nI i + nI 1), .ref 0, .ref 356], H1)) rfl ?_
  refine g_scr rfl (by omega) hX ?_
  refine eGs.steps 0 (y := (980, [some (.ref 0), some (.ref 1), some (.ref 356), some (.ref 374), some (.int (nI i)), some (.int (nI (s_adopt A (X.2 (i + 1))).1)), none], [.int (X.2 (i + 1)), .ref 356], H1)) rfl ?_
  refine g_callV rfl rfl rfl rfl rfl (by omega) c1 rfl (ev2.mono (by decide)) ?_
  refine eGs.steps 1 (y := (984, [some (.ref 0), some (.ref 1), some (.ref 356), some (.ref 374), some (.int (nI i)), some (.int (nI (s_adopt A (X.2 (i + 1))).1)), none], [.ref 356], H2)) rfl ?_
  refine g_callV rfl rfl rfl rfl rfl (by omega) c2 rfl (ev3.mono (by decide)) ?_
  refine eGs.steps 1 (y := (989, [some (.ref 0), some (.ref 1), some (.ref 356), some (.ref 374), some (.int (nI i)), some (.int (nI (s_adopt A (X.2 (i + 1))).1)), none], [.int (nI (s_adopt A (X.2 (i + 1))).1), .int (nI (s_adopt A (X.2 (i + 1))).1)], H2)) rfl ?_
  refine g_icmp (cd := .eq) (t := 994) true rfl (decide_eq_true rfl) rfl ?_
  refine eGs.steps 1 (y := (1022, [some (.ref 0), some (.ref 1), some (.ref 356), some (.ref 374), some (.int (nI i)), some (.int (nI (s_adopt A (X.2 (i + 1))).1)), none], [], H2)) rfl ?_
  refine eGs.weak (lo' := lL i) (by repeat' first | exact trivial | exact rfl | constructor) ?_
  exact q
theorem l_written {X : Nat × (Nat → Int32)} {H : eH} {A : qA} {t i : Nat} (h : LI H A t) (hi : i + 4 < X.1) (hX : X.1 ≤ 2560) : ∃ H' A', LI H' A' (t + 1) ∧ ∀ res, eGs pP X 60 139 (1022, lL i, [], H') res → eGs pP X 60 139 (997, lL i, [], H) res := by
  obtain ⟨hA, ⟨nw, tr, fa, ga, pf, pg, sc⟩, ⟨code, sm⟩, ⟨f, o0⟩, n1, n2, n3⟩ := h
  obtain ⟨H1, ev1, sc1, p1, g1'⟩ := x_written (X := X) sc hA (X.2 (i + 1))
  have g1 : ag H H1 356 374 := ag_sub g1' (by omega) (by omega)
  have o1 := (g1' 374 (by omega) (by omega)).trans o0
  have cx := sc.1.1
  have sm1 := SM_fr sm g1
  obtain ⟨H2, ev2, sm2, p2, t2⟩ := m_written (X := X) sm1 hA (X.2 (i + 1))
  have c1 : ∃ fs, H1.1 356 = some (.inr (1, fs)) := by
    obtain ⟨rules, ml, me, mh, mo, mi, mt, ma, mx, cells, found, more, rest, uses, acted, list, listed, begins, many, digits, chosen, length, wanted, letter, opn, c, _⟩ := sm1
    exact ⟨_, c⟩
  obtain ⟨fs1, c1⟩ := c1
  refine ⟨H2, A, ⟨hA, ⟨nw, tr, fa, ga, pf, pg, SC_fr sc1 hA (fun a h1 h2 => t2 a (by omega))⟩, ⟨_, sm2⟩, ⟨f, (t2 374 (by omega)).trans o1⟩, by rw [p2, p1]; omega, by rw [p2, p1]; omega, by rw [p2, p1]; omega⟩, fun res q => ?_⟩
  refine eGs.steps 5 (y := (1003, [some (.ref 0), some (.ref 1), some (.ref 356), some (.ref 374), some (.int (nI i)), none, none], [.int (nI i + nI 1), .ref 0, .ref 1], H)) rfl ?_
  refine g_scr rfl (by omega) hX ?_
  refine eGs.steps 0 (y := (1004, [some (.ref 0), some (.ref 1), some (.ref 356), some (.ref 374), some (.int (nI i)), none, none], [.int (X.2 (i + 1)), .ref 1], H)) rfl ?_
  refine g_callV rfl rfl rfl rfl rfl (by omega) cx rfl (ev1.mono (by decide)) ?_
  refine eGs.steps 5 (y := (1013, [some (.ref 0), some (.ref 1), some (.ref 356), some (.ref 374), some (.int (nI i)), none, none], [.int (nI i + nI 1), .ref 0, .ref 356, .int (qat (qtx A.1 6 0) (X.2 (i + 1)))], H1)) rfl ?_
  refine g_scr rfl (by omega) hX ?_
  refine eGs.steps 0 (y := (1014, [some (.ref 0), some (.ref 1), some (.ref 356), some (.ref 374), some (.int (nI i)), none, none], [.int (X.2 (i + 1)), .ref 356, .int (qat (qtx A.1 6 0) (X.2 (i + 1)))], H1)) rfl ?_
  refine g_callV rfl rfl rfl rfl rfl (by omega) c1 rfl (ev2.mono (by decide)) ?_
  refine eGs.steps 0 (y := (1017, [some (.ref 0), some (.ref 1), some (.ref 356), some (.ref 374), some (.int (nI i)), none, none], [.int (qat (qtx A.1 6 0) (X.2 (i + 1))), .int (qat (qtx A.1 6 0) (X.2 (i + 1)))], H2)) rfl ?_
  refine g_icmp (cd := .eq) (t := 1022) true rfl (decide_eq_true rfl) rfl ?_
  refine eGs.weak (lo' := lL i) (by repeat' first | exact trivial | exact rfl | constructor) ?_
  exact q

theorem g_catV {P : eP} {X : Nat × (Nat → Int32)} {d0 k pc : Nat} {lo : eLo} {st : List Value} {h : eH} {r : eR × eH} {ix k' na len a cl c t : Nat} {as rs fs : List Value} {v : Option Value} {h' : eH} (hi : P.ins k pc = some (.invokevirtual ix, len)) (hm : P.mth (eOwn P k) ix = some (1, k', na)) (hst : (decide (st.length < na ∨ 8 < eCat (st.drop na))) = false) (ha : (st.take na).reverse = .ref a :: as) (hr : st.drop na = rs) (h00 : ¬ a = 0) (hcell : h.1 a = some (.inr (cl, fs))) (hcc : cl = eOwn P k')
    (hc : eEv P X d0 k' (.ref a :: as) h (eTw P (c + 1) v h')) (h0 : ¬ h'.2.1 = 0) (hh' : eHs P k' = []) (hini : P.ini k' = false) (hh : eHan (eHs P k) pc (c + 1) = some t) (q : eGs P X d0 k (t, lo, [.ref h'.2.1], eNew h' (.inr (c + 1, (P.bla (c + 1)).1)) (P.bla (c + 1)).2) r) : eGs P X d0 k (pc, lo, st, h) r := by
  subst hr
  refine eGs.cat (a := h'.2.1) (c := c + 1) (as := .ref a :: as) (rs := st.drop na) (fs := (P.bla (c + 1)).1) (h' := eNew h' (.inr (c + 1, (P.bla (c + 1)).1)) (P.bla (c + 1)).2) hi rfl hm (by decide) (of_decide_eq_false hst) ?_ hc ?_ eNew_self hh q
  · simp only [eArgs, ha, hcell]
    rw [if_neg (by decide), if_neg (by simp [h00, hcc])]
  · rintro (z | z | z)
    · exact h0 z
    · exact z hh'
    · rw [hini] at z; cases z
theorem bla_9 : (pP.bla 9).2 ≤ 6 := by decide
theorem bla_10 : (pP.bla 10).2 ≤ 6 := by decide
theorem bla_11 : (pP.bla 11).2 ≤ 6 := by decide
theorem k_clear {X : Nat × (Nat → Int32)} {H : eH} {A : qA} {nw tr fa ga pf pg : Nat} {f : Nat → Int64} (h : SC H A nw tr fa ga pf pg) (hA : AI A) (ho : H.1 374 = some (.inl (1, 1, .inr (.inl f)))) (hz : 375 ≤ H.2.1) (l : Int32) : ∃ H' nw' tr' fa' ga' pf' pg' f', eEv pP X 42 124 [.ref 1, .int l] H (.inl (some (.int (nI (s_clear A l).1))), H') ∧ SC H' (s_clear A l).2.2 nw' tr' fa' ga' pf' pg' ∧ ag H H' 356 374 ∧ H'.1 374 = some (.inl (1, 1, .inr (.inl f'))) ∧ ((s_clear A l).1 = 0 → True) ∧ H.2.1 ≤ H'.2.1 ∧ H'.2.1 ≤ H.2.1 + 1 ∧ H'.2.2 ≤ H.2.2 + 6 := by
  obtain ⟨H1, nw', tr', fa', ga', pf', pg', ev, sc, s2, ag1⟩ := x_clear (X := X) h hA (by omega) l
  have hA' := AI_clear hA l
  have o1 : H1.1 374 = some (.inl (1, 1, .inr (.inl f))) := (ag1 374 (by omega) (by omega)).trans ho
  have n1 : H1.2.1 = H.2.1 := by rw [s2]
  have n2 : H1.2.2 = H.2.2 := by rw [s2]
  have cd : (s_clear A l).1 = 0 ∨ (s_clear A l).1 = 1 := by
    unfold s_clear
    repeat' split
    all_goals first | exact Or.inl rfl | exact Or.inr rfl | exact Or.inr (Or.inl rfl) | exact Or.inr (Or.inr (Or.inl rfl)) | exact Or.inr (Or.inr rfl) | exact Or.inr (Or.inr (Or.inr rfl))
  rcases cd with z | z
  · rw [z] at ev ⊢
    have ev' : eEv pP X 40 1 [.ref 1, .int l] H (.inl (none), H1) := ev
    refine ⟨H1, nw', tr', fa', ga', pf', pg', f, ?_, sc, ag_sub ag1 (by omega) (by omega), o1, fun _ => trivial, by omega, by omega, by omega⟩
    refine eEv.mono (d0 := 41) ?_ (by decide)
    refine eEv.of (Nat.not_lt.mpr (Nat.le_of_ble_eq_true rfl)) ?_
    refine eGs.steps 2 (y := (2, [some (.ref 1), some (.int l), none], [.int l, .ref 1], H)) rfl ?_
    refine g_callV rfl rfl rfl rfl rfl (by omega) h.1.1 rfl (ev'.mono (by decide)) ?_
    refine eGs.steps 2 (y := (12, [some (.ref 1), some (.int l), none], [.int 0], H1)) rfl ?_
    exact eGs.fin rfl rfl rfl
  · rw [z] at ev ⊢
    have ev' : eEv pP X 40 1 [.ref 1, .int l] H (eTw pP (8 + 1) (none) H1) := ev
    refine ⟨eNew H1 (.inr (9, (pP.bla 9).1)) (pP.bla 9).2, nw', tr', fa', ga', pf', pg', f, ?_, SC_fr sc hA' (ag_new (by omega)), ag_trans (ag_sub ag1 (by omega) (by omega)) (ag_new (by omega)), (eNew_off (by omega)).trans o1, fun w => absurd w (by decide), ?_, ?_, ?_⟩
    · refine eEv.mono (d0 := 41) ?_ (by decide)
      refine eEv.of (Nat.not_lt.mpr (Nat.le_of_ble_eq_true rfl)) ?_
      refine eGs.steps 2 (y := (2, [some (.ref 1), some (.int l), none], [.int l, .ref 1], H)) rfl ?_
      refine g_catV rfl rfl rfl rfl rfl (by omega) h.1.1 rfl (ev'.mono (by decide)) (by omega) rfl rfl rfl ?_
      refine eGs.steps 2 (y := (10, [some (.ref 1), some (.int l), some (.ref H1.2.1)], [.int 1], eNew H1 (.inr (9, (pP.bla 9).1)) (pP.bla 9).2)) rfl ?_
      exact eGs.fin rfl rfl rfl
    · show H.2.1 ≤ H1.2.1 + 1
      omega
    · show H1.2.1 + 1 ≤ H.2.1 + 1
      omega
    · show H1.2.2 + (pP.bla 9).2 ≤ H.2.2 + 6
      have := bla_9
      omega
theorem k_membrane {X : Nat × (Nat → Int32)} {H : eH} {A : qA} {nw tr fa ga pf pg : Nat} {f : Nat → Int64} (h : SC H A nw tr fa ga pf pg) (hA : AI A) (ho : H.1 374 = some (.inl (1, 1, .inr (.inl f)))) (hz : 375 ≤ H.2.1) (p l : Int32) : ∃ H' nw' tr' fa' ga' pf' pg' f', eEv pP X 42 125 [.ref 1, .int p, .int l, .ref 374] H (.inl (some (.int (nI (s_membrane A p l).1))), H') ∧ SC H' (s_membrane A p l).2.2 nw' tr' fa' ga' pf' pg' ∧ ag H H' 356 374 ∧ H'.1 374 = some (.inl (1, 1, .inr (.inl f'))) ∧ ((s_membrane A p l).1 = 0 → f' 0 = (s_membrane A p l).2.1.toInt64) ∧ H.2.1 ≤ H'.2.1 ∧ H'.2.1 ≤ H.2.1 + 1 ∧ H'.2.2 ≤ H.2.2 + 6 := by
  obtain ⟨H1, nw', tr', fa', ga', pf', pg', ev, sc, s2, ag1⟩ := x_membrane (X := X) h hA (by omega) p l
  have hA' := AI_membrane hA p l
  have o1 : H1.1 374 = some (.inl (1, 1, .inr (.inl f))) := (ag1 374 (by omega) (by omega)).trans ho
  have n1 : H1.2.1 = H.2.1 := by rw [s2]
  have n2 : H1.2.2 = H.2.2 := by rw [s2]
  have cd : (s_membrane A p l).1 = 0 ∨ (s_membrane A p l).1 = 1 ∨ (s_membrane A p l).1 = 2 ∨ (s_membrane A p l).1 = 3 := by
    unfold s_membrane
    repeat' split
    all_goals first | exact Or.inl rfl | exact Or.inr rfl | exact Or.inr (Or.inl rfl) | exact Or.inr (Or.inr (Or.inl rfl)) | exact Or.inr (Or.inr rfl) | exact Or.inr (Or.inr (Or.inr rfl))
  rcases cd with z | z | z | z
  · rw [z] at ev ⊢
    have ev' : eEv pP X 40 2 [.ref 1, .int p, .int l] H (.inl (some (.int (s_membrane A p l).2.1)), H1) := ev
    generalize hH2 : eSetH H1 374 (.inl (1, 1, .inr (.inl (eUp f (0 : Int32).toNatClampNeg (s_membrane A p l).2.1.toInt64)))) = H2
    have t2 : ∀ a, ¬ a = 374 → H2.1 a = H1.1 a := fun a ha => by rw [← hH2]; exact if_neg ha
    have p2 : H2.2 = H1.2 := by rw [← hH2]; rfl
    refine ⟨H2, nw', tr', fa', ga', pf', pg', eUp f 0 (s_membrane A p l).2.1.toInt64, ?_, SC_fr sc hA' (fun a h1 h2 => t2 a (by omega)), fun a h1 h2 => (t2 a (by omega)).trans (ag1 a (by omega) (by omega)), by rw [← hH2, show (0 : Int32).toNatClampNeg = 0 by decide]; rfl, fun _ => q_up .., by rw [p2]; omega, by rw [p2]; omega, by rw [p2]; omega⟩
    refine eEv.mono (d0 := 41) ?_ (by decide)
    refine eEv.of (Nat.not_lt.mpr (Nat.le_of_ble_eq_true rfl)) ?_
    refine eGs.steps 5 (y := (5, [some (.ref 1), some (.int p), some (.int l), some (.ref 374), none], [.int l, .int p, .ref 1, .int 0, .ref 374], H)) rfl ?_
    refine g_callV rfl rfl rfl rfl rfl (by omega) h.1.1 rfl (ev'.mono (by decide)) ?_
    refine eGs.steps 1 (y := (9, [some (.ref 1), some (.int p), some (.int l), some (.ref 374), none], [.long (s_membrane A p l).2.1.toInt64, .int 0, .ref 374], H1)) rfl ?_
    refine g_lastW rfl (by omega) o1 (by decide) hH2 ?_
    refine eGs.steps 2 (y := (26, [some (.ref 1), some (.int p), some (.int l), some (.ref 374), none], [.int 0], H2)) rfl ?_
    exact eGs.fin rfl rfl rfl
  · rw [z] at ev ⊢
    have ev' : eEv pP X 40 2 [.ref 1, .int p, .int l] H (eTw pP (9 + 1) (some (.int (s_membrane A p l).2.1)) H1) := ev
    refine ⟨eNew H1 (.inr (10, (pP.bla 10).1)) (pP.bla 10).2, nw', tr', fa', ga', pf', pg', f, ?_, SC_fr sc hA' (ag_new (by omega)), ag_trans (ag_sub ag1 (by omega) (by omega)) (ag_new (by omega)), (eNew_off (by omega)).trans o1, fun w => absurd w (by decide), ?_, ?_, ?_⟩
    · refine eEv.mono (d0 := 41) ?_ (by decide)
      refine eEv.of (Nat.not_lt.mpr (Nat.le_of_ble_eq_true rfl)) ?_
      refine eGs.steps 5 (y := (5, [some (.ref 1), some (.int p), some (.int l), some (.ref 374), none], [.int l, .int p, .ref 1, .int 0, .ref 374], H)) rfl ?_
      refine g_catV rfl rfl rfl rfl rfl (by omega) h.1.1 rfl (ev'.mono (by decide)) (by omega) rfl rfl rfl ?_
      refine eGs.steps 2 (y := (16, [some (.ref 1), some (.int p), some (.int l), some (.ref 374), some (.ref H1.2.1)], [.int 1], eNew H1 (.inr (10, (pP.bla 10).1)) (pP.bla 10).2)) rfl ?_
      exact eGs.fin rfl rfl rfl
    · show H.2.1 ≤ H1.2.1 + 1
      omega
    · show H1.2.1 + 1 ≤ H.2.1 + 1
      omega
    · show H1.2.2 + (pP.bla 10).2 ≤ H.2.2 + 6
      have := bla_10
      omega
  · rw [z] at ev ⊢
    have ev' : eEv pP X 40 2 [.ref 1, .int p, .int l] H (eTw pP (8 + 1) (some (.int (s_membrane A p l).2.1)) H1) := ev
    refine ⟨eNew H1 (.inr (9, (pP.bla 9).1)) (pP.bla 9).2, nw', tr', fa', ga', pf', pg', f, ?_, SC_fr sc hA' (ag_new (by omega)), ag_trans (ag_sub ag1 (by omega) (by omega)) (ag_new (by omega)), (eNew_off (by omega)).trans o1, fun w => absurd w (by decide), ?_, ?_, ?_⟩
    · refine eEv.mono (d0 := 41) ?_ (by decide)
      refine eEv.of (Nat.not_lt.mpr (Nat.le_of_ble_eq_true rfl)) ?_
      refine eGs.steps 5 (y := (5, [some (.ref 1), some (.int p), some (.int l), some (.ref 374), none], [.int l, .int p, .ref 1, .int 0, .ref 374], H)) rfl ?_
      refine g_catV rfl rfl rfl rfl rfl (by omega) h.1.1 rfl (ev'.mono (by decide)) (by omega) rfl rfl rfl ?_
      refine eGs.steps 2 (y := (20, [some (.ref 1), some (.int p), some (.int l), some (.ref 374), some (.ref H1.2.1)], [.int 2], eNew H1 (.inr (9, (pP.bla 9).1)) (pP.bla 9).2)) rfl ?_
      exact eGs.fin rfl rfl rfl
    · show H.2.1 ≤ H1.2.1 + 1
      omega
    · show H1.2.1 + 1 ≤ H.2.1 + 1
      omega
    · show H1.2.2 + (pP.bla 9).2 ≤ H.2.2 + 6
      have := bla_9
      omega
  · rw [z] at ev ⊢
    have ev' : eEv pP X 40 2 [.ref 1, .int p, .int l] H (eTw pP (10 + 1) (some (.int (s_membrane A p l).2.1)) H1) := ev
    refine ⟨eNew H1 (.inr (11, (pP.bla 11).1)) (pP.bla 11).2, nw', tr', fa', ga', pf', pg', f, ?_, SC_fr sc hA' (ag_new (by omega)), ag_trans (ag_sub ag1 (by omega) (by omega)) (ag_new (by omega)), (eNew_off (by omega)).trans o1, fun w => absurd w (by decide), ?_, ?_, ?_⟩
    · refine eEv.mono (d0 := 41) ?_ (by decide)
      refine eEv.of (Nat.not_lt.mpr (Nat.le_of_ble_eq_true rfl)) ?_
      refine eGs.steps 5 (y := (5, [some (.ref 1), some (.int p), some (.int l), some (.ref 374), none], [.int l, .int p, .ref 1, .int 0, .ref 374], H)) rfl ?_
      refine g_catV rfl rfl rfl rfl rfl (by omega) h.1.1 rfl (ev'.mono (by decide)) (by omega) rfl rfl rfl ?_
      refine eGs.steps 2 (y := (24, [some (.ref 1), some (.int p), some (.int l), some (.ref 374), some (.ref H1.2.1)], [.int 3], eNew H1 (.inr (11, (pP.bla 11).1)) (pP.bla 11).2)) rfl ?_
      exact eGs.fin rfl rfl rfl
    · show H.2.1 ≤ H1.2.1 + 1
      omega
    · show H1.2.1 + 1 ≤ H.2.1 + 1
      omega
    · show H1.2.2 + (pP.bla 11).2 ≤ H.2.2 + 6
      have := bla_11
      omega
theorem k_put {X : Nat × (Nat → Int32)} {H : eH} {A : qA} {nw tr fa ga pf pg : Nat} {f : Nat → Int64} (h : SC H A nw tr fa ga pf pg) (hA : AI A) (ho : H.1 374 = some (.inl (1, 1, .inr (.inl f)))) (hz : 375 ≤ H.2.1) (p hh : Int32) : ∃ H' nw' tr' fa' ga' pf' pg' f', eEv pP X 42 126 [.ref 1, .int p, .int hh] H (.inl (some (.int (nI (s_put A p hh).1))), H') ∧ SC H' (s_put A p hh).2.2 nw' tr' fa' ga' pf' pg' ∧ ag H H' 356 374 ∧ H'.1 374 = some (.inl (1, 1, .inr (.inl f'))) ∧ ((s_put A p hh).1 = 0 → True) ∧ H.2.1 ≤ H'.2.1 ∧ H'.2.1 ≤ H.2.1 + 1 ∧ H'.2.2 ≤ H.2.2 + 6 := by
  obtain ⟨H1, nw', tr', fa', ga', pf', pg', ev, sc, s2, ag1⟩ := x_put (X := X) h hA (by omega) p hh
  have hA' := AI_put hA p hh
  have o1 : H1.1 374 = some (.inl (1, 1, .inr (.inl f))) := (ag1 374 (by omega) (by omega)).trans ho
  have n1 : H1.2.1 = H.2.1 := by rw [s2]
  have n2 : H1.2.2 = H.2.2 := by rw [s2]
  have cd : (s_put A p hh).1 = 0 ∨ (s_put A p hh).1 = 1 ∨ (s_put A p hh).1 = 2 ∨ (s_put A p hh).1 = 3 := by
    unfold s_put
    repeat' split
    all_goals first | exact Or.inl rfl | exact Or.inr rfl | exact Or.inr (Or.inl rfl) | exact Or.inr (Or.inr (Or.inl rfl)) | exact Or.inr (Or.inr rfl) | exact Or.inr (Or.inr (Or.inr rfl))
  rcases cd with z | z | z | z
  · rw [z] at ev ⊢
    have ev' : eEv pP X 40 3 [.ref 1, .int p, .int hh] H (.inl (none), H1) := ev
    refine ⟨H1, nw', tr', fa', ga', pf', pg', f, ?_, sc, ag_sub ag1 (by omega) (by omega), o1, fun _ => trivial, by omega, by omega, by omega⟩
    refine eEv.mono (d0 := 41) ?_ (by decide)
    refine eEv.of (Nat.not_lt.mpr (Nat.le_of_ble_eq_true rfl)) ?_
    refine eGs.steps 3 (y := (3, [some (.ref 1), some (.int p), some (.int hh), none], [.int hh, .int p, .ref 1], H)) rfl ?_
    refine g_callV rfl rfl rfl rfl rfl (by omega) h.1.1 rfl (ev'.mono (by decide)) ?_
    refine eGs.steps 2 (y := (19, [some (.ref 1), some (.int p), some (.int hh), none], [.int 0], H1)) rfl ?_
    exact eGs.fin rfl rfl rfl
  · rw [z] at ev ⊢
    have ev' : eEv pP X 40 3 [.ref 1, .int p, .int hh] H (eTw pP (9 + 1) (none) H1) := ev
    refine ⟨eNew H1 (.inr (10, (pP.bla 10).1)) (pP.bla 10).2, nw', tr', fa', ga', pf', pg', f, ?_, SC_fr sc hA' (ag_new (by omega)), ag_trans (ag_sub ag1 (by omega) (by omega)) (ag_new (by omega)), (eNew_off (by omega)).trans o1, fun w => absurd w (by decide), ?_, ?_, ?_⟩
    · refine eEv.mono (d0 := 41) ?_ (by decide)
      refine eEv.of (Nat.not_lt.mpr (Nat.le_of_ble_eq_true rfl)) ?_
      refine eGs.steps 3 (y := (3, [some (.ref 1), some (.int p), some (.int hh), none], [.int hh, .int p, .ref 1], H)) rfl ?_
      refine g_catV rfl rfl rfl rfl rfl (by omega) h.1.1 rfl (ev'.mono (by decide)) (by omega) rfl rfl rfl ?_
      refine eGs.steps 2 (y := (11, [some (.ref 1), some (.int p), some (.int hh), some (.ref H1.2.1)], [.int 1], eNew H1 (.inr (10, (pP.bla 10).1)) (pP.bla 10).2)) rfl ?_
      exact eGs.fin rfl rfl rfl
    · show H.2.1 ≤ H1.2.1 + 1
      omega
    · show H1.2.1 + 1 ≤ H.2.1 + 1
      omega
    · show H1.2.2 + (pP.bla 10).2 ≤ H.2.2 + 6
      have := bla_10
      omega
  · rw [z] at ev ⊢
    have ev' : eEv pP X 40 3 [.ref 1, .int p, .int hh] H (eTw pP (8 + 1) (none) H1) := ev
    refine ⟨eNew H1 (.inr (9, (pP.bla 9).1)) (pP.bla 9).2, nw', tr', fa', ga', pf', pg', f, ?_, SC_fr sc hA' (ag_new (by omega)), ag_trans (ag_sub ag1 (by omega) (by omega)) (ag_new (by omega)), (eNew_off (by omega)).trans o1, fun w => absurd w (by decide), ?_, ?_, ?_⟩
    · refine eEv.mono (d0 := 41) ?_ (by decide)
      refine eEv.of (Nat.not_lt.mpr (Nat.le_of_ble_eq_true rfl)) ?_
      refine eGs.steps 3 (y := (3, [some (.ref 1), some (.int p), some (.int hh), none], [.int hh, .int p, .ref 1], H)) rfl ?_
      refine g_catV rfl rfl rfl rfl rfl (by omega) h.1.1 rfl (ev'.mono (by decide)) (by omega) rfl rfl rfl ?_
      refine eGs.steps 2 (y := (14, [some (.ref 1), some (.int p), some (.int hh), some (.ref H1.2.1)], [.int 2], eNew H1 (.inr (9, (pP.bla 9).1)) (pP.bla 9).2)) rfl ?_
      exact eGs.fin rfl rfl rfl
    · show H.2.1 ≤ H1.2.1 + 1
      omega
    · show H1.2.1 + 1 ≤ H.2.1 + 1
      omega
    · show H1.2.2 + (pP.bla 9).2 ≤ H.2.2 + 6
      have := bla_9
      omega
  · rw [z] at ev ⊢
    have ev' : eEv pP X 40 3 [.ref 1, .int p, .int hh] H (eTw pP (10 + 1) (none) H1) := ev
    refine ⟨eNew H1 (.inr (11, (pP.bla 11).1)) (pP.bla 11).2, nw', tr', fa', ga', pf', pg', f, ?_, SC_fr sc hA' (ag_new (by omega)), ag_trans (ag_sub ag1 (by omega) (by omega)) (ag_new (by omega)), (eNew_off (by omega)).trans o1, fun w => absurd w (by decide), ?_, ?_, ?_⟩
    · refine eEv.mono (d0 := 41) ?_ (by decide)
      refine eEv.of (Nat.not_lt.mpr (Nat.le_of_ble_eq_true rfl)) ?_
      refine eGs.steps 3 (y := (3, [some (.ref 1), some (.int p), some (.int hh), none], [.int hh, .int p, .ref 1], H)) rfl ?_
      refine g_catV rfl rfl rfl rfl rfl (by omega) h.1.1 rfl (ev'.mono (by decide)) (by omega) rfl rfl rfl ?_
      refine eGs.steps 2 (y := (17, [some (.ref 1), some (.int p), some (.int hh), some (.ref H1.2.1)], [.int 3], eNew H1 (.inr (11, (pP.bla 11).1)) (pP.bla 11).2)) rfl ?_
      exact eGs.fin rfl rfl rfl
    · show H.2.1 ≤ H1.2.1 + 1
      omega
    · show H1.2.1 + 1 ≤ H.2.1 + 1
      omega
    · show H1.2.2 + (pP.bla 11).2 ≤ H.2.2 + 6
      have := bla_11
      omega
theorem k_rule {X : Nat × (Nat → Int32)} {H : eH} {A : qA} {nw tr fa ga pf pg : Nat} {f : Nat → Int64} (h : SC H A nw tr fa ga pf pg) (hA : AI A) (ho : H.1 374 = some (.inl (1, 1, .inr (.inl f)))) (hz : 375 ≤ H.2.1) (l a b c : Int32) : ∃ H' nw' tr' fa' ga' pf' pg' f', eEv pP X 42 127 [.ref 1, .int l, .int a, .int b, .int c, .ref 374] H (.inl (some (.int (nI (s_rule A l a b c).1))), H') ∧ SC H' (s_rule A l a b c).2.2 nw' tr' fa' ga' pf' pg' ∧ ag H H' 356 374 ∧ H'.1 374 = some (.inl (1, 1, .inr (.inl f'))) ∧ ((s_rule A l a b c).1 = 0 → f' 0 = (s_rule A l a b c).2.1.toInt64) ∧ H.2.1 ≤ H'.2.1 ∧ H'.2.1 ≤ H.2.1 + 1 ∧ H'.2.2 ≤ H.2.2 + 6 := by
  obtain ⟨H1, nw', tr', fa', ga', pf', pg', ev, sc, s2, ag1⟩ := x_rule (X := X) h hA (by omega) l a b c
  have hA' := AI_rule hA l a b c
  have o1 : H1.1 374 = some (.inl (1, 1, .inr (.inl f))) := (ag1 374 (by omega) (by omega)).trans ho
  have n1 : H1.2.1 = H.2.1 := by rw [s2]
  have n2 : H1.2.2 = H.2.2 := by rw [s2]
  have cd : (s_rule A l a b c).1 = 0 ∨ (s_rule A l a b c).1 = 1 ∨ (s_rule A l a b c).1 = 2 := by
    unfold s_rule
    repeat' split
    all_goals first | exact Or.inl rfl | exact Or.inr rfl | exact Or.inr (Or.inl rfl) | exact Or.inr (Or.inr (Or.inl rfl)) | exact Or.inr (Or.inr rfl) | exact Or.inr (Or.inr (Or.inr rfl))
  rcases cd with z | z | z
  · rw [z] at ev ⊢
    have ev' : eEv pP X 40 4 [.ref 1, .int l, .int a, .int b, .int c] H (.inl (some (.int (s_rule A l a b c).2.1)), H1) := ev
    generalize hH2 : eSetH H1 374 (.inl (1, 1, .inr (.inl (eUp f (0 : Int32).toNatClampNeg (s_rule A l a b c).2.1.toInt64)))) = H2
    have t2 : ∀ a, ¬ a = 374 → H2.1 a = H1.1 a := fun a ha => by rw [← hH2]; exact if_neg ha
    have p2 : H2.2 = H1.2 := by rw [← hH2]; rfl
    refine ⟨H2, nw', tr', fa', ga', pf', pg', eUp f 0 (s_rule A l a b c).2.1.toInt64, ?_, SC_fr sc hA' (fun a h1 h2 => t2 a (by omega)), fun a h1 h2 => (t2 a (by omega)).trans (ag1 a (by omega) (by omega)), by rw [← hH2, show (0 : Int32).toNatClampNeg = 0 by decide]; rfl, fun _ => q_up .., by rw [p2]; omega, by rw [p2]; omega, by rw [p2]; omega⟩
    refine eEv.mono (d0 := 41) ?_ (by decide)
    refine eEv.of (Nat.not_lt.mpr (Nat.le_of_ble_eq_true rfl)) ?_
    refine eGs.steps 7 (y := (9, [some (.ref 1), some (.int l), some (.int a), some (.int b), some (.int c), some (.ref 374), none], [.int c, .int b, .int a, .int l, .ref 1, .int 0, .ref 374], H)) rfl ?_
    refine g_callV rfl rfl rfl rfl rfl (by omega) h.1.1 rfl (ev'.mono (by decide)) ?_
    refine eGs.steps 1 (y := (13, [some (.ref 1), some (.int l), some (.int a), some (.int b), some (.int c), some (.ref 374), none], [.long (s_rule A l a b c).2.1.toInt64, .int 0, .ref 374], H1)) rfl ?_
    refine g_lastW rfl (by omega) o1 (by decide) hH2 ?_
    refine eGs.steps 2 (y := (26, [some (.ref 1), some (.int l), some (.int a), some (.int b), some (.int c), some (.ref 374), none], [.int 0], H2)) rfl ?_
    exact eGs.fin rfl rfl rfl
  · rw [z] at ev ⊢
    have ev' : eEv pP X 40 4 [.ref 1, .int l, .int a, .int b, .int c] H (eTw pP (8 + 1) (some (.int (s_rule A l a b c).2.1)) H1) := ev
    refine ⟨eNew H1 (.inr (9, (pP.bla 9).1)) (pP.bla 9).2, nw', tr', fa', ga', pf', pg', f, ?_, SC_fr sc hA' (ag_new (by omega)), ag_trans (ag_sub ag1 (by omega) (by omega)) (ag_new (by omega)), (eNew_off (by omega)).trans o1, fun w => absurd w (by decide), ?_, ?_, ?_⟩
    · refine eEv.mono (d0 := 41) ?_ (by decide)
      refine eEv.of (Nat.not_lt.mpr (Nat.le_of_ble_eq_true rfl)) ?_
      refine eGs.steps 7 (y := (9, [some (.ref 1), some (.int l), some (.int a), some (.int b), some (.int c), some (.ref 374), none], [.int c, .int b, .int a, .int l, .ref 1, .int 0, .ref 374], H)) rfl ?_
      refine g_catV rfl rfl rfl rfl rfl (by omega) h.1.1 rfl (ev'.mono (by decide)) (by omega) rfl rfl rfl ?_
      refine eGs.steps 2 (y := (20, [some (.ref 1), some (.int l), some (.int a), some (.int b), some (.int c), some (.ref 374), some (.ref H1.2.1)], [.int 1], eNew H1 (.inr (9, (pP.bla 9).1)) (pP.bla 9).2)) rfl ?_
      exact eGs.fin rfl rfl rfl
    · show H.2.1 ≤ H1.2.1 + 1
      omega
    · show H1.2.1 + 1 ≤ H.2.1 + 1
      omega
    · show H1.2.2 + (pP.bla 9).2 ≤ H.2.2 + 6
      have := bla_9
      omega
  · rw [z] at ev ⊢
    have ev' : eEv pP X 40 4 [.ref 1, .int l, .int a, .int b, .int c] H (eTw pP (10 + 1) (some (.int (s_rule A l a b c).2.1)) H1) := ev
    refine ⟨eNew H1 (.inr (11, (pP.bla 11).1)) (pP.bla 11).2, nw', tr', fa', ga', pf', pg', f, ?_, SC_fr sc hA' (ag_new (by omega)), ag_trans (ag_sub ag1 (by omega) (by omega)) (ag_new (by omega)), (eNew_off (by omega)).trans o1, fun w => absurd w (by decide), ?_, ?_, ?_⟩
    · refine eEv.mono (d0 := 41) ?_ (by decide)
      refine eEv.of (Nat.not_lt.mpr (Nat.le_of_ble_eq_true rfl)) ?_
      refine eGs.steps 7 (y := (9, [some (.ref 1), some (.int l), some (.int a), some (.int b), some (.int c), some (.ref 374), none], [.int c, .int b, .int a, .int l, .ref 1, .int 0, .ref 374], H)) rfl ?_
      refine g_catV rfl rfl rfl rfl rfl (by omega) h.1.1 rfl (ev'.mono (by decide)) (by omega) rfl rfl rfl ?_
      refine eGs.steps 2 (y := (24, [some (.ref 1), some (.int l), some (.int a), some (.int b), some (.int c), some (.ref 374), some (.ref H1.2.1)], [.int 2], eNew H1 (.inr (11, (pP.bla 11).1)) (pP.bla 11).2)) rfl ?_
      exact eGs.fin rfl rfl rfl
    · show H.2.1 ≤ H1.2.1 + 1
      omega
    · show H1.2.1 + 1 ≤ H.2.1 + 1
      omega
    · show H1.2.2 + (pP.bla 11).2 ≤ H.2.2 + 6
      have := bla_11
      omega
theorem k_into {X : Nat × (Nat → Int32)} {H : eH} {A : qA} {nw tr fa ga pf pg : Nat} {f : Nat → Int64} (h : SC H A nw tr fa ga pf pg) (hA : AI A) (ho : H.1 374 = some (.inl (1, 1, .inr (.inl f)))) (hz : 375 ≤ H.2.1) (r l hh : Int32) : ∃ H' nw' tr' fa' ga' pf' pg' f', eEv pP X 42 128 [.ref 1, .int r, .int l, .int hh] H (.inl (some (.int (nI (s_into A r l hh).1))), H') ∧ SC H' (s_into A r l hh).2.2 nw' tr' fa' ga' pf' pg' ∧ ag H H' 356 374 ∧ H'.1 374 = some (.inl (1, 1, .inr (.inl f'))) ∧ ((s_into A r l hh).1 = 0 → True) ∧ H.2.1 ≤ H'.2.1 ∧ H'.2.1 ≤ H.2.1 + 1 ∧ H'.2.2 ≤ H.2.2 + 6 := by
  obtain ⟨H1, nw', tr', fa', ga', pf', pg', ev, sc, s2, ag1⟩ := x_into (X := X) h hA (by omega) r l hh
  have hA' := AI_into hA r l hh
  have o1 : H1.1 374 = some (.inl (1, 1, .inr (.inl f))) := (ag1 374 (by omega) (by omega)).trans ho
  have n1 : H1.2.1 = H.2.1 := by rw [s2]
  have n2 : H1.2.2 = H.2.2 := by rw [s2]
  have cd : (s_into A r l hh).1 = 0 ∨ (s_into A r l hh).1 = 1 ∨ (s_into A r l hh).1 = 2 := by
    unfold s_into
    repeat' split
    all_goals first | exact Or.inl rfl | exact Or.inr rfl | exact Or.inr (Or.inl rfl) | exact Or.inr (Or.inr (Or.inl rfl)) | exact Or.inr (Or.inr rfl) | exact Or.inr (Or.inr (Or.inr rfl))
  rcases cd with z | z | z
  · rw [z] at ev ⊢
    have ev' : eEv pP X 40 5 [.ref 1, .int r, .int l, .int hh] H (.inl (none), H1) := ev
    refine ⟨H1, nw', tr', fa', ga', pf', pg', f, ?_, sc, ag_sub ag1 (by omega) (by omega), o1, fun _ => trivial, by omega, by omega, by omega⟩
    refine eEv.mono (d0 := 41) ?_ (by decide)
    refine eEv.of (Nat.not_lt.mpr (Nat.le_of_ble_eq_true rfl)) ?_
    refine eGs.steps 4 (y := (4, [some (.ref 1), some (.int r), some (.int l), some (.int hh), none], [.int hh, .int l, .int r, .ref 1], H)) rfl ?_
    refine g_callV rfl rfl rfl rfl rfl (by omega) h.1.1 rfl (ev'.mono (by decide)) ?_
    refine eGs.steps 2 (y := (19, [some (.ref 1), some (.int r), some (.int l), some (.int hh), none], [.int 0], H1)) rfl ?_
    exact eGs.fin rfl rfl rfl
  · rw [z] at ev ⊢
    have ev' : eEv pP X 40 5 [.ref 1, .int r, .int l, .int hh] H (eTw pP (9 + 1) (none) H1) := ev
    refine ⟨eNew H1 (.inr (10, (pP.bla 10).1)) (pP.bla 10).2, nw', tr', fa', ga', pf', pg', f, ?_, SC_fr sc hA' (ag_new (by omega)), ag_trans (ag_sub ag1 (by omega) (by omega)) (ag_new (by omega)), (eNew_off (by omega)).trans o1, fun w => absurd w (by decide), ?_, ?_, ?_⟩
    · refine eEv.mono (d0 := 41) ?_ (by decide)
      refine eEv.of (Nat.not_lt.mpr (Nat.le_of_ble_eq_true rfl)) ?_
      refine eGs.steps 4 (y := (4, [some (.ref 1), some (.int r), some (.int l), some (.int hh), none], [.int hh, .int l, .int r, .ref 1], H)) rfl ?_
      refine g_catV rfl rfl rfl rfl rfl (by omega) h.1.1 rfl (ev'.mono (by decide)) (by omega) rfl rfl rfl ?_
      refine eGs.steps 2 (y := (13, [some (.ref 1), some (.int r), some (.int l), some (.int hh), some (.ref H1.2.1)], [.int 1], eNew H1 (.inr (10, (pP.bla 10).1)) (pP.bla 10).2)) rfl ?_
      exact eGs.fin rfl rfl rfl
    · show H.2.1 ≤ H1.2.1 + 1
      omega
    · show H1.2.1 + 1 ≤ H.2.1 + 1
      omega
    · show H1.2.2 + (pP.bla 10).2 ≤ H.2.2 + 6
      have := bla_10
      omega
  · rw [z] at ev ⊢
    have ev' : eEv pP X 40 5 [.ref 1, .int r, .int l, .int hh] H (eTw pP (8 + 1) (none) H1) := ev
    refine ⟨eNew H1 (.inr (9, (pP.bla 9).1)) (pP.bla 9).2, nw', tr', fa', ga', pf', pg', f, ?_, SC_fr sc hA' (ag_new (by omega)), ag_trans (ag_sub ag1 (by omega) (by omega)) (ag_new (by omega)), (eNew_off (by omega)).trans o1, fun w => absurd w (by decide), ?_, ?_, ?_⟩
    · refine eEv.mono (d0 := 41) ?_ (by decide)
      refine eEv.of (Nat.not_lt.mpr (Nat.le_of_ble_eq_true rfl)) ?_
      refine eGs.steps 4 (y := (4, [some (.ref 1), some (.int r), some (.int l), some (.int hh), none], [.int hh, .int l, .int r, .ref 1], H)) rfl ?_
      refine g_catV rfl rfl rfl rfl rfl (by omega) h.1.1 rfl (ev'.mono (by decide)) (by omega) rfl rfl rfl ?_
      refine eGs.steps 2 (y := (17, [some (.ref 1), some (.int r), some (.int l), some (.int hh), some (.ref H1.2.1)], [.int 2], eNew H1 (.inr (9, (pP.bla 9).1)) (pP.bla 9).2)) rfl ?_
      exact eGs.fin rfl rfl rfl
    · show H.2.1 ≤ H1.2.1 + 1
      omega
    · show H1.2.1 + 1 ≤ H.2.1 + 1
      omega
    · show H1.2.2 + (pP.bla 9).2 ≤ H.2.2 + 6
      have := bla_9
      omega
theorem k_dissolve {X : Nat × (Nat → Int32)} {H : eH} {A : qA} {nw tr fa ga pf pg : Nat} {f : Nat → Int64} (h : SC H A nw tr fa ga pf pg) (hA : AI A) (ho : H.1 374 = some (.inl (1, 1, .inr (.inl f)))) (hz : 375 ≤ H.2.1) (r : Int32) : ∃ H' nw' tr' fa' ga' pf' pg' f', eEv pP X 42 129 [.ref 1, .int r] H (.inl (some (.int (nI (s_dissolve A r).1))), H') ∧ SC H' (s_dissolve A r).2.2 nw' tr' fa' ga' pf' pg' ∧ ag H H' 356 374 ∧ H'.1 374 = some (.inl (1, 1, .inr (.inl f'))) ∧ ((s_dissolve A r).1 = 0 → True) ∧ H.2.1 ≤ H'.2.1 ∧ H'.2.1 ≤ H.2.1 + 1 ∧ H'.2.2 ≤ H.2.2 + 6 := by
  obtain ⟨H1, nw', tr', fa', ga', pf', pg', ev, sc, s2, ag1⟩ := x_dissolve (X := X) h hA (by omega) r
  have hA' := AI_dissolve hA r
  have o1 : H1.1 374 = some (.inl (1, 1, .inr (.inl f))) := (ag1 374 (by omega) (by omega)).trans ho
  have n1 : H1.2.1 = H.2.1 := by rw [s2]
  have n2 : H1.2.2 = H.2.2 := by rw [s2]
  have cd : (s_dissolve A r).1 = 0 ∨ (s_dissolve A r).1 = 1 ∨ (s_dissolve A r).1 = 2 := by
    unfold s_dissolve
    repeat' split
    all_goals first | exact Or.inl rfl | exact Or.inr rfl | exact Or.inr (Or.inl rfl) | exact Or.inr (Or.inr (Or.inl rfl)) | exact Or.inr (Or.inr rfl) | exact Or.inr (Or.inr (Or.inr rfl))
  rcases cd with z | z | z
  · rw [z] at ev ⊢
    have ev' : eEv pP X 40 6 [.ref 1, .int r] H (.inl (none), H1) := ev
    refine ⟨H1, nw', tr', fa', ga', pf', pg', f, ?_, sc, ag_sub ag1 (by omega) (by omega), o1, fun _ => trivial, by omega, by omega, by omega⟩
    refine eEv.mono (d0 := 41) ?_ (by decide)
    refine eEv.of (Nat.not_lt.mpr (Nat.le_of_ble_eq_true rfl)) ?_
    refine eGs.steps 2 (y := (2, [some (.ref 1), some (.int r), none], [.int r, .ref 1], H)) rfl ?_
    refine g_callV rfl rfl rfl rfl rfl (by omega) h.1.1 rfl (ev'.mono (by decide)) ?_
    refine eGs.steps 2 (y := (15, [some (.ref 1), some (.int r), none], [.int 0], H1)) rfl ?_
    exact eGs.fin rfl rfl rfl
  · rw [z] at ev ⊢
    have ev' : eEv pP X 40 6 [.ref 1, .int r] H (eTw pP (9 + 1) (none) H1) := ev
    refine ⟨eNew H1 (.inr (10, (pP.bla 10).1)) (pP.bla 10).2, nw', tr', fa', ga', pf', pg', f, ?_, SC_fr sc hA' (ag_new (by omega)), ag_trans (ag_sub ag1 (by omega) (by omega)) (ag_new (by omega)), (eNew_off (by omega)).trans o1, fun w => absurd w (by decide), ?_, ?_, ?_⟩
    · refine eEv.mono (d0 := 41) ?_ (by decide)
      refine eEv.of (Nat.not_lt.mpr (Nat.le_of_ble_eq_true rfl)) ?_
      refine eGs.steps 2 (y := (2, [some (.ref 1), some (.int r), none], [.int r, .ref 1], H)) rfl ?_
      refine g_catV rfl rfl rfl rfl rfl (by omega) h.1.1 rfl (ev'.mono (by decide)) (by omega) rfl rfl rfl ?_
      refine eGs.steps 2 (y := (10, [some (.ref 1), some (.int r), some (.ref H1.2.1)], [.int 1], eNew H1 (.inr (10, (pP.bla 10).1)) (pP.bla 10).2)) rfl ?_
      exact eGs.fin rfl rfl rfl
    · show H.2.1 ≤ H1.2.1 + 1
      omega
    · show H1.2.1 + 1 ≤ H.2.1 + 1
      omega
    · show H1.2.2 + (pP.bla 10).2 ≤ H.2.2 + 6
      have := bla_10
      omega
  · rw [z] at ev ⊢
    have ev' : eEv pP X 40 6 [.ref 1, .int r] H (eTw pP (10 + 1) (none) H1) := ev
    refine ⟨eNew H1 (.inr (11, (pP.bla 11).1)) (pP.bla 11).2, nw', tr', fa', ga', pf', pg', f, ?_, SC_fr sc hA' (ag_new (by omega)), ag_trans (ag_sub ag1 (by omega) (by omega)) (ag_new (by omega)), (eNew_off (by omega)).trans o1, fun w => absurd w (by decide), ?_, ?_, ?_⟩
    · refine eEv.mono (d0 := 41) ?_ (by decide)
      refine eEv.of (Nat.not_lt.mpr (Nat.le_of_ble_eq_true rfl)) ?_
      refine eGs.steps 2 (y := (2, [some (.ref 1), some (.int r), none], [.int r, .ref 1], H)) rfl ?_
      refine g_catV rfl rfl rfl rfl rfl (by omega) h.1.1 rfl (ev'.mono (by decide)) (by omega) rfl rfl rfl ?_
      refine eGs.steps 2 (y := (13, [some (.ref 1), some (.int r), some (.ref H1.2.1)], [.int 2], eNew H1 (.inr (11, (pP.bla 11).1)) (pP.bla 11).2)) rfl ?_
      exact eGs.fin rfl rfl rfl
    · show H.2.1 ≤ H1.2.1 + 1
      omega
    · show H1.2.1 + 1 ≤ H.2.1 + 1
      omega
    · show H1.2.2 + (pP.bla 11).2 ≤ H.2.2 + 6
      have := bla_11
      omega
theorem k_divide {X : Nat × (Nat → Int32)} {H : eH} {A : qA} {nw tr fa ga pf pg : Nat} {f : Nat → Int64} (h : SC H A nw tr fa ga pf pg) (hA : AI A) (ho : H.1 374 = some (.inl (1, 1, .inr (.inl f)))) (hz : 375 ≤ H.2.1) (r o : Int32) : ∃ H' nw' tr' fa' ga' pf' pg' f', eEv pP X 42 130 [.ref 1, .int r, .int o] H (.inl (some (.int (nI (s_divide A r o).1))), H') ∧ SC H' (s_divide A r o).2.2 nw' tr' fa' ga' pf' pg' ∧ ag H H' 356 374 ∧ H'.1 374 = some (.inl (1, 1, .inr (.inl f'))) ∧ ((s_divide A r o).1 = 0 → True) ∧ H.2.1 ≤ H'.2.1 ∧ H'.2.1 ≤ H.2.1 + 1 ∧ H'.2.2 ≤ H.2.2 + 6 := by
  obtain ⟨H1, nw', tr', fa', ga', pf', pg', ev, sc, s2, ag1⟩ := x_divide (X := X) h hA (by omega) r o
  have hA' := AI_divide hA r o
  have o1 : H1.1 374 = some (.inl (1, 1, .inr (.inl f))) := (ag1 374 (by omega) (by omega)).trans ho
  have n1 : H1.2.1 = H.2.1 := by rw [s2]
  have n2 : H1.2.2 = H.2.2 := by rw [s2]
  have cd : (s_divide A r o).1 = 0 ∨ (s_divide A r o).1 = 1 ∨ (s_divide A r o).1 = 2 ∨ (s_divide A r o).1 = 3 := by
    unfold s_divide
    repeat' split
    all_goals first | exact Or.inl rfl | exact Or.inr rfl | exact Or.inr (Or.inl rfl) | exact Or.inr (Or.inr (Or.inl rfl)) | exact Or.inr (Or.inr rfl) | exact Or.inr (Or.inr (Or.inr rfl))
  rcases cd with z | z | z | z
  · rw [z] at ev ⊢
    have ev' : eEv pP X 40 7 [.ref 1, .int r, .int o] H (.inl (none), H1) := ev
    refine ⟨H1, nw', tr', fa', ga', pf', pg', f, ?_, sc, ag_sub ag1 (by omega) (by omega), o1, fun _ => trivial, by omega, by omega, by omega⟩
    refine eEv.mono (d0 := 41) ?_ (by decide)
    refine eEv.of (Nat.not_lt.mpr (Nat.le_of_ble_eq_true rfl)) ?_
    refine eGs.steps 3 (y := (3, [some (.ref 1), some (.int r), some (.int o), none], [.int o, .int r, .ref 1], H)) rfl ?_
    refine g_callV rfl rfl rfl rfl rfl (by omega) h.1.1 rfl (ev'.mono (by decide)) ?_
    refine eGs.steps 2 (y := (19, [some (.ref 1), some (.int r), some (.int o), none], [.int 0], H1)) rfl ?_
    exact eGs.fin rfl rfl rfl
  · rw [z] at ev ⊢
    have ev' : eEv pP X 40 7 [.ref 1, .int r, .int o] H (eTw pP (9 + 1) (none) H1) := ev
    refine ⟨eNew H1 (.inr (10, (pP.bla 10).1)) (pP.bla 10).2, nw', tr', fa', ga', pf', pg', f, ?_, SC_fr sc hA' (ag_new (by omega)), ag_trans (ag_sub ag1 (by omega) (by omega)) (ag_new (by omega)), (eNew_off (by omega)).trans o1, fun w => absurd w (by decide), ?_, ?_, ?_⟩
    · refine eEv.mono (d0 := 41) ?_ (by decide)
      refine eEv.of (Nat.not_lt.mpr (Nat.le_of_ble_eq_true rfl)) ?_
      refine eGs.steps 3 (y := (3, [some (.ref 1), some (.int r), some (.int o), none], [.int o, .int r, .ref 1], H)) rfl ?_
      refine g_catV rfl rfl rfl rfl rfl (by omega) h.1.1 rfl (ev'.mono (by decide)) (by omega) rfl rfl rfl ?_
      refine eGs.steps 2 (y := (11, [some (.ref 1), some (.int r), some (.int o), some (.ref H1.2.1)], [.int 1], eNew H1 (.inr (10, (pP.bla 10).1)) (pP.bla 10).2)) rfl ?_
      exact eGs.fin rfl rfl rfl
    · show H.2.1 ≤ H1.2.1 + 1
      omega
    · show H1.2.1 + 1 ≤ H.2.1 + 1
      omega
    · show H1.2.2 + (pP.bla 10).2 ≤ H.2.2 + 6
      have := bla_10
      omega
  · rw [z] at ev ⊢
    have ev' : eEv pP X 40 7 [.ref 1, .int r, .int o] H (eTw pP (8 + 1) (none) H1) := ev
    refine ⟨eNew H1 (.inr (9, (pP.bla 9).1)) (pP.bla 9).2, nw', tr', fa', ga', pf', pg', f, ?_, SC_fr sc hA' (ag_new (by omega)), ag_trans (ag_sub ag1 (by omega) (by omega)) (ag_new (by omega)), (eNew_off (by omega)).trans o1, fun w => absurd w (by decide), ?_, ?_, ?_⟩
    · refine eEv.mono (d0 := 41) ?_ (by decide)
      refine eEv.of (Nat.not_lt.mpr (Nat.le_of_ble_eq_true rfl)) ?_
      refine eGs.steps 3 (y := (3, [some (.ref 1), some (.int r), some (.int o), none], [.int o, .int r, .ref 1], H)) rfl ?_
      refine g_catV rfl rfl rfl rfl rfl (by omega) h.1.1 rfl (ev'.mono (by decide)) (by omega) rfl rfl rfl ?_
      refine eGs.steps 2 (y := (14, [some (.ref 1), some (.int r), some (.int o), some (.ref H1.2.1)], [.int 2], eNew H1 (.inr (9, (pP.bla 9).1)) (pP.bla 9).2)) rfl ?_
      exact eGs.fin rfl rfl rfl
    · show H.2.1 ≤ H1.2.1 + 1
      omega
    · show H1.2.1 + 1 ≤ H.2.1 + 1
      omega
    · show H1.2.2 + (pP.bla 9).2 ≤ H.2.2 + 6
      have := bla_9
      omega
  · rw [z] at ev ⊢
    have ev' : eEv pP X 40 7 [.ref 1, .int r, .int o] H (eTw pP (10 + 1) (none) H1) := ev
    refine ⟨eNew H1 (.inr (11, (pP.bla 11).1)) (pP.bla 11).2, nw', tr', fa', ga', pf', pg', f, ?_, SC_fr sc hA' (ag_new (by omega)), ag_trans (ag_sub ag1 (by omega) (by omega)) (ag_new (by omega)), (eNew_off (by omega)).trans o1, fun w => absurd w (by decide), ?_, ?_, ?_⟩
    · refine eEv.mono (d0 := 41) ?_ (by decide)
      refine eEv.of (Nat.not_lt.mpr (Nat.le_of_ble_eq_true rfl)) ?_
      refine eGs.steps 3 (y := (3, [some (.ref 1), some (.int r), some (.int o), none], [.int o, .int r, .ref 1], H)) rfl ?_
      refine g_catV rfl rfl rfl rfl rfl (by omega) h.1.1 rfl (ev'.mono (by decide)) (by omega) rfl rfl rfl ?_
      refine eGs.steps 2 (y := (17, [some (.ref 1), some (.int r), some (.int o), some (.ref H1.2.1)], [.int 3], eNew H1 (.inr (11, (pP.bla 11).1)) (pP.bla 11).2)) rfl ?_
      exact eGs.fin rfl rfl rfl
    · show H.2.1 ≤ H1.2.1 + 1
      omega
    · show H1.2.1 + 1 ≤ H.2.1 + 1
      omega
    · show H1.2.2 + (pP.bla 11).2 ≤ H.2.2 + 6
      have := bla_11
      omega
theorem k_round {X : Nat × (Nat → Int32)} {H : eH} {A : qA} {nw tr fa ga pf pg : Nat} {f : Nat → Int64} (h : SC H A nw tr fa ga pf pg) (hA : AI A) (ho : H.1 374 = some (.inl (1, 1, .inr (.inl f)))) (hz : 375 ≤ H.2.1) : ∃ H' nw' tr' fa' ga' pf' pg' f', eEv pP X 42 131 [.ref 1, .ref 374] H (.inl (some (.int (nI (s_round A).1))), H') ∧ SC H' (s_round A).2.2 nw' tr' fa' ga' pf' pg' ∧ ag H H' 356 374 ∧ H'.1 374 = some (.inl (1, 1, .inr (.inl f'))) ∧ ((s_round A).1 = 0 → f' 0 = (s_round A).2.1.toInt64) ∧ H.2.1 ≤ H'.2.1 ∧ H'.2.1 ≤ H.2.1 + 1 ∧ H'.2.2 ≤ H.2.2 + 6 := by
  obtain ⟨H1, nw', tr', fa', ga', pf', pg', ev, sc, s2, ag1⟩ := x_round (X := X) h hA (by omega)
  have hA' := AI_round hA
  have o1 : H1.1 374 = some (.inl (1, 1, .inr (.inl f))) := (ag1 374 (by omega) (by omega)).trans ho
  have n1 : H1.2.1 = H.2.1 := by rw [s2]
  have n2 : H1.2.2 = H.2.2 := by rw [s2]
  have cd : (s_round A).1 = 0 ∨ (s_round A).1 = 1 := by
    unfold s_round
    repeat' split
    all_goals first | exact Or.inl rfl | exact Or.inr rfl | exact Or.inr (Or.inl rfl) | exact Or.inr (Or.inr (Or.inl rfl)) | exact Or.inr (Or.inr rfl) | exact Or.inr (Or.inr (Or.inr rfl))
  rcases cd with z | z
  · rw [z] at ev ⊢
    have ev' : eEv pP X 40 8 [.ref 1] H (.inl (some (.int (s_round A).2.1)), H1) := ev
    generalize hH2 : eSetH H1 374 (.inl (1, 1, .inr (.inl (eUp f (0 : Int32).toNatClampNeg (s_round A).2.1.toInt64)))) = H2
    have t2 : ∀ a, ¬ a = 374 → H2.1 a = H1.1 a := fun a ha => by rw [← hH2]; exact if_neg ha
    have p2 : H2.2 = H1.2 := by rw [← hH2]; rfl
    refine ⟨H2, nw', tr', fa', ga', pf', pg', eUp f 0 (s_round A).2.1.toInt64, ?_, SC_fr sc hA' (fun a h1 h2 => t2 a (by omega)), fun a h1 h2 => (t2 a (by omega)).trans (ag1 a (by omega) (by omega)), by rw [← hH2, show (0 : Int32).toNatClampNeg = 0 by decide]; rfl, fun _ => q_up .., by rw [p2]; omega, by rw [p2]; omega, by rw [p2]; omega⟩
    refine eEv.mono (d0 := 41) ?_ (by decide)
    refine eEv.of (Nat.not_lt.mpr (Nat.le_of_ble_eq_true rfl)) ?_
    refine eGs.steps 3 (y := (3, [some (.ref 1), some (.ref 374), none], [.ref 1, .int 0, .ref 374], H)) rfl ?_
    refine g_callV rfl rfl rfl rfl rfl (by omega) h.1.1 rfl (ev'.mono (by decide)) ?_
    refine eGs.steps 1 (y := (7, [some (.ref 1), some (.ref 374), none], [.long (s_round A).2.1.toInt64, .int 0, .ref 374], H1)) rfl ?_
    refine g_lastW rfl (by omega) o1 (by decide) hH2 ?_
    refine eGs.steps 2 (y := (15, [some (.ref 1), some (.ref 374), none], [.int 0], H2)) rfl ?_
    exact eGs.fin rfl rfl rfl
  · rw [z] at ev ⊢
    have ev' : eEv pP X 40 8 [.ref 1] H (eTw pP (10 + 1) (some (.int (s_round A).2.1)) H1) := ev
    refine ⟨eNew H1 (.inr (11, (pP.bla 11).1)) (pP.bla 11).2, nw', tr', fa', ga', pf', pg', f, ?_, SC_fr sc hA' (ag_new (by omega)), ag_trans (ag_sub ag1 (by omega) (by omega)) (ag_new (by omega)), (eNew_off (by omega)).trans o1, fun w => absurd w (by decide), ?_, ?_, ?_⟩
    · refine eEv.mono (d0 := 41) ?_ (by decide)
      refine eEv.of (Nat.not_lt.mpr (Nat.le_of_ble_eq_true rfl)) ?_
      refine eGs.steps 3 (y := (3, [some (.ref 1), some (.ref 374), none], [.ref 1, .int 0, .ref 374], H)) rfl ?_
      refine g_catV rfl rfl rfl rfl rfl (by omega) h.1.1 rfl (ev'.mono (by decide)) (by omega) rfl rfl rfl ?_
      refine eGs.steps 2 (y := (13, [some (.ref 1), some (.ref 374), some (.ref H1.2.1)], [.int 1], eNew H1 (.inr (11, (pP.bla 11).1)) (pP.bla 11).2)) rfl ?_
      exact eGs.fin rfl rfl rfl
    · show H.2.1 ≤ H1.2.1 + 1
      omega
    · show H1.2.1 + 1 ≤ H.2.1 + 1
      omega
    · show H1.2.2 + (pP.bla 11).2 ≤ H.2.2 + 6
      have := bla_11
      omega
theorem k_uses {X : Nat × (Nat → Int32)} {H : eH} {A : qA} {nw tr fa ga pf pg : Nat} {f : Nat → Int64} (h : SC H A nw tr fa ga pf pg) (hA : AI A) (ho : H.1 374 = some (.inl (1, 1, .inr (.inl f)))) (hz : 375 ≤ H.2.1) (p r : Int32) : ∃ H' nw' tr' fa' ga' pf' pg' f', eEv pP X 42 132 [.ref 1, .int p, .int r, .ref 374] H (.inl (some (.int (nI (s_uses A p r).1))), H') ∧ SC H' A nw' tr' fa' ga' pf' pg' ∧ ag H H' 356 374 ∧ H'.1 374 = some (.inl (1, 1, .inr (.inl f'))) ∧ ((s_uses A p r).1 = 0 → f' 0 = (s_uses A p r).2.1.toInt64) ∧ H.2.1 ≤ H'.2.1 ∧ H'.2.1 ≤ H.2.1 + 1 ∧ H'.2.2 ≤ H.2.2 + 6 := by
  obtain ⟨H1, nw', tr', fa', ga', pf', pg', ev, sc, s2, ag1⟩ := x_uses (X := X) h hA (by omega) p r
  have hA' := hA
  have o1 : H1.1 374 = some (.inl (1, 1, .inr (.inl f))) := (ag1 374 (by omega) (by omega)).trans ho
  have n1 : H1.2.1 = H.2.1 := by rw [s2]
  have n2 : H1.2.2 = H.2.2 := by rw [s2]
  have cd : (s_uses A p r).1 = 0 ∨ (s_uses A p r).1 = 1 := by
    unfold s_uses
    repeat' split
    all_goals first | exact Or.inl rfl | exact Or.inr rfl | exact Or.inr (Or.inl rfl) | exact Or.inr (Or.inr (Or.inl rfl)) | exact Or.inr (Or.inr rfl) | exact Or.inr (Or.inr (Or.inr rfl))
  rcases cd with z | z
  · rw [z] at ev ⊢
    have ev' : eEv pP X 40 9 [.ref 1, .int p, .int r] H (.inl (some (.int (s_uses A p r).2.1)), H1) := ev
    generalize hH2 : eSetH H1 374 (.inl (1, 1, .inr (.inl (eUp f (0 : Int32).toNatClampNeg (s_uses A p r).2.1.toInt64)))) = H2
    have t2 : ∀ a, ¬ a = 374 → H2.1 a = H1.1 a := fun a ha => by rw [← hH2]; exact if_neg ha
    have p2 : H2.2 = H1.2 := by rw [← hH2]; rfl
    refine ⟨H2, nw', tr', fa', ga', pf', pg', eUp f 0 (s_uses A p r).2.1.toInt64, ?_, SC_fr sc hA' (fun a h1 h2 => t2 a (by omega)), fun a h1 h2 => (t2 a (by omega)).trans (ag1 a (by omega) (by omega)), by rw [← hH2, show (0 : Int32).toNatClampNeg = 0 by decide]; rfl, fun _ => q_up .., by rw [p2]; omega, by rw [p2]; omega, by rw [p2]; omega⟩
    refine eEv.mono (d0 := 41) ?_ (by decide)
    refine eEv.of (Nat.not_lt.mpr (Nat.le_of_ble_eq_true rfl)) ?_
    refine eGs.steps 5 (y := (5, [some (.ref 1), some (.int p), some (.int r), some (.ref 374), none], [.int r, .int p, .ref 1, .int 0, .ref 374], H)) rfl ?_
    refine g_callV rfl rfl rfl rfl rfl (by omega) h.1.1 rfl (ev'.mono (by decide)) ?_
    refine eGs.steps 1 (y := (9, [some (.ref 1), some (.int p), some (.int r), some (.ref 374), none], [.long (s_uses A p r).2.1.toInt64, .int 0, .ref 374], H1)) rfl ?_
    refine g_lastW rfl (by omega) o1 (by decide) hH2 ?_
    refine eGs.steps 2 (y := (18, [some (.ref 1), some (.int p), some (.int r), some (.ref 374), none], [.int 0], H2)) rfl ?_
    exact eGs.fin rfl rfl rfl
  · rw [z] at ev ⊢
    have ev' : eEv pP X 40 9 [.ref 1, .int p, .int r] H (eTw pP (9 + 1) (some (.int (s_uses A p r).2.1)) H1) := ev
    refine ⟨eNew H1 (.inr (10, (pP.bla 10).1)) (pP.bla 10).2, nw', tr', fa', ga', pf', pg', f, ?_, SC_fr sc hA' (ag_new (by omega)), ag_trans (ag_sub ag1 (by omega) (by omega)) (ag_new (by omega)), (eNew_off (by omega)).trans o1, fun w => absurd w (by decide), ?_, ?_, ?_⟩
    · refine eEv.mono (d0 := 41) ?_ (by decide)
      refine eEv.of (Nat.not_lt.mpr (Nat.le_of_ble_eq_true rfl)) ?_
      refine eGs.steps 5 (y := (5, [some (.ref 1), some (.int p), some (.int r), some (.ref 374), none], [.int r, .int p, .ref 1, .int 0, .ref 374], H)) rfl ?_
      refine g_catV rfl rfl rfl rfl rfl (by omega) h.1.1 rfl (ev'.mono (by decide)) (by omega) rfl rfl rfl ?_
      refine eGs.steps 2 (y := (16, [some (.ref 1), some (.int p), some (.int r), some (.ref 374), some (.ref H1.2.1)], [.int 1], eNew H1 (.inr (10, (pP.bla 10).1)) (pP.bla 10).2)) rfl ?_
      exact eGs.fin rfl rfl rfl
    · show H.2.1 ≤ H1.2.1 + 1
      omega
    · show H1.2.1 + 1 ≤ H.2.1 + 1
      omega
    · show H1.2.2 + (pP.bla 10).2 ≤ H.2.2 + 6
      have := bla_10
      omega
theorem k_choices {X : Nat × (Nat → Int32)} {H : eH} {A : qA} {nw tr fa ga pf pg : Nat} {f : Nat → Int64} (h : SC H A nw tr fa ga pf pg) (hA : AI A) (ho : H.1 374 = some (.inl (1, 1, .inr (.inl f)))) (hz : 375 ≤ H.2.1) (p : Int32) : ∃ H' nw' tr' fa' ga' pf' pg' f', eEv pP X 42 133 [.ref 1, .int p, .ref 374] H (.inl (some (.int (nI (s_choices A p).1))), H') ∧ SC H' A nw' tr' fa' ga' pf' pg' ∧ ag H H' 356 374 ∧ H'.1 374 = some (.inl (1, 1, .inr (.inl f'))) ∧ ((s_choices A p).1 = 0 → f' 0 = (s_choices A p).2.1.toInt64) ∧ H.2.1 ≤ H'.2.1 ∧ H'.2.1 ≤ H.2.1 + 1 ∧ H'.2.2 ≤ H.2.2 + 6 := by
  obtain ⟨H1, nw', tr', fa', ga', pf', pg', ev, sc, s2, ag1⟩ := x_choices (X := X) h hA (by omega) p
  have hA' := hA
  have o1 : H1.1 374 = some (.inl (1, 1, .inr (.inl f))) := (ag1 374 (by omega) (by omega)).trans ho
  have n1 : H1.2.1 = H.2.1 := by rw [s2]
  have n2 : H1.2.2 = H.2.2 := by rw [s2]
  have cd : (s_choices A p).1 = 0 ∨ (s_choices A p).1 = 1 := by
    unfold s_choices
    repeat' split
    all_goals first | exact Or.inl rfl | exact Or.inr rfl | exact Or.inr (Or.inl rfl) | exact Or.inr (Or.inr (Or.inl rfl)) | exact Or.inr (Or.inr rfl) | exact Or.inr (Or.inr (Or.inr rfl))
  rcases cd with z | z
  · rw [z] at ev ⊢
    have ev' : eEv pP X 40 10 [.ref 1, .int p] H (.inl (some (.int (s_choices A p).2.1)), H1) := ev
    generalize hH2 : eSetH H1 374 (.inl (1, 1, .inr (.inl (eUp f (0 : Int32).toNatClampNeg (s_choices A p).2.1.toInt64)))) = H2
    have t2 : ∀ a, ¬ a = 374 → H2.1 a = H1.1 a := fun a ha => by rw [← hH2]; exact if_neg ha
    have p2 : H2.2 = H1.2 := by rw [← hH2]; rfl
    refine ⟨H2, nw', tr', fa', ga', pf', pg', eUp f 0 (s_choices A p).2.1.toInt64, ?_, SC_fr sc hA' (fun a h1 h2 => t2 a (by omega)), fun a h1 h2 => (t2 a (by omega)).trans (ag1 a (by omega) (by omega)), by rw [← hH2, show (0 : Int32).toNatClampNeg = 0 by decide]; rfl, fun _ => q_up .., by rw [p2]; omega, by rw [p2]; omega, by rw [p2]; omega⟩
    refine eEv.mono (d0 := 41) ?_ (by decide)
    refine eEv.of (Nat.not_lt.mpr (Nat.le_of_ble_eq_true rfl)) ?_
    refine eGs.steps 4 (y := (4, [some (.ref 1), some (.int p), some (.ref 374), none], [.int p, .ref 1, .int 0, .ref 374], H)) rfl ?_
    refine g_callV rfl rfl rfl rfl rfl (by omega) h.1.1 rfl (ev'.mono (by decide)) ?_
    refine eGs.steps 1 (y := (8, [some (.ref 1), some (.int p), some (.ref 374), none], [.long (s_choices A p).2.1.toInt64, .int 0, .ref 374], H1)) rfl ?_
    refine g_lastW rfl (by omega) o1 (by decide) hH2 ?_
    refine eGs.steps 2 (y := (16, [some (.ref 1), some (.int p), some (.ref 374), none], [.int 0], H2)) rfl ?_
    exact eGs.fin rfl rfl rfl
  · rw [z] at ev ⊢
    have ev' : eEv pP X 40 10 [.ref 1, .int p] H (eTw pP (9 + 1) (some (.int (s_choices A p).2.1)) H1) := ev
    refine ⟨eNew H1 (.inr (10, (pP.bla 10).1)) (pP.bla 10).2, nw', tr', fa', ga', pf', pg', f, ?_, SC_fr sc hA' (ag_new (by omega)), ag_trans (ag_sub ag1 (by omega) (by omega)) (ag_new (by omega)), (eNew_off (by omega)).trans o1, fun w => absurd w (by decide), ?_, ?_, ?_⟩
    · refine eEv.mono (d0 := 41) ?_ (by decide)
      refine eEv.of (Nat.not_lt.mpr (Nat.le_of_ble_eq_true rfl)) ?_
      refine eGs.steps 4 (y := (4, [some (.ref 1), some (.int p), some (.ref 374), none], [.int p, .ref 1, .int 0, .ref 374], H)) rfl ?_
      refine g_catV rfl rfl rfl rfl rfl (by omega) h.1.1 rfl (ev'.mono (by decide)) (by omega) rfl rfl rfl ?_
      refine eGs.steps 2 (y := (14, [some (.ref 1), some (.int p), some (.ref 374), some (.ref H1.2.1)], [.int 1], eNew H1 (.inr (10, (pP.bla 10).1)) (pP.bla 10).2)) rfl ?_
      exact eGs.fin rfl rfl rfl
    · show H.2.1 ≤ H1.2.1 + 1
      omega
    · show H1.2.1 + 1 ≤ H.2.1 + 1
      omega
    · show H1.2.2 + (pP.bla 10).2 ≤ H.2.2 + 6
      have := bla_10
      omega
theorem k_at {X : Nat × (Nat → Int32)} {H : eH} {A : qA} {nw tr fa ga pf pg : Nat} {f : Nat → Int64} (h : SC H A nw tr fa ga pf pg) (hA : AI A) (ho : H.1 374 = some (.inl (1, 1, .inr (.inl f)))) (hz : 375 ≤ H.2.1) (p w : Int32) : ∃ H' nw' tr' fa' ga' pf' pg' f', eEv pP X 42 134 [.ref 1, .int p, .int w, .ref 374] H (.inl (some (.int (nI (s_at A p w).1))), H') ∧ SC H' A nw' tr' fa' ga' pf' pg' ∧ ag H H' 356 374 ∧ H'.1 374 = some (.inl (1, 1, .inr (.inl f'))) ∧ ((s_at A p w).1 = 0 → f' 0 = (s_at A p w).2.1.toInt64) ∧ H.2.1 ≤ H'.2.1 ∧ H'.2.1 ≤ H.2.1 + 1 ∧ H'.2.2 ≤ H.2.2 + 6 := by
  obtain ⟨H1, nw', tr', fa', ga', pf', pg', ev, sc, s2, ag1⟩ := x_at (X := X) h hA (by omega) p w
  have hA' := hA
  have o1 : H1.1 374 = some (.inl (1, 1, .inr (.inl f))) := (ag1 374 (by omega) (by omega)).trans ho
  have n1 : H1.2.1 = H.2.1 := by rw [s2]
  have n2 : H1.2.2 = H.2.2 := by rw [s2]
  have cd : (s_at A p w).1 = 0 ∨ (s_at A p w).1 = 1 ∨ (s_at A p w).1 = 2 := by
    unfold s_at
    repeat' split
    all_goals first | exact Or.inl rfl | exact Or.inr rfl | exact Or.inr (Or.inl rfl) | exact Or.inr (Or.inr (Or.inl rfl)) | exact Or.inr (Or.inr rfl) | exact Or.inr (Or.inr (Or.inr rfl))
  rcases cd with z | z | z
  · rw [z] at ev ⊢
    have ev' : eEv pP X 40 11 [.ref 1, .int p, .int w] H (.inl (some (.int (s_at A p w).2.1)), H1) := ev
    generalize hH2 : eSetH H1 374 (.inl (1, 1, .inr (.inl (eUp f (0 : Int32).toNatClampNeg (s_at A p w).2.1.toInt64)))) = H2
    have t2 : ∀ a, ¬ a = 374 → H2.1 a = H1.1 a := fun a ha => by rw [← hH2]; exact if_neg ha
    have p2 : H2.2 = H1.2 := by rw [← hH2]; rfl
    refine ⟨H2, nw', tr', fa', ga', pf', pg', eUp f 0 (s_at A p w).2.1.toInt64, ?_, SC_fr sc hA' (fun a h1 h2 => t2 a (by omega)), fun a h1 h2 => (t2 a (by omega)).trans (ag1 a (by omega) (by omega)), by rw [← hH2, show (0 : Int32).toNatClampNeg = 0 by decide]; rfl, fun _ => q_up .., by rw [p2]; omega, by rw [p2]; omega, by rw [p2]; omega⟩
    refine eEv.mono (d0 := 41) ?_ (by decide)
    refine eEv.of (Nat.not_lt.mpr (Nat.le_of_ble_eq_true rfl)) ?_
    refine eGs.steps 5 (y := (5, [some (.ref 1), some (.int p), some (.int w), some (.ref 374), none], [.int w, .int p, .ref 1, .int 0, .ref 374], H)) rfl ?_
    refine g_callV rfl rfl rfl rfl rfl (by omega) h.1.1 rfl (ev'.mono (by decide)) ?_
    refine eGs.steps 1 (y := (9, [some (.ref 1), some (.int p), some (.int w), some (.ref 374), none], [.long (s_at A p w).2.1.toInt64, .int 0, .ref 374], H1)) rfl ?_
    refine g_lastW rfl (by omega) o1 (by decide) hH2 ?_
    refine eGs.steps 2 (y := (22, [some (.ref 1), some (.int p), some (.int w), some (.ref 374), none], [.int 0], H2)) rfl ?_
    exact eGs.fin rfl rfl rfl
  · rw [z] at ev ⊢
    have ev' : eEv pP X 40 11 [.ref 1, .int p, .int w] H (eTw pP (9 + 1) (some (.int (s_at A p w).2.1)) H1) := ev
    refine ⟨eNew H1 (.inr (10, (pP.bla 10).1)) (pP.bla 10).2, nw', tr', fa', ga', pf', pg', f, ?_, SC_fr sc hA' (ag_new (by omega)), ag_trans (ag_sub ag1 (by omega) (by omega)) (ag_new (by omega)), (eNew_off (by omega)).trans o1, fun w => absurd w (by decide), ?_, ?_, ?_⟩
    · refine eEv.mono (d0 := 41) ?_ (by decide)
      refine eEv.of (Nat.not_lt.mpr (Nat.le_of_ble_eq_true rfl)) ?_
      refine eGs.steps 5 (y := (5, [some (.ref 1), some (.int p), some (.int w), some (.ref 374), none], [.int w, .int p, .ref 1, .int 0, .ref 374], H)) rfl ?_
      refine g_catV rfl rfl rfl rfl rfl (by omega) h.1.1 rfl (ev'.mono (by decide)) (by omega) rfl rfl rfl ?_
      refine eGs.steps 2 (y := (16, [some (.ref 1), some (.int p), some (.int w), some (.ref 374), some (.ref H1.2.1)], [.int 1], eNew H1 (.inr (10, (pP.bla 10).1)) (pP.bla 10).2)) rfl ?_
      exact eGs.fin rfl rfl rfl
    · show H.2.1 ≤ H1.2.1 + 1
      omega
    · show H1.2.1 + 1 ≤ H.2.1 + 1
      omega
    · show H1.2.2 + (pP.bla 10).2 ≤ H.2.2 + 6
      have := bla_10
      omega
  · rw [z] at ev ⊢
    have ev' : eEv pP X 40 11 [.ref 1, .int p, .int w] H (eTw pP (8 + 1) (some (.int (s_at A p w).2.1)) H1) := ev
    refine ⟨eNew H1 (.inr (9, (pP.bla 9).1)) (pP.bla 9).2, nw', tr', fa', ga', pf', pg', f, ?_, SC_fr sc hA' (ag_new (by omega)), ag_trans (ag_sub ag1 (by omega) (by omega)) (ag_new (by omega)), (eNew_off (by omega)).trans o1, fun w => absurd w (by decide), ?_, ?_, ?_⟩
    · refine eEv.mono (d0 := 41) ?_ (by decide)
      refine eEv.of (Nat.not_lt.mpr (Nat.le_of_ble_eq_true rfl)) ?_
      refine eGs.steps 5 (y := (5, [some (.ref 1), some (.int p), some (.int w), some (.ref 374), none], [.int w, .int p, .ref 1, .int 0, .ref 374], H)) rfl ?_
      refine g_catV rfl rfl rfl rfl rfl (by omega) h.1.1 rfl (ev'.mono (by decide)) (by omega) rfl rfl rfl ?_
      refine eGs.steps 2 (y := (20, [some (.ref 1), some (.int p), some (.int w), some (.ref 374), some (.ref H1.2.1)], [.int 2], eNew H1 (.inr (9, (pP.bla 9).1)) (pP.bla 9).2)) rfl ?_
      exact eGs.fin rfl rfl rfl
    · show H.2.1 ≤ H1.2.1 + 1
      omega
    · show H1.2.1 + 1 ≤ H.2.1 + 1
      omega
    · show H1.2.2 + (pP.bla 9).2 ≤ H.2.2 + 6
      have := bla_9
      omega
theorem k_outside {X : Nat × (Nat → Int32)} {H : eH} {A : qA} {nw tr fa ga pf pg : Nat} {f : Nat → Int64} (h : SC H A nw tr fa ga pf pg) (hA : AI A) (ho : H.1 374 = some (.inl (1, 1, .inr (.inl f)))) (hz : 375 ≤ H.2.1) (k : Int32) : ∃ H' nw' tr' fa' ga' pf' pg' f', eEv pP X 42 135 [.ref 1, .int k, .ref 374] H (.inl (some (.int (nI (s_outside A k).1))), H') ∧ SC H' A nw' tr' fa' ga' pf' pg' ∧ ag H H' 356 374 ∧ H'.1 374 = some (.inl (1, 1, .inr (.inl f'))) ∧ ((s_outside A k).1 = 0 → f' 0 = (s_outside A k).2.1.toInt64) ∧ H.2.1 ≤ H'.2.1 ∧ H'.2.1 ≤ H.2.1 + 1 ∧ H'.2.2 ≤ H.2.2 + 6 := by
  obtain ⟨H1, nw', tr', fa', ga', pf', pg', ev, sc, s2, ag1⟩ := x_outside (X := X) h hA (by omega) k
  have hA' := hA
  have o1 : H1.1 374 = some (.inl (1, 1, .inr (.inl f))) := (ag1 374 (by omega) (by omega)).trans ho
  have n1 : H1.2.1 = H.2.1 := by rw [s2]
  have n2 : H1.2.2 = H.2.2 := by rw [s2]
  have cd : (s_outside A k).1 = 0 ∨ (s_outside A k).1 = 1 := by
    unfold s_outside
    repeat' split
    all_goals first | exact Or.inl rfl | exact Or.inr rfl | exact Or.inr (Or.inl rfl) | exact Or.inr (Or.inr (Or.inl rfl)) | exact Or.inr (Or.inr rfl) | exact Or.inr (Or.inr (Or.inr rfl))
  rcases cd with z | z
  · rw [z] at ev ⊢
    have ev' : eEv pP X 40 13 [.ref 1, .int k] H (.inl (some (.int (s_outside A k).2.1)), H1) := ev
    generalize hH2 : eSetH H1 374 (.inl (1, 1, .inr (.inl (eUp f (0 : Int32).toNatClampNeg (s_outside A k).2.1.toInt64)))) = H2
    have t2 : ∀ a, ¬ a = 374 → H2.1 a = H1.1 a := fun a ha => by rw [← hH2]; exact if_neg ha
    have p2 : H2.2 = H1.2 := by rw [← hH2]; rfl
    refine ⟨H2, nw', tr', fa', ga', pf', pg', eUp f 0 (s_outside A k).2.1.toInt64, ?_, SC_fr sc hA' (fun a h1 h2 => t2 a (by omega)), fun a h1 h2 => (t2 a (by omega)).trans (ag1 a (by omega) (by omega)), by rw [← hH2, show (0 : Int32).toNatClampNeg = 0 by decide]; rfl, fun _ => q_up .., by rw [p2]; omega, by rw [p2]; omega, by rw [p2]; omega⟩
    refine eEv.mono (d0 := 41) ?_ (by decide)
    refine eEv.of (Nat.not_lt.mpr (Nat.le_of_ble_eq_true rfl)) ?_
    refine eGs.steps 4 (y := (4, [some (.ref 1), some (.int k), some (.ref 374), none], [.int k, .ref 1, .int 0, .ref 374], H)) rfl ?_
    refine g_callV rfl rfl rfl rfl rfl (by omega) h.1.1 rfl (ev'.mono (by decide)) ?_
    refine eGs.steps 1 (y := (8, [some (.ref 1), some (.int k), some (.ref 374), none], [.long (s_outside A k).2.1.toInt64, .int 0, .ref 374], H1)) rfl ?_
    refine g_lastW rfl (by omega) o1 (by decide) hH2 ?_
    refine eGs.steps 2 (y := (16, [some (.ref 1), some (.int k), some (.ref 374), none], [.int 0], H2)) rfl ?_
    exact eGs.fin rfl rfl rfl
  · rw [z] at ev ⊢
    have ev' : eEv pP X 40 13 [.ref 1, .int k] H (eTw pP (9 + 1) (some (.int (s_outside A k).2.1)) H1) := ev
    refine ⟨eNew H1 (.inr (10, (pP.bla 10).1)) (pP.bla 10).2, nw', tr', fa', ga', pf', pg', f, ?_, SC_fr sc hA' (ag_new (by omega)), ag_trans (ag_sub ag1 (by omega) (by omega)) (ag_new (by omega)), (eNew_off (by omega)).trans o1, fun w => absurd w (by decide), ?_, ?_, ?_⟩
    · refine eEv.mono (d0 := 41) ?_ (by decide)
      refine eEv.of (Nat.not_lt.mpr (Nat.le_of_ble_eq_true rfl)) ?_
      refine eGs.steps 4 (y := (4, [some (.ref 1), some (.int k), some (.ref 374), none], [.int k, .ref 1, .int 0, .ref 374], H)) rfl ?_
      refine g_catV rfl rfl rfl rfl rfl (by omega) h.1.1 rfl (ev'.mono (by decide)) (by omega) rfl rfl rfl ?_
      refine eGs.steps 2 (y := (14, [some (.ref 1), some (.int k), some (.ref 374), some (.ref H1.2.1)], [.int 1], eNew H1 (.inr (10, (pP.bla 10).1)) (pP.bla 10).2)) rfl ?_
      exact eGs.fin rfl rfl rfl
    · show H.2.1 ≤ H1.2.1 + 1
      omega
    · show H1.2.1 + 1 ≤ H.2.1 + 1
      omega
    · show H1.2.2 + (pP.bla 10).2 ≤ H.2.2 + 6
      have := bla_10
      omega
theorem k_outcomes {X : Nat × (Nat → Int32)} {H : eH} {A : qA} {nw tr fa ga pf pg : Nat} {f : Nat → Int64} (h : SC H A nw tr fa ga pf pg) (hA : AI A) (ho : H.1 374 = some (.inl (1, 1, .inr (.inl f)))) (hz : 375 ≤ H.2.1) (r : Int32) : ∃ H' nw' tr' fa' ga' pf' pg' f', eEv pP X 42 136 [.ref 1, .int r, .ref 374] H (.inl (some (.int (nI (s_outcomes A r).1))), H') ∧ SC H' (s_outcomes A r).2.2 nw' tr' fa' ga' pf' pg' ∧ ag H H' 356 374 ∧ H'.1 374 = some (.inl (1, 1, .inr (.inl f'))) ∧ ((s_outcomes A r).1 = 0 → f' 0 = (s_outcomes A r).2.1.toInt64) ∧ H.2.1 ≤ H'.2.1 ∧ H'.2.1 ≤ H.2.1 + 1 ∧ H'.2.2 ≤ H.2.2 + 6 := by
  obtain ⟨H1, nw', tr', fa', ga', pf', pg', ev, sc, s2, ag1⟩ := x_outcomes (X := X) h hA (by omega) r
  have hA' := AI_outcomes hA r
  have o1 : H1.1 374 = some (.inl (1, 1, .inr (.inl f))) := (ag1 374 (by omega) (by omega)).trans ho
  have n1 : H1.2.1 = H.2.1 := by rw [s2]
  have n2 : H1.2.2 = H.2.2 := by rw [s2]
  have cd : (s_outcomes A r).1 = 0 ∨ (s_outcomes A r).1 = 1 := by
    unfold s_outcomes
    repeat' split
    all_goals first | exact Or.inl rfl | exact Or.inr rfl | exact Or.inr (Or.inl rfl) | exact Or.inr (Or.inr (Or.inl rfl)) | exact Or.inr (Or.inr rfl) | exact Or.inr (Or.inr (Or.inr rfl))
  rcases cd with z | z
  · rw [z] at ev ⊢
    have ev' : eEv pP X 40 14 [.ref 1, .int r] H (.inl (some (.int (s_outcomes A r).2.1)), H1) := ev
    generalize hH2 : eSetH H1 374 (.inl (1, 1, .inr (.inl (eUp f (0 : Int32).toNatClampNeg (s_outcomes A r).2.1.toInt64)))) = H2
    have t2 : ∀ a, ¬ a = 374 → H2.1 a = H1.1 a := fun a ha => by rw [← hH2]; exact if_neg ha
    have p2 : H2.2 = H1.2 := by rw [← hH2]; rfl
    refine ⟨H2, nw', tr', fa', ga', pf', pg', eUp f 0 (s_outcomes A r).2.1.toInt64, ?_, SC_fr sc hA' (fun a h1 h2 => t2 a (by omega)), fun a h1 h2 => (t2 a (by omega)).trans (ag1 a (by omega) (by omega)), by rw [← hH2, show (0 : Int32).toNatClampNeg = 0 by decide]; rfl, fun _ => q_up .., by rw [p2]; omega, by rw [p2]; omega, by rw [p2]; omega⟩
    refine eEv.mono (d0 := 41) ?_ (by decide)
    refine eEv.of (Nat.not_lt.mpr (Nat.le_of_ble_eq_true rfl)) ?_
    refine eGs.steps 4 (y := (4, [some (.ref 1), some (.int r), some (.ref 374), none], [.int r, .ref 1, .int 0, .ref 374], H)) rfl ?_
    refine g_callV rfl rfl rfl rfl rfl (by omega) h.1.1 rfl (ev'.mono (by decide)) ?_
    refine eGs.steps 1 (y := (8, [some (.ref 1), some (.int r), some (.ref 374), none], [.long (s_outcomes A r).2.1.toInt64, .int 0, .ref 374], H1)) rfl ?_
    refine g_lastW rfl (by omega) o1 (by decide) hH2 ?_
    refine eGs.steps 2 (y := (16, [some (.ref 1), some (.int r), some (.ref 374), none], [.int 0], H2)) rfl ?_
    exact eGs.fin rfl rfl rfl
  · rw [z] at ev ⊢
    have ev' : eEv pP X 40 14 [.ref 1, .int r] H (eTw pP (8 + 1) (some (.int (s_outcomes A r).2.1)) H1) := ev
    refine ⟨eNew H1 (.inr (9, (pP.bla 9).1)) (pP.bla 9).2, nw', tr', fa', ga', pf', pg', f, ?_, SC_fr sc hA' (ag_new (by omega)), ag_trans (ag_sub ag1 (by omega) (by omega)) (ag_new (by omega)), (eNew_off (by omega)).trans o1, fun w => absurd w (by decide), ?_, ?_, ?_⟩
    · refine eEv.mono (d0 := 41) ?_ (by decide)
      refine eEv.of (Nat.not_lt.mpr (Nat.le_of_ble_eq_true rfl)) ?_
      refine eGs.steps 4 (y := (4, [some (.ref 1), some (.int r), some (.ref 374), none], [.int r, .ref 1, .int 0, .ref 374], H)) rfl ?_
      refine g_catV rfl rfl rfl rfl rfl (by omega) h.1.1 rfl (ev'.mono (by decide)) (by omega) rfl rfl rfl ?_
      refine eGs.steps 2 (y := (14, [some (.ref 1), some (.int r), some (.ref 374), some (.ref H1.2.1)], [.int 1], eNew H1 (.inr (9, (pP.bla 9).1)) (pP.bla 9).2)) rfl ?_
      exact eGs.fin rfl rfl rfl
    · show H.2.1 ≤ H1.2.1 + 1
      omega
    · show H1.2.1 + 1 ≤ H.2.1 + 1
      omega
    · show H1.2.2 + (pP.bla 9).2 ≤ H.2.2 + 6
      have := bla_9
      omega
theorem k_outcome {X : Nat × (Nat → Int32)} {H : eH} {A : qA} {nw tr fa ga pf pg : Nat} {f : Nat → Int64} (h : SC H A nw tr fa ga pf pg) (hA : AI A) (ho : H.1 374 = some (.inl (1, 1, .inr (.inl f)))) (hz : 375 ≤ H.2.1) (i p w : Int32) : ∃ H' nw' tr' fa' ga' pf' pg' f', eEv pP X 42 137 [.ref 1, .int i, .int p, .int w, .ref 374] H (.inl (some (.int (nI (s_outcome A i p w).1))), H') ∧ SC H' A nw' tr' fa' ga' pf' pg' ∧ ag H H' 356 374 ∧ H'.1 374 = some (.inl (1, 1, .inr (.inl f'))) ∧ ((s_outcome A i p w).1 = 0 → f' 0 = (s_outcome A i p w).2.1.toInt64) ∧ H.2.1 ≤ H'.2.1 ∧ H'.2.1 ≤ H.2.1 + 1 ∧ H'.2.2 ≤ H.2.2 + 6 := by
  obtain ⟨H1, nw', tr', fa', ga', pf', pg', ev, sc, s2, ag1⟩ := x_outcome (X := X) h hA (by omega) i p w
  have hA' := hA
  have o1 : H1.1 374 = some (.inl (1, 1, .inr (.inl f))) := (ag1 374 (by omega) (by omega)).trans ho
  have n1 : H1.2.1 = H.2.1 := by rw [s2]
  have n2 : H1.2.2 = H.2.2 := by rw [s2]
  have cd : (s_outcome A i p w).1 = 0 ∨ (s_outcome A i p w).1 = 1 ∨ (s_outcome A i p w).1 = 2 := by
    unfold s_outcome
    repeat' split
    all_goals first | exact Or.inl rfl | exact Or.inr rfl | exact Or.inr (Or.inl rfl) | exact Or.inr (Or.inr (Or.inl rfl)) | exact Or.inr (Or.inr rfl) | exact Or.inr (Or.inr (Or.inr rfl))
  rcases cd with z | z | z
  · rw [z] at ev ⊢
    have ev' : eEv pP X 40 15 [.ref 1, .int i, .int p, .int w] H (.inl (some (.int (s_outcome A i p w).2.1)), H1) := ev
    generalize hH2 : eSetH H1 374 (.inl (1, 1, .inr (.inl (eUp f (0 : Int32).toNatClampNeg (s_outcome A i p w).2.1.toInt64)))) = H2
    have t2 : ∀ a, ¬ a = 374 → H2.1 a = H1.1 a := fun a ha => by rw [← hH2]; exact if_neg ha
    have p2 : H2.2 = H1.2 := by rw [← hH2]; rfl
    refine ⟨H2, nw', tr', fa', ga', pf', pg', eUp f 0 (s_outcome A i p w).2.1.toInt64, ?_, SC_fr sc hA' (fun a h1 h2 => t2 a (by omega)), fun a h1 h2 => (t2 a (by omega)).trans (ag1 a (by omega) (by omega)), by rw [← hH2, show (0 : Int32).toNatClampNeg = 0 by decide]; rfl, fun _ => q_up .., by rw [p2]; omega, by rw [p2]; omega, by rw [p2]; omega⟩
    refine eEv.mono (d0 := 41) ?_ (by decide)
    refine eEv.of (Nat.not_lt.mpr (Nat.le_of_ble_eq_true rfl)) ?_
    refine eGs.steps 6 (y := (7, [some (.ref 1), some (.int i), some (.int p), some (.int w), some (.ref 374), none], [.int w, .int p, .int i, .ref 1, .int 0, .ref 374], H)) rfl ?_
    refine g_callV rfl rfl rfl rfl rfl (by omega) h.1.1 rfl (ev'.mono (by decide)) ?_
    refine eGs.steps 1 (y := (11, [some (.ref 1), some (.int i), some (.int p), some (.int w), some (.ref 374), none], [.long (s_outcome A i p w).2.1.toInt64, .int 0, .ref 374], H1)) rfl ?_
    refine g_lastW rfl (by omega) o1 (by decide) hH2 ?_
    refine eGs.steps 2 (y := (24, [some (.ref 1), some (.int i), some (.int p), some (.int w), some (.ref 374), none], [.int 0], H2)) rfl ?_
    exact eGs.fin rfl rfl rfl
  · rw [z] at ev ⊢
    have ev' : eEv pP X 40 15 [.ref 1, .int i, .int p, .int w] H (eTw pP (9 + 1) (some (.int (s_outcome A i p w).2.1)) H1) := ev
    refine ⟨eNew H1 (.inr (10, (pP.bla 10).1)) (pP.bla 10).2, nw', tr', fa', ga', pf', pg', f, ?_, SC_fr sc hA' (ag_new (by omega)), ag_trans (ag_sub ag1 (by omega) (by omega)) (ag_new (by omega)), (eNew_off (by omega)).trans o1, fun w => absurd w (by decide), ?_, ?_, ?_⟩
    · refine eEv.mono (d0 := 41) ?_ (by decide)
      refine eEv.of (Nat.not_lt.mpr (Nat.le_of_ble_eq_true rfl)) ?_
      refine eGs.steps 6 (y := (7, [some (.ref 1), some (.int i), some (.int p), some (.int w), some (.ref 374), none], [.int w, .int p, .int i, .ref 1, .int 0, .ref 374], H)) rfl ?_
      refine g_catV rfl rfl rfl rfl rfl (by omega) h.1.1 rfl (ev'.mono (by decide)) (by omega) rfl rfl rfl ?_
      refine eGs.steps 2 (y := (18, [some (.ref 1), some (.int i), some (.int p), some (.int w), some (.ref 374), some (.ref H1.2.1)], [.int 1], eNew H1 (.inr (10, (pP.bla 10).1)) (pP.bla 10).2)) rfl ?_
      exact eGs.fin rfl rfl rfl
    · show H.2.1 ≤ H1.2.1 + 1
      omega
    · show H1.2.1 + 1 ≤ H.2.1 + 1
      omega
    · show H1.2.2 + (pP.bla 10).2 ≤ H.2.2 + 6
      have := bla_10
      omega
  · rw [z] at ev ⊢
    have ev' : eEv pP X 40 15 [.ref 1, .int i, .int p, .int w] H (eTw pP (8 + 1) (some (.int (s_outcome A i p w).2.1)) H1) := ev
    refine ⟨eNew H1 (.inr (9, (pP.bla 9).1)) (pP.bla 9).2, nw', tr', fa', ga', pf', pg', f, ?_, SC_fr sc hA' (ag_new (by omega)), ag_trans (ag_sub ag1 (by omega) (by omega)) (ag_new (by omega)), (eNew_off (by omega)).trans o1, fun w => absurd w (by decide), ?_, ?_, ?_⟩
    · refine eEv.mono (d0 := 41) ?_ (by decide)
      refine eEv.of (Nat.not_lt.mpr (Nat.le_of_ble_eq_true rfl)) ?_
      refine eGs.steps 6 (y := (7, [some (.ref 1), some (.int i), some (.int p), some (.int w), some (.ref 374), none], [.int w, .int p, .int i, .ref 1, .int 0, .ref 374], H)) rfl ?_
      refine g_catV rfl rfl rfl rfl rfl (by omega) h.1.1 rfl (ev'.mono (by decide)) (by omega) rfl rfl rfl ?_
      refine eGs.steps 2 (y := (22, [some (.ref 1), some (.int i), some (.int p), some (.int w), some (.ref 374), some (.ref H1.2.1)], [.int 2], eNew H1 (.inr (9, (pP.bla 9).1)) (pP.bla 9).2)) rfl ?_
      exact eGs.fin rfl rfl rfl
    · show H.2.1 ≤ H1.2.1 + 1
      omega
    · show H1.2.1 + 1 ≤ H.2.1 + 1
      omega
    · show H1.2.2 + (pP.bla 9).2 ≤ H.2.2 + 6
      have := bla_9
      omega
theorem k_adopt {X : Nat × (Nat → Int32)} {H : eH} {A : qA} {nw tr fa ga pf pg : Nat} {f : Nat → Int64} (h : SC H A nw tr fa ga pf pg) (hA : AI A) (ho : H.1 374 = some (.inl (1, 1, .inr (.inl f)))) (hz : 375 ≤ H.2.1) (i : Int32) : ∃ H' nw' tr' fa' ga' pf' pg' f', eEv pP X 42 138 [.ref 1, .int i] H (.inl (some (.int (nI (s_adopt A i).1))), H') ∧ SC H' (s_adopt A i).2.2 nw' tr' fa' ga' pf' pg' ∧ ag H H' 356 374 ∧ H'.1 374 = some (.inl (1, 1, .inr (.inl f'))) ∧ ((s_adopt A i).1 = 0 → True) ∧ H.2.1 ≤ H'.2.1 ∧ H'.2.1 ≤ H.2.1 + 1 ∧ H'.2.2 ≤ H.2.2 + 6 := by
  obtain ⟨H1, nw', tr', fa', ga', pf', pg', ev, sc, s2, ag1⟩ := x_adopt (X := X) h hA (by omega) i
  have hA' := AI_adopt hA i
  have o1 : H1.1 374 = some (.inl (1, 1, .inr (.inl f))) := (ag1 374 (by omega) (by omega)).trans ho
  have n1 : H1.2.1 = H.2.1 := by rw [s2]
  have n2 : H1.2.2 = H.2.2 := by rw [s2]
  have cd : (s_adopt A i).1 = 0 ∨ (s_adopt A i).1 = 1 := by
    unfold s_adopt
    repeat' split
    all_goals first | exact Or.inl rfl | exact Or.inr rfl | exact Or.inr (Or.inl rfl) | exact Or.inr (Or.inr (Or.inl rfl)) | exact Or.inr (Or.inr rfl) | exact Or.inr (Or.inr (Or.inr rfl))
  rcases cd with z | z
  · rw [z] at ev ⊢
    have ev' : eEv pP X 40 16 [.ref 1, .int i] H (.inl (none), H1) := ev
    refine ⟨H1, nw', tr', fa', ga', pf', pg', f, ?_, sc, ag_sub ag1 (by omega) (by omega), o1, fun _ => trivial, by omega, by omega, by omega⟩
    refine eEv.mono (d0 := 41) ?_ (by decide)
    refine eEv.of (Nat.not_lt.mpr (Nat.le_of_ble_eq_true rfl)) ?_
    refine eGs.steps 2 (y := (2, [some (.ref 1), some (.int i), none], [.int i, .ref 1], H)) rfl ?_
    refine g_callV rfl rfl rfl rfl rfl (by omega) h.1.1 rfl (ev'.mono (by decide)) ?_
    refine eGs.steps 2 (y := (12, [some (.ref 1), some (.int i), none], [.int 0], H1)) rfl ?_
    exact eGs.fin rfl rfl rfl
  · rw [z] at ev ⊢
    have ev' : eEv pP X 40 16 [.ref 1, .int i] H (eTw pP (9 + 1) (none) H1) := ev
    refine ⟨eNew H1 (.inr (10, (pP.bla 10).1)) (pP.bla 10).2, nw', tr', fa', ga', pf', pg', f, ?_, SC_fr sc hA' (ag_new (by omega)), ag_trans (ag_sub ag1 (by omega) (by omega)) (ag_new (by omega)), (eNew_off (by omega)).trans o1, fun w => absurd w (by decide), ?_, ?_, ?_⟩
    · refine eEv.mono (d0 := 41) ?_ (by decide)
      refine eEv.of (Nat.not_lt.mpr (Nat.le_of_ble_eq_true rfl)) ?_
      refine eGs.steps 2 (y := (2, [some (.ref 1), some (.int i), none], [.int i, .ref 1], H)) rfl ?_
      refine g_catV rfl rfl rfl rfl rfl (by omega) h.1.1 rfl (ev'.mono (by decide)) (by omega) rfl rfl rfl ?_
      refine eGs.steps 2 (y := (10, [some (.ref 1), some (.int i), some (.ref H1.2.1)], [.int 1], eNew H1 (.inr (10, (pP.bla 10).1)) (pP.bla 10).2)) rfl ?_
      exact eGs.fin rfl rfl rfl
    · show H.2.1 ≤ H1.2.1 + 1
      omega
    · show H1.2.1 + 1 ≤ H.2.1 + 1
      omega
    · show H1.2.2 + (pP.bla 10).2 ≤ H.2.2 + 6
      have := bla_10
      omega

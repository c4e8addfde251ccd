theorem x_uses {X : Nat × (Nat → Int32)} {H : eH} {A : qA} {nw tr fa ga pf pg : Nat} (h : SC H A nw tr fa ga pf pg) (hA : AI A) (hz : 356 ≤ H.2.1) (p r : Int32) : xOK X 9 [.ref 1, .int p, .int r] H (tc [0, 10] (s_uses A p r).1) (some (.int (s_uses A p r).2.1)) A := by
  have h' := h
  obtain ⟨x, ⟨b1, b2, ul, ue, uk, uh, uo, ui, ut, ud, uv, ux, b3, b4⟩, ⟨op, st, en, g, row, sts, pls, o1, o2, o3, o4, o5⟩, w, s, q1, q2, t, ⟨cl, cp, ch, n, kc⟩, rr, j⟩ := h
  have hn := x.2
  have h40 := hA.2.2.2
  obtain ⟨op', g', e1⟩ := c_uses hA kc b4 p r op g (n := 200) (by omega)
  have ev := T_P_uses (X := X) (hc_c := n.1) (hc_cl := n.2.1) (hc_cp := n.2.2.1) (hc_ch := n.2.2.2) (hc_h := o1) (hc_ho := o2) (hc_b := b1) (hc_ba := b2) (hc_x := x.1) (hu := b3) (hok_c := nw_ok hn) (hnz := by omega) e1
  dsimp only at ev
  have hx : ∀ (lo hi : Nat), (hi ≤ 10 ∨ 12 ≤ lo) → ag H (eW2 H [(10, .inr (2, [.ref 11, .int op', .ref 12, .int st, .int en, .ref 13, .ref 14])), (11, .inl (3, 6, .inr (.inr fun i => (g' i).map fun j => 4 + j)))]) lo hi := fun lo hi h2 => ag_w2 (A := [10, 11]) rfl (fun a ha => by
    simp only [List.mem_cons, List.not_mem_nil, or_false] at ha
    omega)
  exact ⟨_, nw, tr, fa, ga, pf, pg, ev.mono (by decide), SC_o h' h40 (hx _ _ (by omega)) (hx _ _ (by omega)) ⟨op', st, en, g', row, sts, pls, rfl, rfl, o3, o4, o5⟩, rfl, hx _ _ (by omega)⟩
theorem x_choices {X : Nat × (Nat → Int32)} {H : eH} {A : qA} {nw tr fa ga pf pg : Nat} (h : SC H A nw tr fa ga pf pg) (hA : AI A) (hz : 356 ≤ H.2.1) (p : Int32) : xOK X 10 [.ref 1, .int p] H (tc [0, 10] (s_choices A p).1) (some (.int (s_choices A p).2.1)) A := by
  have h' := h
  obtain ⟨x, ⟨b1, b2, ul, ue, uk, uh, uo, ui, ut, ud, uv, ux, b3, b4⟩, ⟨op, st, en, g, row, sts, pls, o1, o2, o3, o4, o5⟩, w, s, q1, q2, t, ⟨cl, cp, ch, n, kc⟩, rr, j⟩ := h
  have hn := x.2
  have h40 := hA.2.2.2
  obtain ⟨op', st', en', g', row', e1⟩ := c_choices hA kc b4 p op st en g row (n := 200) (by omega)
  have ev := T_P_choices (X := X) (hc_c := n.1) (hc_cl := n.2.1) (hc_cp := n.2.2.1) (hc_ch := n.2.2.2) (hc_h := o1) (hc_ho := o2) (hc_hr := o3) (hc_hs := o4) (hc_hq := o5) (hc_b := b1) (hc_ba := b2) (hc_x := x.1) (hu := b3) (hok_c := nw_ok hn) (hnz := by omega) e1
  dsimp only at ev
  have hx : ∀ (lo hi : Nat), (hi ≤ 10 ∨ 13 ≤ lo) → ag H (eW2 H [(10, .inr (2, [.ref 11, .int op', .ref 12, .int st', .int en', .ref 13, .ref 14])), (11, .inl (3, 6, .inr (.inr fun i => (g' i).map fun j => 4 + j))), (12, .inl (0, 2012, .inl row'))]) lo hi := fun lo hi h2 => ag_w2 (A := [10, 11, 12]) rfl (fun a ha => by
    simp only [List.mem_cons, List.not_mem_nil, or_false] at ha
    omega)
  exact ⟨_, nw, tr, fa, ga, pf, pg, ev.mono (by decide), SC_o h' h40 (hx _ _ (by omega)) (hx _ _ (by omega)) ⟨op', st', en', g', row', sts, pls, rfl, rfl, rfl, o4, o5⟩, rfl, hx _ _ (by omega)⟩
theorem x_at {X : Nat × (Nat → Int32)} {H : eH} {A : qA} {nw tr fa ga pf pg : Nat} (h : SC H A nw tr fa ga pf pg) (hA : AI A) (hz : 356 ≤ H.2.1) (p w : Int32) : xOK X 11 [.ref 1, .int p, .int w] H (tc [0, 10, 9] (s_at A p w).1) (some (.int (s_at A p w).2.1)) A := by
  have h' := h
  obtain ⟨x, b, o, w', s, q1, q2, t, ⟨cl, cp, ch, n, kc⟩, rr, j⟩ := h
  have ev := T_P_at (X := X) (hc_c := n.1) (hc_cl := n.2.1) (hc_cp := n.2.2.1) (hc_ch := n.2.2.2) (hc_x := x.1) (hok_c := nw_ok x.2) (hnz := by omega) (c_at hA kc p w (n := 20) (by omega))
  exact ⟨H, nw, tr, fa, ga, pf, pg, ev.mono (by decide), h', rfl, ag_id⟩
theorem x_there {X : Nat × (Nat → Int32)} {H : eH} {A : qA} {nw tr fa ga pf pg : Nat} (h : SC H A nw tr fa ga pf pg) (p : Int32) : eEv pP X 40 12 [.ref 1, .int p] H (.inl (some (.int (qb (qpb A.1 p)))), H) := by
  obtain ⟨x, b, o, w', s, q1, q2, t, ⟨cl, cp, ch, n, kc⟩, rr, j⟩ := h
  have e : P_there 5 p cl = some (qb (qpb A.1 p)) := by
    unfold P_there
    rw [c_has kc, Option.bind_some]
    cases qpb A.1 p <;> rfl
  exact (T_P_there (X := X) (hc_c := n.1) (hc_cl := n.2.1) (hc_x := x.1) (hok_c := nw_ok x.2) e).mono (by decide)
theorem x_outside {X : Nat × (Nat → Int32)} {H : eH} {A : qA} {nw tr fa ga pf pg : Nat} (h : SC H A nw tr fa ga pf pg) (hA : AI A) (hz : 356 ≤ H.2.1) (k : Int32) : xOK X 13 [.ref 1, .int k] H (tc [0, 10] (s_outside A k).1) (some (.int (s_outside A k).2.1)) A := by
  have h' := h
  obtain ⟨x, b, o, w', s, q1, q2, t, ⟨cl, cp, ch, n, kc⟩, rr, j⟩ := h
  have ev := T_P_outside (X := X) (hc_c := n.1) (hc_ch := n.2.2.2) (hc_x := x.1) (hok_c := nw_ok x.2) (hnz := by omega) (c_outside hA kc k 20)
  exact ⟨H, nw, tr, fa, ga, pf, pg, ev.mono (by decide), h', rfl, ag_id⟩
theorem x_written {X : Nat × (Nat → Int32)} {H : eH} {A : qA} {nw tr fa ga pf pg : Nat} (h : SC H A nw tr fa ga pf pg) (hA : AI A) (ii : Int32) : ∃ H', eEv pP X 40 17 [.ref 1, .int ii] H (.inl (some (.int (qat (qtx A.1 6 0) ii))), H') ∧ SC H' A nw tr fa ga pf pg ∧ H'.2 = H.2 ∧ ag H H' 356 H.2.1 := by
  have h' := h
  have h40 := hA.2.2.2
  obtain ⟨x, b, o, w', ⟨len, row, s1, s2⟩, q1, q2, t, ⟨cl, cp, ch, n, kc⟩, rr, j⟩ := h
  obtain ⟨len', row', e⟩ := q_charC hA.1 kc ii row (n := 100) (by omega)
  have e1 : P_written 100 ii cl cp ch row = some (qat (qtx A.1 6 0) ii, len', row') := by
    unfold P_written
    rw [e, Option.bind_some]
  have ev := T_P_written (X := X) (hc_c := n.1) (hc_cl := n.2.1) (hc_cp := n.2.2.1) (hc_ch := n.2.2.2) (hc_s := s1) (hc_sr := s2) (hc_x := x.1) (hok_c := nw_ok x.2) e1
  dsimp only at ev
  have hx : ∀ (lo hi : Nat), (hi ≤ 345 ∨ 347 ≤ lo) → ag H (eW2 H [(345, .inr (7, [.ref 346, .int len'])), (346, .inl (2, 378, .inl row'))]) lo hi := fun lo hi h2 => ag_w2 (A := [345, 346]) rfl (fun a ha => by
    simp only [List.mem_cons, List.not_mem_nil, or_false] at ha
    omega)
  exact ⟨_, ev.mono (by decide), SC_s h' h40 (hx _ _ (by omega)) (hx _ _ (by omega)) ⟨len', row', rfl, rfl⟩, rfl, hx _ _ (by omega)⟩
theorem x_pix (i : Int32) : ∃ idx, idx < 40 ∧ ∀ pf, (i < 0 ∨ 40 ≤ i.toNatClampNeg) ∨ pf + 8 * idx = pf + 8 * i.toNatClampNeg := by
  by_cases z : i < 0 ∨ 40 ≤ i.toNatClampNeg
  · exact ⟨0, by omega, fun _ => Or.inl z⟩
  · exact ⟨i.toNatClampNeg, by omega, fun _ => Or.inr rfl⟩
theorem x_pool {H : eH} {fa ga pf pg : Nat} {l : List qC} (j : sJ H fa ga pf pg l) (h40 : l.length ≤ 40) (i : Int32) : ∃ idx ol op oh, idx < 40 ∧ sKr H (pf + 8 * idx) ol op oh ∧ ((i < 0 ∨ 40 ≤ i.toNatClampNeg) ∨ pf + 8 * idx = pf + 8 * i.toNatClampNeg) ∧ (∀ s, l[i.toNatClampNeg]? = some s → ¬ i < 0 → KC s.1 s.2.1 s.2.2 ol op oh) := by
  obtain ⟨ja, jb, jc, jd, je⟩ := j
  by_cases z : i < 0 ∨ 40 ≤ i.toNatClampNeg
  · obtain ⟨ol, op, oh, k⟩ := jc.2 0 (by omega)
    refine ⟨0, ol, op, oh, by omega, k, Or.inl z, fun s hs hi => ?_⟩
    have := (List.getElem?_eq_some_iff.mp hs).1
    rcases z with z | z
    · exact absurd z hi
    · omega
  · cases q : l[i.toNatClampNeg]? with
    | none =>
      obtain ⟨ol, op, oh, k⟩ := jc.2 i.toNatClampNeg (by omega)
      exact ⟨i.toNatClampNeg, ol, op, oh, by omega, k, Or.inr rfl, fun s hs => by cases hs⟩
    | some s =>
      obtain ⟨ol, op, oh, k, kc⟩ := je i.toNatClampNeg s q
      exact ⟨i.toNatClampNeg, ol, op, oh, by omega, k, Or.inr rfl, fun s' hs' _ => by cases hs'; exact kc⟩
theorem x_outcome {X : Nat × (Nat → Int32)} {H : eH} {A : qA} {nw tr fa ga pf pg : Nat} (h : SC H A nw tr fa ga pf pg) (hA : AI A) (hz : 356 ≤ H.2.1) (i p w : Int32) : xOK X 15 [.ref 1, .int i, .int p, .int w] H (tc [0, 10, 9] (s_outcome A i p w).1) (some (.int (s_outcome A i p w).2.1)) A := by
  have h' := h
  have h40 := hA.2.2.2
  obtain ⟨x, b, o, w', s, q1, q2, t, ⟨cl, cp, ch, n, kc⟩, rr, j⟩ := h
  have jj := j
  obtain ⟨idx, ol, op, oh, i40, kr, k9, kk⟩ := x_pool j h40 i
  obtain ⟨ja, jb, jc, jd, je⟩ := j
  have e : P_outcome 20 i p w ol oh (nI A.2.2.2.length) = some (tc [0, 10, 9] (s_outcome A i p w).1, (s_outcome A i p w).2.1) := by
    by_cases z : i < 0
    · have nb : ¬ qob A i = true := fun v => q_nn (decide_eq_true_iff.mp v).1 z
      unfold P_outcome s_outcome
      rw [c_chkO, Option.bind_some, if_neg nb, if_neg (show ¬ (qob A i = true ∧ 0 ≤ p ∧ p < 6) from fun v => nb v.1)]
      rfl
    · exact c_outcome hA i p w (fun s hs => kk s hs z) 20
  have ev := T_P_outcome (X := X) (o := pf + 8 * idx) (pf := pf) (hc_o := kr.1) (hc_ol := kr.2.1) (hc_oh := kr.2.2.2) (hc_x := x.1) (hc_jf := jc.1) (hc_j := jb) (hok_c := nw_ok x.2) (hok_o := by omega) (ho9 := k9) (hf9 := by omega) (hnz := by omega) e
  exact ⟨H, nw, tr, fa, ga, pf, pg, ev.mono (by decide), h', rfl, ag_id⟩
theorem x_adopt {X : Nat × (Nat → Int32)} {H : eH} {A : qA} {nw tr fa ga pf pg : Nat} (h : SC H A nw tr fa ga pf pg) (hA : AI A) (hz : 356 ≤ H.2.1) (i : Int32) : xOK X 16 [.ref 1, .int i] H (tc [0, 10] (s_adopt A i).1) none (s_adopt A i).2.2 := by
  have h' := h
  have h40 := hA.2.2.2
  obtain ⟨x, b, o, w', s, q1, q2, t, ⟨cl, cp, ch, n, kc⟩, rr, j⟩ := h
  have hn := x.2
  obtain ⟨idx, ol, op, oh, i40, kr, k9, kk⟩ := x_pool j h40 i
  obtain ⟨ja, jb, jc, jd, je⟩ := j
  have e : ∃ cl' cp' ch', P_adopt 20 i cl cp ch ol op oh (nI A.2.2.2.length) = some (tc [0, 10] (s_adopt A i).1, cl', cp', ch') ∧ KC (s_adopt A i).2.2.1.1 (s_adopt A i).2.2.1.2.1 (s_adopt A i).2.2.1.2.2 cl' cp' ch' := by
    by_cases z : i < 0
    · have nb : ¬ qob A i = true := fun v => q_nn (decide_eq_true_iff.mp v).1 z
      unfold P_adopt s_adopt
      rw [c_chkO, Option.bind_some, if_neg nb, if_neg nb]
      exact ⟨cl, cp, ch, rfl, kc⟩
    · exact c_adopt hA kc i (fun s hs => kk s hs z) 20
  obtain ⟨cl', cp', ch', e1, e2⟩ := e
  have ev := T_P_adopt (X := X) (o := pf + 8 * idx) (pf := pf) (hc_c := n.1) (hc_cl := n.2.1) (hc_cp := n.2.2.1) (hc_ch := n.2.2.2) (hc_o := kr.1) (hc_ol := kr.2.1) (hc_op := kr.2.2.1) (hc_oh := kr.2.2.2) (hc_x := x.1) (hc_jf := jc.1) (hc_j := jb) (hok_c := nw_ok x.2) (hok_o := by omega) (ho9 := k9) (hf9 := by omega) (hne := by omega) (hnz := by omega) e1
  dsimp only at ev
  have hN : ([nw + 1, nw + 2, nw + 3] : List Nat).Nodup := by simp
  have hx : ∀ (lo hi : Nat), (hi ≤ nw + 1 ∨ nw + 4 ≤ lo) → ag H (eW2 H [(nw + 1, .inl (0, 6, .inl cl')), (nw + 2, .inl (0, 6, .inl cp')), (nw + 3, .inl (1, 7, .inr (.inl ch')))]) lo hi := fun lo hi h3 => ag_w2 (A := [nw + 1, nw + 2, nw + 3]) rfl (fun a ha => by
    simp only [List.mem_cons, List.not_mem_nil, or_false] at ha
    omega)
  have s1 : (s_adopt A i).2.2.2 = A.2 := by
    unfold s_adopt
    split
    · split <;> rfl
    · rfl
  have e : (s_adopt A i).2.2 = ((s_adopt A i).2.2.1, A.2) := by rw [← s1]
  rw [e]
  exact ⟨_, nw, tr, fa, ga, pf, pg, ev.mono (by decide), SC_nw h' h40 (hx _ _ (by omega)) (hx _ _ (by omega)) ⟨cl', cp', ch', ⟨(hx nw (nw + 1) (by omega) nw (by omega) (by omega)).trans n.1, eW2_getA hN 0 rfl rfl, eW2_getA hN 1 rfl rfl, eW2_getA hN 2 rfl rfl⟩, e2⟩, rfl, hx _ _ (by omega)⟩

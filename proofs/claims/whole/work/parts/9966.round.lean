theorem x_mach {X : Nat × (Nat → Int32)} {H : eH} {A : qA} {c m : Nat} (hA : AI A) (hb : sB H A.2.1 A.2.2.1) (ho : sO H) (hk : sK H c A.1) (hc : c = 348 ∨ c = 352) (hm : m < 6) : ∃ H', eEv pP X 4 80 [.ref 10, .ref 2, .ref c, .int (nI m)] H (.inl (some (.int (nI (c4p (qgm A m))))), H') ∧ sO H' ∧ H'.2 = H.2 ∧ ∀ a, ¬ (10 ≤ a ∧ a < 15) → H'.1 a = H.1 a := by
  obtain ⟨b1, b2, ul, ue, uk, uh, uo, ui, ut, ud, uv, ux, b3, b4⟩ := hb
  obtain ⟨op, st, en, g, row, sts, pls, o1, o2, o3, o4, o5⟩ := ho
  obtain ⟨cl, cp, ch, n, kc⟩ := hk
  obtain ⟨⟨hl, ht, hk, ha⟩, hu, _⟩ := hA
  obtain ⟨⟨op', g'⟩, f⟩ := q_machineC hl kc hu b4 hm (hk.1 m hm) g (n := 200) (by omega)
  have f' : O_machineChoice 200 (nI m) g ul ue ui ut ud uv (nI A.2.1) cl cp ch = some (nI (c4p (qgm A m)), op', g') := f
  have ev := T_O_machineChoice (X := X) (hc_h := o1) (hc_ho := o2) (hc_b := b1) (hc_ba := b2) (hc_c := n.1) (hc_cl := n.2.1) (hc_cp := n.2.2.1) (hc_ch := n.2.2.2) (hu := b3) (hok_c := by omega) f'
  dsimp only at ev
  have off : ∀ a, ¬ (10 ≤ a ∧ a < 15) → (eW2 H [(10, .inr (2, [.ref 11, .int op', .ref 12, .int st, .int en, .ref 13, .ref 14])), (11, .inl (3, 6, .inr (.inr fun i => (g' i).map fun j => 4 + j)))]).1 a = H.1 a := fun a h => eW2_offA (A := [10, 11]) (fun z => by
    simp only [List.mem_cons, List.not_mem_nil, or_false] at z
    omega) rfl
  exact ⟨_, ev, ⟨op', st, en, g', row, sts, pls, rfl, rfl, o3, o4, o5⟩, rfl, off⟩
theorem x_pick {X : Nat × (Nat → Int32)} {A : qA} {nw tr : Nat} (hA : AI A) (hn : (nw = 348 ∧ tr = 352) ∨ (nw = 352 ∧ tr = 348)) : ∀ (d m S : Nat) (qa : Nat → Int32) (H : eH), m + d = 6 → H.1 1 = some (.inr (0, [.ref 2, .ref 10, .ref 15, .ref 17, .ref 345, .ref 347, .ref nw, .ref tr])) → sB H A.2.1 A.2.2.1 → sO H → sK H nw A.1 → H.1 347 = some (.inl (0, 6, .inl qa)) → (∀ j, j < m → qa j = nI (c4p (qgm A j))) → ∃ H' qa', (∀ res, eGs pP X 10 8 (50, [some (.ref 1), some (.int (nI (S + qsumm A m d))), some (.int 6)], [], H') res → eGs pP X 10 8 (4, [some (.ref 1), some (.int (nI S)), some (.int (nI m))], [], H) res) ∧ sO H' ∧ H'.1 347 = some (.inl (0, 6, .inl qa')) ∧ (∀ j, j < 6 → qa' j = nI (c4p (qgm A j))) ∧ H'.2 = H.2 ∧ ∀ a, ¬ (10 ≤ a ∧ a < 15) → ¬ a = 347 → H'.1 a = H.1 a := by
  intro d
  induction d with
  | zero =>
    intro m S qa H e hx hb ho hk hq hqa
    have : m = 6 := by omega
    subst this
    refine ⟨H, qa, fun res q => ?_, ho, hq, hqa, rfl, fun _ _ _ => rfl⟩
    refine eGs.steps 2 (y := (7, [some (.ref 1), some (.int (nI S)), some (.int (nI 6))], [.int 6, .int (nI 6)], H)) rfl ?_
    refine g_icmp (cd := .ge) (t := 50) true rfl (by decide) rfl ?_
    exact q
  | succ d ih =>
    intro m S qa H e hx hb ho hk hq hqa
    have hm : m < 6 := by omega
    have u12 : ∀ i, i < 6 → qgm A m i ≤ 12 := (qchosen_good hA.2.1 (qgm_chosen (A := A) m hm)).1.2
    have u16 : ∀ i, i < 6 → qgm A m i < 16 := fun i hi => by have := u12 i hi; omega
    obtain ⟨H1, ev1, o1, s1, t1⟩ := x_mach (X := X) hA hb ho hk (by omega) hm
    have c10 : ∃ fs, H.1 10 = some (.inr (2, fs)) := by
      obtain ⟨op, s, en, g, row, sts, pls, a, _⟩ := ho
      exact ⟨_, a⟩
    obtain ⟨fs10, c10⟩ := c10
    have q1 : H1.1 347 = some (.inl (0, 6, .inl qa)) := (t1 347 (by omega)).trans hq
    have ci : (nI m).toNatClampNeg = m := nI_clamp (by omega)
    have hg : ¬ (nI m < 0 ∨ 6 ≤ (nI m).toNatClampNeg) := by rw [ci]; exact q_in hm (by omega)
    generalize hH2 : eSetH H1 347 (.inl (0, 6, .inl (eUp qa (nI m).toNatClampNeg (nI (c4p (qgm A m)))))) = H2
    have q2 : H2.1 347 = some (.inl (0, 6, .inl (eUp qa m (nI (c4p (qgm A m)))))) := by rw [← hH2, ci]; rfl
    have t2 : ∀ a, ¬ a = 347 → H2.1 a = H1.1 a := fun a ha => by rw [← hH2]; exact if_neg ha
    have off : ∀ a, ¬ (10 ≤ a ∧ a < 15) → ¬ a = 347 → H2.1 a = H.1 a := fun a h1 h2 => (t2 a h2).trans (t1 a h1)
    have ev2 := T_Ch_usesTogether (X := X) (H := H2) (q_together u16 (n := 20) (by omega))
    obtain ⟨H', qa', y1, y2, y3, y4, y5, y6⟩ := ih (m + 1) (S + qut (qgm A m)) (eUp qa m (nI (c4p (qgm A m)))) H2 (by omega) ((off 1 (by omega) (by omega)).trans hx) (sB_fr hb (fun a h1 h2 => off a (by omega) (by omega))) (sO_fr o1 (fun a h1 h2 => t2 a (by omega))) (sK_fr hk (fun a h1 h2 => off a (by omega) (by omega))) q2 (fun j hj => by
      by_cases jm : j = m
      · subst jm; rw [q_up]
      · rw [q_un jm]; exact hqa j (by omega))
    have qe : qsumm A m (d + 1) = qut (qgm A m) + qsumm A (m + 1) d := rfl
    refine ⟨H', qa', fun res q => ?_, y2, y3, y4, y5.trans (by rw [← hH2]; exact s1), fun a h1 h2 => (y6 a h1 h2).trans (off a h1 h2)⟩
    have n6 : ¬ (6 : Int32) ≤ nI m := q_n6 hm
    refine eGs.steps 2 (y := (7, [some (.ref 1), some (.int (nI S)), some (.int (nI m))], [.int 6, .int (nI m)], H)) rfl ?_
    refine g_icmp (cd := .ge) (t := 50) false rfl (decide_eq_false n6) rfl ?_
    refine eGs.steps 1 (y := (11, [some (.ref 1), some (.int (nI S)), some (.int (nI m))], [.ref 1], H)) rfl ?_
    refine g_getf rfl rfl (by omega) hx rfl ?_
    refine eGs.steps 2 (y := (16, [some (.ref 1), some (.int (nI S)), some (.int (nI m))], [.ref 1, .int (nI m), .ref 347], H)) rfl ?_
    refine g_getf rfl rfl (by omega) hx rfl ?_
    refine eGs.steps 1 (y := (20, [some (.ref 1), some (.int (nI S)), some (.int (nI m))], [.ref 1, .ref 10, .int (nI m), .ref 347], H)) rfl ?_
    refine g_getf rfl rfl (by omega) hx rfl ?_
    refine eGs.steps 1 (y := (24, [some (.ref 1), some (.int (nI S)), some (.int (nI m))], [.ref 1, .ref 2, .ref 10, .int (nI m), .ref 347], H)) rfl ?_
    refine g_getf rfl rfl (by omega) hx rfl ?_
    refine eGs.steps 1 (y := (28, [some (.ref 1), some (.int (nI S)), some (.int (nI m))], [.int (nI m), .ref nw, .ref 2, .ref 10, .int (nI m), .ref 347], H)) rfl ?_
    refine g_callV rfl rfl rfl rfl rfl (by omega) c10 rfl (ev1.mono (by decide)) ?_
    refine eGs.steps 0 (y := (31, [some (.ref 1), some (.int (nI S)), some (.int (nI m))], [.int (nI (c4p (qgm A m))), .int (nI m), .ref 347], H1)) rfl ?_
    refine g_iastW rfl (by omega) q1 hg hH2 ?_
    refine eGs.steps 2 (y := (34, [some (.ref 1), some (.int (nI S)), some (.int (nI m))], [.ref 1, .int (nI S)], H2)) rfl ?_
    refine g_getf rfl rfl (by omega) ((off 1 (by omega) (by omega)).trans hx) rfl ?_
    refine eGs.steps 1 (y := (38, [some (.ref 1), some (.int (nI S)), some (.int (nI m))], [.int (nI m), .ref 347, .int (nI S)], H2)) rfl ?_
    refine g_iald rfl (by omega) q2 hg ?_
    rw [ci, q_up]
    refine eGs.steps 0 (y := (39, [some (.ref 1), some (.int (nI S)), some (.int (nI m))], [.int (nI (c4p (qgm A m))), .int (nI S)], H2)) rfl ?_
    refine g_callS rfl rfl rfl rfl rfl (ev2.mono (by decide)) ?_
    refine eGs.steps 4 (y := (4, [some (.ref 1), some (.int (nI S + nI (qgm A m 0 + qgm A m 1 + qgm A m 2 + qgm A m 3 + qgm A m 4 + qgm A m 5))), some (.int (nI m + 1))], [], H2)) rfl ?_
    rw [nI_add, nI_1]
    refine y1 res ?_
    rw [qe, ← Nat.add_assoc] at q
    exact q
theorem x_round {X : Nat × (Nat → Int32)} {H : eH} {A : qA} {nw tr fa ga pf pg : Nat} (h : SC H A nw tr fa ga pf pg) (hA : AI A) (hz : 356 ≤ H.2.1) : xOK X 8 [.ref 1] H (tc [0, 11] (s_round A).1) (some (.int (s_round A).2.1)) (s_round A).2.2 := by
  have h40 := hA.2.2.2
  obtain ⟨x, b, o, w, s, ⟨qa, q1⟩, q2, t, n, rr, j⟩ := h
  have hn := x.2
  have hu := hA.2.1
  obtain ⟨H1, qa1, y1, y2, y3, y4, y5, y6⟩ := x_pick (X := X) hA hn 6 0 0 qa H (by omega) x.1 b o n q1 (fun j hj => absurd hj (by omega))
  have x1 : H1.1 1 = some (.inr (0, [.ref 2, .ref 10, .ref 15, .ref 17, .ref 345, .ref 347, .ref nw, .ref tr])) := (y6 1 (by omega) (by omega)).trans x.1
  have n1 : sK H1 nw A.1 := sK_fr n (fun a h1 h2 => y6 a (by omega) (by omega))
  have r1 : sK0 H1 tr := sK0_fr rr (fun a h1 h2 => y6 a (by omega) (by omega))
  obtain ⟨H2, ev2, k2, s2, t2⟩ := x_copy (X := X) r1 n1 (by omega) (by omega) (by omega)
  have ctr : H1.1 tr = some (.inr (3, [.ref (tr + 1), .ref (tr + 2), .ref (tr + 3)])) := by
    obtain ⟨cl, cp, ch, m⟩ := r1
    exact m.1
  have off2 : ∀ a, ¬ (10 ≤ a ∧ a < 15) → ¬ a = 347 → ¬ (tr + 1 ≤ a ∧ a < tr + 4) → H2.1 a = H.1 a := fun a h1 h2 h3 => (t2 a h3).trans (y6 a h1 h2)
  have x2 : H2.1 1 = some (.inr (0, [.ref 2, .ref 10, .ref 15, .ref 17, .ref 345, .ref 347, .ref nw, .ref tr])) := (t2 1 (by omega)).trans x1
  have q3 : H2.1 347 = some (.inl (0, 6, .inl qa1)) := (t2 347 (by omega)).trans y3
  have b2 : sB H2 A.2.1 A.2.2.1 := sB_fr b (fun a h1 h2 => off2 a (by omega) (by omega) (by omega))
  have w2 : sW H2 := sW_fr w (fun a h1 h2 => off2 a (by omega) (by omega) (by omega))
  obtain ⟨H3, bb, ev3, s3, t3, w3, k3, v3, v4⟩ := x_carry (X := X) b2 w2 k2 q3 y4 (by omega) (Or.inr rfl) hA.1 hu qgm_chosen
  have off3 : ∀ a, ¬ (10 ≤ a ∧ a < 15) → ¬ a = 16 → ¬ a = 347 → ¬ (tr + 1 ≤ a ∧ a < tr + 4) → H3.1 a = H.1 a := fun a h1 h2 h3 h4 => (t3 a h2 h4).trans (off2 a h1 h3 h4)
  have x3 : H3.1 1 = some (.inr (0, [.ref 2, .ref 10, .ref 15, .ref 17, .ref 345, .ref 347, .ref nw, .ref tr])) := (off3 1 (by omega) (by omega) (by omega) (by omega)).trans x.1
  have hs3 : H3.2 = H.2 := s3.trans (s2.trans y5)
  have ent : ∀ res, eGs pP X 10 8 (80, [some (.ref 1), some (.int (nI (0 + qsumm A 0 6))), some (.int 6)], [.int bb], H3) res → eEv pP X 40 8 [.ref 1] H res := fun res q => by
    refine eEv.mono (d0 := 11) ?_ (by decide)
    refine eEv.of (Nat.not_lt.mpr (Nat.le_of_ble_eq_true rfl)) ?_
    refine eGs.steps 4 (y := (4, [some (.ref 1), some (.int (nI 0)), some (.int (nI 0))], [], H)) rfl ?_
    refine y1 res ?_
    refine eGs.steps 1 (y := (51, [some (.ref 1), some (.int (nI (0 + qsumm A 0 6))), some (.int 6)], [.ref 1], H1)) rfl ?_
    refine g_getf rfl rfl (by omega) x1 rfl ?_
    refine eGs.steps 1 (y := (55, [some (.ref 1), some (.int (nI (0 + qsumm A 0 6))), some (.int 6)], [.ref 1, .ref tr], H1)) rfl ?_
    refine g_getf rfl rfl (by omega) x1 rfl ?_
    refine eGs.steps 0 (y := (58, [some (.ref 1), some (.int (nI (0 + qsumm A 0 6))), some (.int 6)], [.ref nw, .ref tr], H1)) rfl ?_
    refine g_callV rfl rfl rfl rfl rfl (by omega) ctr rfl (ev2.mono (by decide)) ?_
    refine eGs.steps 1 (y := (62, [some (.ref 1), some (.int (nI (0 + qsumm A 0 6))), some (.int 6)], [.ref 1], H2)) rfl ?_
    refine g_getf rfl rfl (by omega) x2 rfl ?_
    refine eGs.steps 1 (y := (66, [some (.ref 1), some (.int (nI (0 + qsumm A 0 6))), some (.int 6)], [.ref 1, .ref 15], H2)) rfl ?_
    refine g_getf rfl rfl (by omega) x2 rfl ?_
    refine eGs.steps 1 (y := (70, [some (.ref 1), some (.int (nI (0 + qsumm A 0 6))), some (.int 6)], [.ref 1, .ref 2, .ref 15], H2)) rfl ?_
    refine g_getf rfl rfl (by omega) x2 rfl ?_
    refine eGs.steps 1 (y := (74, [some (.ref 1), some (.int (nI (0 + qsumm A 0 6))), some (.int 6)], [.ref 1, .ref tr, .ref 2, .ref 15], H2)) rfl ?_
    refine g_getf rfl rfl (by omega) x2 rfl ?_
    refine eGs.steps 0 (y := (77, [some (.ref 1), some (.int (nI (0 + qsumm A 0 6))), some (.int 6)], [.ref 347, .ref tr, .ref 2, .ref 15], H2)) rfl ?_
    refine g_callV rfl rfl rfl rfl rfl (by omega) w2.1 rfl (ev3.mono (by decide)) ?_
    exact q
  have o3 : sO H3 := sO_fr y2 (fun a h1 h2 => (t3 a (by omega) (by omega)).trans (t2 a (by omega)))
  unfold s_round
  cases e : qstep A.1 A.2.1 A.2.2.1 (qgm A) with
  | none =>
    have b0 := v3 e
    subst b0
    refine ⟨H3, nw, tr, fa, ga, pf, pg, ent _ ?_, ⟨⟨x3, hn⟩, sB_fr b (fun a h1 h2 => off3 a (by omega) (by omega) (by omega) (by omega)), o3, w3, sS_fr s (fun a h1 h2 => off3 a (by omega) (by omega) (by omega) (by omega)), ⟨qa1, (t3 347 (by omega) (by omega)).trans q3⟩, sQ_fr q2 (fun a h1 h2 => off3 a (by omega) (by omega) (by omega) (by omega)), sK0_fr t (fun a h1 h2 => off3 a (by omega) (by omega) (by omega) (by omega)), sK_fr n (fun a h1 h2 => off3 a (by omega) (by omega) (by omega) (by omega)), k3, sJ_fr j h40 (fun a h1 h2 => off3 a (by omega) (by omega) (by omega) (by omega)) (fun a h1 h2 => off3 a (by omega) (by omega) (by omega) (by omega))⟩, hs3, fun a h1 h2 => off3 a (by omega) (by omega) (by omega) (by omega)⟩
    refine g_if (cd := .ne) (t := 93) false rfl (by decide) rfl ?_
    exact g_tnew rfl rfl rfl rfl rfl
  | some s1 =>
    obtain ⟨bv, kv⟩ := v4 s1 e
    subst bv
    generalize hH4 : eSetH H3 1 (.inr (0, [.ref 2, .ref 10, .ref 15, .ref 17, .ref 345, .ref 347, .ref tr, .ref tr])) = H4
    have x4 : H4.1 1 = some (.inr (0, [.ref 2, .ref 10, .ref 15, .ref 17, .ref 345, .ref 347, .ref tr, .ref tr])) := by rw [← hH4]; rfl
    have t4 : ∀ a, ¬ a = 1 → H4.1 a = H3.1 a := fun a ha => by rw [← hH4]; exact if_neg ha
    generalize hH5 : eSetH H4 1 (.inr (0, [.ref 2, .ref 10, .ref 15, .ref 17, .ref 345, .ref 347, .ref tr, .ref nw])) = H5
    have x5 : H5.1 1 = some (.inr (0, [.ref 2, .ref 10, .ref 15, .ref 17, .ref 345, .ref 347, .ref tr, .ref nw])) := by rw [← hH5]; rfl
    have t5 : ∀ a, ¬ a = 1 → H5.1 a = H3.1 a := fun a ha => by rw [← hH5]; exact (if_neg ha).trans (t4 a ha)
    have off5 : ∀ a, ¬ a = 1 → ¬ (10 ≤ a ∧ a < 15) → ¬ a = 16 → ¬ a = 347 → ¬ (tr + 1 ≤ a ∧ a < tr + 4) → H5.1 a = H.1 a := fun a h0 h1 h2 h3 h4 => (t5 a h0).trans (off3 a h1 h2 h3 h4)
    refine ⟨H5, tr, nw, fa, ga, pf, pg, ent _ ?_, ⟨⟨x5, by omega⟩, sB_fr b (fun a h1 h2 => off5 a (by omega) (by omega) (by omega) (by omega) (by omega)), sO_fr o3 (fun a h1 h2 => t5 a (by omega)), sW_fr w3 (fun a h1 h2 => t5 a (by omega)), sS_fr s (fun a h1 h2 => off5 a (by omega) (by omega) (by omega) (by omega) (by omega)), ⟨qa1, (t5 347 (by omega)).trans ((t3 347 (by omega) (by omega)).trans q3)⟩, sQ_fr q2 (fun a h1 h2 => off5 a (by omega) (by omega) (by omega) (by omega) (by omega)), sK0_fr t (fun a h1 h2 => off5 a (by omega) (by omega) (by omega) (by omega) (by omega)), sK_fr kv (fun a h1 h2 => t5 a (by omega)), sK0_fr (sK_0 n) (fun a h1 h2 => off5 a (by omega) (by omega) (by omega) (by omega) (by omega)), sJ_fr j h40 (fun a h1 h2 => off5 a (by omega) (by omega) (by omega) (by omega) (by omega)) (fun a h1 h2 => off5 a (by omega) (by omega) (by omega) (by omega) (by omega))⟩, by rw [← hH5, ← hH4]; exact hs3, fun a h1 h2 => off5 a (by omega) (by omega) (by omega) (by omega) (by omega)⟩
    refine g_if (cd := .ne) (t := 93) true rfl (by decide) rfl ?_
    refine eGs.steps 1 (y := (94, [some (.ref 1), some (.int (nI (0 + qsumm A 0 6))), some (.int 6)], [.ref 1], H3)) rfl ?_
    refine g_getf rfl rfl (by omega) x3 rfl ?_
    refine eGs.steps 3 (y := (100, [some (.ref 1), some (.int (nI (0 + qsumm A 0 6))), some (.ref nw)], [.ref 1, .ref 1], H3)) rfl ?_
    refine g_getf rfl rfl (by omega) x3 rfl ?_
    refine eGs.steps 0 (y := (103, [some (.ref 1), some (.int (nI (0 + qsumm A 0 6))), some (.ref nw)], [.ref tr, .ref 1], H3)) rfl ?_
    refine g_putfW rfl rfl (by omega) x3 rfl (Nat.le_of_ble_eq_true rfl) rfl hH4 ?_
    refine eGs.steps 2 (y := (108, [some (.ref 1), some (.int (nI (0 + qsumm A 0 6))), some (.ref nw)], [.ref nw, .ref 1], H4)) rfl ?_
    refine g_putfW rfl rfl (by omega) x4 rfl (Nat.le_of_ble_eq_true rfl) rfl hH5 ?_
    refine eGs.steps 1 (y := (112, [some (.ref 1), some (.int (nI (0 + qsumm A 0 6))), some (.ref nw)], [.int (nI (0 + qsumm A 0 6))], H5)) rfl ?_
    rw [Nat.zero_add]
    exact eGs.fin rfl rfl rfl

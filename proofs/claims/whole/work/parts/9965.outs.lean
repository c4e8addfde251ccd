theorem x_begin {X : Nat × (Nat → Int32)} {H : eH} {cnt : Nat} {ru : Nat → Nat → Nat} {fa ga pf pg c : Nat} {l : List qC} {s : qC} (h : JS H cnt ru fa ga pf pg l) (hk : sK H c s) (hc : c = 348 ∨ c = 352) : ∃ H', eEv pP X 2 106 [.ref 17, .ref c] H (.inl none, H') ∧ JS H' cnt ru fa ga pf pg [s] ∧ fq H H' := by
  obtain ⟨⟨ja, jb, jc, jd, je⟩, b, o, w, t, q⟩ := h
  obtain ⟨cl, cp, ch, n, kc⟩ := hk
  obtain ⟨ol, op, oh, m⟩ := jc.2 0 (by omega)
  obtain ⟨cl', cp', ch', e1, e2⟩ := c_copy kc ol op oh 5
  have e : P_begin 5 cl cp ch ol op oh = some (cl', cp', ch', 1) := by
    unfold P_begin
    rw [if_neg (by decide), e1, Option.bind_some]
  have ev := T_P_begin (X := X) (o := pf + 8 * 0) (pf := pf) (fa := fa) (hc_c := n.1) (hc_cl := n.2.1) (hc_cp := n.2.2.1) (hc_ch := n.2.2.2) (hc_o := m.1) (hc_ol := m.2.1) (hc_op := m.2.2.1) (hc_oh := m.2.2.2) (hc_jf := jc.1) (hc_j := jb) (hok_c := by omega) (hok_o := by omega) (ho9 := Or.inr (by rw [show (0 : Int32).toNatClampNeg = 0 by decide])) (hf9 := by omega) (hne := by omega) e
  dsimp only at ev
  have hN : ([pf + 8 * 0 + 1, pf + 8 * 0 + 2, pf + 8 * 0 + 3, 17] : List Nat).Nodup := by simp; omega
  generalize hL : [(pf + 8 * 0 + 1, (.inl (0, 6, .inl cl') : eE)), (pf + 8 * 0 + 2, .inl (0, 6, .inl cp')), (pf + 8 * 0 + 3, .inl (1, 7, .inr (.inl ch'))), (17, .inr (4, [.ref fa, .int 1, .ref ga, .ref 20, .ref 24]))] = L at ev
  have hLm : L.map Prod.fst = [pf + 8 * 0 + 1, pf + 8 * 0 + 2, pf + 8 * 0 + 3, 17] := by rw [← hL]; rfl
  have off : ∀ a, ¬ a = 17 → ¬ (pf + 1 ≤ a ∧ a < pf + 4) → (eW2 H L).1 a = H.1 a := fun a h1 h2 => eW2_offA (A := [pf + 8 * 0 + 1, pf + 8 * 0 + 2, pf + 8 * 0 + 3, 17]) (fun z => by
    simp only [List.mem_cons, List.not_mem_nil, or_false] at z
    omega) hLm
  have gt : ∀ (i : Nat) {a : Nat} {c : eE}, L[i]? = some (a, c) → (eW2 H L).1 a = some c := fun i a c hi => eW2_getA hN i hi hLm
  have sf : sKr (eW2 H L) (pf + 8 * 0) cl' cp' ch' := ⟨(off (pf + 8 * 0) (by omega) (by omega)).trans m.1, gt 0 (by rw [← hL]; rfl), gt 1 (by rw [← hL]; rfl), gt 2 (by rw [← hL]; rfl)⟩
  refine ⟨eW2 H L, ev, ⟨⟨ja, gt 3 (by rw [← hL]; rfl), ⟨(off fa (by omega) (by omega)).trans jc.1, fun i hi => ?_⟩, ⟨(off ga (by omega) (by omega)).trans jd.1, fun i hi => sK0_fr (jd.2 i hi) (fun a h1 h2 => off a (by omega) (by omega))⟩, fun i s' hs => ?_⟩, sB_fr b (fun a h1 h2 => off a (by omega) (by omega)), sO_fr o (fun a h1 h2 => off a (by omega) (by omega)), sW_fr w (fun a h1 h2 => off a (by omega) (by omega)), sK0_fr t (fun a h1 h2 => off a (by omega) (by omega)), sQ_fr q (fun a h1 h2 => off a (by omega) (by omega))⟩, rfl, off 1 (by omega) (by omega), fun a ha => off a (by omega) (by omega)⟩
  · by_cases i0 : i = 0
    · subst i0; exact ⟨cl', cp', ch', sf⟩
    · exact sK0_fr (jc.2 i hi) (fun a h1 h2 => off a (by omega) (by omega))
  · cases i with
    | zero =>
      cases hs
      exact ⟨cl', cp', ch', sf, e2⟩
    | succ i => cases hs
theorem x_rounds {X : Nat × (Nat → Int32)} {cnt : Nat} {ru : Nat → Nat → Nat} (hu : UL cnt ru) {r nw tr : Nat} (hr : r ≤ 3) : ∀ (d t : Nat) (l : List qC) (fa ga pf pg : Nat) (H : eH), t + d = r → JS H cnt ru fa ga pf pg l → H.1 1 = some (.inr (0, [.ref 2, .ref 10, .ref 15, .ref 17, .ref 345, .ref 347, .ref nw, .ref tr])) → (∀ a, a ∈ l → KI a) → l.length ≤ 40 →
    (qouts cnt ru d l = none → ∃ H' fa' ga' pf' pg', eGs pP X 27 14 (32, [some (.ref 1), some (.int (nI r)), some (.int (nI t))], [], H) (.inl (some (.int (-2))), H') ∧ JS H' cnt ru fa' ga' pf' pg' [] ∧ fq H H')
    ∧ ∀ l', qouts cnt ru d l = some l' → ∃ H' fa' ga' pf' pg', eGs pP X 27 14 (32, [some (.ref 1), some (.int (nI r)), some (.int (nI t))], [], H) (.inl (some (.int (nI l'.length))), H') ∧ JS H' cnt ru fa' ga' pf' pg' l' ∧ fq H H' := by
  intro d
  induction d with
  | zero =>
    intro t l fa ga pf pg H e hJ hx hl h40
    refine ⟨fun z => (by cases z), fun l' z => ?_⟩
    cases z
    refine ⟨H, fa, ga, pf, pg, ?_, hJ, fq_id⟩
    refine eGs.steps 2 (y := (34, [some (.ref 1), some (.int (nI r)), some (.int (nI t))], [.int (nI r), .int (nI t)], H)) rfl ?_
    refine g_icmp (cd := .ge) (t := 68) true rfl (decide_eq_true (nI_le (by omega) (by omega))) rfl ?_
    refine eGs.steps 1 (y := (69, [some (.ref 1), some (.int (nI r)), some (.int (nI t))], [.ref 1], H)) rfl ?_
    refine g_getf rfl rfl (by omega) hx rfl ?_
    refine eGs.steps 0 (y := (72, [some (.ref 1), some (.int (nI r)), some (.int (nI t))], [.ref 17], H)) rfl ?_
    refine g_getf rfl rfl (by omega) hJ.1.2.1 rfl ?_
    refine eGs.steps 0 (y := (75, [some (.ref 1), some (.int (nI r)), some (.int (nI t))], [.int (nI l.length)], H)) rfl ?_
    exact eGs.fin rfl rfl rfl
  | succ d ih =>
    intro t l fa ga pf pg H e hJ hx hl h40
    have qe : qouts cnt ru (d + 1) l = (match qgo cnt ru l [] with
      | none => none
      | some l' => qouts cnt ru d l') := rfl
    rw [qe]
    obtain ⟨x1, x2⟩ := x_goOn (X := X) hu hl h40 hJ
    have nl : ¬ nI r ≤ nI t := nI_ge (by omega) (by omega)
    have run : ∀ (v : Int32) (H1 : eH), eEv pP X 26 107 [.ref 17, .ref 2, .ref 10, .ref 15] H (.inl (some (.int v)), H1) → ∀ res, eGs pP X 27 14 (56, [some (.ref 1), some (.int (nI r)), some (.int (nI t))], [.int v], H1) res → eGs pP X 27 14 (32, [some (.ref 1), some (.int (nI r)), some (.int (nI t))], [], H) res := fun v H1 ev res q => by
      refine eGs.steps 2 (y := (34, [some (.ref 1), some (.int (nI r)), some (.int (nI t))], [.int (nI r), .int (nI t)], H)) rfl ?_
      refine g_icmp (cd := .ge) (t := 68) false rfl (decide_eq_false nl) rfl ?_
      refine eGs.steps 1 (y := (38, [some (.ref 1), some (.int (nI r)), some (.int (nI t))], [.ref 1], H)) rfl ?_
      refine g_getf rfl rfl (by omega) hx rfl ?_
      refine eGs.steps 1 (y := (42, [some (.ref 1), some (.int (nI r)), some (.int (nI t))], [.ref 1, .ref 17], H)) rfl ?_
      refine g_getf rfl rfl (by omega) hx rfl ?_
      refine eGs.steps 1 (y := (46, [some (.ref 1), some (.int (nI r)), some (.int (nI t))], [.ref 1, .ref 2, .ref 17], H)) rfl ?_
      refine g_getf rfl rfl (by omega) hx rfl ?_
      refine eGs.steps 1 (y := (50, [some (.ref 1), some (.int (nI r)), some (.int (nI t))], [.ref 1, .ref 10, .ref 2, .ref 17], H)) rfl ?_
      refine g_getf rfl rfl (by omega) hx rfl ?_
      refine eGs.steps 0 (y := (53, [some (.ref 1), some (.int (nI r)), some (.int (nI t))], [.ref 15, .ref 10, .ref 2, .ref 17], H)) rfl ?_
      refine g_callV rfl rfl rfl rfl rfl (by omega) hJ.1.2.1 rfl (ev.mono (by decide)) ?_
      exact q
    cases q : qgo cnt ru l [] with
    | none =>
      obtain ⟨H1, y1, y2, y3⟩ := x1 q
      refine ⟨fun _ => ⟨H1, ga, fa, pg, pf, run 0 H1 y1 _ ?_, y2, y3⟩, fun l' z => (by cases z)⟩
      refine g_if (cd := .ne) (t := 62) false rfl (by decide) rfl ?_
      refine eGs.steps 1 (y := (61, [some (.ref 1), some (.int (nI r)), some (.int (nI t))], [.int (-2)], H1)) rfl ?_
      exact eGs.fin rfl rfl rfl
    | some l1 =>
      obtain ⟨H1, y1, y2, y3⟩ := x2 l1 q
      obtain ⟨p1, p2⟩ := qgo_inv hu l [] l1 hl q (fun a ha => absurd ha List.not_mem_nil) (Nat.zero_le _)
      obtain ⟨z1, z2⟩ := ih (t + 1) l1 ga fa pg pf H1 (by omega) y2 (y3.2.1.trans hx) p1 p2
      have nxt : ∀ res, eGs pP X 27 14 (32, [some (.ref 1), some (.int (nI r)), some (.int (nI (t + 1)))], [], H1) res → eGs pP X 27 14 (32, [some (.ref 1), some (.int (nI r)), some (.int (nI t))], [], H) res := fun res q => by
        refine run 1 H1 y1 res ?_
        refine g_if (cd := .ne) (t := 62) true rfl (by decide) rfl ?_
        refine eGs.steps 2 (y := (32, [some (.ref 1), some (.int (nI r)), some (.int (nI t + 1))], [], H1)) rfl ?_
        rw [nI_1]
        exact q
      refine ⟨fun z => ?_, fun l' z => ?_⟩
      · obtain ⟨H', a1, a2, a3, a4, b1, b2, b3⟩ := z1 z
        exact ⟨H', a1, a2, a3, a4, nxt _ b1, b2, fq_trans y3 b3⟩
      · obtain ⟨H', a1, a2, a3, a4, b1, b2, b3⟩ := z2 l' z
        exact ⟨H', a1, a2, a3, a4, nxt _ b1, b2, fq_trans y3 b3⟩
theorem SC_JS {H H' : eH} {A : qA} {nw tr fa ga pf pg fa' ga' pf' pg' : Nat} {l : List qC} (h : SC H A nw tr fa ga pf pg) (f : fq H H') (j : JS H' A.2.1 A.2.2.1 fa' ga' pf' pg' l) : SC H' (A.1, A.2.1, A.2.2.1, l) nw tr fa' ga' pf' pg' := by
  obtain ⟨x, b, o, w, s, q1, q2, t, n, r, jj⟩ := h
  obtain ⟨j1, j2, j3, j4, j5, j6⟩ := j
  have hn := x.2
  exact ⟨⟨f.2.1.trans x.1, hn⟩, j2, j3, j4, sS_fr s (fun a h1 h2 => f.2.2 a (by omega)), sQ_fr q1 (fun a h1 h2 => f.2.2 a (by omega)), j6, j5, sK_fr n (fun a h1 h2 => f.2.2 a (by omega)), sK0_fr r (fun a h1 h2 => f.2.2 a (by omega)), j1⟩
theorem x_outcomes {X : Nat × (Nat → Int32)} {H : eH} {A : qA} {nw tr fa ga pf pg : Nat} (h : SC H A nw tr fa ga pf pg) (hA : AI A) (hz : 356 ≤ H.2.1) (r : Int32) : xOK X 14 [.ref 1, .int r] H (tc [0, 9] (s_outcomes A r).1) (some (.int (s_outcomes A r).2.1)) (s_outcomes A r).2.2 := by
  have h' := h
  obtain ⟨x, b, o, w, s, q1, q2, t, n, rr, j⟩ := h
  have hn := x.2
  have hu := hA.2.1
  unfold s_outcomes
  by_cases ok : 0 ≤ r ∧ r < 4
  · rw [if_pos ok]
    obtain ⟨k, hk, rfl⟩ := q_inN (N := 4) (by decide) ok.1 ok.2
    rw [nI_clamp (by omega)]
    obtain ⟨H1, e1, e2, e3⟩ := x_begin (X := X) ⟨j, b, o, w, t, q2⟩ n (by omega)
    have hx1 := e3.2.1.trans x.1
    obtain ⟨y1, y2⟩ := x_rounds (X := X) hu (r := k) (nw := nw) (tr := tr) (by omega) k 0 [A.1] fa ga pf pg H1 (by omega) e2 hx1 (fun s hs => by
      cases hs with
      | head => exact hA.1
      | tail _ w => cases w) (show 1 ≤ 40 by decide)
    have n0 : ¬ nI k < 0 := nI_pos (by omega)
    have l3 : nI k ≤ (3 : Int32) := nI_le (b := 3) (by omega) (by decide)
    have ent : ∀ res, eGs pP X 27 14 (32, [some (.ref 1), some (.int (nI k)), some (.int (nI 0))], [], H1) res → eEv pP X 40 14 [.ref 1, .int (nI k)] H res := fun res q => by
      refine eEv.mono (d0 := 28) ?_ (by decide)
      refine eEv.of (Nat.not_lt.mpr (Nat.le_of_ble_eq_true rfl)) ?_
      refine eGs.steps 1 (y := (1, [some (.ref 1), some (.int (nI k)), none], [.int (nI k)], H)) rfl ?_
      refine g_if (cd := .lt) (t := 9) false rfl (decide_eq_false n0) rfl ?_
      refine eGs.steps 2 (y := (6, [some (.ref 1), some (.int (nI k)), none], [.int 3, .int (nI k)], H)) rfl ?_
      refine g_icmp (cd := .le) (t := 19) true rfl (decide_eq_true l3) rfl ?_
      refine eGs.steps 1 (y := (20, [some (.ref 1), some (.int (nI k)), none], [.ref 1], H)) rfl ?_
      refine g_getf rfl rfl (by omega) x.1 rfl ?_
      refine eGs.steps 1 (y := (24, [some (.ref 1), some (.int (nI k)), none], [.ref 1, .ref 17], H)) rfl ?_
      refine g_getf rfl rfl (by omega) x.1 rfl ?_
      refine eGs.steps 0 (y := (27, [some (.ref 1), some (.int (nI k)), none], [.ref nw, .ref 17], H)) rfl ?_
      refine g_callV rfl rfl rfl rfl rfl (by omega) j.2.1 rfl (e1.mono (by decide)) ?_
      refine eGs.steps 2 (y := (32, [some (.ref 1), some (.int (nI k)), some (.int (nI 0))], [], H1)) rfl ?_
      exact q
    cases q : qouts A.2.1 A.2.2.1 k [A.1] with
    | none =>
      obtain ⟨H', a1, a2, a3, a4, b1, b2, b3⟩ := y1 q
      have f := fq_trans e3 b3
      exact ⟨H', nw, tr, a1, a2, a3, a4, ent _ b1, SC_JS h' f b2, f.1, fun a h1 h2 => f.2.2 a (by omega)⟩
    | some l =>
      obtain ⟨H', a1, a2, a3, a4, b1, b2, b3⟩ := y2 l q
      have f := fq_trans e3 b3
      exact ⟨H', nw, tr, a1, a2, a3, a4, ent _ b1, SC_JS h' f b2, f.1, fun a h1 h2 => f.2.2 a (by omega)⟩
  · rw [if_neg ok]
    refine ⟨H, nw, tr, fa, ga, pf, pg, ?_, h', rfl, ag_id⟩
    refine eEv.mono (d0 := 28) ?_ (by decide)
    refine eEv.of (Nat.not_lt.mpr (Nat.le_of_ble_eq_true rfl)) ?_
    refine eGs.steps 1 (y := (1, [some (.ref 1), some (.int r), none], [.int r], H)) rfl ?_
    by_cases z : r < 0
    · refine g_if (cd := .lt) (t := 9) true rfl (decide_eq_true z) rfl ?_
      exact g_tnew rfl rfl rfl rfl rfl
    · refine g_if (cd := .lt) (t := 9) false rfl (decide_eq_false z) rfl ?_
      refine eGs.steps 2 (y := (6, [some (.ref 1), some (.int r), none], [.int 3, .int r], H)) rfl ?_
      refine g_icmp (cd := .le) (t := 19) false rfl (decide_eq_false (fun v => ok ⟨q_neg z, q_lab3.mp v⟩)) rfl ?_
      exact g_tnew rfl rfl rfl rfl rfl

theorem x_go {X : Nat × (Nat → Int32)} {cnt : Nat} {ru : Nat → Nat → Nat} (hu : UL cnt ru) {fa ga pf pg : Nat} {l : List qC} (hl : ∀ a, a ∈ l → KI a) (l40 : l.length ≤ 40) (og : Nat) : ∀ (rem : List qC) (i : Nat) (acc : List qC) (H : eH), l.drop i = rem → i + rem.length = l.length → GI H cnt ru fa ga pf pg l acc → sO H → (∀ a, a ∈ acc → KI a) → acc.length ≤ 40 →
    (qgo cnt ru rem acc = none → ∃ H' acc' i', (∀ res, eGs pP X 25 107 (161, gL2 og (nI l.length) 0 i', [], H') res → eGs pP X 25 107 (37, gL2 og (nI l.length) 1 (nI i), [], H) res) ∧ GI H' cnt ru fa ga pf pg l acc' ∧ sO H' ∧ fq H H' ∧ acc'.length ≤ 40)
    ∧ ∀ acc', qgo cnt ru rem acc = some acc' → ∃ H' i', (∀ res, eGs pP X 25 107 (161, gL2 og (nI l.length) 1 i', [], H') res → eGs pP X 25 107 (37, gL2 og (nI l.length) 1 (nI i), [], H) res) ∧ GI H' cnt ru fa ga pf pg l acc' ∧ sO H' ∧ fq H H' := by
  intro rem
  induction rem with
  | nil =>
    intro i acc H hd hi hG hO hA h40
    refine ⟨fun z => (by cases z), fun acc' z => ?_⟩
    cases z
    have ie : i = l.length := hi
    refine ⟨H, nI i, fun res q => ?_, hG, hO, fq_id⟩
    refine eGs.steps 2 (y := (41, gL2 og (nI l.length) 1 (nI i), [.int (nI l.length), .int (nI i)], H)) rfl ?_
    refine g_icmp (cd := .ge) (t := 161) true rfl (decide_eq_true (nI_le (by omega) (by omega))) rfl ?_
    exact q
  | cons s rem ih =>
    intro i acc H hd hi hG hO hA h40
    have hi' : i + (rem.length + 1) = l.length := hi
    have gi : l[i]? = some s := by
      have : (l.drop i)[0]? = some s := by rw [hd]; rfl
      rw [List.getElem?_drop] at this
      exact this
    have hd' : l.drop (i + 1) = rem := by
      have : (l.drop i).drop 1 = rem := by rw [hd]; rfl
      rw [List.drop_drop] at this
      exact this
    have hs : KI s := hl s (List.mem_of_getElem? gi)
    have nl : ¬ nI l.length ≤ nI i := nI_ge (by omega) (by omega)
    have ci : (nI i).toNatClampNeg = i := nI_clamp (by omega)
    have hg : ¬ (nI i < 0 ∨ 40 ≤ (nI i).toNatClampNeg) := by rw [ci]; exact q_in (by omega) (by omega)
    have hG' := hG
    obtain ⟨ga1, gb, gc, gd, ge, gf, gii, gj, gk, gm⟩ := hG
    obtain ⟨H1, v, ev, s1, t1, o1, v1, v2⟩ := x_countAll (X := X) gii hO (gf i s gi) (by omega) hs hu
    have c10 : ∃ fs, H.1 10 = some (.inr (2, fs)) := by
      obtain ⟨op, s, en, g, row, sts, pls, a, _⟩ := hO
      exact ⟨_, a⟩
    obtain ⟨fs10, c10⟩ := c10
    have G1 : GI H1 cnt ru fa ga pf pg l acc := GI_fr hG' l40 h40 (fun a h1 h2 => t1 a (by omega)) (fun a h1 h2 => t1 a (by omega)) (fun a h1 h2 => t1 a (by omega)) (sW_fr gj (fun a h1 h2 => t1 a (by omega))) (sK0_fr gk (fun a h1 h2 => t1 a (by omega))) (sQ_fr gm (fun a h1 h2 => t1 a (by omega)))
    have f1 : fq H H1 := ⟨s1, t1 1 (by omega), fun a ha => t1 a (by omega)⟩
    have run : ∀ res, eGs pP X 25 107 (61, gL2 og (nI l.length) 1 (nI i), [.int v], H1) res → eGs pP X 25 107 (37, gL2 og (nI l.length) 1 (nI i), [], H) res := fun res q => by
      refine eGs.steps 2 (y := (41, gL2 og (nI l.length) 1 (nI i), [.int (nI l.length), .int (nI i)], H)) rfl ?_
      refine g_icmp (cd := .ge) (t := 161) false rfl (decide_eq_false nl) rfl ?_
      refine eGs.steps 1 (y := (46, gL2 og (nI l.length) 1 (nI i), [.int 1], H)) rfl ?_
      refine g_if (cd := .eq) (t := 161) false rfl (by decide) rfl ?_
      refine eGs.steps 3 (y := (52, gL2 og (nI l.length) 1 (nI i), [.ref 17, .ref 2, .ref 10], H)) rfl ?_
      refine g_getf rfl rfl (by omega) gb rfl ?_
      refine eGs.steps 1 (y := (57, gL2 og (nI l.length) 1 (nI i), [.int (nI i), .ref ga, .ref 2, .ref 10], H)) rfl ?_
      refine g_aald rfl (by omega) gd.1 rfl hg ?_
      rw [ci, if_pos (show i < 40 by omega)]
      refine eGs.steps 0 (y := (58, gL2 og (nI l.length) 1 (nI i), [.ref (pg + 8 * i), .ref 2, .ref 10], H)) rfl ?_
      refine g_callV rfl rfl rfl rfl rfl (by omega) c10 rfl (ev.mono (by decide)) ?_
      exact q
    have wk : ∀ (rm : Int32) (P w : Int32) (j : Nat) (H2 : eH) res, eGs pP X 25 107 (37, gL2 og (nI l.length) rm (nI (j + 1)), [], H2) res → eGs pP X 25 107 (155, gL og (nI l.length) rm (nI j) P w, [], H2) res := fun rm P w j H2 res q => by
      refine eGs.steps 2 (y := (37, gL og (nI l.length) rm (nI j + 1) P w, [], H2)) rfl ?_
      rw [nI_1]
      refine eGs.weak (lo' := gL2 og (nI l.length) rm (nI (j + 1))) (by repeat' first | exact trivial | exact rfl | constructor) ?_
      exact q
    have out0 : ∀ (j : Nat) (H2 : eH) res, eGs pP X 25 107 (161, gL2 og (nI l.length) 0 (nI j), [], H2) res → eGs pP X 25 107 (37, gL2 og (nI l.length) 0 (nI j), [], H2) res := fun j H2 res q => by
      refine eGs.steps 2 (y := (41, gL2 og (nI l.length) 0 (nI j), [.int (nI l.length), .int (nI j)], H2)) rfl ?_
      by_cases y : nI l.length ≤ nI j
      · refine g_icmp (cd := .ge) (t := 161) true rfl (decide_eq_true y) rfl ?_
        exact q
      · refine g_icmp (cd := .ge) (t := 161) false rfl (decide_eq_false y) rfl ?_
        refine eGs.steps 1 (y := (46, gL2 og (nI l.length) 0 (nI j), [.int 0], H2)) rfl ?_
        refine g_if (cd := .eq) (t := 161) true rfl (by decide) rfl ?_
        exact q
    have qe : qgo cnt ru (s :: rem) acc = (match qspr s cnt ru acc with
      | none => none
      | some acc' => qgo cnt ru rem acc') := rfl
    rw [qe]
    by_cases hP : qpr (qln s cnt ru) 6 ≤ 1000
    · obtain ⟨v3, o3⟩ := v1 hP
      have sp : qspr s cnt ru acc = qwl s cnt ru (qpr (qln s cnt ru) 6) (fun _ => 0) acc := if_pos hP
      have lp := qln_pos (st := s) hu hs.2.2.1
      have ng : ¬ (1000 : Int32) < v := by
        rw [v3]
        exact fun z => absurd ((nI_ltI (a := 1000) (by decide) (by omega)).mp z) (by omega)
      have run1 : ∀ res, eGs pP X 25 107 (81, gL og (nI l.length) 1 (nI i) (nI (qpr (qln s cnt ru) 6)) (nI 0), [], H1) res → eGs pP X 25 107 (37, gL2 og (nI l.length) 1 (nI i), [], H) res := fun res q => by
        refine run res ?_
        refine eGs.steps 3 (y := (68, [some (.ref 17), some (.ref 2), some (.ref 10), some (.ref 15), some (.ref og), some (.int (nI l.length)), some (.int 1), some (.int (nI i)), some (.int v), none], [.int 1000, .int v], H1)) rfl ?_
        refine g_icmp (cd := .gt) (t := 75) false rfl (decide_eq_false ng) rfl ?_
        refine eGs.steps 5 (y := (81, gL og (nI l.length) 1 (nI i) v (nI 0), [], H1)) rfl ?_
        rw [v3]
        exact q
      obtain ⟨x1, x2⟩ := x_ways (X := X) hu l40 gi hs hP og (nI l.length) (qpr (qln s cnt ru) 6) 0 (fun _ => 0) acc H1 (by omega) G1 o3 (fun j hj => lp j hj) hA h40
      rw [sp]
      cases q : qwl s cnt ru (qpr (qln s cnt ru) 6) (fun _ => 0) acc with
      | none =>
        obtain ⟨H', acc', w', y1, y2, y3, y4, y5⟩ := x1 q
        refine ⟨fun _ => ⟨H', acc', nI (i + 1), fun res q => run1 res (y1 res (wk 0 _ _ i H' res (out0 (i + 1) H' res q))), y2, y3, fq_trans f1 y4, y5⟩, fun acc' z => (by cases z)⟩
      | some acc1 =>
        obtain ⟨H', w', y1, y2, y3, y4⟩ := x2 acc1 q
        obtain ⟨p1, p2⟩ := qwl_inv hs hu _ _ _ _ (fun j hj => lp j hj) q hA h40
        obtain ⟨z1, z2⟩ := ih (i + 1) acc1 H' hd' (by omega) y2 y3 p1 p2
        refine ⟨fun z => ?_, fun acc' z => ?_⟩
        · obtain ⟨H'', acc'', i'', a1, a2, a3, a4, a5⟩ := z1 z
          exact ⟨H'', acc'', i'', fun res q => run1 res (y1 res (wk 1 _ _ i H' res (a1 res q))), a2, a3, fq_trans f1 (fq_trans y4 a4), a5⟩
        · obtain ⟨H'', i'', a1, a2, a3, a4⟩ := z2 acc' z
          exact ⟨H'', i'', fun res q => run1 res (y1 res (wk 1 _ _ i H' res (a1 res q))), a2, a3, fq_trans f1 (fq_trans y4 a4)⟩
    · have v3 := v2 hP
      subst v3
      have sp : qspr s cnt ru acc = none := if_neg hP
      rw [sp]
      refine ⟨fun _ => ⟨H1, acc, nI (i + 1), fun res q => run res ?_, G1, o1, f1, h40⟩, fun acc' z => (by cases z)⟩
      refine eGs.steps 3 (y := (68, [some (.ref 17), some (.ref 2), some (.ref 10), some (.ref 15), some (.ref og), some (.int (nI l.length)), some (.int 1), some (.int (nI i)), some (.int 1001), none], [.int 1000, .int 1001], H1)) rfl ?_
      refine g_icmp (cd := .gt) (t := 75) true rfl (by decide) rfl ?_
      refine eGs.steps 4 (y := (81, gL og (nI l.length) 0 (nI i) 1001 0, [], H1)) rfl ?_
      refine eGs.steps 2 (y := (85, gL og (nI l.length) 0 (nI i) 1001 0, [.int 1001, .int 0], H1)) rfl ?_
      refine g_icmp (cd := .ge) (t := 155) false rfl (by decide) rfl ?_
      refine eGs.steps 1 (y := (90, gL og (nI l.length) 0 (nI i) 1001 0, [.int 0], H1)) rfl ?_
      refine g_if (cd := .eq) (t := 155) true rfl (by decide) rfl ?_
      exact wk 0 _ _ i H1 res (out0 (i + 1) H1 res q)
def JS (H : eH) (cnt : Nat) (ru : Nat → Nat → Nat) (fa ga pf pg : Nat) (l : List qC) : Prop := sJ H fa ga pf pg l ∧ sB H cnt ru ∧ sO H ∧ sW H ∧ sK0 H 20 ∧ sQ H 24
theorem x_goOn {X : Nat × (Nat → Int32)} {H : eH} {cnt : Nat} {ru : Nat → Nat → Nat} (hu : UL cnt ru) {fa ga pf pg : Nat} {l : List qC} (hl : ∀ a, a ∈ l → KI a) (l40 : l.length ≤ 40) (h : JS H cnt ru fa ga pf pg l) : (qgo cnt ru l [] = none → ∃ H', eEv pP X 26 107 [.ref 17, .ref 2, .ref 10, .ref 15] H (.inl (some (.int 0)), H') ∧ JS H' cnt ru ga fa pg pf [] ∧ fq H H') ∧ ∀ l', qgo cnt ru l [] = some l' → ∃ H', eEv pP X 26 107 [.ref 17, .ref 2, .ref 10, .ref 15] H (.inl (some (.int 1)), H') ∧ JS H' cnt ru ga fa pg pf l' ∧ fq H H' := by
  obtain ⟨⟨ja, jb, jc, jd, je⟩, b, o, w, t, q⟩ := h
  generalize hH1 : eSetH H 17 (.inr (4, [.ref fa, .int (nI l.length), .ref fa, .ref 20, .ref 24])) = H1
  have j1 : H1.1 17 = some (.inr (4, [.ref fa, .int (nI l.length), .ref fa, .ref 20, .ref 24])) := by rw [← hH1]; rfl
  have t1 : ∀ a, ¬ a = 17 → H1.1 a = H.1 a := fun a ha => by rw [← hH1]; exact if_neg ha
  generalize hH2 : eSetH H1 17 (.inr (4, [.ref ga, .int (nI l.length), .ref fa, .ref 20, .ref 24])) = H2
  have j2 : H2.1 17 = some (.inr (4, [.ref ga, .int (nI l.length), .ref fa, .ref 20, .ref 24])) := by rw [← hH2]; rfl
  have t2 : ∀ a, ¬ a = 17 → H2.1 a = H1.1 a := fun a ha => by rw [← hH2]; exact if_neg ha
  generalize hH3 : eSetH H2 17 (.inr (4, [.ref ga, .int 0, .ref fa, .ref 20, .ref 24])) = H3
  have j3 : H3.1 17 = some (.inr (4, [.ref ga, .int (nI ([] : List qC).length), .ref fa, .ref 20, .ref 24])) := by rw [← hH3]; rfl
  have t3 : ∀ a, ¬ a = 17 → H3.1 a = H2.1 a := fun a ha => by rw [← hH3]; exact if_neg ha
  have off : ∀ a, ¬ a = 17 → H3.1 a = H.1 a := fun a ha => (t3 a ha).trans ((t2 a ha).trans (t1 a ha))
  have f3 : fq H H3 := ⟨by rw [← hH3, ← hH2, ← hH1]; rfl, off 1 (by omega), fun a ha => off a (by omega)⟩
  have pfr : ∀ (x y : Nat), sP H x y → (18 ≤ x ∧ x < 20) → (25 ≤ y ∧ y ≤ 29) → sP H3 x y := fun x y hp h1 h2 => ⟨(off x (by omega)).trans hp.1, fun i hi => sK0_fr (hp.2 i hi) (fun a h1 h2 => off a (by omega))⟩
  have G3 : GI H3 cnt ru ga fa pg pf l [] := ⟨by omega, j3, pfr ga pg jd (by omega) (by omega), pfr fa pf jc (by omega) (by omega), fun i s hs => (by cases hs), fun i s hs => sK_fr (je i s hs) (fun a h1 h2 => off a (by omega)), sB_fr b (fun a h1 h2 => off a (by omega)), sW_fr w (fun a h1 h2 => off a (by omega)), sK0_fr t (fun a h1 h2 => off a (by omega)), sQ_fr q (fun a h1 h2 => off a (by omega))⟩
  have o3 : sO H3 := sO_fr o (fun a h1 h2 => off a (by omega))
  obtain ⟨x1, x2⟩ := x_go (X := X) hu hl l40 ga l 0 [] H3 rfl (by omega) G3 o3 (fun a ha => absurd ha List.not_mem_nil) (Nat.zero_le _)
  have ent : ∀ res, eGs pP X 25 107 (37, gL2 ga (nI l.length) 1 (nI 0), [], H3) res → eEv pP X 26 107 [.ref 17, .ref 2, .ref 10, .ref 15] H res := fun res q => by
    refine eEv.of (Nat.not_lt.mpr (Nat.le_of_ble_eq_true rfl)) ?_
    refine eGs.steps 1 (y := (1, [some (.ref 17), some (.ref 2), some (.ref 10), some (.ref 15), none, none, none, none, none, none], [.ref 17], H)) rfl ?_
    refine g_getf rfl rfl (by omega) jb rfl ?_
    refine eGs.steps 3 (y := (8, [some (.ref 17), some (.ref 2), some (.ref 10), some (.ref 15), some (.ref ga), none, none, none, none, none], [.ref 17, .ref 17], H)) rfl ?_
    refine g_getf rfl rfl (by omega) jb rfl ?_
    refine eGs.steps 0 (y := (11, [some (.ref 17), some (.ref 2), some (.ref 10), some (.ref 15), some (.ref ga), none, none, none, none, none], [.ref fa, .ref 17], H)) rfl ?_
    refine g_putfW rfl rfl (by omega) jb rfl (Nat.le_of_ble_eq_true rfl) rfl hH1 ?_
    refine eGs.steps 2 (y := (17, [some (.ref 17), some (.ref 2), some (.ref 10), some (.ref 15), some (.ref ga), none, none, none, none, none], [.ref ga, .ref 17], H1)) rfl ?_
    refine g_putfW rfl rfl (by omega) j1 rfl (Nat.le_of_ble_eq_true rfl) rfl hH2 ?_
    refine eGs.steps 1 (y := (21, [some (.ref 17), some (.ref 2), some (.ref 10), some (.ref 15), some (.ref ga), none, none, none, none, none], [.ref 17], H2)) rfl ?_
    refine g_getf rfl rfl (by omega) j2 rfl ?_
    refine eGs.steps 3 (y := (28, [some (.ref 17), some (.ref 2), some (.ref 10), some (.ref 15), some (.ref ga), some (.int (nI l.length)), none, none, none, none], [.int 0, .ref 17], H2)) rfl ?_
    refine g_putfW rfl rfl (by omega) j2 rfl (Nat.le_of_ble_eq_true rfl) rfl hH3 ?_
    refine eGs.steps 4 (y := (37, gL2 ga (nI l.length) 1 (nI 0), [], H3)) rfl ?_
    exact q
  refine ⟨fun z => ?_, fun l' z => ?_⟩
  · obtain ⟨H4, acc', i', y1, ⟨g1, g2, g3, g4, g5, g6, g7, g8, g9, g10⟩, y3, y4, y5⟩ := x1 z
    have off5 : ∀ a, ¬ a = 17 → (eSetH H4 17 (.inr (4, [.ref ga, .int 0, .ref fa, .ref 20, .ref 24]))).1 a = H4.1 a := fun a ha => if_neg ha
    have pfr5 : ∀ (x y : Nat), sP H4 x y → (18 ≤ x ∧ x < 20) → (25 ≤ y ∧ y ≤ 29) → sP (eSetH H4 17 (.inr (4, [.ref ga, .int 0, .ref fa, .ref 20, .ref 24]))) x y := fun x y hp h1 h2 => ⟨(off5 x (by omega)).trans hp.1, fun i hi => sK0_fr (hp.2 i hi) (fun a h1 h2 => off5 a (by omega))⟩
    refine ⟨eSetH H4 17 (.inr (4, [.ref ga, .int 0, .ref fa, .ref 20, .ref 24])), ent _ (y1 _ ?_), ⟨⟨g1, rfl, pfr5 ga pg g3 (by omega) (by omega), pfr5 fa pf g4 (by omega) (by omega), fun i s hs => (by cases hs)⟩, sB_fr g7 (fun a h1 h2 => off5 a (by omega)), sO_fr y3 (fun a h1 h2 => off5 a (by omega)), sW_fr g8 (fun a h1 h2 => off5 a (by omega)), sK0_fr g9 (fun a h1 h2 => off5 a (by omega)), sQ_fr g10 (fun a h1 h2 => off5 a (by omega))⟩, fq_trans f3 (fq_trans y4 ⟨rfl, off5 1 (by omega), fun a ha => off5 a (by omega)⟩)⟩
    refine eGs.steps 1 (y := (163, gL2 ga (nI l.length) 0 i', [.int 0], H4)) rfl ?_
    refine g_if (cd := .ne) (t := 171) false rfl (by decide) rfl ?_
    refine eGs.steps 2 (y := (168, gL2 ga (nI l.length) 0 i', [.int 0, .ref 17], H4)) rfl ?_
    refine g_putf rfl rfl (by omega) g2 rfl (Nat.le_of_ble_eq_true rfl) rfl ?_
    refine eGs.steps 1 (y := (173, gL2 ga (nI l.length) 0 i', [.int 0], _)) rfl ?_
    exact eGs.fin rfl rfl rfl
  · obtain ⟨H4, i', y1, ⟨g1, g2, g3, g4, g5, g6, g7, g8, g9, g10⟩, y3, y4⟩ := x2 l' z
    refine ⟨H4, ent _ (y1 _ ?_), ⟨⟨g1, g2, g3, g4, g5⟩, g7, y3, g8, g9, g10⟩, fq_trans f3 y4⟩
    refine eGs.steps 1 (y := (163, gL2 ga (nI l.length) 1 i', [.int 1], H4)) rfl ?_
    refine g_if (cd := .ne) (t := 171) true rfl (by decide) rfl ?_
    refine eGs.steps 1 (y := (173, gL2 ga (nI l.length) 1 i', [.int 1], H4)) rfl ?_
    exact eGs.fin rfl rfl rfl

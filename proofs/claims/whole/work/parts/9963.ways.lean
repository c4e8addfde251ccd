def GI (H : eH) (cnt : Nat) (ru : Nat → Nat → Nat) (fa ga pf pg : Nat) (l acc : List qC) : Prop := ((fa = 18 ∧ pf = 25 ∧ ga = 19 ∧ pg = 29) ∨ (fa = 19 ∧ pf = 29 ∧ ga = 18 ∧ pg = 25)) ∧ H.1 17 = some (.inr (4, [.ref fa, .int (nI acc.length), .ref ga, .ref 20, .ref 24])) ∧ sP H fa pf ∧ sP H ga pg ∧ (∀ i s, acc[i]? = some s → sK H (pf + 8 * i) s) ∧ (∀ i s, l[i]? = some s → sK H (pg + 8 * i) s) ∧ sB H cnt ru ∧ sW H ∧ sK0 H 20 ∧ sQ H 24
def fq (H H' : eH) : Prop := H'.2 = H.2 ∧ H'.1 1 = H.1 1 ∧ ∀ a, 345 ≤ a → H'.1 a = H.1 a
theorem fq_id {H : eH} : fq H H := ⟨rfl, rfl, fun _ _ => rfl⟩
theorem fq_trans {H H1 H2 : eH} (h : fq H H1) (g : fq H1 H2) : fq H H2 := ⟨g.1.trans h.1, g.2.1.trans h.2.1, fun a ha => (g.2.2 a ha).trans (h.2.2 a ha)⟩
def gL (og : Nat) (bf rm i P w : Int32) : eLo := [some (.ref 17), some (.ref 2), some (.ref 10), some (.ref 15), some (.ref og), some (.int bf), some (.int rm), some (.int i), some (.int P), some (.int w)]
def gL2 (og : Nat) (bf rm i : Int32) : eLo := [some (.ref 17), some (.ref 2), some (.ref 10), some (.ref 15), some (.ref og), some (.int bf), some (.int rm), some (.int i), none, none]
theorem GI_fr {H H' : eH} {cnt : Nat} {ru : Nat → Nat → Nat} {fa ga pf pg : Nat} {l acc : List qC} (h : GI H cnt ru fa ga pf pg l acc) (hl : l.length ≤ 40) (ha : acc.length ≤ 40) (g1 : ag H H' 2 10) (g2 : ag H H' 17 20) (g3 : ag H H' 25 345) (w : sW H') (t : sK0 H' 20) (q : sQ H' 24) : GI H' cnt ru fa ga pf pg l acc := by
  obtain ⟨a, b, c, d, e, f, i, j, k, m⟩ := h
  refine ⟨a, (g2 17 (by omega) (by omega)).trans b, sP_fr c (by omega) (by omega) g2 g3, sP_fr d (by omega) (by omega) g2 g3, fun x s hs => sK_fr (e x s hs) (ag_sub g3 (by omega) ?_), fun x s hs => sK_fr (f x s hs) (ag_sub g3 (by omega) ?_), sB_fr i g1, w, t, q⟩
  · have := (List.getElem?_eq_some_iff.mp hs).1
    omega
  · have := (List.getElem?_eq_some_iff.mp hs).1
    omega
theorem x_ways {X : Nat × (Nat → Int32)} {cnt : Nat} {ru : Nat → Nat → Nat} (hu : UL cnt ru) {fa ga pf pg : Nat} {l : List qC} (l40 : l.length ≤ 40) {st : qC} {i : Nat} (hi : l[i]? = some st) (hI : KI st) (hP : qpr (qln st cnt ru) 6 ≤ 1000) (og : Nat) (bf : Int32) : ∀ (r w : Nat) (dg : Nat → Nat) (acc : List qC) (H : eH), w + r = qpr (qln st cnt ru) 6 → GI H cnt ru fa ga pf pg l acc → sOw H st cnt ru dg → (∀ j, j < 6 → dg j < qln st cnt ru j) → (∀ a, a ∈ acc → KI a) → acc.length ≤ 40 →
    (qwl st cnt ru r dg acc = none → ∃ H' acc' w', (∀ res, eGs pP X 25 107 (155, gL og bf 0 (nI i) (nI (qpr (qln st cnt ru) 6)) w', [], H') res → eGs pP X 25 107 (81, gL og bf 1 (nI i) (nI (qpr (qln st cnt ru) 6)) (nI w), [], H) res) ∧ GI H' cnt ru fa ga pf pg l acc' ∧ sO H' ∧ fq H H' ∧ acc'.length ≤ 40)
    ∧ ∀ acc', qwl st cnt ru r dg acc = some acc' → ∃ H' w', (∀ res, eGs pP X 25 107 (155, gL og bf 1 (nI i) (nI (qpr (qln st cnt ru) 6)) w', [], H') res → eGs pP X 25 107 (81, gL og bf 1 (nI i) (nI (qpr (qln st cnt ru) 6)) (nI w), [], H) res) ∧ GI H' cnt ru fa ga pf pg l acc' ∧ sO H' ∧ fq H H' := by
  have il := (List.getElem?_eq_some_iff.mp hi).1
  intro r
  induction r with
  | zero =>
    intro w dg acc H e hG hO hd hA h40
    refine ⟨fun z => (by cases z), fun acc' z => ?_⟩
    cases z
    refine ⟨H, nI w, fun res q => ?_, hG, sOw_o hO, fq_id⟩
    refine eGs.steps 2 (y := (85, gL og bf 1 (nI i) (nI (qpr (qln st cnt ru) 6)) (nI w), [.int (nI (qpr (qln st cnt ru) 6)), .int (nI w)], H)) rfl ?_
    refine g_icmp (cd := .ge) (t := 155) true rfl (decide_eq_true (nI_le (by omega) (by omega))) rfl ?_
    exact q
  | succ r ih =>
    intro w dg acc H e hG hO hd hA h40
    have hG' := hG
    obtain ⟨ga1, gb, gc, gd, ge, gf, gi, gj, gk, gm⟩ := hG
    have nl : ¬ nI (qpr (qln st cnt ru) 6) ≤ nI w := nI_ge (by omega) (by omega)
    have ci : (nI i).toNatClampNeg = i := nI_clamp (by omega)
    have hg : ¬ (nI i < 0 ∨ 40 ≤ (nI i).toNatClampNeg) := by rw [ci]; exact q_in (by omega) (by omega)
    obtain ⟨H1, qa, ev1, s1, t1, o1, q1, r1⟩ := x_takeNext (X := X) hO gm (Or.inl rfl) hI hu hP hd
    have c10 : ∃ fs, H.1 10 = some (.inr (2, fs)) := by
      obtain ⟨op, s, en, g, row, sts, pls, a, _⟩ := hO
      exact ⟨_, a⟩
    obtain ⟨fs10, c10⟩ := c10
    have j1 : H1.1 17 = some (.inr (4, [.ref fa, .int (nI acc.length), .ref ga, .ref 20, .ref 24])) := (t1 17 (by omega) (by omega)).trans gb
    have g1 : H1.1 ga = some (.inl (4, 40, .inr (.inr fun i => if i < 40 then some (pg + 8 * i) else none))) := (t1 ga (by omega) (by omega)).trans gd.1
    have k1 : sK0 H1 20 := sK0_fr gk (fun a h1 h2 => t1 a (by omega) (by omega))
    have b1 : sK H1 (pg + 8 * i) st := sK_fr (gf i st hi) (fun a h1 h2 => t1 a (by omega) (by omega))
    obtain ⟨H2, ev2, k2, s2, t2⟩ := x_copy (X := X) k1 b1 (Or.inl rfl) (by omega) (by omega)
    have c20 : H1.1 20 = some (.inr (3, [.ref (20 + 1), .ref (20 + 2), .ref (20 + 3)])) := by
      obtain ⟨cl, cp, ch, n⟩ := k1
      exact n.1
    have j2 : H2.1 17 = some (.inr (4, [.ref fa, .int (nI acc.length), .ref ga, .ref 20, .ref 24])) := (t2 17 (by omega)).trans j1
    have q2 : H2.1 24 = some (.inl (0, 6, .inl qa)) := (t2 24 (by omega)).trans q1
    have b2 : sB H2 cnt ru := sB_fr gi (fun a h1 h2 => (t2 a (by omega)).trans (t1 a (by omega) (by omega)))
    have w2 : sW H2 := sW_fr gj (fun a h1 h2 => (t2 a (by omega)).trans (t1 a (by omega) (by omega)))
    obtain ⟨H3, b, ev3, s3, t3, w3, k3, v3, v4⟩ := x_carry (X := X) b2 w2 k2 q2 r1 (Or.inl rfl) (Or.inl rfl) hI hu (qus_chosen hd)
    have c15 : ∃ fs, H2.1 15 = some (.inr (8, fs)) := ⟨_, w2.1⟩
    obtain ⟨fs15, c15⟩ := c15
    have off : ∀ a, ¬ (10 ≤ a ∧ a < 17) → ¬ (20 ≤ a ∧ a < 25) → H3.1 a = H.1 a := fun a h1 h2 => (t3 a (by omega) (by omega)).trans ((t2 a (by omega)).trans (t1 a (by omega) (by omega)))
    have G3 : GI H3 cnt ru fa ga pf pg l acc := GI_fr hG' l40 h40 (fun a h1 h2 => off a (by omega) (by omega)) (fun a h1 h2 => off a (by omega) (by omega)) (fun a h1 h2 => off a (by omega) (by omega)) w3 k3 ⟨qa, (t3 24 (by omega) (by omega)).trans q2⟩
    have o3 : sOw H3 st cnt ru (qinc (qln st cnt ru) 6 dg).1 := sOw_fr o1 (fun a h1 h2 => (t3 a (by omega) (by omega)).trans (t2 a (by omega)))
    have f3 : fq H H3 := ⟨s3.trans (s2.trans s1), off 1 (by omega) (by omega), fun a ha => off a (by omega) (by omega)⟩
    have i3 := (qinc_spec (ln := qln st cnt ru) 6 dg hd).2.2.1
    have run : ∀ res, eGs pP X 25 107 (128, gL og bf 1 (nI i) (nI (qpr (qln st cnt ru) 6)) (nI w), [.int b], H3) res → eGs pP X 25 107 (81, gL og bf 1 (nI i) (nI (qpr (qln st cnt ru) 6)) (nI w), [], H) res := fun res q => by
      refine eGs.steps 2 (y := (85, gL og bf 1 (nI i) (nI (qpr (qln st cnt ru) 6)) (nI w), [.int (nI (qpr (qln st cnt ru) 6)), .int (nI w)], H)) rfl ?_
      refine g_icmp (cd := .ge) (t := 155) false rfl (decide_eq_false nl) rfl ?_
      refine eGs.steps 1 (y := (90, gL og bf 1 (nI i) (nI (qpr (qln st cnt ru) 6)) (nI w), [.int 1], H)) rfl ?_
      refine g_if (cd := .eq) (t := 155) false rfl (by decide) rfl ?_
      refine eGs.steps 2 (y := (95, gL og bf 1 (nI i) (nI (qpr (qln st cnt ru) 6)) (nI w), [.ref 17, .ref 10], H)) rfl ?_
      refine g_getf rfl rfl (by omega) gb rfl ?_
      refine eGs.steps 0 (y := (98, gL og bf 1 (nI i) (nI (qpr (qln st cnt ru) 6)) (nI w), [.ref 24, .ref 10], H)) rfl ?_
      refine g_callV rfl rfl rfl rfl rfl (by omega) c10 rfl (ev1.mono (by decide)) ?_
      refine eGs.steps 1 (y := (102, gL og bf 1 (nI i) (nI (qpr (qln st cnt ru) 6)) (nI w), [.ref 17], H1)) rfl ?_
      refine g_getf rfl rfl (by omega) j1 rfl ?_
      refine eGs.steps 1 (y := (106, gL og bf 1 (nI i) (nI (qpr (qln st cnt ru) 6)) (nI w), [.ref 17, .ref 20], H1)) rfl ?_
      refine g_getf rfl rfl (by omega) j1 rfl ?_
      refine eGs.steps 1 (y := (111, gL og bf 1 (nI i) (nI (qpr (qln st cnt ru) 6)) (nI w), [.int (nI i), .ref ga, .ref 20], H1)) rfl ?_
      refine g_aald rfl (by omega) g1 rfl hg ?_
      rw [ci, if_pos (show i < 40 by omega)]
      refine eGs.steps 0 (y := (112, gL og bf 1 (nI i) (nI (qpr (qln st cnt ru) 6)) (nI w), [.ref (pg + 8 * i), .ref 20], H1)) rfl ?_
      refine g_callV rfl rfl rfl rfl rfl (by omega) c20 rfl (ev2.mono (by decide)) ?_
      refine eGs.steps 3 (y := (118, gL og bf 1 (nI i) (nI (qpr (qln st cnt ru) 6)) (nI w), [.ref 17, .ref 2, .ref 15], H2)) rfl ?_
      refine g_getf rfl rfl (by omega) j2 rfl ?_
      refine eGs.steps 1 (y := (122, gL og bf 1 (nI i) (nI (qpr (qln st cnt ru) 6)) (nI w), [.ref 17, .ref 20, .ref 2, .ref 15], H2)) rfl ?_
      refine g_getf rfl rfl (by omega) j2 rfl ?_
      refine eGs.steps 0 (y := (125, gL og bf 1 (nI i) (nI (qpr (qln st cnt ru) 6)) (nI w), [.ref 24, .ref 20, .ref 2, .ref 15], H2)) rfl ?_
      refine g_callV rfl rfl rfl rfl rfl (by omega) c15 rfl (ev3.mono (by decide)) ?_
      exact q
    have back : ∀ (H4 : eH) res, eGs pP X 25 107 (81, gL og bf 1 (nI i) (nI (qpr (qln st cnt ru) 6)) (nI (w + 1)), [], H4) res → eGs pP X 25 107 (142, gL og bf 1 (nI i) (nI (qpr (qln st cnt ru) 6)) (nI w), [], H4) res := fun H4 res q => by
      refine eGs.steps 5 (y := (81, gL og bf 1 (nI i) (nI (qpr (qln st cnt ru) 6)) (nI w + 1), [], H4)) rfl ?_
      rw [nI_1]
      exact q
    rw [qwl_1]
    cases qs : qstep st cnt ru (qus st cnt ru dg) with
    | none =>
      have b0 := v3 qs
      subst b0
      dsimp only
      have run0 : ∀ res, eGs pP X 25 107 (81, gL og bf 1 (nI i) (nI (qpr (qln st cnt ru) 6)) (nI (w + 1)), [], H3) res → eGs pP X 25 107 (81, gL og bf 1 (nI i) (nI (qpr (qln st cnt ru) 6)) (nI w), [], H) res := fun res q => by
        refine run res ?_
        refine g_if (cd := .eq) (t := 142) true rfl (by decide) rfl ?_
        exact back H3 res q
      obtain ⟨x1, x2⟩ := ih (w + 1) (qinc (qln st cnt ru) 6 dg).1 acc H3 (by omega) G3 o3 i3 hA h40
      refine ⟨fun z => ?_, fun acc' z => ?_⟩
      · obtain ⟨H', acc', w', y1, y2, y3, y4, y5⟩ := x1 z
        exact ⟨H', acc', w', fun res q => run0 res (y1 res q), y2, y3, fq_trans f3 y4, y5⟩
      · obtain ⟨H', w', y1, y2, y3, y4⟩ := x2 acc' z
        exact ⟨H', w', fun res q => run0 res (y1 res q), y2, y3, fq_trans f3 y4⟩
    | some s =>
      obtain ⟨bb, kk⟩ := v4 s qs
      subst bb
      dsimp only
      have Ks := qstep_KI hI hu (qus_chosen hd) qs
      obtain ⟨ga3, gb3, gc3, gd3, ge3, gf3, gi3, gj3, gk3, gm3⟩ := G3
      obtain ⟨m1, m2⟩ := x_keep (X := X) (fa := fa) (ga := ga) (pf := pf) (by omega) gb3 gc3 ge3 kk hA Ks h40
      have run1 : ∀ (v : Int32) (H4 : eH), eEv pP X 10 108 [.ref 17, .ref 20] H3 (.inl (some (.int v)), H4) → ∀ res, eGs pP X 25 107 (139, gL og bf 1 (nI i) (nI (qpr (qln st cnt ru) 6)) (nI w), [.int v], H4) res → eGs pP X 25 107 (81, gL og bf 1 (nI i) (nI (qpr (qln st cnt ru) 6)) (nI w), [], H) res := fun v H4 ev res q => by
        refine run res ?_
        refine g_if (cd := .eq) (t := 142) false rfl (by decide) rfl ?_
        refine eGs.steps 2 (y := (133, gL og bf 1 (nI i) (nI (qpr (qln st cnt ru) 6)) (nI w), [.ref 17, .ref 17], H3)) rfl ?_
        refine g_getf rfl rfl (by omega) gb3 rfl ?_
        refine eGs.steps 0 (y := (136, gL og bf 1 (nI i) (nI (qpr (qln st cnt ru) 6)) (nI w), [.ref 20, .ref 17], H3)) rfl ?_
        refine g_callV rfl rfl rfl rfl rfl (by omega) gb3 rfl (ev.mono (by decide)) ?_
        exact q
      cases g : qkeep acc s with
      | none =>
        refine ⟨fun _ => ?_, fun acc' z => (by cases z)⟩
        refine ⟨H3, acc, nI (w + 1), fun res q => run1 0 H3 (m1 g) res ?_, ⟨ga3, gb3, gc3, gd3, ge3, gf3, gi3, gj3, gk3, gm3⟩, sOw_o o3, f3, h40⟩
        refine g_if (cd := .eq) (t := 146) true rfl (by decide) rfl ?_
        refine eGs.steps 4 (y := (81, gL og bf 0 (nI i) (nI (qpr (qln st cnt ru) 6)) (nI w + 1), [], H3)) rfl ?_
        rw [nI_1]
        refine eGs.steps 2 (y := (85, gL og bf 0 (nI i) (nI (qpr (qln st cnt ru) 6)) (nI (w + 1)), [.int (nI (qpr (qln st cnt ru) 6)), .int (nI (w + 1))], H3)) rfl ?_
        by_cases y : nI (qpr (qln st cnt ru) 6) ≤ nI (w + 1)
        · refine g_icmp (cd := .ge) (t := 155) true rfl (decide_eq_true y) rfl ?_
          exact q
        · refine g_icmp (cd := .ge) (t := 155) false rfl (decide_eq_false y) rfl ?_
          refine eGs.steps 1 (y := (90, gL og bf 0 (nI i) (nI (qpr (qln st cnt ru) 6)) (nI (w + 1)), [.int 0], H3)) rfl ?_
          refine g_if (cd := .eq) (t := 155) true rfl (by decide) rfl ?_
          exact q
      | some acc1 =>
        obtain ⟨H4, n1, n2, n3, n4, n5, j, j40, n6⟩ := m2 acc1 g
        obtain ⟨p1, p2⟩ := qkeep_inv g Ks hA h40
        have off4 : ∀ a, ¬ a = 17 → ¬ (25 ≤ a ∧ a < 345) → H4.1 a = H3.1 a := fun a h1 h2 => n6 a h1 (by omega)
        have offg : ∀ x, x < 40 → ag H3 H4 (pg + 8 * x) (pg + 8 * x + 4) := fun x hx a h1 h2 => n6 a (by omega) (by omega)
        have G4 : GI H4 cnt ru fa ga pf pg l acc1 := ⟨ga3, n3, n5, ⟨(off4 ga (by omega) (by omega)).trans gd3.1, fun x hx => sK0_fr (gd3.2 x hx) (offg x hx)⟩, n4, fun x s hs => sK_fr (gf3 x s hs) (offg x (by have := (List.getElem?_eq_some_iff.mp hs).1; omega)), sB_fr gi3 (fun a h1 h2 => off4 a (by omega) (by omega)), sW_fr gj3 (fun a h1 h2 => off4 a (by omega) (by omega)), sK0_fr gk3 (fun a h1 h2 => off4 a (by omega) (by omega)), sQ_fr gm3 (fun a h1 h2 => off4 a (by omega) (by omega))⟩
        have o4 : sOw H4 st cnt ru (qinc (qln st cnt ru) 6 dg).1 := sOw_fr o3 (fun a h1 h2 => off4 a (by omega) (by omega))
        have f4 : fq H H4 := fq_trans f3 ⟨n2, off4 1 (by omega) (by omega), fun a ha => off4 a (by omega) (by omega)⟩
        have run2 : ∀ res, eGs pP X 25 107 (81, gL og bf 1 (nI i) (nI (qpr (qln st cnt ru) 6)) (nI (w + 1)), [], H4) res → eGs pP X 25 107 (81, gL og bf 1 (nI i) (nI (qpr (qln st cnt ru) 6)) (nI w), [], H) res := fun res q => by
          refine run1 1 H4 n1 res ?_
          refine g_if (cd := .eq) (t := 146) false rfl (by decide) rfl ?_
          exact back H4 res q
        obtain ⟨x1, x2⟩ := ih (w + 1) (qinc (qln st cnt ru) 6 dg).1 acc1 H4 (by omega) G4 o4 i3 p1 p2
        refine ⟨fun z => ?_, fun acc' z => ?_⟩
        · obtain ⟨H', acc', w', y1, y2, y3, y4, y5⟩ := x1 z
          exact ⟨H', acc', w', fun res q => run2 res (y1 res q), y2, y3, fq_trans f4 y4, y5⟩
        · obtain ⟨H', w', y1, y2, y3, y4⟩ := x2 acc' z
          exact ⟨H', w', fun res q => run2 res (y1 res q), y2, y3, fq_trans f4 y4⟩

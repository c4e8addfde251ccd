theorem x_same {X : Nat × (Nat → Int32)} {H : eH} {c o : Nat} {a s : qC} (hk : sK H c a) (ho : sK H o s) (hc : c = 20 ∨ c = 348 ∨ c = 352 ∨ (25 ≤ c ∧ c ≤ 341 ∧ c % 4 = 1)) (ho' : o = 20 ∨ o = 348 ∨ o = 352 ∨ (25 ≤ o ∧ o ≤ 341 ∧ o % 4 = 1)) (k1 : qok a.2.2) (k2 : qok s.2.2) : eEv pP X 1 94 [.ref c, .ref o] H (.inl (some (.int (qb (qsmb a s)))), H) := by
  obtain ⟨cl, cp, ch, n, kc⟩ := hk
  obtain ⟨ol, op, oh, m, km⟩ := ho
  obtain ⟨r, e1, e2⟩ := q_sameK kc km (fun m hm k hk => by have := qok_lt k1 m hm k hk; omega) (fun m hm k hk => by have := qok_lt k2 m hm k hk; omega) (n := 10) (by omega)
  have er : r = qsmb a s := by
    have w : r = true ↔ qsmb a s = true := e2.trans qsmb_iff.symm
    cases r <;> cases h : qsmb a s
    · rfl
    · exact absurd (w.mpr h) (by decide)
    · exact absurd (w.mp rfl) (by rw [h]; decide)
    · rfl
  rw [er] at e1
  exact T_K_isSame (X := X) (hc_c := n.1) (hc_cl := n.2.1) (hc_cp := n.2.2.1) (hc_ch := n.2.2.2) (hc_o := m.1) (hc_ol := m.2.1) (hc_op := m.2.2.1) (hc_oh := m.2.2.2) (hok_c := hc) (hok_o := ho') e1
theorem x_copy {X : Nat × (Nat → Int32)} {H : eH} {c o : Nat} {s : qC} (hk : sK0 H c) (ho : sK H o s) (hc : c = 20 ∨ c = 348 ∨ c = 352 ∨ (25 ≤ c ∧ c ≤ 341 ∧ c % 4 = 1)) (ho' : o = 20 ∨ o = 348 ∨ o = 352 ∨ (25 ≤ o ∧ o ≤ 341 ∧ o % 4 = 1)) (hne : ¬ c = o) : ∃ H', eEv pP X 1 93 [.ref c, .ref o] H (.inl none, H') ∧ sK H' c s ∧ H'.2 = H.2 ∧ (∀ a, ¬ (c + 1 ≤ a ∧ a < c + 4) → H'.1 a = H.1 a) := by
  obtain ⟨cl, cp, ch, n⟩ := hk
  obtain ⟨ol, op, oh, m, km⟩ := ho
  obtain ⟨cl', cp', ch', e1, e2⟩ := c_copy km cl cp ch 5
  have ev := T_K_copy (X := X) (hc_c := n.1) (hc_cl := n.2.1) (hc_cp := n.2.2.1) (hc_ch := n.2.2.2) (hc_o := m.1) (hc_ol := m.2.1) (hc_op := m.2.2.1) (hc_oh := m.2.2.2) (hok_c := hc) (hok_o := ho') (hne := hne) e1
  dsimp only at ev
  have hN : ([c + 1, c + 2, c + 3] : List Nat).Nodup := by simp
  have off : ∀ a, ¬ (c + 1 ≤ a ∧ a < c + 4) → (eW2 H [(c + 1, .inl (0, 6, .inl cl')), (c + 2, .inl (0, 6, .inl cp')), (c + 3, .inl (1, 7, .inr (.inl ch')))]).1 a = H.1 a := fun a ha => eW2_offA (A := [c + 1, c + 2, c + 3]) (fun w => by
    simp only [List.mem_cons, List.not_mem_nil, or_false] at w
    omega) rfl
  exact ⟨_, ev, ⟨cl', cp', ch', ⟨(off c (by omega)).trans n.1, eW2_getA hN 0 rfl rfl, eW2_getA hN 1 rfl rfl, eW2_getA hN 2 rfl rfl⟩, e2⟩, rfl, off⟩
theorem x_keep {X : Nat × (Nat → Int32)} {H : eH} {fa ga pf : Nat} {acc : List qC} {s : qC} (hf : (fa = 18 ∧ pf = 25) ∨ (fa = 19 ∧ pf = 29)) (hj : H.1 17 = some (.inr (4, [.ref fa, .int (nI acc.length), .ref ga, .ref 20, .ref 24]))) (hp : sP H fa pf) (ha : ∀ i a, acc[i]? = some a → sK H (pf + 8 * i) a) (hs : sK H 20 s) (hI : ∀ a, a ∈ acc → KI a) (hIs : KI s) (h40 : acc.length ≤ 40) : (qkeep acc s = none → eEv pP X 10 108 [.ref 17, .ref 20] H (.inl (some (.int 0)), H)) ∧ ∀ acc', qkeep acc s = some acc' → ∃ H', eEv pP X 10 108 [.ref 17, .ref 20] H (.inl (some (.int 1)), H') ∧ H'.2 = H.2 ∧ H'.1 17 = some (.inr (4, [.ref fa, .int (nI acc'.length), .ref ga, .ref 20, .ref 24])) ∧ (∀ i a, acc'[i]? = some a → sK H' (pf + 8 * i) a) ∧ sP H' fa pf ∧ ∃ j, j < 40 ∧ ∀ a, ¬ a = 17 → ¬ (pf + 8 * j + 1 ≤ a ∧ a < pf + 8 * j + 4) → H'.1 a = H.1 a := by
  have key : ∀ (d i : Nat), i + d = acc.length → ((∃ j a, i ≤ j ∧ acc[j]? = some a ∧ qsmb a s = true) → eGs pP X 9 108 (2, [some (.ref 17), some (.ref 20), some (.int (nI i))], [], H) (.inl (some (.int 1)), H)) ∧ ((∀ j a, i ≤ j → acc[j]? = some a → ¬ qsmb a s = true) → ∀ r, eGs pP X 9 108 (31, [some (.ref 17), some (.ref 20), some (.int (nI acc.length))], [], H) r → eGs pP X 9 108 (2, [some (.ref 17), some (.ref 20), some (.int (nI i))], [], H) r) := by
    intro d
    induction d with
    | zero =>
      intro i e
      refine ⟨fun ⟨j, a, h1, h2, h3⟩ => ?_, fun _ r q => ?_⟩
      · have := (List.getElem?_eq_some_iff.mp h2).1
        exact absurd this (by omega)
      · have ie : i = acc.length := by omega
        subst ie
        refine eGs.steps 2 (y := (4, [some (.ref 17), some (.ref 20), some (.int (nI acc.length))], [.ref 17, .int (nI acc.length)], H)) rfl ?_
        refine g_getf rfl rfl (by omega) hj rfl ?_
        refine eGs.steps 0 (y := (7, [some (.ref 17), some (.ref 20), some (.int (nI acc.length))], [.int (nI acc.length), .int (nI acc.length)], H)) rfl ?_
        refine g_icmp (cd := .ge) (t := 31) true rfl (decide_eq_true (nI_le (Nat.le_refl _) (by omega))) rfl ?_
        exact q
    | succ d ih =>
      intro i e
      have il : i < acc.length := by omega
      have gi : acc[i]? = some acc[i] := List.getElem?_eq_getElem il
      have nl : ¬ nI acc.length ≤ nI i := nI_ge il (by omega)
      have ci : (nI i).toNatClampNeg = i := nI_clamp (by omega)
      have hg : ¬ (nI i < 0 ∨ 40 ≤ (nI i).toNatClampNeg) := by rw [ci]; exact q_in (by omega) (by omega)
      have sk := ha i _ gi
      have ev := x_same (X := X) sk hs (by omega) (by omega) (hI _ (List.getElem_mem il)).2.2.1 hIs.2.2.1
      have c1 : H.1 (pf + 8 * i) = some (.inr (3, [.ref (pf + 8 * i + 1), .ref (pf + 8 * i + 2), .ref (pf + 8 * i + 3)])) := by
        obtain ⟨cl, cp, ch, n, kc⟩ := sk
        exact n.1
      have go : ∀ r, eGs pP X 9 108 (20, [some (.ref 17), some (.ref 20), some (.int (nI i))], [.int (qb (qsmb acc[i] s))], H) r → eGs pP X 9 108 (2, [some (.ref 17), some (.ref 20), some (.int (nI i))], [], H) r := fun r q => by
        refine eGs.steps 2 (y := (4, [some (.ref 17), some (.ref 20), some (.int (nI i))], [.ref 17, .int (nI i)], H)) rfl ?_
        refine g_getf rfl rfl (by omega) hj rfl ?_
        refine eGs.steps 0 (y := (7, [some (.ref 17), some (.ref 20), some (.int (nI i))], [.int (nI acc.length), .int (nI i)], H)) rfl ?_
        refine g_icmp (cd := .ge) (t := 31) false rfl (decide_eq_false nl) rfl ?_
        refine eGs.steps 1 (y := (11, [some (.ref 17), some (.ref 20), some (.int (nI i))], [.ref 17], H)) rfl ?_
        refine g_getf rfl rfl (by omega) hj rfl ?_
        refine eGs.steps 1 (y := (15, [some (.ref 17), some (.ref 20), some (.int (nI i))], [.int (nI i), .ref fa], H)) rfl ?_
        refine g_aald rfl (by omega) hp.1 rfl hg ?_
        rw [ci, if_pos (show i < 40 by omega)]
        refine eGs.steps 1 (y := (17, [some (.ref 17), some (.ref 20), some (.int (nI i))], [.ref 20, .ref (pf + 8 * i)], H)) rfl ?_
        refine g_callV rfl rfl rfl rfl rfl (by omega) c1 rfl (ev.mono (by decide)) ?_
        refine eGs.steps 0 (y := (20, [some (.ref 17), some (.ref 20), some (.int (nI i))], [.int (qb (qsmb acc[i] s))], H)) rfl ?_
        exact q
      obtain ⟨r1, r2⟩ := ih (i + 1) (by omega)
      have nxt : ∀ r, ¬ qsmb acc[i] s = true → eGs pP X 9 108 (2, [some (.ref 17), some (.ref 20), some (.int (nI (i + 1)))], [], H) r → eGs pP X 9 108 (2, [some (.ref 17), some (.ref 20), some (.int (nI i))], [], H) r := fun r w q => by
        refine go r ?_
        rw [Bool.eq_false_iff.mpr w]
        refine g_if (cd := .eq) (t := 25) true rfl (decide_eq_true qb_f) rfl ?_
        refine eGs.steps 2 (y := (2, [some (.ref 17), some (.ref 20), some (.int (nI i + 1))], [], H)) rfl ?_
        rw [nI_1]
        exact q
      refine ⟨fun ⟨j, a, h1, h2, h3⟩ => ?_, fun h r q => nxt r (h i _ (Nat.le_refl _) gi) (r2 (fun j a h1 h2 => h j a (by omega) h2) r q)⟩
      by_cases w : qsmb acc[i] s = true
      · refine go _ ?_
        rw [w]
        refine g_if (cd := .eq) (t := 25) false rfl (decide_eq_false qb_t) rfl ?_
        refine eGs.steps 1 (y := (24, [some (.ref 17), some (.ref 20), some (.int (nI i))], [.int 1], H)) rfl ?_
        exact eGs.fin rfl rfl rfl
      · refine nxt _ w (r1 ⟨j, a, ?_, h2, h3⟩)
        by_cases ji : j = i
        · subst ji
          rw [gi] at h2
          cases h2
          exact absurd h3 w
        · omega
  obtain ⟨k1, k2⟩ := key acc.length 0 (by omega)
  have ent : ∀ r, eGs pP X 9 108 (2, [some (.ref 17), some (.ref 20), some (.int (nI 0))], [], H) r → eEv pP X 10 108 [.ref 17, .ref 20] H r := fun r q => by
    refine eEv.of (Nat.not_lt.mpr (Nat.le_of_ble_eq_true rfl)) ?_
    refine eGs.steps 2 (y := (2, [some (.ref 17), some (.ref 20), some (.int (nI 0))], [], H)) rfl ?_
    exact q
  unfold qkeep
  by_cases x : acc.any (fun a => qsmb a s) = true
  · rw [if_pos x]
    obtain ⟨a, a1, a2⟩ := List.any_eq_true.mp x
    obtain ⟨j, hj'⟩ := List.getElem?_of_mem a1
    refine ⟨fun z => (by cases z), fun acc' z => ?_⟩
    cases z
    exact ⟨H, ent _ (k1 ⟨j, a, Nat.zero_le _, hj', a2⟩), rfl, hj, ha, hp, 0, by omega, fun _ _ _ => rfl⟩
  · rw [if_neg x]
    have no : ∀ j a, 0 ≤ j → acc[j]? = some a → ¬ qsmb a s = true := fun j a _ h2 h3 => x (List.any_eq_true.mpr ⟨a, List.mem_of_getElem? h2, h3⟩)
    have k3 := k2 no
    by_cases y : 40 ≤ acc.length
    · have e40 : acc.length = 40 := by omega
      rw [if_pos y]
      refine ⟨fun _ => ent _ (k3 _ ?_), fun acc' z => (by cases z)⟩
      have nl : ¬ nI acc.length < (40 : Int32) := by rw [e40]; decide
      refine eGs.steps 1 (y := (32, [some (.ref 17), some (.ref 20), some (.int (nI acc.length))], [.ref 17], H)) rfl ?_
      refine g_getf rfl rfl (by omega) hj rfl ?_
      refine eGs.steps 1 (y := (37, [some (.ref 17), some (.ref 20), some (.int (nI acc.length))], [.int 40, .int (nI acc.length)], H)) rfl ?_
      refine g_icmp (cd := .lt) (t := 42) false rfl (decide_eq_false nl) rfl ?_
      refine eGs.steps 1 (y := (41, [some (.ref 17), some (.ref 20), some (.int (nI acc.length))], [.int 0], H)) rfl ?_
      exact eGs.fin rfl rfl rfl
    · rw [if_neg y]
      refine ⟨fun z => (by cases z), fun acc' z => ?_⟩
      cases z
      have lt : nI acc.length < (40 : Int32) := (nI_ltI (b := 40) (by omega) (by decide)).mpr (by omega)
      have ci : (nI acc.length).toNatClampNeg = acc.length := nI_clamp (by omega)
      have hg : ¬ (nI acc.length < 0 ∨ 40 ≤ (nI acc.length).toNatClampNeg) := by rw [ci]; exact q_in (by omega) (by omega)
      obtain ⟨H1, ev, f1, f2, f3⟩ := x_copy (X := X) (hp.2 acc.length (by omega)) hs (by omega) (by omega) (by omega)
      have c1 : H.1 (pf + 8 * acc.length) = some (.inr (3, [.ref (pf + 8 * acc.length + 1), .ref (pf + 8 * acc.length + 2), .ref (pf + 8 * acc.length + 3)])) := by
        obtain ⟨cl, cp, ch, n⟩ := hp.2 acc.length (by omega)
        exact n.1
      have j1 : H1.1 17 = some (.inr (4, [.ref fa, .int (nI acc.length), .ref ga, .ref 20, .ref 24])) := (f3 17 (by omega)).trans hj
      have off : ∀ a, ¬ a = 17 → (eSetH H1 17 (.inr (4, [.ref fa, .int (nI (acc.length + 1)), .ref ga, .ref 20, .ref 24]))).1 a = H1.1 a := fun a ha => if_neg ha
      have off2 : ∀ a, ¬ a = 17 → ¬ (pf + 8 * acc.length + 1 ≤ a ∧ a < pf + 8 * acc.length + 4) → (eSetH H1 17 (.inr (4, [.ref fa, .int (nI (acc.length + 1)), .ref ga, .ref 20, .ref 24]))).1 a = H.1 a := fun a h1 h2 => (off a h1).trans (f3 a h2)
      have sf : sK (eSetH H1 17 (.inr (4, [.ref fa, .int (nI (acc.length + 1)), .ref ga, .ref 20, .ref 24]))) (pf + 8 * acc.length) s := sK_fr f1 (fun a h1 h2 => off a (by omega))
      refine ⟨eSetH H1 17 (.inr (4, [.ref fa, .int (nI (acc.length + 1)), .ref ga, .ref 20, .ref 24])), ent _ (k3 _ ?_), f2, ?_, fun i a hi => ?_, ⟨(off2 fa (by omega) (by omega)).trans hp.1, fun i hi => ?_⟩, acc.length, by omega, off2⟩
      · refine eGs.steps 1 (y := (32, [some (.ref 17), some (.ref 20), some (.int (nI acc.length))], [.ref 17], H)) rfl ?_
        refine g_getf rfl rfl (by omega) hj rfl ?_
        refine eGs.steps 1 (y := (37, [some (.ref 17), some (.ref 20), some (.int (nI acc.length))], [.int 40, .int (nI acc.length)], H)) rfl ?_
        refine g_icmp (cd := .lt) (t := 42) true rfl (decide_eq_true lt) rfl ?_
        refine eGs.steps 1 (y := (43, [some (.ref 17), some (.ref 20), some (.int (nI acc.length))], [.ref 17], H)) rfl ?_
        refine g_getf rfl rfl (by omega) hj rfl ?_
        refine eGs.steps 1 (y := (47, [some (.ref 17), some (.ref 20), some (.int (nI acc.length))], [.ref 17, .ref fa], H)) rfl ?_
        refine g_getf rfl rfl (by omega) hj rfl ?_
        refine eGs.steps 0 (y := (50, [some (.ref 17), some (.ref 20), some (.int (nI acc.length))], [.int (nI acc.length), .ref fa], H)) rfl ?_
        refine g_aald rfl (by omega) hp.1 rfl hg ?_
        rw [ci, if_pos (show acc.length < 40 by omega)]
        refine eGs.steps 1 (y := (52, [some (.ref 17), some (.ref 20), some (.int (nI acc.length))], [.ref 20, .ref (pf + 8 * acc.length)], H)) rfl ?_
        refine g_callV rfl rfl rfl rfl rfl (by omega) c1 rfl (ev.mono (by decide)) ?_
        refine eGs.steps 2 (y := (57, [some (.ref 17), some (.ref 20), some (.int (nI acc.length))], [.ref 17, .ref 17], H1)) rfl ?_
        refine g_getf rfl rfl (by omega) j1 rfl ?_
        refine eGs.steps 2 (y := (62, [some (.ref 17), some (.ref 20), some (.int (nI acc.length))], [.int (nI acc.length + 1), .ref 17], H1)) rfl ?_
        rw [nI_1]
        refine g_putf rfl rfl (by omega) j1 rfl (Nat.le_of_ble_eq_true rfl) rfl ?_
        refine eGs.steps 1 (y := (66, [some (.ref 17), some (.ref 20), some (.int (nI acc.length))], [.int 1], _)) rfl ?_
        exact eGs.fin rfl rfl rfl
      · rw [List.length_append]
        rfl
      · by_cases il : i < acc.length
        · rw [List.getElem?_append_left il] at hi
          exact sK_fr (ha i a hi) (fun b h1 h2 => off2 b (by omega) (by omega))
        · have ie : i = acc.length := by
            have := (List.getElem?_eq_some_iff.mp hi).1
            rw [List.length_append] at this
            have : i < acc.length + 1 := this
            omega
          subst ie
          rw [List.getElem?_append_right (Nat.le_refl _), Nat.sub_self] at hi
          cases hi
          exact sf
      · by_cases ie : i = acc.length
        · rw [ie]; exact sK_0 sf
        · exact sK0_fr (hp.2 i hi) (fun b h1 h2 => off2 b (by omega) (by omega))

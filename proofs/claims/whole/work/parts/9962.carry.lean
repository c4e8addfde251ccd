theorem x_carry {X : Nat × (Nat → Int32)} {H : eH} {c q cnt : Nat} {ru us : Nat → Nat → Nat} {st : qC} {qa : Nat → Int32} (hb : sB H cnt ru) (hw : sW H) (hk : sK H c st) (hq : H.1 q = some (.inl (0, 6, .inl qa))) (hqa : ∀ m, m < 6 → qa m = nI (c4p (us m))) (hc : c = 20 ∨ c = 348 ∨ c = 352 ∨ (25 ≤ c ∧ c ≤ 341 ∧ c % 4 = 1)) (hq' : q = 24 ∨ q = 347) (hI : KI st) (hu : UL cnt ru) (hch : qcs st cnt ru us) : ∃ H' b, eEv pP X 5 119 [.ref 15, .ref 2, .ref c, .ref q] H (.inl (some (.int b)), H') ∧ H'.2 = H.2 ∧ (∀ a, ¬ a = 16 → ¬ (c + 1 ≤ a ∧ a < c + 4) → H'.1 a = H.1 a) ∧ sW H' ∧ sK0 H' c ∧ (qstep st cnt ru us = none → b = 0) ∧ ∀ st', qstep st cnt ru us = some st' → b = 1 ∧ sK H' c st' := by
  obtain ⟨b1, b2, ul, ue, uk, uh, uo, ui, ut, ud, uv, ux, b3, b4⟩ := hb
  obtain ⟨w1, w, w2⟩ := hw
  obtain ⟨cl, cp, ch, n, kc⟩ := hk
  obtain ⟨s1, s2⟩ := q_carryC hI kc hu b4 hch hqa w (n := 100) (by omega)
  have fin : ∀ (v : Int32) (w' : Nat → Option Nat) (cl' cp' : Nat → Int32) (ch' : Nat → Int64), W_carryOut 100 w ue uh uo ui ut ud uv ux cl cp ch (nI cnt) qa = some (v, w', cl', cp', ch') → ∃ H', eEv pP X 5 119 [.ref 15, .ref 2, .ref c, .ref q] H (.inl (some (.int v)), H') ∧ H'.2 = H.2 ∧ (∀ a, ¬ a = 16 → ¬ (c + 1 ≤ a ∧ a < c + 4) → H'.1 a = H.1 a) ∧ sW H' ∧ sKr H' c cl' cp' ch' := fun v w' cl' cp' ch' e => by
    have ev := T_W_carryOut (X := X) (hc_w := w1) (hc_wo := w2) (hc_c := n.1) (hc_cl := n.2.1) (hc_cp := n.2.2.1) (hc_ch := n.2.2.2) (hc_b := b1) (hc_ba := b2) (hc_q := hq) (hu := b3) (hok_c := hc) (hok_q := hq') e
    dsimp only at ev
    have hN : ([16, c + 1, c + 2, c + 3] : List Nat).Nodup := by simp; omega
    have off : ∀ a, ¬ a = 16 → ¬ (c + 1 ≤ a ∧ a < c + 4) → (eW2 H [(16, .inl (3, 6, .inr (.inr fun i => (w' i).map fun j => 4 + j))), (c + 1, .inl (0, 6, .inl cl')), (c + 2, .inl (0, 6, .inl cp')), (c + 3, .inl (1, 7, .inr (.inl ch')))]).1 a = H.1 a := fun a h1 h2 => eW2_offA (A := [16, c + 1, c + 2, c + 3]) (fun z => by
      simp only [List.mem_cons, List.not_mem_nil, or_false] at z
      omega) rfl
    exact ⟨_, ev, rfl, off, ⟨(off 15 (by omega) (by omega)).trans w1, w', eW2_getA hN 0 rfl rfl⟩, (off c (by omega) (by omega)).trans n.1, eW2_getA hN 1 rfl rfl, eW2_getA hN 2 rfl rfl, eW2_getA hN 3 rfl rfl⟩
  cases e : qstep st cnt ru us with
  | none =>
    obtain ⟨w', cl', cp', ch', f1, _⟩ := s1 e
    obtain ⟨H', g1, g2, g3, g4, g5⟩ := fin 0 w' cl' cp' ch' f1
    exact ⟨H', 0, g1, g2, g3, g4, ⟨cl', cp', ch', g5⟩, fun _ => rfl, fun st' z => by cases z⟩
  | some st1 =>
    obtain ⟨w', cl', cp', ch', f1, _, f3⟩ := s2 st1 e
    obtain ⟨H', g1, g2, g3, g4, g5⟩ := fin 1 w' cl' cp' ch' f1
    exact ⟨H', 1, g1, g2, g3, g4, ⟨cl', cp', ch', g5⟩, fun z => (by cases z), fun st' z => by cases z; exact ⟨rfl, cl', cp', ch', g5, f3⟩⟩
def sOw (H : eH) (st : qC) (cnt : Nat) (ru : Nat → Nat → Nat) (dg : Nat → Nat) : Prop := ∃ (op s en : Int32) (g : Nat → Option Nat) (row sts pls : Nat → Int32), H.1 10 = some (.inr (2, [.ref 11, .int op, .ref 12, .int s, .int en, .ref 13, .ref 14])) ∧ H.1 11 = some (.inl (3, 6, .inr (.inr fun i => (g i).map fun j => 4 + j))) ∧ H.1 12 = some (.inl (0, 2012, .inl row)) ∧ H.1 13 = some (.inl (0, 7, .inl sts)) ∧ H.1 14 = some (.inl (0, 6, .inl pls)) ∧ qtab (qln st cnt ru) (qL st cnt ru) row sts 6 ∧ ∀ j, j < 6 → pls j = nI (qsu (qln st cnt ru) j + dg j)
theorem sOw_o {H : eH} {st : qC} {cnt : Nat} {ru : Nat → Nat → Nat} {dg : Nat → Nat} (h : sOw H st cnt ru dg) : sO H := by
  obtain ⟨op, s, en, g, row, sts, pls, a, b, c, d, e, _⟩ := h
  exact ⟨op, s, en, g, row, sts, pls, a, b, c, d, e⟩
theorem sOw_fr {H H' : eH} {st : qC} {cnt : Nat} {ru : Nat → Nat → Nat} {dg : Nat → Nat} (h : sOw H st cnt ru dg) (g : ag H H' 10 15) : sOw H' st cnt ru dg := by
  obtain ⟨op, s, en, gg, row, sts, pls, a, b, c, d, e, f⟩ := h
  exact ⟨op, s, en, gg, row, sts, pls, (g 10 (by omega) (by omega)).trans a, (g 11 (by omega) (by omega)).trans b, (g 12 (by omega) (by omega)).trans c, (g 13 (by omega) (by omega)).trans d, (g 14 (by omega) (by omega)).trans e, f⟩
theorem x_countAll {X : Nat × (Nat → Int32)} {H : eH} {c cnt : Nat} {ru : Nat → Nat → Nat} {st : qC} (hb : sB H cnt ru) (ho : sO H) (hk : sK H c st) (hc : c = 20 ∨ c = 348 ∨ c = 352 ∨ (25 ≤ c ∧ c ≤ 341 ∧ c % 4 = 1)) (hI : KI st) (hu : UL cnt ru) : ∃ H' v, eEv pP X 14 82 [.ref 10, .ref 2, .ref c] H (.inl (some (.int v)), H') ∧ H'.2 = H.2 ∧ (∀ a, ¬ (10 ≤ a ∧ a < 15) → H'.1 a = H.1 a) ∧ sO H' ∧ (qpr (qln st cnt ru) 6 ≤ 1000 → v = nI (qpr (qln st cnt ru) 6) ∧ sOw H' st cnt ru fun _ => 0) ∧ (¬ qpr (qln st cnt ru) 6 ≤ 1000 → v = 1001) := by
  obtain ⟨b1, b2, ul, ue, uk, uh, uo, ui, ut, ud, uv, ux, b3, b4⟩ := hb
  obtain ⟨op, s, en, g, row, sts, pls, o1, o2, o3, o4, o5⟩ := ho
  obtain ⟨cl, cp, ch, n, kc⟩ := hk
  obtain ⟨res, e1, e2, e3⟩ := q_countAll hI kc hu b4 6 0 200 op s g row sts pls (by omega) (by omega) (show 1 ≤ 1000 by decide) (fun j hj => absurd hj (by omega)) (fun j hj => absurd hj (by omega))
  have e1' : O_countAll 200 op s g row sts pls ul ue uk ui ut ud uv (nI cnt) cl cp ch = some res := e1
  have ev := T_O_countAll (X := X) (hc_h := o1) (hc_ho := o2) (hc_hr := o3) (hc_hs := o4) (hc_hq := o5) (hc_b := b1) (hc_ba := b2) (hc_c := n.1) (hc_cl := n.2.1) (hc_cp := n.2.2.1) (hc_ch := n.2.2.2) (hu := b3) (hok_c := hc) e1'
  obtain ⟨v, op', s', en', g', row', sts', pls'⟩ := res
  dsimp only at ev e2 e3
  have off : ∀ a, ¬ (10 ≤ a ∧ a < 15) → (eW2 H [(10, .inr (2, [.ref 11, .int op', .ref 12, .int s', .int en', .ref 13, .ref 14])), (11, .inl (3, 6, .inr (.inr fun i => (g' i).map fun j => 4 + j))), (12, .inl (0, 2012, .inl row')), (13, .inl (0, 7, .inl sts')), (14, .inl (0, 6, .inl pls'))]).1 a = H.1 a := fun a h => eW2_offA (A := [10, 11, 12, 13, 14]) (fun z => by
    simp only [List.mem_cons, List.not_mem_nil, or_false] at z
    omega) rfl
  refine ⟨_, v, ev, rfl, off, ⟨op', s', en', g', row', sts', pls', rfl, rfl, rfl, rfl, rfl⟩, fun hP => ?_, e3⟩
  obtain ⟨f1, f2, f3⟩ := e2 hP
  exact ⟨f1, op', s', en', g', row', sts', pls', rfl, rfl, rfl, rfl, rfl, f2, f3⟩
theorem x_takeNext {X : Nat × (Nat → Int32)} {H : eH} {q cnt : Nat} {ru : Nat → Nat → Nat} {st : qC} {dg : Nat → Nat} (ho : sOw H st cnt ru dg) (hq : sQ H q) (hq' : q = 24 ∨ q = 347) (hI : KI st) (hu : UL cnt ru) (hP : qpr (qln st cnt ru) 6 ≤ 1000) (hd : ∀ j, j < 6 → dg j < qln st cnt ru j) : ∃ H' qa, eEv pP X 1 83 [.ref 10, .ref q] H (.inl none, H') ∧ H'.2 = H.2 ∧ (∀ a, ¬ a = 14 → ¬ a = q → H'.1 a = H.1 a) ∧ sOw H' st cnt ru (qinc (qln st cnt ru) 6 dg).1 ∧ H'.1 q = some (.inl (0, 6, .inl qa)) ∧ ∀ m, m < 6 → qa m = nI (c4p (qus st cnt ru dg m)) := by
  obtain ⟨op, s, en, g, row, sts, pls, o1, o2, o3, o4, o5, o6, o7⟩ := ho
  obtain ⟨qa0, hq0⟩ := hq
  have lp := qln_pos (st := st) hu hI.2.2.1
  have sl := qsu_le lp 6 (by omega)
  obtain ⟨pl', qa', e1, e2, e3, e4⟩ := q_takeNext1 o6 (by omega) (fun j _ => rfl) 6 20 dg pls qa0 (by omega) (by omega) hd o7
  have e1' : O_takeNext 20 row sts pls qa0 = some (pl', qa') := by
    have d5 : (5 : Int32) = nI 6 + (-1 : Int32) := by decide
    unfold O_takeNext
    rw [d5]
    exact e1
  have ev := T_O_takeNext (X := X) (hc_h := o1) (hc_hr := o3) (hc_hs := o4) (hc_hq := o5) (hc_q := hq0) (hok_q := hq') e1'
  dsimp only at ev
  have hN : ([14, q] : List Nat).Nodup := by simp; omega
  have off : ∀ a, ¬ a = 14 → ¬ a = q → (eW2 H [(14, .inl (0, 6, .inl pl')), (q, .inl (0, 6, .inl qa'))]).1 a = H.1 a := fun a h1 h2 => eW2_offA (A := [14, q]) (fun z => by
    simp only [List.mem_cons, List.not_mem_nil, or_false] at z
    omega) rfl
  exact ⟨_, qa', ev, rfl, off, ⟨op, s, en, g, row, sts, pl', (off 10 (by omega) (by omega)).trans o1, (off 11 (by omega) (by omega)).trans o2, (off 12 (by omega) (by omega)).trans o3, (off 13 (by omega) (by omega)).trans o4, eW2_getA hN 0 rfl rfl, o6, e2⟩, eW2_getA hN 1 rfl rfl, fun m hm => e3 m hm _ (qus_get (hd m hm))⟩

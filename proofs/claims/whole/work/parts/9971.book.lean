theorem eSet_self {h : eH} {e : eE} {a : Nat} : (eSetH h a e).1 a = some e := if_pos rfl
theorem eSet_off {h : eH} {e : eE} {a b : Nat} (h0 : ¬ b = a) : (eSetH h a e).1 b = h.1 b := if_neg h0
def rU (n : Int32) : eE := .inr (5, [.int n, .int 0, .long 0, .long 0, .long 0, .long 0, .long 0, .int 0, .int 0, .int 0, .long 0])
theorem i_cfg {X : Nat × (Nat → Int32)} {H : eH} {c : Nat} (h : H.1 c = some (.inr (3, [.null, .null, .null]))) (h0 : ¬ c = 0) (hn : H.2.1 = c + 1) : ∃ H', eEv pP X 1 89 [.ref c] H (.inl none, H') ∧ sKr H' c (fun _ => 0) (fun _ => 0) (fun _ => 0) ∧ H'.2.1 = c + 4 ∧ H'.2.2 = H.2.2 + 19 ∧ ag H H' 0 c := by
  obtain ⟨hf, n, s⟩ := H
  dsimp only at hn h
  subst hn
  refine ⟨eSetH (eNew (eSetH (eNew (eSetH (eNew (hf, c + 1, s) (.inl (0, 6, .inl fun _ => 0)) 6) c (.inr (3, [.ref (c + 1), .null, .null]))) (.inl (0, 6, .inl fun _ => 0)) 6) c (.inr (3, [.ref (c + 1), .ref (c + 2), .null]))) (.inl (1, 7, .inr (.inl fun _ => 0))) 7) c (.inr (3, [.ref (c + 1), .ref (c + 2), .ref (c + 3)])), ?ev, ?_⟩
  case ev =>
    refine eEv.of (Nat.not_lt.mpr (Nat.le_of_ble_eq_true rfl)) ?_
    refine eGs.steps 1 (y := (1, [some (.ref c)], [.ref c], (hf, c + 1, s))) rfl ?_
    refine eGs.own (y := (4, [some (.ref c)], [], (hf, c + 1, s))) rfl rfl rfl (by decide) (of_decide_eq_false rfl) rfl ?_
    refine eGs.steps 3 (y := (9, [some (.ref c)], [.ref (c + 1), .ref c], eNew (hf, c + 1, s) (.inl (0, 6, .inl fun _ => 0)) 6)) rfl ?_
    refine g_putf rfl rfl h0 ((eNew_off (by show ¬ c = c + 1; omega)).trans h) rfl (Nat.le_of_ble_eq_true rfl) rfl ?_
    refine eGs.steps 3 (y := (17, [some (.ref c)], [.ref (c + 2), .ref c], eNew _ (.inl (0, 6, .inl fun _ => 0)) 6)) rfl ?_
    refine g_putf rfl rfl h0 ((eNew_off (by show ¬ c = c + 2; omega)).trans eSet_self) rfl (Nat.le_of_ble_eq_true rfl) rfl ?_
    refine eGs.steps 3 (y := (25, [some (.ref c)], [.ref (c + 3), .ref c], eNew _ (.inl (1, 7, .inr (.inl fun _ => 0))) 7)) rfl ?_
    refine g_putf rfl rfl h0 ((eNew_off (by show ¬ c = c + 3; omega)).trans eSet_self) rfl (Nat.le_of_ble_eq_true rfl) rfl ?_
    exact eGs.fin rfl rfl rfl
  refine ⟨⟨eSet_self, ?_, ?_, ?_⟩, rfl, rfl, fun a _ ha => ?_⟩
  · simp [eSetH, eNew, eUp]
  · simp [eSetH, eNew, eUp]
  · simp [eSetH, eNew, eUp]
  · have a1 : ¬ a = c := by omega
    have a2 : ¬ a = c + 1 := by omega
    have a3 : ¬ a = c + 1 + 1 := by omega
    have a4 : ¬ a = c + 1 + 1 + 1 := by omega
    simp [eSetH, eNew, eUp, a1, a2, a3, a4]
theorem i_rule {X : Nat × (Nat → Int32)} {H : eH} {c : Nat} {n : Int32} (h : H.1 c = some (rU 0)) (h0 : ¬ c = 0) : eEv pP X 1 109 [.ref c, .int n] H (.inl none, eSetH H c (rU n)) := by
  refine eEv.of (Nat.not_lt.mpr (Nat.le_of_ble_eq_true rfl)) ?_
  refine eGs.steps 1 (y := (1, [some (.ref c), some (.int n)], [.ref c], H)) rfl ?_
  refine eGs.own (y := (4, [some (.ref c), some (.int n)], [], H)) rfl rfl rfl (by decide) (of_decide_eq_false rfl) rfl ?_
  refine eGs.steps 2 (y := (6, [some (.ref c), some (.int n)], [.int n, .ref c], H)) rfl ?_
  refine g_putf rfl rfl h0 h rfl (Nat.le_of_ble_eq_true rfl) rfl ?_
  exact eGs.fin rfl rfl rfl
theorem up_fn (p q i : Nat) : eUp (fun j => if j < i then some (p + q * j) else none) i (some (p + q * i)) = fun j => if j < i + 1 then some (p + q * j) else none := by
  funext j
  unfold eUp
  dsimp only
  by_cases e : j = i
  · subst e
    rw [if_pos rfl, if_pos (by omega)]
  · by_cases l : j < i
    · rw [if_neg e, if_pos l, if_pos (by omega)]
    · rw [if_neg e, if_neg l, if_neg (by omega)]
theorem up_fn1 (p i : Nat) : eUp (fun j => if j < i then some (p + j) else none) i (some (p + i)) = fun j => if j < i + 1 then some (p + j) else none := by
  have := up_fn p 1 i
  simpa only [Nat.one_mul] using this
theorem i_book_l {X : Nat × (Nat → Int32)} : ∀ (k i : Nat) (hf : Nat → Option eE) (s : Nat), i + k = 6 → hf 2 = some (.inr (6, [.ref 3, .int 0])) → hf 3 = some (.inl (3, 6, .inr (.inr fun j => if j < i then some (4 + j) else none))) → (∀ j, j < i → hf (4 + j) = some (rU (nI j))) → ∃ H', eGs pP X 1 112 (15, [some (.ref 2), some (.int (nI i))], [], (hf, 4 + i, s)) (.inl none, H') ∧ H'.2.1 = 10 ∧ H'.2.2 = s + 11 * k ∧ H'.1 2 = some (.inr (6, [.ref 3, .int 0])) ∧ H'.1 3 = some (.inl (3, 6, .inr (.inr fun j => if j < 6 then some (4 + j) else none))) ∧ (∀ j, j < 6 → H'.1 (4 + j) = some (rU (nI j))) ∧ ag (hf, 4 + i, s) H' 0 2 := by
  intro k
  induction k with
  | zero =>
    intro i hf s hi h2 h3 h4
    have : i = 6 := by omega
    subst this
    refine ⟨(hf, 10, s), ?_, rfl, rfl, h2, h3, h4, ag_id⟩
    refine eGs.steps 2 (y := (18, [some (.ref 2), some (.int (nI 6))], [.int 6, .int (nI 6)], (hf, 10, s))) rfl ?_
    refine g_icmp true rfl (by decide) rfl ?_
    exact eGs.fin rfl rfl rfl
  | succ k ih =>
    intro i hf s hi h2 h3 h4
    have i6 : i < 6 := by omega
    generalize hH2 : eSetH (eSetH (eNew (hf, 4 + i, s) (rU 0) 11) (4 + i) (rU (nI i))) 3 (.inl (3, 6, .inr (.inr fun j => if j < i + 1 then some (4 + j) else none))) = H2
    have t2 : ∀ a, ¬ a = 3 → ¬ a = 4 + i → H2.1 a = hf a := fun a z w => by
      rw [← hH2]
      exact (eSet_off z).trans ((eSet_off w).trans (eNew_off w))
    have c3 : H2.1 3 = some (.inl (3, 6, .inr (.inr fun j => if j < i + 1 then some (4 + j) else none))) := by rw [← hH2]; exact eSet_self
    have c4 : H2.1 (4 + i) = some (rU (nI i)) := by rw [← hH2]; exact (eSet_off (by omega)).trans eSet_self
    have n2 : H2.2 = (4 + (i + 1), s + 11) := by rw [← hH2]; rfl
    obtain ⟨g, n, s'⟩ := H2
    dsimp only at t2 c3 c4 n2
    obtain ⟨rfl, rfl⟩ := Prod.mk.inj n2
    obtain ⟨H', ev, f1, f2, f3, f4, f5, f6⟩ := ih (i + 1) g (s + 11) (by omega) ((t2 2 (by omega) (by omega)).trans h2) c3 (fun j hj => by
      by_cases e : j = i
      · subst e; exact c4
      · exact (t2 _ (by omega) (by omega)).trans (h4 j (by omega)))
    refine ⟨H', ?_, f1, by rw [f2]; omega, f3, f4, f5, fun a a1 a2 => (f6 a a1 a2).trans (t2 a (by omega) (by omega))⟩
    refine eGs.steps 2 (y := (18, [some (.ref 2), some (.int (nI i))], [.int 6, .int (nI i)], (hf, 4 + i, s))) rfl ?_
    refine g_icmp (t := 41) false rfl (decide_eq_false (q_n6 i6)) rfl ?_
    refine eGs.steps 1 (y := (22, [some (.ref 2), some (.int (nI i))], [.ref 2], (hf, 4 + i, s))) rfl ?_
    refine g_getf rfl rfl (by omega) h2 rfl ?_
    refine eGs.steps 4 (y := (31, [some (.ref 2), some (.int (nI i))], [.int (nI i), .ref (4 + i), .ref (4 + i), .int (nI i), .ref 3], eNew (hf, 4 + i, s) (rU 0) 11)) rfl ?_
    refine g_callN rfl rfl rfl rfl rfl (i_rule eNew_self (by show ¬ 4 + i = 0; omega)) ?_
    refine g_aastW (h1 := (g, 4 + (i + 1), s + 11)) rfl (by omega) (by omega) ((eSet_off (by omega)).trans ((eNew_off (by show ¬ 3 = 4 + i; omega)).trans h3)) eSet_self rfl (by rw [nI_clamp (by omega)]; exact q_in i6 (by omega)) (by rw [nI_clamp (by omega), up_fn1]; exact hH2) ?_
    refine eGs.steps 2 (y := (15, [some (.ref 2), some (.int (nI i + 1))], [], (g, 4 + (i + 1), s + 11))) rfl ?_
    rw [nI_1]
    exact ev
theorem i_book {X : Nat × (Nat → Int32)} {H : eH} (h : H.1 2 = some (.inr (6, [.null, .int 0]))) (hn : H.2.1 = 3) : ∃ H', eEv pP X 2 112 [.ref 2] H (.inl none, H') ∧ sB H' 0 (fun _ _ => 0) ∧ H'.2.1 = 10 ∧ H'.2.2 = H.2.2 + 72 ∧ ag H H' 0 2 := by
  obtain ⟨hf, n, s⟩ := H
  dsimp only at hn h
  subst hn
  generalize hH1 : eSetH (eNew (hf, 3, s) (.inl (3, 6, .inr (.inr fun _ => none))) 6) 2 (.inr (6, [.ref 3, .int 0])) = H1
  have t1 : ∀ a, ¬ a = 3 → ¬ a = 2 → H1.1 a = hf a := fun a z w => by
    rw [← hH1]
    exact (eSet_off w).trans (eNew_off z)
  have c2 : H1.1 2 = some (.inr (6, [.ref 3, .int 0])) := by rw [← hH1]; exact eSet_self
  have c3 : H1.1 3 = some (.inl (3, 6, .inr (.inr fun j => if j < 0 then some (4 + j) else none))) := by
    rw [← hH1]
    refine (eSet_off (by omega)).trans (eNew_self.trans ?_)
    rw [show (fun j => if j < 0 then some (4 + j) else none) = fun _ => (none : Option Nat) from funext fun j => if_neg (by omega)]
  have n1 : H1.2 = (4 + 0, s + 6) := by rw [← hH1]; rfl
  obtain ⟨g, n, s'⟩ := H1
  dsimp only at t1 c2 c3 n1
  obtain ⟨rfl, rfl⟩ := Prod.mk.inj n1
  obtain ⟨H', ev, f1, f2, f3, f4, f5, f6⟩ := i_book_l (X := X) 6 0 g (s + 6) (by omega) c2 c3 (fun j hj => absurd hj (by omega))
  refine ⟨H', ?_, ⟨f3, f4, fun _ => 0, fun _ => 0, fun _ => 0, fun _ => 0, fun _ => 0, fun _ => 0, fun _ => 0, fun _ => 0, fun _ => 0, fun _ => 0, f5, fun i hi => absurd hi (by omega)⟩, f1, by rw [f2], fun a a1 a2 => (f6 a a1 a2).trans (t1 a (by omega) (by omega))⟩
  refine eEv.of (Nat.not_lt.mpr (Nat.le_of_ble_eq_true rfl)) ?_
  refine eGs.steps 1 (y := (1, [some (.ref 2), none], [.ref 2], (hf, 3, s))) rfl ?_
  refine eGs.own (y := (4, [some (.ref 2), none], [], (hf, 3, s))) rfl rfl rfl (by decide) (of_decide_eq_false rfl) rfl ?_
  refine eGs.steps 3 (y := (10, [some (.ref 2), none], [.ref 3, .ref 2], eNew (hf, 3, s) (.inl (3, 6, .inr (.inr fun _ => none))) 6)) rfl ?_
  refine g_putfW rfl rfl (by omega) ((eNew_off (by show ¬ 2 = 3; omega)).trans h) rfl (Nat.le_of_ble_eq_true rfl) rfl hH1 ?_
  refine eGs.steps 2 (y := (15, [some (.ref 2), some (.int (nI 0))], [], (g, 4 + 0, s + 6))) rfl ?_
  exact ev
theorem i_slot {X : Nat × (Nat → Int32)} {H : eH} {i c fa pf : Nat} (hn : H.2.1 = c) (hc : c = pf + 8 * i) (hi : i < 40) (hfa : H.1 fa = some (.inl (4, 40, .inr (.inr fun j => if j < i then some (pf + 8 * j) else none)))) (h18 : fa = 18 ∨ fa = 19) (h25 : 25 ≤ c) : ∃ H', H'.2.1 = c + 4 ∧ H'.2.2 = H.2.2 + 22 ∧ H'.1 fa = some (.inl (4, 40, .inr (.inr fun j => if j < i + 1 then some (pf + 8 * j) else none))) ∧ sK0 H' c ∧ (∀ a, a < c → ¬ a = fa → H'.1 a = H.1 a) ∧ ∀ r, (eGs pP X 1 105 (62, [some (.ref 17), some (.int (nI i))], [], H') r → eGs pP X 1 105 (53, [some (.ref 17), some (.int (nI i))], [.ref fa], H) r) ∧ (eGs pP X 1 105 (75, [some (.ref 17), some (.int (nI i))], [], H') r → eGs pP X 1 105 (66, [some (.ref 17), some (.int (nI i))], [.ref fa], H) r) := by
  obtain ⟨hf, n, s⟩ := H
  dsimp only at hn hfa
  subst hn
  obtain ⟨H1, ev, k1, n1, s1, a1⟩ := i_cfg (X := X) (H := eNew (hf, n, s) (.inr (3, [.null, .null, .null])) 3) (c := n) eNew_self (by omega) rfl
  generalize hH2 : eSetH H1 fa (.inl (4, 40, .inr (.inr fun j => if j < i + 1 then some (pf + 8 * j) else none))) = H2
  have cf : H1.1 fa = some (.inl (4, 40, .inr (.inr fun j => if j < i then some (pf + 8 * j) else none))) := (a1 fa (by omega) (by omega)).trans ((eNew_off (by show ¬ fa = n; omega)).trans hfa)
  have t2 : ∀ a, ¬ a = fa → H2.1 a = H1.1 a := fun a z => by rw [← hH2]; exact eSet_off z
  have n2 : H2.2 = H1.2 := by rw [← hH2]; rfl
  refine ⟨H2, by rw [n2, n1], by rw [n2, s1]; rfl, by rw [← hH2]; exact eSet_self, ⟨_, _, _, sKr_fr k1 (fun a z w => t2 a (by omega))⟩, fun a z w => (t2 a w).trans ((a1 a (by omega) z).trans (eNew_off (by show ¬ a = n; omega))), fun r => ⟨fun q => ?_, fun q => ?_⟩⟩
  · refine eGs.steps 3 (y := (58, [some (.ref 17), some (.int (nI i))], [.ref n, .ref n, .int (nI i), .ref fa], eNew (hf, n, s) (.inr (3, [.null, .null, .null])) 3)) rfl ?_
    refine g_callN rfl rfl rfl rfl rfl ev ?_
    refine g_aastW (h1 := H2) rfl (by omega) (by omega) cf k1.1 rfl (by rw [nI_clamp (by omega)]; exact q_in hi (by omega)) (by rw [nI_clamp (by omega), hc, up_fn]; exact hH2) ?_
    exact q
  · refine eGs.steps 3 (y := (71, [some (.ref 17), some (.int (nI i))], [.ref n, .ref n, .int (nI i), .ref fa], eNew (hf, n, s) (.inr (3, [.null, .null, .null])) 3)) rfl ?_
    refine g_callN rfl rfl rfl rfl rfl ev ?_
    refine g_aastW (h1 := H2) rfl (by omega) (by omega) cf k1.1 rfl (by rw [nI_clamp (by omega)]; exact q_in hi (by omega)) (by rw [nI_clamp (by omega), hc, up_fn]; exact hH2) ?_
    exact q
theorem i_judge_l {X : Nat × (Nat → Int32)} : ∀ (k i : Nat) (H : eH), i + k = 40 → H.2.1 = 25 + 8 * i → H.1 17 = some (.inr (4, [.ref 18, .int 0, .ref 19, .ref 20, .ref 24])) → H.1 18 = some (.inl (4, 40, .inr (.inr fun j => if j < i then some (25 + 8 * j) else none))) → H.1 19 = some (.inl (4, 40, .inr (.inr fun j => if j < i then some (29 + 8 * j) else none))) → (∀ j, j < i → sK0 H (25 + 8 * j) ∧ sK0 H (29 + 8 * j)) → ∃ H', eGs pP X 1 105 (43, [some (.ref 17), some (.int (nI i))], [], H) (.inl none, H') ∧ H'.2.1 = 345 ∧ H'.2.2 = H.2.2 + 44 * k ∧ sJ H' 18 19 25 29 [] ∧ ag H H' 0 17 ∧ ag H H' 20 25 := by
  intro k
  induction k with
  | zero =>
    intro i H hi hn h17 h18 h19 hk
    have : i = 40 := by omega
    subst this
    refine ⟨H, ?_, hn, rfl, ⟨Or.inl ⟨rfl, rfl, rfl, rfl⟩, h17, ⟨h18, fun i hi => (hk i hi).1⟩, ⟨h19, fun i hi => (hk i hi).2⟩, fun i s hs => by cases hs⟩, ag_id, ag_id⟩
    refine eGs.steps 2 (y := (46, [some (.ref 17), some (.int (nI 40))], [.int 40, .int (nI 40)], H)) rfl ?_
    refine g_icmp true rfl (by decide) rfl ?_
    exact eGs.fin rfl rfl rfl
  | succ k ih =>
    intro i H hi hn h17 h18 h19 hk
    obtain ⟨H1, n1, s1, c1, k1, t1, w1⟩ := i_slot (X := X) (H := H) (i := i) (c := 25 + 8 * i) (fa := 18) (pf := 25) hn rfl (by omega) h18 (by omega) (by omega)
    obtain ⟨H2, n2, s2, c2, k2, t2, w2⟩ := i_slot (X := X) (H := H1) (i := i) (c := 29 + 8 * i) (fa := 19) (pf := 29) (by omega) rfl (by omega) ((t1 19 (by omega) (by omega)).trans h19) (by omega) (by omega)
    have f17 : H1.1 17 = some (.inr (4, [.ref 18, .int 0, .ref 19, .ref 20, .ref 24])) := (t1 17 (by omega) (by omega)).trans h17
    obtain ⟨H', ev, e1, e2, e3, e4, e5⟩ := ih (i + 1) H2 (by omega) (by omega) ((t2 17 (by omega) (by omega)).trans f17) ((t2 18 (by omega) (by omega)).trans c1) c2 (fun j hj => by
      by_cases e : j = i
      · subst e
        exact ⟨sK0_fr k1 (fun a z w => t2 a (by omega) (by omega)), k2⟩
      · exact ⟨sK0_fr (hk j (by omega)).1 (fun a z w => (t2 a (by omega) (by omega)).trans (t1 a (by omega) (by omega))), sK0_fr (hk j (by omega)).2 (fun a z w => (t2 a (by omega) (by omega)).trans (t1 a (by omega) (by omega)))⟩)
    refine ⟨H', ?_, e1, by omega, e3, fun a z w => (e4 a z w).trans ((t2 a (by omega) (by omega)).trans (t1 a (by omega) (by omega))), fun a z w => (e5 a z w).trans ((t2 a (by omega) (by omega)).trans (t1 a (by omega) (by omega)))⟩
    refine eGs.steps 2 (y := (46, [some (.ref 17), some (.int (nI i))], [.int 40, .int (nI i)], H)) rfl ?_
    refine g_icmp (t := 81) false rfl (decide_eq_false (nI_ge (b := 40) (by omega) (by decide))) rfl ?_
    refine eGs.steps 1 (y := (50, [some (.ref 17), some (.int (nI i))], [.ref 17], H)) rfl ?_
    refine g_getf rfl rfl (by omega) h17 rfl ?_
    refine (w1 _).1 ?_
    refine eGs.steps 1 (y := (63, [some (.ref 17), some (.int (nI i))], [.ref 17], H1)) rfl ?_
    refine g_getf rfl rfl (by omega) f17 rfl ?_
    refine (w2 _).2 ?_
    refine eGs.steps 2 (y := (43, [some (.ref 17), some (.int (nI i + 1))], [], H2)) rfl ?_
    rw [nI_1]
    exact ev
theorem i_judge {X : Nat × (Nat → Int32)} {H : eH} (h : H.1 17 = some (.inr (4, [.null, .int 0, .null, .null, .null]))) (hn : H.2.1 = 18) : ∃ H', eEv pP X 2 105 [.ref 17] H (.inl none, H') ∧ sJ H' 18 19 25 29 [] ∧ sK0 H' 20 ∧ sQ H' 24 ∧ H'.2.1 = 345 ∧ H'.2.2 = H.2.2 + 1868 ∧ ag H H' 0 17 := by
  obtain ⟨hf, n, s⟩ := H
  dsimp only at hn h
  subst hn
  generalize hH3 : eNew (eSetH (eNew (eSetH (eNew (hf, 18, s) (.inl (4, 40, .inr (.inr fun _ => none))) 40) 17 (.inr (4, [.ref 18, .int 0, .null, .null, .null]))) (.inl (4, 40, .inr (.inr fun _ => none))) 40) 17 (.inr (4, [.ref 18, .int 0, .ref 19, .null, .null]))) (.inr (3, [.null, .null, .null])) 3 = H3
  have b17 : H3.1 17 = some (.inr (4, [.ref 18, .int 0, .ref 19, .null, .null])) := by rw [← hH3]; rfl
  have b18 : H3.1 18 = some (.inl (4, 40, .inr (.inr fun _ => none))) := by rw [← hH3]; rfl
  have b19 : H3.1 19 = some (.inl (4, 40, .inr (.inr fun _ => none))) := by rw [← hH3]; rfl
  have b20 : H3.1 20 = some (.inr (3, [.null, .null, .null])) := by rw [← hH3]; rfl
  have bn : H3.2 = (21, s + 40 + 40 + 3) := by rw [← hH3]; rfl
  have bt : ∀ a, a < 17 → H3.1 a = hf a := fun a ha => by
    have a1 : ¬ a = 17 := by omega
    have a2 : ¬ a = 18 := by omega
    have a3 : ¬ a = 18 + 1 := by omega
    have a4 : ¬ a = 18 + 1 + 1 := by omega
    rw [← hH3]
    exact (eNew_off a4).trans ((eSet_off a1).trans ((eNew_off a3).trans ((eSet_off a1).trans (eNew_off a2))))
  obtain ⟨H4, ev4, k4, n4, s4, a4⟩ := i_cfg (X := X) (H := H3) (c := 20) b20 (by omega) (by rw [bn])
  generalize hH5 : eSetH H4 17 (.inr (4, [.ref 18, .int 0, .ref 19, .ref 20, .null])) = H5
  generalize hH6 : eSetH (eNew H5 (.inl (0, 6, .inl fun _ => 0)) 6) 17 (.inr (4, [.ref 18, .int 0, .ref 19, .ref 20, .ref 24])) = H6
  have n5 : H5.2.1 = 24 := by rw [← hH5]; exact n4
  have s5 : H5.2.2 = s + 102 := by
    rw [← hH5]
    show H4.2.2 = _
    rw [s4, bn]
  have n6 : H6.2.1 = 25 := by
    rw [← hH6]
    show H5.2.1 + 1 = _
    rw [n5]
  have s6 : H6.2.2 = s + 108 := by
    rw [← hH6]
    show H5.2.2 + 6 = _
    rw [s5]
  have t6 : ∀ a, a < 24 → ¬ a = 17 → H6.1 a = H4.1 a := fun a z w => by
    rw [← hH6]
    refine (eSet_off w).trans ((eNew_off (by rw [n5]; omega)).trans ?_)
    rw [← hH5]
    exact eSet_off w
  have e17 : H6.1 17 = some (.inr (4, [.ref 18, .int 0, .ref 19, .ref 20, .ref 24])) := by rw [← hH6]; exact eSet_self
  have e24 : H6.1 24 = some (.inl (0, 6, .inl fun _ => 0)) := by
    rw [← hH6]
    refine (eSet_off (by omega)).trans ?_
    have := eNew_self (h := H5) (e := .inl (0, 6, .inl fun _ => 0)) (n := 6)
    rw [n5] at this
    exact this
  have z0 : ∀ p : Nat, (fun j => if j < 0 then some (p + 8 * j) else none) = fun _ => (none : Option Nat) := fun p => funext fun j => if_neg (by omega)
  obtain ⟨H', ev, e1, e2, e3, e4, e5⟩ := i_judge_l (X := X) 40 0 H6 (by omega) n6 e17 (by rw [z0]; exact (t6 18 (by omega) (by omega)).trans ((a4 18 (by omega) (by omega)).trans b18)) (by rw [z0]; exact (t6 19 (by omega) (by omega)).trans ((a4 19 (by omega) (by omega)).trans b19)) (fun j hj => absurd hj (by omega))
  refine ⟨H', ?_, e3, sK0_fr ⟨_, _, _, k4⟩ (fun a z w => (e5 a (by omega) (by omega)).trans (t6 a (by omega) (by omega))), ⟨_, (e5 24 (by omega) (by omega)).trans e24⟩, e1, by rw [e2, s6], fun a z w => (e4 a z w).trans ((t6 a (by omega) (by omega)).trans ((a4 a (by omega) (by omega)).trans (bt a w)))⟩
  refine eEv.of (Nat.not_lt.mpr (Nat.le_of_ble_eq_true rfl)) ?_
  refine eGs.steps 1 (y := (1, [some (.ref 17), none], [.ref 17], (hf, 18, s))) rfl ?_
  refine eGs.own (y := (4, [some (.ref 17), none], [], (hf, 18, s))) rfl rfl rfl (by decide) (of_decide_eq_false rfl) rfl ?_
  refine eGs.steps 3 (y := (10, [some (.ref 17), none], [.ref 18, .ref 17], eNew (hf, 18, s) (.inl (4, 40, .inr (.inr fun _ => none))) 40)) rfl ?_
  refine g_putf rfl rfl (by omega) ((eNew_off (by show ¬ 17 = 18; omega)).trans h) rfl (Nat.le_of_ble_eq_true rfl) rfl ?_
  refine eGs.steps 3 (y := (19, [some (.ref 17), none], [.ref 19, .ref 17], eNew _ (.inl (4, 40, .inr (.inr fun _ => none))) 40)) rfl ?_
  refine g_putf rfl rfl (by omega) ((eNew_off (by show ¬ 17 = 19; omega)).trans eSet_self) rfl (Nat.le_of_ble_eq_true rfl) rfl ?_
  refine eGs.steps 3 (y := (27, [some (.ref 17), none], [.ref 20, .ref 20, .ref 17], H3)) (by rw [← hH3]; rfl) ?_
  refine g_callN rfl rfl rfl rfl rfl ev4 ?_
  refine g_putfW (h1 := H5) rfl rfl (by omega) ((a4 17 (by omega) (by omega)).trans b17) rfl (Nat.le_of_ble_eq_true rfl) rfl hH5 ?_
  refine eGs.steps 3 (y := (38, [some (.ref 17), none], [.ref H5.2.1, .ref 17], eNew H5 (.inl (0, 6, .inl fun _ => 0)) 6)) rfl ?_
  rw [n5]
  refine g_putfW (h1 := H6) (fs := [.ref 18, .int 0, .ref 19, .ref 20, .null]) rfl rfl (by omega) ((eNew_off (by rw [n5]; omega)).trans (by rw [← hH5]; exact eSet_self)) rfl (Nat.le_of_ble_eq_true rfl) rfl hH6 ?_
  refine eGs.steps 2 (y := (43, [some (.ref 17), some (.int (nI 0))], [], H6)) rfl ?_
  exact ev

theorem g_scr0 {P : eP} {X : Nat × (Nat → Int32)} {d0 k pc : Nat} {lo : eLo} {st : List Value} {h : eH} {r : eR × eH} {i : Nat} (hi : P.ins k pc = some (.iaload, 1)) (hl : i < X.1) (hb : X.1 ≤ 2560) (q : eGs P X d0 k (pc + 1, lo, .int (X.2 i) :: st, h) r) : eGs P X d0 k (pc, lo, .int (nI i) :: .ref 0 :: st, h) r := by
  refine eGs.step hi rfl ?_ q
  have hin : ¬ (nI i < 0 ∨ X.1 ≤ (nI i).toNatClampNeg) := by rw [nI_clamp (by omega)]; exact q_in hl (by omega)
  simp only [eIns, eLdI, eIA, eN, eIn, if_neg hin, if_true]
  rw [nI_clamp (by omega)]
theorem q_and31 (x : Int32) : ∃ c, c < 32 ∧ x &&& 31 = nI c := by
  refine ⟨(x &&& 31).toBitVec.toNat, ?_, ?_⟩
  · rw [Int32.toBitVec_and, BitVec.toNat_and]
    exact Nat.lt_of_le_of_lt Nat.and_le_right (by decide)
  · apply Int32.toBitVec_inj.mp
    show _ = BitVec.ofNat 32 _
    simp
theorem LI_up {H : eH} {A : qA} {t : Nat} (h : LI H A t) : LI H A (t + 1) := by
  obtain ⟨a, b, c, d, e, f, g⟩ := h
  exact ⟨a, b, c, d, e, by omega, by omega⟩
theorem l_step {X : Nat × (Nat → Int32)} {H : eH} {A : qA} {t i : Nat} (h : LI H A t) (hi : i + 4 < X.1) (hX : X.1 ≤ 2560) : ∃ H' A', LI H' A' (t + 1) ∧ ∀ res, eGs pP X 60 139 (1022, lL i, [], H') res → eGs pP X 60 139 (32, lL i, [], H) res := by
  obtain ⟨c, hc, e⟩ := q_and31 (X.2 i)
  have go : ∀ res, eGs pP X 60 139 (39, lL i, [.int (nI c)], H) res → eGs pP X 60 139 (32, lL i, [], H) res := fun res q => by
    refine eGs.steps 2 (y := (35, lL i, [.int (nI i), .ref 0], H)) rfl ?_
    refine g_scr0 rfl (by omega) hX ?_
    refine eGs.steps 2 (y := (39, lL i, [.int (X.2 i &&& 31)], H)) rfl ?_
    rw [e]
    exact q
  by_cases h17 : 17 ≤ c
  · refine ⟨H, A, LI_up h, fun res q => go res ?_⟩
    have : c = 17 ∨ c = 18 ∨ c = 19 ∨ c = 20 ∨ c = 21 ∨ c = 22 ∨ c = 23 ∨ c = 24 ∨ c = 25 ∨ c = 26 ∨ c = 27 ∨ c = 28 ∨ c = 29 ∨ c = 30 ∨ c = 31 := by omega
    rcases this with rfl | rfl | rfl | rfl | rfl | rfl | rfl | rfl | rfl | rfl | rfl | rfl | rfl | rfl | rfl <;> exact eGs.steps 1 (y := (1022, lL i, [], H)) rfl q
  · have : c = 0 ∨ c = 1 ∨ c = 2 ∨ c = 3 ∨ c = 4 ∨ c = 5 ∨ c = 6 ∨ c = 7 ∨ c = 8 ∨ c = 9 ∨ c = 10 ∨ c = 11 ∨ c = 12 ∨ c = 13 ∨ c = 14 ∨ c = 15 ∨ c = 16 := by omega
    rcases this with rfl | rfl | rfl | rfl | rfl | rfl | rfl | rfl | rfl | rfl | rfl | rfl | rfl | rfl | rfl | rfl | rfl
    · obtain ⟨H', A', l, q⟩ := l_clear h hi hX
      exact ⟨H', A', l, fun res z => go res (eGs.steps 1 (y := (120, lL i, [], H)) rfl (q res z))⟩
    · obtain ⟨H', A', l, q⟩ := l_membrane h hi hX
      exact ⟨H', A', l, fun res z => go res (eGs.steps 1 (y := (156, lL i, [], H)) rfl (q res z))⟩
    · obtain ⟨H', A', l, q⟩ := l_put h hi hX
      exact ⟨H', A', l, fun res z => go res (eGs.steps 1 (y := (224, lL i, [], H)) rfl (q res z))⟩
    · obtain ⟨H', A', l, q⟩ := l_rule h hi hX
      exact ⟨H', A', l, fun res z => go res (eGs.steps 1 (y := (272, lL i, [], H)) rfl (q res z))⟩
    · obtain ⟨H', A', l, q⟩ := l_into h hi hX
      exact ⟨H', A', l, fun res z => go res (eGs.steps 1 (y := (364, lL i, [], H)) rfl (q res z))⟩
    · obtain ⟨H', A', l, q⟩ := l_dissolve h hi hX
      exact ⟨H', A', l, fun res z => go res (eGs.steps 1 (y := (424, lL i, [], H)) rfl (q res z))⟩
    · obtain ⟨H', A', l, q⟩ := l_divide h hi hX
      exact ⟨H', A', l, fun res z => go res (eGs.steps 1 (y := (460, lL i, [], H)) rfl (q res z))⟩
    · obtain ⟨H', A', l, q⟩ := l_round h hi hX
      exact ⟨H', A', l, fun res z => go res (eGs.steps 1 (y := (508, lL i, [], H)) rfl (q res z))⟩
    · obtain ⟨H', A', l, q⟩ := l_uses h hi hX
      exact ⟨H', A', l, fun res z => go res (eGs.steps 1 (y := (552, lL i, [], H)) rfl (q res z))⟩
    · obtain ⟨H', A', l, q⟩ := l_choices h hi hX
      exact ⟨H', A', l, fun res z => go res (eGs.steps 1 (y := (620, lL i, [], H)) rfl (q res z))⟩
    · obtain ⟨H', A', l, q⟩ := l_at h hi hX
      exact ⟨H', A', l, fun res z => go res (eGs.steps 1 (y := (676, lL i, [], H)) rfl (q res z))⟩
    · obtain ⟨H', A', l, q⟩ := l_there h hi hX
      exact ⟨H', A', l, fun res z => go res (eGs.steps 1 (y := (744, lL i, [], H)) rfl (q res z))⟩
    · obtain ⟨H', A', l, q⟩ := l_outside h hi hX
      exact ⟨H', A', l, fun res z => go res (eGs.steps 1 (y := (769, lL i, [], H)) rfl (q res z))⟩
    · obtain ⟨H', A', l, q⟩ := l_outcomes h hi hX
      exact ⟨H', A', l, fun res z => go res (eGs.steps 1 (y := (825, lL i, [], H)) rfl (q res z))⟩
    · obtain ⟨H', A', l, q⟩ := l_outcome h hi hX
      exact ⟨H', A', l, fun res z => go res (eGs.steps 1 (y := (881, lL i, [], H)) rfl (q res z))⟩
    · obtain ⟨H', A', l, q⟩ := l_adopt h hi hX
      exact ⟨H', A', l, fun res z => go res (eGs.steps 1 (y := (961, lL i, [], H)) rfl (q res z))⟩
    · obtain ⟨H', A', l, q⟩ := l_written h hi hX
      exact ⟨H', A', l, fun res z => go res (eGs.steps 1 (y := (997, lL i, [], H)) rfl (q res z))⟩
theorem l_loop {X : Nat × (Nat → Int32)} (hX : X.1 ≤ 2560) : ∀ (k t : Nat) (H : eH) (A : qA), LI H A t → X.1 < 5 * t + 5 + 5 * k → t ≤ X.1 → ∃ hE : eH, eGs pP X 60 139 (23, lL (5 * t), [], H) (.inl (some (.int 1)), hE) ∧ hE.2.1 ≤ 375 + X.1 ∧ hE.2.2 ≤ 20000 + 6 * X.1 := by
  intro k
  induction k with
  | zero =>
    intro t H A h hk ht
    have h1 := h.2.2.2.2.2.1
    have h2 := h.2.2.2.2.2.2
    refine ⟨H, ?_, by omega, by omega⟩
    refine eGs.steps 5 (y := (29, lL (5 * t), [.int (nI X.1 - nI 5), .int (nI (5 * t))], H)) rfl ?_
    refine g_icmp (t := 1028) true rfl (decide_eq_true ((q_sublt (by omega) (by omega) (by omega)).mpr (by omega))) rfl ?_
    refine eGs.steps 1 (y := (1029, lL (5 * t), [.int 1], H)) rfl ?_
    exact eGs.fin rfl rfl rfl
  | succ k ih =>
    intro t H A h hk ht
    by_cases w : X.1 < 5 + 5 * t
    · have h1 := h.2.2.2.2.2.1
      have h2 := h.2.2.2.2.2.2
      refine ⟨H, ?_, by omega, by omega⟩
      refine eGs.steps 5 (y := (29, lL (5 * t), [.int (nI X.1 - nI 5), .int (nI (5 * t))], H)) rfl ?_
      refine g_icmp (t := 1028) true rfl (decide_eq_true ((q_sublt (by omega) (by omega) (by omega)).mpr (by omega))) rfl ?_
      refine eGs.steps 1 (y := (1029, lL (5 * t), [.int 1], H)) rfl ?_
      exact eGs.fin rfl rfl rfl
    · obtain ⟨H', A', l, q⟩ := l_step (X := X) (i := 5 * t) h (by omega) hX
      obtain ⟨hE, ev, e1, e2⟩ := ih (t + 1) H' A' l (by omega) (by omega)
      refine ⟨hE, ?_, e1, e2⟩
      refine eGs.steps 5 (y := (29, lL (5 * t), [.int (nI X.1 - nI 5), .int (nI (5 * t))], H)) rfl ?_
      refine g_icmp (t := 1028) false rfl (decide_eq_false (fun z => w ((q_sublt (by omega) (by omega) (by omega)).mp z))) rfl ?_
      refine q _ ?_
      have e5 : nI (5 * t) + nI 5 = nI (5 * (t + 1)) := nI_add ..
      refine eGs.steps 2 (y := (23, [some (.ref 0), some (.ref 1), some (.ref 356), some (.ref 374), some (.int (nI (5 * t) + nI 5)), none, none], [], H')) rfl ?_
      rw [e5]
      exact ev
theorem l_run {X : Nat × (Nat → Int32)} (hX : X.1 ≤ 2560) : ∃ hE : eH, eGs pP X 60 139 (0, eEntry (eNL pP 139) [.ref 0], [], pH0) (.inl (some (.int 1)), hE) ∧ hE.2.1 ≤ 375 + X.1 ∧ hE.2.2 ≤ 20000 + 6 * X.1 := by
  obtain ⟨H1, ev1, sc1, n1, s1⟩ := i_class (X := X) (H := eNew pH0 (.inr (0, [.null, .null, .null, .null, .null, .null, .null, .null])) 8) eNew_self rfl
  obtain ⟨hf, n, s⟩ := H1
  dsimp only at n1
  subst n1
  have s1' : s = 4430 := s1
  obtain ⟨H2, ev2, sm2, n2, a2⟩ := i_model (X := X) (hf := eUp hf 356 (some (.inr (1, [.int 0, .int 0, .null, .null, .null, .null, .null, .null, .null, .null, .null, .int 0, .int 0, .null, .null, .int 0, .null, .int 0, .null, .null, .null, .null, .int 0, .int 0, .int 0, .null])))) (s := s + 26) (if_pos rfl)
  obtain ⟨g, n, s3⟩ := H2
  dsimp only at n2
  obtain ⟨rfl, e3⟩ := Prod.mk.inj n2
  generalize hH3 : eNew (g, 374, s3) (.inl (1, 1, .inr (.inl fun _ => 0))) 1 = H3
  have c3 : H3.1 374 = some (.inl (1, 1, .inr (.inl fun _ => 0))) := by rw [← hH3]; exact eNew_self
  have n3 : H3.2.1 = 375 := by rw [← hH3]; rfl
  have s3' : H3.2.2 = s3 + 1 := by rw [← hH3]; rfl
  have t3 : ∀ a, ¬ a = 374 → H3.1 a = g a := fun a ha => by rw [← hH3]; exact eNew_off ha
  have li : LI H3 qA0 0 := ⟨AI_0, ⟨348, 352, 18, 19, 25, 29, SC_fr sc1 AI_0 (fun a z w => (t3 a (by omega)).trans ((a2 a w).trans (if_neg (by omega))))⟩, ⟨0, SM_fr sm2 (fun a z w => t3 a (by omega))⟩, ⟨_, c3⟩, by omega, by omega, by omega⟩
  obtain ⟨hE, ev, e1, e2⟩ := l_loop hX X.1 0 H3 qA0 li (by omega) (by omega)
  refine ⟨hE, ?_, e1, e2⟩
  refine eGs.steps 2 (y := (4, [some (.ref 0), none, none, none, none, none, none], [.ref 1, .ref 1], eNew pH0 (.inr (0, [.null, .null, .null, .null, .null, .null, .null, .null])) 8)) rfl ?_
  refine g_callN rfl rfl rfl rfl rfl (ev1.mono (by decide)) ?_
  refine eGs.steps 3 (y := (12, [some (.ref 0), some (.ref 1), none, none, none, none, none], [.ref 356, .ref 356], (eUp hf 356 (some (.inr (1, [.int 0, .int 0, .null, .null, .null, .null, .null, .null, .null, .null, .null, .int 0, .int 0, .null, .null, .int 0, .null, .int 0, .null, .null, .null, .null, .int 0, .int 0, .int 0, .null]))), 357, s + 26))) rfl ?_
  refine g_callN rfl rfl rfl rfl rfl (ev2.mono (by decide)) ?_
  refine eGs.steps 4 (y := (20, [some (.ref 0), some (.ref 1), some (.ref 356), some (.ref 374), none, none, none], [], H3)) (by rw [← hH3]; rfl) ?_
  refine eGs.steps 2 (y := (23, lL (5 * 0), [], H3)) rfl ?_
  exact ev
theorem law_runs : LawRuns := by
  intro X hX
  obtain ⟨hE, ⟨n0, ev⟩, e1, e2⟩ := l_run hX
  exact ⟨n0, hE, ev 100 (by decide) n0 (Nat.le_refl _) n0 (Nat.le_refl _), by omega, by omega⟩

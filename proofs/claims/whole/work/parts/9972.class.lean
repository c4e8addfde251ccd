theorem AI_0 : AI qA0 := by
  have ab : ∀ m, ¬ m = 0 → (eUp (fun _ => (-1 : Int32)) 0 (nI 0)) m = -1 := fun m hm => q_un hm
  refine ⟨⟨⟨?_, fun m hm => ?_, fun m hm h0 hp => absurd (ab m h0) hp⟩, ⟨fun _ => 0, fun m hm h0 hp => absurd (ab m h0) hp⟩, ⟨fun m hm k hk => Nat.zero_le _, fun k hk => Nat.zero_le _⟩, fun m hm h k hk => rfl⟩, ⟨Nat.zero_le _, fun i hi => absurd hi (Nat.not_lt_zero _)⟩, fun a ha => absurd ha List.not_mem_nil, Nat.zero_le _⟩
  · show ¬ eUp (fun _ => (-1 : Int32)) 0 (nI 0) 0 = -1
    rw [q_up]; exact q_m1' (by omega)
  · show eUp (fun _ => (-1 : Int32)) 0 (nI 0) m = -1 ∨ _
    by_cases m0 : m = 0
    · subst m0; rw [q_up]; exact Or.inr ⟨0, by omega, rfl⟩
    · exact Or.inl (ab m m0)
theorem eNew_at {h : eH} {e : eE} {n c : Nat} (hc : h.2.1 = c) : (eNew h e n).1 c = some e := by subst hc; exact eNew_self
theorem j_chooser {X : Nat × (Nat → Int32)} {H : eH} (h : H.1 10 = some (.inr (2, [.null, .int 0, .null, .int 0, .int 0, .null, .null]))) (hn : H.2.1 = 11) : ∃ H', eEv pP X 1 79 [.ref 10] H (.inl none, H') ∧ sO H' ∧ H'.2.1 = 15 ∧ H'.2.2 = H.2.2 + 2031 ∧ ag H H' 0 10 := by
  obtain ⟨hf, n, s⟩ := H
  dsimp only at hn h
  subst hn
  refine ⟨_, i_chooser h, ⟨0, 0, 0, fun _ => none, fun _ => 0, fun _ => 0, fun _ => 0, rfl, rfl, rfl, rfl, rfl⟩, rfl, rfl, ag_w2 (H := (hf, 15, s + 2031)) (A := [10, 14, 10, 13, 10, 12, 10, 11, 10]) rfl (fun a ha z => ?_)⟩
  simp only [List.mem_cons, List.not_mem_nil, or_false] at ha
  omega
theorem j_worker {X : Nat × (Nat → Int32)} {H : eH} (h : H.1 15 = some (.inr (8, [.null]))) (hn : H.2.1 = 16) : ∃ H', eEv pP X 1 118 [.ref 15] H (.inl none, H') ∧ sW H' ∧ H'.2.1 = 17 ∧ H'.2.2 = H.2.2 + 6 ∧ ag H H' 0 15 := by
  obtain ⟨hf, n, s⟩ := H
  dsimp only at hn h
  subst hn
  refine ⟨_, i_worker h, ⟨rfl, fun _ => none, rfl⟩, rfl, rfl, ag_w2 (H := (hf, 17, s + 6)) (A := [15, 16, 15]) rfl (fun a ha z => ?_)⟩
  simp only [List.mem_cons, List.not_mem_nil, or_false] at ha
  omega
theorem j_scribe {X : Nat × (Nat → Int32)} {H : eH} (h : H.1 345 = some (.inr (7, [.null, .int 0]))) (hn : H.2.1 = 346) : ∃ H', eEv pP X 1 114 [.ref 345] H (.inl none, H') ∧ sS H' ∧ H'.2.1 = 347 ∧ H'.2.2 = H.2.2 + 378 ∧ ag H H' 0 345 := by
  obtain ⟨hf, n, s⟩ := H
  dsimp only at hn h
  subst hn
  refine ⟨_, i_scribe h, ⟨0, fun _ => 0, rfl, rfl⟩, rfl, rfl, ag_w2 (H := (hf, 347, s + 378)) (A := [345, 346, 345]) rfl (fun a ha z => ?_)⟩
  simp only [List.mem_cons, List.not_mem_nil, or_false] at ha
  omega
theorem i_class {X : Nat × (Nat → Int32)} {H : eH} (h : H.1 1 = some (.inr (0, [.null, .null, .null, .null, .null, .null, .null, .null]))) (hn : H.2.1 = 2) : ∃ H', eEv pP X 4 0 [.ref 1] H (.inl none, H') ∧ SC H' qA0 348 352 18 19 25 29 ∧ H'.2.1 = 356 ∧ H'.2.2 = H.2.2 + 4422 := by
  have o0 := h
  have n0 := hn
  generalize hH0 : H = H0 at o0 n0 ⊢
  obtain ⟨G1, ev1, p1, gn1, gs1, ga1⟩ := i_book (X := X) (H := eNew H0 (.inr (6, [.null, .int 0])) 2) (eNew_at n0) (by show H0.2.1 + 1 = _; rw [n0])
  have g1 : G1.1 1 = some (.inr (0, [.null, .null, .null, .null, .null, .null, .null, .null])) := (ga1 1 (by omega) (by omega)).trans ((eNew_off (by rw [n0]; omega)).trans o0)
  generalize hH1 : eSetH G1 1 (.inr (0, [.ref 2, .null, .null, .null, .null, .null, .null, .null])) = H1
  have u1 : ∀ a, ¬ a = 1 → H1.1 a = G1.1 a := fun a z => by rw [← hH1]; exact eSet_off z
  have t1 : ∀ a, a < 2 → ¬ a = 1 → H1.1 a = H0.1 a := fun a z w => (u1 a w).trans ((ga1 a (by omega) z).trans (eNew_off (by rw [n0]; omega)))
  have o1 : H1.1 1 = some (.inr (0, [.ref 2, .null, .null, .null, .null, .null, .null, .null])) := by rw [← hH1]; exact eSet_self
  have n1 : H1.2.1 = 10 := by rw [← hH1]; exact gn1
  have s1 : H1.2.2 = H0.2.2 + 74 := by
    rw [← hH1]
    show G1.2.2 = _
    rw [gs1]
    show H0.2.2 + 2 + 72 = _
    omega
  obtain ⟨G2, ev2, p2, gn2, gs2, ga2⟩ := j_chooser (X := X) (H := eNew H1 (.inr (2, [.null, .int 0, .null, .int 0, .int 0, .null, .null])) 7) (eNew_at n1) (by show H1.2.1 + 1 = _; rw [n1])
  have g2 : G2.1 1 = some (.inr (0, [.ref 2, .null, .null, .null, .null, .null, .null, .null])) := (ga2 1 (by omega) (by omega)).trans ((eNew_off (by rw [n1]; omega)).trans o1)
  generalize hH2 : eSetH G2 1 (.inr (0, [.ref 2, .ref 10, .null, .null, .null, .null, .null, .null])) = H2
  have u2 : ∀ a, ¬ a = 1 → H2.1 a = G2.1 a := fun a z => by rw [← hH2]; exact eSet_off z
  have t2 : ∀ a, a < 10 → ¬ a = 1 → H2.1 a = H1.1 a := fun a z w => (u2 a w).trans ((ga2 a (by omega) z).trans (eNew_off (by rw [n1]; omega)))
  have o2 : H2.1 1 = some (.inr (0, [.ref 2, .ref 10, .null, .null, .null, .null, .null, .null])) := by rw [← hH2]; exact eSet_self
  have n2 : H2.2.1 = 15 := by rw [← hH2]; exact gn2
  have s2 : H2.2.2 = H0.2.2 + 2112 := by
    rw [← hH2]
    show G2.2.2 = _
    rw [gs2]
    show H1.2.2 + 7 + 2031 = _
    rw [s1]
  obtain ⟨G3, ev3, p3, gn3, gs3, ga3⟩ := j_worker (X := X) (H := eNew H2 (.inr (8, [.null])) 1) (eNew_at n2) (by show H2.2.1 + 1 = _; rw [n2])
  have g3 : G3.1 1 = some (.inr (0, [.ref 2, .ref 10, .null, .null, .null, .null, .null, .null])) := (ga3 1 (by omega) (by omega)).trans ((eNew_off (by rw [n2]; omega)).trans o2)
  generalize hH3 : eSetH G3 1 (.inr (0, [.ref 2, .ref 10, .ref 15, .null, .null, .null, .null, .null])) = H3
  have u3 : ∀ a, ¬ a = 1 → H3.1 a = G3.1 a := fun a z => by rw [← hH3]; exact eSet_off z
  have t3 : ∀ a, a < 15 → ¬ a = 1 → H3.1 a = H2.1 a := fun a z w => (u3 a w).trans ((ga3 a (by omega) z).trans (eNew_off (by rw [n2]; omega)))
  have o3 : H3.1 1 = some (.inr (0, [.ref 2, .ref 10, .ref 15, .null, .null, .null, .null, .null])) := by rw [← hH3]; exact eSet_self
  have n3 : H3.2.1 = 17 := by rw [← hH3]; exact gn3
  have s3 : H3.2.2 = H0.2.2 + 2119 := by
    rw [← hH3]
    show G3.2.2 = _
    rw [gs3]
    show H2.2.2 + 1 + 6 = _
    rw [s2]
  obtain ⟨G4, ev4, p4, r4, y4, gn4, gs4, ga4⟩ := i_judge (X := X) (H := eNew H3 (.inr (4, [.null, .int 0, .null, .null, .null])) 5) (eNew_at n3) (by show H3.2.1 + 1 = _; rw [n3])
  have g4 : G4.1 1 = some (.inr (0, [.ref 2, .ref 10, .ref 15, .null, .null, .null, .null, .null])) := (ga4 1 (by omega) (by omega)).trans ((eNew_off (by rw [n3]; omega)).trans o3)
  generalize hH4 : eSetH G4 1 (.inr (0, [.ref 2, .ref 10, .ref 15, .ref 17, .null, .null, .null, .null])) = H4
  have u4 : ∀ a, ¬ a = 1 → H4.1 a = G4.1 a := fun a z => by rw [← hH4]; exact eSet_off z
  have t4 : ∀ a, a < 17 → ¬ a = 1 → H4.1 a = H3.1 a := fun a z w => (u4 a w).trans ((ga4 a (by omega) z).trans (eNew_off (by rw [n3]; omega)))
  have o4 : H4.1 1 = some (.inr (0, [.ref 2, .ref 10, .ref 15, .ref 17, .null, .null, .null, .null])) := by rw [← hH4]; exact eSet_self
  have n4 : H4.2.1 = 345 := by rw [← hH4]; exact gn4
  have s4 : H4.2.2 = H0.2.2 + 3992 := by
    rw [← hH4]
    show G4.2.2 = _
    rw [gs4]
    show H3.2.2 + 5 + 1868 = _
    rw [s3]
  obtain ⟨G5, ev5, p5, gn5, gs5, ga5⟩ := j_scribe (X := X) (H := eNew H4 (.inr (7, [.null, .int 0])) 2) (eNew_at n4) (by show H4.2.1 + 1 = _; rw [n4])
  have g5 : G5.1 1 = some (.inr (0, [.ref 2, .ref 10, .ref 15, .ref 17, .null, .null, .null, .null])) := (ga5 1 (by omega) (by omega)).trans ((eNew_off (by rw [n4]; omega)).trans o4)
  generalize hH5 : eSetH G5 1 (.inr (0, [.ref 2, .ref 10, .ref 15, .ref 17, .ref 345, .null, .null, .null])) = H5
  have u5 : ∀ a, ¬ a = 1 → H5.1 a = G5.1 a := fun a z => by rw [← hH5]; exact eSet_off z
  have t5 : ∀ a, a < 345 → ¬ a = 1 → H5.1 a = H4.1 a := fun a z w => (u5 a w).trans ((ga5 a (by omega) z).trans (eNew_off (by rw [n4]; omega)))
  have o5 : H5.1 1 = some (.inr (0, [.ref 2, .ref 10, .ref 15, .ref 17, .ref 345, .null, .null, .null])) := by rw [← hH5]; exact eSet_self
  have n5 : H5.2.1 = 347 := by rw [← hH5]; exact gn5
  have s5 : H5.2.2 = H0.2.2 + 4372 := by
    rw [← hH5]
    show G5.2.2 = _
    rw [gs5]
    show H4.2.2 + 2 + 378 = _
    rw [s4]
  generalize hG6 : eNew H5 (.inl (0, 6, .inl fun _ => 0)) 6 = G6
  have p6 : G6.1 347 = some (.inl (0, 6, .inl fun _ => 0)) := by rw [← hG6]; exact eNew_at n5
  have gn6 : G6.2.1 = 348 := by rw [← hG6]; show H5.2.1 + 1 = _; rw [n5]
  have gs6 : G6.2.2 = (eNew H5 (.inl (0, 6, .inl fun _ => 0)) 6).2.2 + 0 := by rw [← hG6]; rfl
  have ga6 : ag (eNew H5 (.inl (0, 6, .inl fun _ => 0)) 6) G6 0 347 := by rw [← hG6]; exact ag_id
  have g6 : G6.1 1 = some (.inr (0, [.ref 2, .ref 10, .ref 15, .ref 17, .ref 345, .null, .null, .null])) := (ga6 1 (by omega) (by omega)).trans ((eNew_off (by rw [n5]; omega)).trans o5)
  generalize hH6 : eSetH G6 1 (.inr (0, [.ref 2, .ref 10, .ref 15, .ref 17, .ref 345, .ref 347, .null, .null])) = H6
  have u6 : ∀ a, ¬ a = 1 → H6.1 a = G6.1 a := fun a z => by rw [← hH6]; exact eSet_off z
  have t6 : ∀ a, a < 347 → ¬ a = 1 → H6.1 a = H5.1 a := fun a z w => (u6 a w).trans ((ga6 a (by omega) z).trans (eNew_off (by rw [n5]; omega)))
  have o6 : H6.1 1 = some (.inr (0, [.ref 2, .ref 10, .ref 15, .ref 17, .ref 345, .ref 347, .null, .null])) := by rw [← hH6]; exact eSet_self
  have n6 : H6.2.1 = 348 := by rw [← hH6]; exact gn6
  have s6 : H6.2.2 = H0.2.2 + 4378 := by
    rw [← hH6]
    show G6.2.2 = _
    rw [gs6]
    show H5.2.2 + 6 + 0 = _
    rw [s5]
  obtain ⟨G7, ev7, p7, gn7, gs7, ga7⟩ := i_cfg (X := X) (H := eNew H6 (.inr (3, [.null, .null, .null])) 3) (c := 348) (eNew_at n6) (by omega) (by show H6.2.1 + 1 = _; rw [n6])
  have g7 : G7.1 1 = some (.inr (0, [.ref 2, .ref 10, .ref 15, .ref 17, .ref 345, .ref 347, .null, .null])) := (ga7 1 (by omega) (by omega)).trans ((eNew_off (by rw [n6]; omega)).trans o6)
  generalize hH7 : eSetH G7 1 (.inr (0, [.ref 2, .ref 10, .ref 15, .ref 17, .ref 345, .ref 347, .ref 348, .null])) = H7
  have u7 : ∀ a, ¬ a = 1 → H7.1 a = G7.1 a := fun a z => by rw [← hH7]; exact eSet_off z
  have t7 : ∀ a, a < 348 → ¬ a = 1 → H7.1 a = H6.1 a := fun a z w => (u7 a w).trans ((ga7 a (by omega) z).trans (eNew_off (by rw [n6]; omega)))
  have o7 : H7.1 1 = some (.inr (0, [.ref 2, .ref 10, .ref 15, .ref 17, .ref 345, .ref 347, .ref 348, .null])) := by rw [← hH7]; exact eSet_self
  have n7 : H7.2.1 = 352 := by rw [← hH7]; exact gn7
  have s7 : H7.2.2 = H0.2.2 + 4400 := by
    rw [← hH7]
    show G7.2.2 = _
    rw [gs7]
    show H6.2.2 + 3 + 19 = _
    rw [s6]
  obtain ⟨G8, ev8, p8, gn8, gs8, ga8⟩ := i_cfg (X := X) (H := eNew H7 (.inr (3, [.null, .null, .null])) 3) (c := 352) (eNew_at n7) (by omega) (by show H7.2.1 + 1 = _; rw [n7])
  have g8 : G8.1 1 = some (.inr (0, [.ref 2, .ref 10, .ref 15, .ref 17, .ref 345, .ref 347, .ref 348, .null])) := (ga8 1 (by omega) (by omega)).trans ((eNew_off (by rw [n7]; omega)).trans o7)
  generalize hH8 : eSetH G8 1 (.inr (0, [.ref 2, .ref 10, .ref 15, .ref 17, .ref 345, .ref 347, .ref 348, .ref 352])) = H8
  have u8 : ∀ a, ¬ a = 1 → H8.1 a = G8.1 a := fun a z => by rw [← hH8]; exact eSet_off z
  have t8 : ∀ a, a < 352 → ¬ a = 1 → H8.1 a = H7.1 a := fun a z w => (u8 a w).trans ((ga8 a (by omega) z).trans (eNew_off (by rw [n7]; omega)))
  have o8 : H8.1 1 = some (.inr (0, [.ref 2, .ref 10, .ref 15, .ref 17, .ref 345, .ref 347, .ref 348, .ref 352])) := by rw [← hH8]; exact eSet_self
  have n8 : H8.2.1 = 356 := by rw [← hH8]; exact gn8
  have s8 : H8.2.2 = H0.2.2 + 4422 := by
    rw [← hH8]
    show G8.2.2 = _
    rw [gs8]
    show H7.2.2 + 3 + 19 = _
    rw [s7]
  have T8 : ∀ a, a < 356 → ¬ a = 1 → H8.1 a = H8.1 a := fun a _ _ => rfl
  have V8 : ag G8 H8 2 356 := fun a z w => (T8 a w (by omega)).trans (u8 a (by omega))
  have T7 : ∀ a, a < 352 → ¬ a = 1 → H8.1 a = H7.1 a := fun a z w => (T8 a (by omega) w).trans (t8 a z w)
  have V7 : ag G7 H8 2 352 := fun a z w => (T7 a w (by omega)).trans (u7 a (by omega))
  have T6 : ∀ a, a < 348 → ¬ a = 1 → H8.1 a = H6.1 a := fun a z w => (T7 a (by omega) w).trans (t7 a z w)
  have V6 : ag G6 H8 2 348 := fun a z w => (T6 a w (by omega)).trans (u6 a (by omega))
  have T5 : ∀ a, a < 347 → ¬ a = 1 → H8.1 a = H5.1 a := fun a z w => (T6 a (by omega) w).trans (t6 a z w)
  have V5 : ag G5 H8 2 347 := fun a z w => (T5 a w (by omega)).trans (u5 a (by omega))
  have T4 : ∀ a, a < 345 → ¬ a = 1 → H8.1 a = H4.1 a := fun a z w => (T5 a (by omega) w).trans (t5 a z w)
  have V4 : ag G4 H8 2 345 := fun a z w => (T4 a w (by omega)).trans (u4 a (by omega))
  have T3 : ∀ a, a < 17 → ¬ a = 1 → H8.1 a = H3.1 a := fun a z w => (T4 a (by omega) w).trans (t4 a z w)
  have V3 : ag G3 H8 2 17 := fun a z w => (T3 a w (by omega)).trans (u3 a (by omega))
  have T2 : ∀ a, a < 15 → ¬ a = 1 → H8.1 a = H2.1 a := fun a z w => (T3 a (by omega) w).trans (t3 a z w)
  have V2 : ag G2 H8 2 15 := fun a z w => (T2 a w (by omega)).trans (u2 a (by omega))
  have T1 : ∀ a, a < 10 → ¬ a = 1 → H8.1 a = H1.1 a := fun a z w => (T2 a (by omega) w).trans (t2 a z w)
  have V1 : ag G1 H8 2 10 := fun a z w => (T1 a w (by omega)).trans (u1 a (by omega))
  obtain ⟨cl, cp, ch, m1, m2⟩ := c_reset (l := 0) (fun _ => 0) (fun _ => 0) (fun _ => 0) (n := 8) (by omega)
  have kn := sKr_fr p7 (ag_sub V7 (by omega) (by omega))
  have kt := sKr_fr p8 (ag_sub V8 (by omega) (by omega))
  have rs := T_K_reset (X := X) (H := H8) (c := 348) kn.1 kn.2.1 kn.2.2.1 kn.2.2.2 (by omega) m1
  dsimp only at rs
  generalize hH9 : eW2 H8 [(348 + 1, .inl (0, 6, .inl cl)), (348 + 2, .inl (0, 6, .inl cp)), (348 + 3, .inl (1, 7, .inr (.inl ch)))] = H9 at rs
  have w1 : ag H8 H9 0 349 := by
    rw [← hH9]
    exact ag_w2 (A := [349, 350, 351]) rfl (fun a ha z => by
      simp only [List.mem_cons, List.not_mem_nil, or_false] at ha
      omega)
  have w2 : ag H8 H9 352 356 := by
    rw [← hH9]
    exact ag_w2 (A := [349, 350, 351]) rfl (fun a ha z => by
      simp only [List.mem_cons, List.not_mem_nil, or_false] at ha
      omega)
  have n9 : H9.2 = H8.2 := by rw [← hH9]; rfl
  have W : ∀ {G : eH} {lo hi : Nat}, ag G H8 lo hi → hi ≤ 349 → ag G H9 lo hi := fun v z => ag_trans v (ag_sub w1 (by omega) (by omega))
  have SCk : SC H9 qA0 348 352 18 19 25 29 := by
    refine ⟨⟨(w1 1 (by omega) (by omega)).trans o8, Or.inl ⟨rfl, rfl⟩⟩, sB_fr p1 (W V1 (by omega)), sO_fr p2 (ag_sub (W V2 (by omega)) (by omega) (by omega)), sW_fr p3 (ag_sub (W V3 (by omega)) (by omega) (by omega)), sS_fr p5 (ag_sub (W V5 (by omega)) (by omega) (by omega)), ⟨_, ((W V6 (by omega)) 347 (by omega) (by omega)).trans p6⟩, sQ_fr y4 (ag_sub (W V4 (by omega)) (by omega) (by omega)), sK0_fr r4 (ag_sub (W V4 (by omega)) (by omega) (by omega)), ⟨cl, cp, ch, ⟨(w1 348 (by omega) (by omega)).trans kn.1, ?_, ?_, ?_⟩, m2⟩, ⟨_, _, _, sKr_fr kt w2⟩, sJ_fr p4 (Nat.zero_le _) (ag_sub (W V4 (by omega)) (by omega) (by omega)) (ag_sub (W V4 (by omega)) (by omega) (by omega))⟩
    · rw [← hH9]; rfl
    · rw [← hH9]; rfl
    · rw [← hH9]; rfl
  refine ⟨H9, ?_, SCk, by rw [n9, n8], by rw [n9, s8]⟩
  refine eEv.of (Nat.not_lt.mpr (Nat.le_of_ble_eq_true rfl)) ?_
  refine eGs.steps 1 (y := (1, [some (.ref 1)], [.ref 1], H0)) rfl ?_
  refine eGs.own (y := (4, [some (.ref 1)], [], H0)) rfl rfl rfl (by decide) (of_decide_eq_false rfl) rfl ?_
  refine eGs.steps 3 (y := (9, [some (.ref 1)], [.ref H0.2.1, .ref H0.2.1, .ref 1], eNew H0 (.inr (6, [.null, .int 0])) 2)) rfl ?_
  rw [n0]
  refine g_callN rfl rfl rfl rfl rfl (ev1.mono (by decide)) ?_
  refine g_putfW (h1 := H1) rfl rfl (by omega) g1 rfl (Nat.le_of_ble_eq_true rfl) rfl hH1 ?_
  refine eGs.steps 3 (y := (20, [some (.ref 1)], [.ref H1.2.1, .ref H1.2.1, .ref 1], eNew H1 (.inr (2, [.null, .int 0, .null, .int 0, .int 0, .null, .null])) 7)) rfl ?_
  rw [n1]
  refine g_callN rfl rfl rfl rfl rfl (ev2.mono (by decide)) ?_
  refine g_putfW (h1 := H2) rfl rfl (by omega) g2 rfl (Nat.le_of_ble_eq_true rfl) rfl hH2 ?_
  refine eGs.steps 3 (y := (31, [some (.ref 1)], [.ref H2.2.1, .ref H2.2.1, .ref 1], eNew H2 (.inr (8, [.null])) 1)) rfl ?_
  rw [n2]
  refine g_callN rfl rfl rfl rfl rfl (ev3.mono (by decide)) ?_
  refine g_putfW (h1 := H3) rfl rfl (by omega) g3 rfl (Nat.le_of_ble_eq_true rfl) rfl hH3 ?_
  refine eGs.steps 3 (y := (42, [some (.ref 1)], [.ref H3.2.1, .ref H3.2.1, .ref 1], eNew H3 (.inr (4, [.null, .int 0, .null, .null, .null])) 5)) rfl ?_
  rw [n3]
  refine g_callN rfl rfl rfl rfl rfl (ev4.mono (by decide)) ?_
  refine g_putfW (h1 := H4) rfl rfl (by omega) g4 rfl (Nat.le_of_ble_eq_true rfl) rfl hH4 ?_
  refine eGs.steps 3 (y := (53, [some (.ref 1)], [.ref H4.2.1, .ref H4.2.1, .ref 1], eNew H4 (.inr (7, [.null, .int 0])) 2)) rfl ?_
  rw [n4]
  refine g_callN rfl rfl rfl rfl rfl (ev5.mono (by decide)) ?_
  refine g_putfW (h1 := H5) rfl rfl (by omega) g5 rfl (Nat.le_of_ble_eq_true rfl) rfl hH5 ?_
  refine eGs.steps 3 (y := (64, [some (.ref 1)], [.ref H5.2.1, .ref 1], G6)) (by rw [← hG6]; rfl) ?_
  rw [n5]
  refine g_putfW (h1 := H6) rfl rfl (by omega) g6 rfl (Nat.le_of_ble_eq_true rfl) rfl hH6 ?_
  refine eGs.steps 3 (y := (72, [some (.ref 1)], [.ref H6.2.1, .ref H6.2.1, .ref 1], eNew H6 (.inr (3, [.null, .null, .null])) 3)) rfl ?_
  rw [n6]
  refine g_callN rfl rfl rfl rfl rfl (ev7.mono (by decide)) ?_
  refine g_putfW (h1 := H7) rfl rfl (by omega) g7 rfl (Nat.le_of_ble_eq_true rfl) rfl hH7 ?_
  refine eGs.steps 3 (y := (83, [some (.ref 1)], [.ref H7.2.1, .ref H7.2.1, .ref 1], eNew H7 (.inr (3, [.null, .null, .null])) 3)) rfl ?_
  rw [n7]
  refine g_callN rfl rfl rfl rfl rfl (ev8.mono (by decide)) ?_
  refine g_putfW (h1 := H8) rfl rfl (by omega) g8 rfl (Nat.le_of_ble_eq_true rfl) rfl hH8 ?_
  refine eGs.steps 1 (y := (90, [some (.ref 1)], [.ref 1], H8)) rfl ?_
  refine g_getf rfl rfl (by omega) o8 rfl ?_
  refine eGs.steps 1 (y := (94, [some (.ref 1)], [.int 0, .ref 348], H8)) rfl ?_
  refine g_callV rfl rfl rfl rfl rfl (by omega) kn.1 rfl rs ?_
  exact eGs.fin rfl rfl rfl

theorem c_uses {A : qA} (hA : AI A) {cl cp : Nat → Int32} {ch : Nat → Int64} (h : KC A.1.1 A.1.2.1 A.1.2.2 cl cp ch) {ul : Nat → Int32} {ue uk uh uo ui : Nat → Int64} {ut ud uv : Nat → Int32} {ux : Nat → Int64} (hc : UC A.2.1 A.2.2.1 ul ue uk uh uo ui ut ud uv ux) (p r : Int32) (op : Int32) (g : Nat → Option Nat) {n : Nat} (hn : 120 ≤ n) : ∃ op' g', P_uses n p r cl cp ch op g ul ue ui ut ud uv (nI A.2.1) = some (tc [0, 10] (s_uses A p r).1, (s_uses A p r).2.1, op', g') := by
  obtain ⟨⟨hl, ht, hk, ha⟩, hu, _⟩ := hA
  have c6 := hu.1
  unfold P_uses s_uses
  rw [c_chkM h, Option.bind_some]
  by_cases pr : qpb A.1 p = true
  · rw [if_pos pr]
    dsimp only
    rw [c_chkR, Option.bind_some]
    by_cases rr : qrb A r = true
    · rw [if_pos rr, if_pos ⟨pr, rr⟩]
      dsimp only
      obtain ⟨m, hm, rfl, hp⟩ := qpb_t pr
      obtain ⟨i, hi, rfl⟩ := qrb_t hu rr
      have u12 : ∀ i, i < 6 → qgm A m i ≤ 12 := (qchosen_good hu (qgm_chosen (A := A) m hm)).1.2
      obtain ⟨R', f⟩ := q_machineC hl h hu hc hm (hk.1 m hm) g (n := n) (by omega)
      have f' : O_machineChoice n (nI m) g ul ue ui ut ud uv (nI A.2.1) cl cp ch = some (nI (c4p (qgm A m)), R') := f
      rw [f', Option.bind_some, q_usesOf (fun k hk => by have := u12 k hk; omega) (by omega), Option.bind_some, nI_clamp (by omega), nI_clamp (by omega)]
      exact ⟨_, _, rfl⟩
    · rw [if_neg rr, if_neg (show ¬ (qpb A.1 p = true ∧ qrb A r = true) from fun w => rr w.2)]
      exact ⟨_, _, rfl⟩
  · rw [if_neg pr, if_neg (show ¬ (qpb A.1 p = true ∧ qrb A r = true) from fun w => pr w.1)]
    exact ⟨_, _, rfl⟩
theorem c_choices {A : qA} (hA : AI A) {cl cp : Nat → Int32} {ch : Nat → Int64} (h : KC A.1.1 A.1.2.1 A.1.2.2 cl cp ch) {ul : Nat → Int32} {ue uk uh uo ui : Nat → Int64} {ut ud uv : Nat → Int32} {ux : Nat → Int64} (hc : UC A.2.1 A.2.2.1 ul ue uk uh uo ui ut ud uv ux) (p : Int32) (op st en : Int32) (g : Nat → Option Nat) (row : Nat → Int32) {n : Nat} (hn : 120 ≤ n) : ∃ op' st' en' g' row', P_choices n p cl cp ch op st en g row ul ue uk ui ut ud uv (nI A.2.1) = some (tc [0, 10] (s_choices A p).1, (s_choices A p).2.1, op', st', en', g', row') := by
  obtain ⟨⟨hl, ht, hk, ha⟩, hu, _⟩ := hA
  unfold P_choices s_choices
  rw [c_chkM h, Option.bind_some]
  by_cases pr : qpb A.1 p = true
  · rw [if_pos pr, if_pos pr]
    dsimp only
    obtain ⟨m, hm, rfl, hp⟩ := qpb_t pr
    obtain ⟨g1, o1, f⟩ := q_list hl h hu hc hm (hk.1 m hm) g row (en := 0) (by omega) (n := n) (by omega)
    have f' : O_list n (nI m) 0 g row ul ue uk ui ut ud uv (nI A.2.1) cl cp ch = some (o1, nI 0, nI (0 + ((qL A.1 A.2.1 A.2.2.1 m).take 1001).length), g1, qput c4p row 0 ((qL A.1 A.2.1 A.2.2.1 m).take 1001)) := f
    have l1 : ((qL A.1 A.2.1 A.2.2.1 m).take 1001).length ≤ 1001 := by rw [List.length_take]; exact Nat.min_le_left _ _
    have sb : nI (0 + ((qL A.1 A.2.1 A.2.2.1 m).take 1001).length) - nI 0 = nI ((qL A.1 A.2.1 A.2.2.1 m).take 1001).length := by
      rw [Nat.zero_add, pk_sub (Nat.zero_le _), Nat.sub_zero]
    have mn : (if (1000 : Int32) < nI ((qL A.1 A.2.1 A.2.2.1 m).take 1001).length then (1000 : Int32) else nI ((qL A.1 A.2.1 A.2.2.1 m).take 1001).length) = nI ((qL A.1 A.2.1 A.2.2.1 m).take 1000).length := by
      rw [List.length_take, List.length_take]
      by_cases y : (qL A.1 A.2.1 A.2.2.1 m).length ≤ 1000
      · rw [Nat.min_eq_right (by omega), Nat.min_eq_right (by omega)]
        exact if_neg (fun z => absurd ((nI_ltI (a := 1000) (by decide) (by omega)).mp z) (by omega))
      · rw [Nat.min_eq_left (by omega), Nat.min_eq_left (by omega)]
        rfl
    unfold O_count
    rw [f', Option.bind_some, Option.bind_some]
    dsimp only
    rw [sb, mn, nI_clamp (by omega)]
    exact ⟨_, _, _, _, _, rfl⟩
  · rw [if_neg pr, if_neg pr]
    exact ⟨_, _, _, _, _, rfl⟩
theorem c_at {A : qA} (hA : AI A) {cl cp : Nat → Int32} {ch : Nat → Int64} (h : KC A.1.1 A.1.2.1 A.1.2.2 cl cp ch) (p w : Int32) {n : Nat} (hn : 10 ≤ n) : P_at n p w cl cp ch = some (tc [0, 10, 9] (s_at A p w).1, (s_at A p w).2.1) := by
  obtain ⟨⟨hl, ht, hk, ha⟩, hu, _⟩ := hA
  have e8 : w ≤ (7 : Int32) ↔ w < (8 : Int32) := q_lt_le rfl
  unfold P_at s_at
  rw [c_chkM h, Option.bind_some]
  by_cases pr : qpb A.1 p = true
  · rw [if_pos pr, if_pos pr]
    dsimp only
    rw [c_what, Option.bind_some]
    by_cases ok : 0 ≤ w ∧ w ≤ 7
    · have ok' : 0 ≤ w ∧ w < 8 := ⟨ok.1, e8.mp ok.2⟩
      rw [if_pos ok, if_pos ok']
      dsimp only
      obtain ⟨m, hm, rfl, hp⟩ := qpb_t pr
      obtain ⟨x, hx, rfl⟩ := q_inN (N := 8) (by decide) ok'.1 ok'.2
      rw [nI_clamp (by omega)]
      unfold qaw
      by_cases x5 : x = 5
      · subst x5
        have y5 : nI 5 = (5 : Int32) := rfl
        rw [if_pos y5, if_neg (q_in hm (by omega)), if_pos y5, h.1 m hm]
        rfl
      · have n5 : ¬ nI x = (5 : Int32) := fun v => x5 ((nI_eq (b := 5) (by omega) (by decide)).mp v)
        rw [if_neg n5, if_neg n5]
        by_cases x6 : x = 6
        · subst x6
          have y6 : nI 6 = (6 : Int32) := rfl
          rw [if_pos y6, if_pos y6]
          by_cases m0 : m = 0
          · subst m0
            rfl
          · rw [if_neg (nI_ne0 (by omega) (by omega)), if_neg (q_in hm (by omega)), if_neg m0, h.2.1 m hm]
            unfold qpC
            rw [if_neg m0, if_neg hp]
            rfl
        · have n6 : ¬ nI x = (6 : Int32) := fun v => x6 ((nI_eq (b := 6) (by omega) (by decide)).mp v)
          rw [if_neg n6, if_neg n6]
          by_cases x7 : x = 7
          · subst x7
            have y7 : nI 7 = (7 : Int32) := rfl
            rw [if_pos y7, if_pos y7, q_count6 hl h hm (by omega), Option.bind_some]
            rfl
          · have n7 : ¬ nI x = (7 : Int32) := fun v => x7 ((nI_eq (b := 7) (by omega) (by decide)).mp v)
            rw [if_neg n7, if_neg n7, if_neg (q_in (by omega) (by omega)), h.2.2 m (by omega), q_count (fun k hk5 => by have := hk.1 m hm k hk5; omega) (by omega), Option.bind_some, nI_clamp (by omega)]
            rfl
    · rw [if_neg ok, if_neg (show ¬ (0 ≤ w ∧ w < 8) from fun v => ok ⟨v.1, e8.mpr v.2⟩)]
      rfl
  · rw [if_neg pr, if_neg pr]
    rfl
theorem c_outside {A : qA} (hA : AI A) {cl cp : Nat → Int32} {ch : Nat → Int64} (h : KC A.1.1 A.1.2.1 A.1.2.2 cl cp ch) (k : Int32) (n : Nat) : P_outside n k ch = some (tc [0, 10] (s_outside A k).1, (s_outside A k).2.1) := by
  have hk := hA.1.2.2.1
  unfold P_outside s_outside
  by_cases z : k < 0
  · rw [if_pos z, if_neg (show ¬ (0 ≤ k ∧ k < 5) from fun v => q_nn v.1 z)]
    rfl
  · rw [if_neg z]
    by_cases y : k < (5 : Int32)
    · obtain ⟨x, hx, rfl⟩ := q_inN (N := 5) (by decide) (q_neg z) y
      have z6 : (6 : Int32).toNatClampNeg = 6 := by decide
      rw [if_pos y, if_pos (show 0 ≤ nI x ∧ nI x < 5 from ⟨q_neg z, y⟩), if_neg (by decide), z6, h.2.2 6 (by omega), q_count (fun j hj => by have := hk.2 j hj; omega) hx, Option.bind_some, nI_clamp (by omega)]
      rfl
    · rw [if_neg y, if_neg (show ¬ (0 ≤ k ∧ k < 5) from fun v => y v.2)]
      rfl
theorem c_outcome {A : qA} (hA : AI A) {ol op : Nat → Int32} {oh : Nat → Int64} (i p w : Int32) (h : ∀ s, A.2.2.2[i.toNatClampNeg]? = some s → KC s.1 s.2.1 s.2.2 ol op oh) (n : Nat) : P_outcome n i p w ol oh (nI A.2.2.2.length) = some (tc [0, 10, 9] (s_outcome A i p w).1, (s_outcome A i p w).2.1) := by
  have h40 := hA.2.2.2
  have e11 : w ≤ (10 : Int32) ↔ w < (11 : Int32) := q_lt_le rfl
  have e6 : w ≤ (5 : Int32) ↔ w < (6 : Int32) := q_lt_le rfl
  unfold P_outcome s_outcome
  rw [c_chkO, Option.bind_some]
  by_cases ob : qob A i = true
  · rw [if_pos ob]
    dsimp only
    by_cases p0 : p < 0
    · rw [if_pos p0, if_neg (show ¬ (qob A i = true ∧ 0 ≤ p ∧ p < 6) from fun v => q_nn v.2.1 p0)]
      rfl
    · rw [if_neg p0]
      by_cases p6 : p < (6 : Int32)
      · rw [if_pos p6, if_pos (show qob A i = true ∧ 0 ≤ p ∧ p < 6 from ⟨ob, q_neg p0, p6⟩), c_what, Option.bind_some]
        by_cases ok : 0 ≤ w ∧ w ≤ 10
        · have ok' : 0 ≤ w ∧ w < 11 := ⟨ok.1, e11.mp ok.2⟩
          rw [if_pos ok, if_pos ok']
          dsimp only
          obtain ⟨j, s, hj, rfl, gs⟩ := qob_t h40 ob
          obtain ⟨m, hm, rfl⟩ := q_i6 (q_neg p0) p6
          obtain ⟨x, hx, rfl⟩ := q_inN (N := 11) (by decide) ok'.1 ok'.2
          rw [nI_clamp (by omega)] at h
          have kc := h s gs
          have ks := hA.2.2.1 s (List.mem_of_getElem? gs)
          have kk := ks.2.2.1
          rw [nI_clamp (by omega), if_neg (q_in (by omega) (by omega)), gs, nI_clamp (by omega)]
          dsimp only
          unfold qov
          by_cases x5 : x ≤ 5
          · have l5 : nI x ≤ (5 : Int32) := nI_le (b := 5) x5 (by decide)
            rw [if_pos (e6.mp l5), if_pos l5]
            by_cases xe : x = 5
            · subst xe
              have y5 : nI 5 = (5 : Int32) := rfl
              rw [if_pos y5, if_neg (q_in hm (by omega)), if_pos y5, kc.1 m hm]
              by_cases ab : s.1 m = -1
              · rw [if_pos ab, ab]; rfl
              · rw [if_neg ab]; rfl
            · have n5 : ¬ nI x = (5 : Int32) := fun v => xe ((nI_eq (b := 5) (by omega) (by decide)).mp v)
              rw [if_neg n5, q_has kc hm, Option.bind_some, if_neg n5]
              by_cases ab : s.1 m = -1
              · rw [decide_eq_false (fun v => v ab), if_pos qb_f, if_neg (q_in hm (by omega)), if_pos ab, kc.1 m hm, ab]
                rfl
              · rw [decide_eq_true ab, if_neg qb_t, if_neg (q_in (by omega) (by omega)), if_neg ab, kc.2.2 m (by omega), q_count (fun k hk5 => by have := kk.1 m hm k hk5; omega) (by omega), Option.bind_some, nI_clamp (by omega)]
                rfl
          · have l5 : ¬ nI x ≤ (5 : Int32) := nI_ge (a := 5) (by omega) (by omega)
            have z6 : (6 : Int32).toNatClampNeg = 6 := by decide
            have sb : nI x - (6 : Int32) = nI (x - 6) := pk_sub (b := 6) (by omega)
            rw [if_neg (fun v => l5 (e6.mpr v)), if_neg l5, if_neg (by decide), z6, sb, kc.2.2 6 (by omega), q_count (fun k hk5 => by have := kk.2 k hk5; omega) (by omega), Option.bind_some, nI_clamp (by omega)]
            rfl
        · rw [if_neg ok, if_neg (show ¬ (0 ≤ w ∧ w < 11) from fun v => ok ⟨v.1, e11.mpr v.2⟩)]
          rfl
      · rw [if_neg p6, if_neg (show ¬ (qob A i = true ∧ 0 ≤ p ∧ p < 6) from fun v => p6 v.2.2)]
        rfl
  · rw [if_neg ob, if_neg (show ¬ (qob A i = true ∧ 0 ≤ p ∧ p < 6) from fun v => ob v.1)]
    rfl
theorem c_copy {s : qC} {ol op : Nat → Int32} {oh : Nat → Int64} (h : KC s.1 s.2.1 s.2.2 ol op oh) (cl cp : Nat → Int32) (ch : Nat → Int64) (n : Nat) : ∃ cl' cp' ch', K_copy n cl cp ch ol op oh = some (cl', cp', ch') ∧ KC s.1 s.2.1 s.2.2 cl' cp' ch' := by
  have z0 : (0 : Int32).toNatClampNeg = 0 := by decide
  have z6 : (6 : Int32).toNatClampNeg = 6 := by decide
  have z7 : (7 : Int32).toNatClampNeg = 7 := by decide
  have cI : ∀ (f g : Nat → Int32) (j : Nat), j < 6 → eCpy f g 0 0 6 j = f j := fun f g j hj => by
    unfold eCpy
    rw [if_pos ⟨by omega, by omega⟩, Nat.zero_add, Nat.sub_zero]
  have cJ : ∀ (f g : Nat → Int64) (j : Nat), j < 7 → eCpy f g 0 0 7 j = f j := fun f g j hj => by
    unfold eCpy
    rw [if_pos ⟨by omega, by omega⟩, Nat.zero_add, Nat.sub_zero]
  refine ⟨eCpy ol cl 0 0 6, eCpy op cp 0 0 6, eCpy oh ch 0 0 7, ?_, fun m hm => ?_, fun m hm => ?_, fun m hm => ?_⟩
  · unfold K_copy
    rw [z0, z6, z7]
  · rw [cI _ _ m hm]; exact h.1 m hm
  · rw [cI _ _ m hm]; exact h.2.1 m hm
  · rw [cJ _ _ m hm]; exact h.2.2 m hm
theorem c_adopt {A : qA} (hA : AI A) {cl cp : Nat → Int32} {ch : Nat → Int64} (h : KC A.1.1 A.1.2.1 A.1.2.2 cl cp ch) {ol op : Nat → Int32} {oh : Nat → Int64} (i : Int32) (ho : ∀ s, A.2.2.2[i.toNatClampNeg]? = some s → KC s.1 s.2.1 s.2.2 ol op oh) (n : Nat) : ∃ cl' cp' ch', P_adopt n i cl cp ch ol op oh (nI A.2.2.2.length) = some (tc [0, 10] (s_adopt A i).1, cl', cp', ch') ∧ KC (s_adopt A i).2.2.1.1 (s_adopt A i).2.2.1.2.1 (s_adopt A i).2.2.1.2.2 cl' cp' ch' := by
  have h40 := hA.2.2.2
  unfold P_adopt s_adopt
  rw [c_chkO, Option.bind_some]
  by_cases ob : qob A i = true
  · rw [if_pos ob, if_pos ob]
    dsimp only
    obtain ⟨j, s, hj, rfl, gs⟩ := qob_t h40 ob
    rw [nI_clamp (by omega)] at ho ⊢
    obtain ⟨cl', cp', ch', f1, f2⟩ := c_copy (ho s gs) cl cp ch n
    rw [if_neg (q_in (by omega) (by omega)), f1, Option.bind_some, gs]
    exact ⟨cl', cp', ch', rfl, f2⟩
  · rw [if_neg ob, if_neg ob]
    exact ⟨cl, cp, ch, rfl, h⟩

def cRow (ru : Nat → Nat → Nat) (i : Nat) (l : Int32) (e k h o t : Int64) (tl d v : Int32) (x : Int64) : Prop :=
  l = nI (ru i 0) ∧ e = qh (qf (ru i 1)) ∧ k = qh (qk (qf (ru i 1))) ∧ h = qh (qf (ru i 2)) ∧ o = qh (qf (ru i 3)) ∧ t = qh (qf (ru i 4)) ∧ (¬ ru i 4 = 0 → tl = nI (ru i 5)) ∧ d = qb (decide (ru i 6 = 1)) ∧ v = qb (decide (ru i 6 = 2)) ∧ (ru i 6 = 2 → x = qh (qf (ru i 7)))
theorem c_rule {A : qA} (hA : AI A) (l a b c : Int32) (rn rl : Int32) (re rk rh ro ri : Int64) (rt rd rv : Int32) (rx : Int64) (hr : ¬ A.2.1 = 6 → rn = nI A.2.1) {n : Nat} (hn : 10 ≤ n) : ∃ rl' re' rk' rh' ro' ri' rt' rd' rv' rx', P_rule n l a b c rn rl re rk rh ro ri rt rd rv rx (nI A.2.1) = some (tc [0, 9, 11] (s_rule A l a b c).1, (s_rule A l a b c).2.1, rl', re', rk', rh', ro', ri', rt', rd', rv', rx', nI (s_rule A l a b c).2.2.2.1) ∧ ((s_rule A l a b c).1 = 0 → ¬ A.2.1 = 6 ∧ (s_rule A l a b c).2.2.2.1 = A.2.1 + 1 ∧ cRow (s_rule A l a b c).2.2.2.2.1 A.2.1 rl' re' rk' rh' ro' ri' rt' rd' rv' rx') ∧ (¬ (s_rule A l a b c).1 = 0 → rl' = rl ∧ re' = re ∧ rk' = rk ∧ rh' = rh ∧ ro' = ro ∧ ri' = ri ∧ rt' = rt ∧ rd' = rd ∧ rv' = rv ∧ rx' = rx) := by
  have hu := hA.2.1
  have c6 := hu.1
  have bad : ¬ (qlb l = true ∧ qhb a = true ∧ ¬ a = 0 ∧ qhb b = true ∧ qhb c = true) → s_rule A l a b c = (1, 0, A) := fun w => if_neg w
  have fin : s_rule A l a b c = (1, 0, A) → ∃ rl' re' rk' rh' ro' ri' rt' rd' rv' rx', (some (9, (0, rl, re, rk, rh, ro, ri, rt, rd, rv, rx, nI A.2.1)) : Option (Nat × (Int32 × Int32 × Int64 × Int64 × Int64 × Int64 × Int64 × Int32 × Int32 × Int32 × Int64 × Int32))) = some (tc [0, 9, 11] (s_rule A l a b c).1, (s_rule A l a b c).2.1, rl', re', rk', rh', ro', ri', rt', rd', rv', rx', nI (s_rule A l a b c).2.2.2.1) ∧ ((s_rule A l a b c).1 = 0 → ¬ A.2.1 = 6 ∧ (s_rule A l a b c).2.2.2.1 = A.2.1 + 1 ∧ cRow (s_rule A l a b c).2.2.2.2.1 A.2.1 rl' re' rk' rh' ro' ri' rt' rd' rv' rx') ∧ (¬ (s_rule A l a b c).1 = 0 → rl' = rl ∧ re' = re ∧ rk' = rk ∧ rh' = rh ∧ ro' = ro ∧ ri' = ri ∧ rt' = rt ∧ rd' = rd ∧ rv' = rv ∧ rx' = rx) := fun e => by
    rw [e]
    exact ⟨rl, re, rk, rh, ro, ri, rt, rd, rv, rx, rfl, fun z => absurd z (show ¬ 1 = 0 by decide), fun _ => ⟨rfl, rfl, rfl, rfl, rfl, rfl, rfl, rfl, rfl, rfl⟩⟩
  unfold P_rule
  rw [c_label, Option.bind_some]
  by_cases lb : qlb l = true
  · rw [if_pos lb]
    dsimp only
    rw [c_handful, Option.bind_some]
    by_cases ha : qhb a = true
    · rw [if_pos ha]
      dsimp only
      rw [c_handful, Option.bind_some]
      by_cases hb : qhb b = true
      · rw [if_pos hb]
        dsimp only
        rw [c_handful, Option.bind_some]
        by_cases hc : qhb c = true
        · rw [if_pos hc]
          dsimp only
          rw [c_empty, Option.bind_some]
          by_cases a0 : a = 0
          · rw [if_pos a0]
            exact fin (bad fun w => w.2.2.1 a0)
          · rw [if_neg a0]
            dsimp only
            have ok : qlb l = true ∧ qhb a = true ∧ ¬ a = 0 ∧ qhb b = true ∧ qhb c = true := ⟨lb, ha, a0, hb, hc⟩
            have e : s_rule A l a b c = if A.2.1 = 6 then (2, 0, A) else (0, nI A.2.1, (A.1, A.2.1 + 1, qnew A.2.2.1 A.2.1 l.toNatClampNeg a.toNatClampNeg b.toNatClampNeg c.toNatClampNeg, A.2.2.2)) := if_pos ok
            by_cases f : A.2.1 = 6
            · have y6 : nI A.2.1 = (6 : Int32) := by rw [f]; rfl
              rw [if_pos y6, e, if_pos f]
              exact ⟨rl, re, rk, rh, ro, ri, rt, rd, rv, rx, rfl, fun z => absurd z (show ¬ 2 = 0 by decide), fun _ => ⟨rfl, rfl, rfl, rfl, rfl, rfl, rfl, rfl, rfl, rfl⟩⟩
            · have n6 : ¬ nI A.2.1 = (6 : Int32) := fun w => f ((nI_eq (b := 6) (by omega) (by decide)).mp w)
              obtain ⟨l', hl', rfl⟩ := qlb_t lb
              obtain ⟨a', ha', rfl⟩ := qhb_t ha
              obtain ⟨b', hb', rfl⟩ := qhb_t hb
              obtain ⟨c', hc', rfl⟩ := qhb_t hc
              rw [if_neg n6, e, if_neg f, q_ofH (by omega) (by omega), Option.bind_some, q_ofH (by omega) (by omega), Option.bind_some, q_ofH (by omega) (by omega), Option.bind_some]
              unfold B_add
              rw [nI_clamp (by omega), if_neg (q_in (by omega) (by omega)), q_kinds qf_4 (by omega), Option.bind_some, if_neg (by decide), if_neg (by decide), Option.bind_some, hr f, nI_1, nI_clamp (by omega), nI_clamp (by omega), nI_clamp (by omega), nI_clamp (by omega)]
              refine ⟨_, _, _, _, _, _, _, _, _, _, rfl, fun _ => ⟨f, rfl, ?_⟩, fun z => absurd rfl z⟩
              show cRow (qnew A.2.2.1 A.2.1 l' a' b' c') A.2.1 _ _ _ _ _ _ _ _ _ _
              unfold cRow qnew
              rw [q_up]
              refine ⟨rfl, rfl, rfl, rfl, rfl, ?_, fun w => absurd rfl w, rfl, rfl, fun w => absurd w (show ¬ 0 = 2 by decide)⟩
              exact ((qf_eq0 (h := 0) (by decide)).mpr rfl).symm
        · rw [if_neg hc]
          exact fin (bad fun w => hc w.2.2.2.2)
      · rw [if_neg hb]
        exact fin (bad fun w => hb w.2.2.2.1)
    · rw [if_neg ha]
      exact fin (bad fun w => ha w.2.1)
  · rw [if_neg lb]
    exact fin (bad fun w => lb w.1)
theorem c_into {A : qA} (hA : AI A) (r l hh : Int32) (ri : Int64) (rt : Int32) {n : Nat} (hn : 10 ≤ n) : ∃ ri' rt', P_into n r l hh ri rt (nI A.2.1) = some (tc [0, 10, 9] (s_into A r l hh).1, ri', rt') ∧ ((s_into A r l hh).1 = 0 → ri' = qh (qf hh.toNatClampNeg) ∧ rt' = nI l.toNatClampNeg) ∧ (¬ (s_into A r l hh).1 = 0 → ri' = ri ∧ rt' = rt) := by
  have hu := hA.2.1
  have c6 := hu.1
  unfold P_into s_into
  rw [c_chkR, Option.bind_some]
  by_cases pr : qrb A r = true
  · rw [if_pos pr, if_pos pr]
    dsimp only
    rw [c_label, Option.bind_some]
    by_cases lb : qlb l = true
    · rw [if_pos lb]
      dsimp only
      rw [c_handful, Option.bind_some]
      by_cases hb : qhb hh = true
      · rw [if_pos hb]
        dsimp only
        rw [c_empty, Option.bind_some]
        by_cases h0 : hh = 0
        · rw [if_pos h0, if_neg (show ¬ (qlb l = true ∧ qhb hh = true ∧ ¬ hh = 0) from fun w => w.2.2 h0)]
          exact ⟨ri, rt, rfl, fun z => absurd z (show ¬ 2 = 0 by decide), fun _ => ⟨rfl, rfl⟩⟩
        · obtain ⟨i, hi, rfl⟩ := qrb_t hu pr
          obtain ⟨l', hl', rfl⟩ := qlb_t lb
          obtain ⟨x, hx, rfl⟩ := qhb_t hb
          rw [if_neg h0, if_pos (show qlb (nI l') = true ∧ qhb (nI x) = true ∧ ¬ nI x = 0 from ⟨lb, hb, h0⟩)]
          dsimp only
          rw [nI_clamp (by omega), if_neg (q_in (by omega) (by omega)), q_ofH (by omega) (by omega), Option.bind_some, if_neg (q_in (by omega) (by omega)), nI_clamp (by omega), nI_clamp (by omega)]
          exact ⟨_, _, rfl, fun _ => ⟨rfl, rfl⟩, fun z => absurd rfl z⟩
      · rw [if_neg hb, if_neg (show ¬ (qlb l = true ∧ qhb hh = true ∧ ¬ hh = 0) from fun w => hb w.2.1)]
        exact ⟨ri, rt, rfl, fun z => absurd z (show ¬ 2 = 0 by decide), fun _ => ⟨rfl, rfl⟩⟩
    · rw [if_neg lb, if_neg (show ¬ (qlb l = true ∧ qhb hh = true ∧ ¬ hh = 0) from fun w => lb w.1)]
      exact ⟨ri, rt, rfl, fun z => absurd z (show ¬ 2 = 0 by decide), fun _ => ⟨rfl, rfl⟩⟩
  · rw [if_neg pr, if_neg pr]
    exact ⟨ri, rt, rfl, fun z => absurd z (show ¬ 1 = 0 by decide), fun _ => ⟨rfl, rfl⟩⟩
theorem c_dissolve {A : qA} (hA : AI A) (r : Int32) (rd rv : Int32) (hr : qrb A r = true → rd = qb (decide (A.2.2.1 r.toNatClampNeg 6 = 1)) ∧ rv = qb (decide (A.2.2.1 r.toNatClampNeg 6 = 2))) (n : Nat) : ∃ rd', P_dissolve n r rd rv (nI A.2.1) = some (tc [0, 10, 11] (s_dissolve A r).1, rd') ∧ ((s_dissolve A r).1 = 0 → rd' = 1) ∧ (¬ (s_dissolve A r).1 = 0 → rd' = rd) := by
  have hu := hA.2.1
  have c6 := hu.1
  unfold P_dissolve s_dissolve
  rw [c_chkR, Option.bind_some]
  by_cases pr : qrb A r = true
  · rw [if_pos pr, if_pos pr]
    dsimp only
    obtain ⟨e1, e2⟩ := hr pr
    obtain ⟨i, hi, rfl⟩ := qrb_t hu pr
    rw [nI_clamp (by omega)] at e1 e2 ⊢
    have b7 := (hu.2 i hi).2.2.2.2.2.2.2.1
    rw [e1, e2, c_chkE (by omega) b7, Option.bind_some]
    by_cases z : A.2.2.1 i 6 = 0
    · rw [if_pos z, if_pos z]
      dsimp only
      rw [if_neg (q_in (by omega) (by omega)), if_neg (by decide)]
      exact ⟨1, rfl, fun _ => rfl, fun w => absurd rfl w⟩
    · rw [if_neg z, if_neg z]
      exact ⟨_, rfl, fun w => absurd w (show ¬ 2 = 0 by decide), fun _ => rfl⟩
  · rw [if_neg pr, if_neg pr]
    exact ⟨rd, rfl, fun z => absurd z (show ¬ 1 = 0 by decide), fun _ => rfl⟩
theorem c_divide {A : qA} (hA : AI A) (r o : Int32) (rd rv : Int32) (rx : Int64) (hr : qrb A r = true → rd = qb (decide (A.2.2.1 r.toNatClampNeg 6 = 1)) ∧ rv = qb (decide (A.2.2.1 r.toNatClampNeg 6 = 2))) {n : Nat} (hn : 10 ≤ n) : ∃ rv' rx', P_divide n r o rd rv rx (nI A.2.1) = some (tc [0, 10, 9, 11] (s_divide A r o).1, rv', rx') ∧ ((s_divide A r o).1 = 0 → rv' = 1 ∧ rx' = qh (qf o.toNatClampNeg)) ∧ (¬ (s_divide A r o).1 = 0 → rv' = rv ∧ rx' = rx) := by
  have hu := hA.2.1
  have c6 := hu.1
  unfold P_divide s_divide
  rw [c_chkR, Option.bind_some]
  by_cases pr : qrb A r = true
  · rw [if_pos pr, if_pos pr]
    dsimp only
    rw [c_handful, Option.bind_some]
    by_cases hb : qhb o = true
    · rw [if_pos hb, if_pos hb]
      dsimp only
      obtain ⟨e1, e2⟩ := hr pr
      obtain ⟨i, hi, rfl⟩ := qrb_t hu pr
      obtain ⟨x, hx, rfl⟩ := qhb_t hb
      rw [nI_clamp (by omega)] at e1 e2 ⊢
      have b7 := (hu.2 i hi).2.2.2.2.2.2.2.1
      rw [e1, e2, c_chkE (by omega) b7, Option.bind_some]
      by_cases z : A.2.2.1 i 6 = 0
      · rw [if_pos z, if_pos z]
        dsimp only
        rw [if_neg (q_in (by omega) (by omega)), if_neg (by decide), q_ofH (by omega) (by omega), Option.bind_some, if_neg (q_in (by omega) (by omega)), nI_clamp (by omega)]
        exact ⟨_, _, rfl, fun _ => ⟨rfl, rfl⟩, fun w => absurd rfl w⟩
      · rw [if_neg z, if_neg z]
        exact ⟨_, _, rfl, fun w => absurd w (show ¬ 3 = 0 by decide), fun _ => ⟨rfl, rfl⟩⟩
    · rw [if_neg hb, if_neg hb]
      exact ⟨_, _, rfl, fun w => absurd w (show ¬ 2 = 0 by decide), fun _ => ⟨rfl, rfl⟩⟩
  · rw [if_neg pr, if_neg pr]
    exact ⟨_, _, rfl, fun w => absurd w (show ¬ 1 = 0 by decide), fun _ => ⟨rfl, rfl⟩⟩

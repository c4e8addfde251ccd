def qlb (l : Int32) : Bool := decide (0 ≤ l ∧ l < 4)
theorem qlb_t {l : Int32} (w : qlb l = true) : ∃ x, x < 4 ∧ l = nI x := by
  have v := decide_eq_true_iff.mp w
  exact q_inN (N := 4) (by decide) v.1 v.2
def qnew (ru : Nat → Nat → Nat) (cnt l a b c : Nat) : Nat → Nat → Nat := eUp ru cnt fun f => if f = 0 then l else if f = 1 then a else if f = 2 then b else if f = 3 then c else 0
def s_rule (A : qA) (l a b c : Int32) : Nat × Int32 × qA :=
  if qlb l = true ∧ qhb a = true ∧ ¬ a = 0 ∧ qhb b = true ∧ qhb c = true then (if A.2.1 = 6 then (2, 0, A) else (0, nI A.2.1, (A.1, A.2.1 + 1, qnew A.2.2.1 A.2.1 l.toNatClampNeg a.toNatClampNeg b.toNatClampNeg c.toNatClampNeg, A.2.2.2))) else (1, 0, A)
theorem UL_new {cnt : Nat} {ru : Nat → Nat → Nat} (hu : UL cnt ru) (h6 : cnt < 6) {l a b c : Nat} (hl : l < 4) (ha : a < 1024) (ha0 : 0 < a) (hb : b < 1024) (hc : c < 1024) : UL (cnt + 1) (qnew ru cnt l a b c) := by
  refine ⟨by omega, fun i hi => ?_⟩
  unfold qnew
  by_cases e : i = cnt
  · subst e
    rw [q_up]
    exact ⟨hl, ha0, ha, hb, hc, show 0 < 1024 by decide, show 0 < 4 by decide, show 0 ≤ 2 by decide, show 0 < 1024 by decide⟩
  · rw [q_un e]
    exact hu.2 i (by omega)
theorem r_rule {A : qA} (hA : AI A) {rules : Int32} {ml me mh mo mi mt ma mx cells : Nat → Int32} {found : Int32} (h : RM A rules ml me mh mo mi mt ma mx cells found) (l a b c code : Int32) (n : Nat) : ∃ rules' ml' me' mh' mo' mi' ma', M_rule n l a b c code rules ml me mh mo mi ma = some ((s_rule A l a b c).2.1, nI (s_rule A l a b c).1, rules', ml', me', mh', mo', mi', ma') ∧ RM (s_rule A l a b c).2.2 rules' ml' me' mh' mo' mi' mt ma' mx cells found := by
  have same := h
  obtain ⟨h1, h2, h3, h4, h5⟩ := h
  obtain ⟨_, hu, _⟩ := hA
  have c6 := hu.1
  have bad : M_rule_36 l a b c n code rules ml me mh mo mi ma = some (0, 1, rules, ml, me, mh, mo, mi, ma) := by
    unfold M_rule_36 M_rule_54
    rw [if_neg (by decide)]
  have fin : ¬ (qlb l = true ∧ qhb a = true ∧ ¬ a = 0 ∧ qhb b = true ∧ qhb c = true) → ∃ rules' ml' me' mh' mo' mi' ma', M_rule_36 l a b c n code rules ml me mh mo mi ma = some ((s_rule A l a b c).2.1, nI (s_rule A l a b c).1, rules', ml', me', mh', mo', mi', ma') ∧ RM (s_rule A l a b c).2.2 rules' ml' me' mh' mo' mi' mt ma' mx cells found := fun w => by
    have e : s_rule A l a b c = (1, 0, A) := if_neg w
    rw [bad, e]
    exact ⟨rules, ml, me, mh, mo, mi, ma, rfl, same⟩
  unfold M_rule
  by_cases z : l < 0
  · rw [if_pos z]
    exact fin fun w => q_nn (decide_eq_true_iff.mp w.1).1 z
  · rw [if_neg z]
    by_cases y : (3 : Int32) < l
    · rw [if_pos y]
      exact fin fun w => q_ng (q_lab3.mpr (decide_eq_true_iff.mp w.1).2) y
    · have lb : qlb l = true := decide_eq_true ⟨q_neg z, q_lab3.mp (q_ge y)⟩
      rw [if_neg y, q_noHandful, Option.bind_some]
      by_cases ha : qhb a = true
      · rw [ha, if_pos (show qb (!true) = 0 by decide)]
        by_cases a0 : a = 0
        · rw [if_pos a0]
          exact fin fun w => w.2.2.1 a0
        · rw [if_neg a0, q_noHandful, Option.bind_some]
          by_cases hb : qhb b = true
          · rw [hb, if_pos (show qb (!true) = 0 by decide), q_noHandful, Option.bind_some]
            by_cases hc : qhb c = true
            · rw [hc, if_pos (show qb (!true) = 0 by decide)]
              have ok : qlb l = true ∧ qhb a = true ∧ ¬ a = 0 ∧ qhb b = true ∧ qhb c = true := ⟨lb, ha, a0, hb, hc⟩
              have e : s_rule A l a b c = if A.2.1 = 6 then (2, 0, A) else (0, nI A.2.1, (A.1, A.2.1 + 1, qnew A.2.2.1 A.2.1 l.toNatClampNeg a.toNatClampNeg b.toNatClampNeg c.toNatClampNeg, A.2.2.2)) := if_pos ok
              rw [e]
              by_cases f : A.2.1 = 6
              · rw [if_pos f, if_pos (show rules = (6 : Int32) by rw [h1, f]; rfl)]
                unfold M_rule_54
                rw [if_neg (by decide)]
                exact ⟨rules, ml, me, mh, mo, mi, ma, rfl, same⟩
              · have r6 : ¬ rules = (6 : Int32) := fun w => f ((nI_eq (b := 6) (by omega) (by decide)).mp (h1 ▸ w))
                obtain ⟨l', hl', rfl⟩ := qlb_t lb
                obtain ⟨a', ha', rfl⟩ := qhb_t ha
                obtain ⟨b', hb', rfl⟩ := qhb_t hb
                obtain ⟨c', hc', rfl⟩ := qhb_t hc
                have a0' : 0 < a' := Nat.pos_of_ne_zero fun w => a0 (by rw [w]; rfl)
                rw [if_neg f, if_neg r6]
                unfold M_rule_54
                have sb : nI A.2.1 + 1 - 1 = nI A.2.1 := by
                  rw [nI_1]
                  exact pk_sub (b := 1) (by omega)
                rw [if_pos (by decide), h1, nI_clamp (by omega), if_neg (q_in (by omega) (by omega)), if_neg (q_in (by omega) (by omega)), if_neg (q_in (by omega) (by omega)), if_neg (q_in (by omega) (by omega)), if_neg (q_in (by omega) (by omega)), if_neg (q_in (by omega) (by omega)), sb, nI_1, nI_clamp (by omega), nI_clamp (by omega), nI_clamp (by omega), nI_clamp (by omega)]
                refine ⟨_, _, _, _, _, _, _, rfl, rfl, fun i hi => ?_, h3, h4, h5⟩
                show _ = nI (qnew A.2.2.1 A.2.1 l' a' b' c' i 0) ∧ _ = nI (qnew A.2.2.1 A.2.1 l' a' b' c' i 1) ∧ _ = nI (qnew A.2.2.1 A.2.1 l' a' b' c' i 2) ∧ _ = nI (qnew A.2.2.1 A.2.1 l' a' b' c' i 3) ∧ _ = nI (qnew A.2.2.1 A.2.1 l' a' b' c' i 4) ∧ (¬ qnew A.2.2.1 A.2.1 l' a' b' c' i 4 = 0 → _ = nI (qnew A.2.2.1 A.2.1 l' a' b' c' i 5)) ∧ _ = nI (qnew A.2.2.1 A.2.1 l' a' b' c' i 6) ∧ (qnew A.2.2.1 A.2.1 l' a' b' c' i 6 = 2 → _ = nI (qnew A.2.2.1 A.2.1 l' a' b' c' i 7))
                unfold qnew
                by_cases ic : i = A.2.1
                · subst ic
                  rw [q_up, q_up, q_up, q_up, q_up, q_up, q_up]
                  exact ⟨rfl, rfl, rfl, rfl, rfl, fun w => absurd rfl w, rfl, fun w => absurd w (show ¬ 0 = 2 by decide)⟩
                · have i' : i < A.2.1 := by
                    have : i < A.2.1 + 1 := hi
                    omega
                  rw [q_un ic, q_un ic, q_un ic, q_un ic, q_un ic, q_un ic, q_un ic]
                  exact h2 i i'
            · rw [Bool.eq_false_iff.mpr hc, if_neg (show ¬ qb (!false) = 0 by decide)]
              exact fin fun w => hc w.2.2.2.2
          · rw [Bool.eq_false_iff.mpr hb, if_neg (show ¬ qb (!false) = 0 by decide)]
            exact fin fun w => hb w.2.2.2.1
      · rw [Bool.eq_false_iff.mpr ha, if_neg (show ¬ qb (!false) = 0 by decide)]
        exact fin fun w => ha w.2.1
def qrb (A : qA) (r : Int32) : Bool := decide (0 ≤ r ∧ r < nI A.2.1)
theorem qrb_t {A : qA} (hu : UL A.2.1 A.2.2.1) {r : Int32} (w : qrb A r = true) : ∃ i, i < A.2.1 ∧ r = nI i := by
  have v := decide_eq_true_iff.mp w
  have := hu.1
  exact q_inN (N := A.2.1) (by omega) v.1 v.2
theorem q_noRule (A : qA) (r : Int32) (n : Nat) : M_noRule n r (nI A.2.1) = some (qb (!qrb A r)) := by
  unfold M_noRule
  by_cases z : r < 0
  · have : qrb A r = false := decide_eq_false (fun w => q_nn w.1 z)
    rw [if_pos z, this]
    rfl
  · rw [if_neg z]
    by_cases y : r < nI A.2.1
    · have : qrb A r = true := decide_eq_true ⟨q_neg z, y⟩
      rw [if_pos y, this]
      rfl
    · have : qrb A r = false := decide_eq_false (fun w => y w.2)
      rw [if_neg y, this]
      rfl
def s_into (A : qA) (r l h : Int32) : Nat × Int32 × qA :=
  if qrb A r = true then (if qlb l = true ∧ qhb h = true ∧ ¬ h = 0 then (0, 0, (A.1, A.2.1, eUp A.2.2.1 r.toNatClampNeg (eUp (eUp (A.2.2.1 r.toNatClampNeg) 4 h.toNatClampNeg) 5 l.toNatClampNeg), A.2.2.2)) else (2, 0, A)) else (1, 0, A)
theorem r_into {A : qA} (hA : AI A) {rules : Int32} {ml me mh mo mi mt ma mx cells : Nat → Int32} {found : Int32} (h : RM A rules ml me mh mo mi mt ma mx cells found) (r l hh code : Int32) (n : Nat) : ∃ mi' mt', M_into n r l hh code rules mi mt = some (nI (s_into A r l hh).1, mi', mt') ∧ RM (s_into A r l hh).2.2 rules ml me mh mo mi' mt' ma mx cells found := by
  have same := h
  obtain ⟨h1, h2, h3, h4, h5⟩ := h
  obtain ⟨_, hu, _⟩ := hA
  have c6 := hu.1
  have bad : M_into_33 r l hh n code mi mt = some (2, mi, mt) := by
    unfold M_into_33 M_into_38
    rw [if_neg (by decide)]
  unfold M_into s_into
  rw [h1, q_noRule A r n, Option.bind_some]
  by_cases pr : qrb A r = true
  · rw [if_pos pr, pr, if_pos (show qb (!true) = 0 by decide)]
    have fin : ¬ (qlb l = true ∧ qhb hh = true ∧ ¬ hh = 0) → ∃ mi' mt', M_into_33 r l hh n code mi mt = some (nI (if qlb l = true ∧ qhb hh = true ∧ ¬ hh = 0 then ((0 : Nat), (0 : Int32), ((A.1, A.2.1, eUp A.2.2.1 r.toNatClampNeg (eUp (eUp (A.2.2.1 r.toNatClampNeg) 4 hh.toNatClampNeg) 5 l.toNatClampNeg), A.2.2.2) : qA)) else (2, 0, A)).1, mi', mt') ∧ RM (if qlb l = true ∧ qhb hh = true ∧ ¬ hh = 0 then ((0 : Nat), (0 : Int32), ((A.1, A.2.1, eUp A.2.2.1 r.toNatClampNeg (eUp (eUp (A.2.2.1 r.toNatClampNeg) 4 hh.toNatClampNeg) 5 l.toNatClampNeg), A.2.2.2) : qA)) else (2, 0, A)).2.2 (nI A.2.1) ml me mh mo mi' mt' ma mx cells found := fun w => by
      rw [if_neg w, bad]
      exact ⟨mi, mt, rfl, h1 ▸ same⟩
    by_cases z : l < 0
    · rw [if_pos z]
      exact fin fun w => q_nn (decide_eq_true_iff.mp w.1).1 z
    · rw [if_neg z]
      by_cases y : (3 : Int32) < l
      · rw [if_pos y]
        exact fin fun w => q_ng (q_lab3.mpr (decide_eq_true_iff.mp w.1).2) y
      · have lb : qlb l = true := decide_eq_true ⟨q_neg z, q_lab3.mp (q_ge y)⟩
        rw [if_neg y, q_noHandful, Option.bind_some]
        by_cases ha : qhb hh = true
        · rw [ha, if_pos (show qb (!true) = 0 by decide)]
          by_cases a0 : hh = 0
          · rw [if_pos a0]
            have := fin fun w => w.2.2 a0
            rw [ha] at this
            exact this
          · obtain ⟨i, hi, rfl⟩ := qrb_t hu pr
            obtain ⟨l', hl', rfl⟩ := qlb_t lb
            obtain ⟨x, hx, rfl⟩ := qhb_t ha
            rw [if_neg a0, if_pos ⟨lb, rfl, a0⟩]
            unfold M_into_38
            rw [if_pos (by decide), nI_clamp (by omega), if_neg (q_in (by omega) (by omega)), if_neg (q_in (by omega) (by omega)), nI_clamp (by omega), nI_clamp (by omega)]
            refine ⟨_, _, rfl, rfl, fun j hj => ?_, h3, h4, h5⟩
            obtain ⟨c1, c2, c3, c4, c5, cc6, c7, c8⟩ := h2 j hj
            by_cases ji : j = i
            · subst ji
              show _ = nI (eUp A.2.2.1 j (eUp (eUp (A.2.2.1 j) 4 x) 5 l') j 0) ∧ _ = nI (eUp A.2.2.1 j (eUp (eUp (A.2.2.1 j) 4 x) 5 l') j 1) ∧ _ = nI (eUp A.2.2.1 j (eUp (eUp (A.2.2.1 j) 4 x) 5 l') j 2) ∧ _ = nI (eUp A.2.2.1 j (eUp (eUp (A.2.2.1 j) 4 x) 5 l') j 3) ∧ _ = nI (eUp A.2.2.1 j (eUp (eUp (A.2.2.1 j) 4 x) 5 l') j 4) ∧ (¬ eUp A.2.2.1 j (eUp (eUp (A.2.2.1 j) 4 x) 5 l') j 4 = 0 → _ = nI (eUp A.2.2.1 j (eUp (eUp (A.2.2.1 j) 4 x) 5 l') j 5)) ∧ _ = nI (eUp A.2.2.1 j (eUp (eUp (A.2.2.1 j) 4 x) 5 l') j 6) ∧ (eUp A.2.2.1 j (eUp (eUp (A.2.2.1 j) 4 x) 5 l') j 6 = 2 → _ = nI (eUp A.2.2.1 j (eUp (eUp (A.2.2.1 j) 4 x) 5 l') j 7))
              rw [q_up, q_up, q_up]
              exact ⟨c1, c2, c3, c4, rfl, fun _ => rfl, c7, c8⟩
            · show _ = nI (eUp A.2.2.1 i _ j 0) ∧ _ = nI (eUp A.2.2.1 i _ j 1) ∧ _ = nI (eUp A.2.2.1 i _ j 2) ∧ _ = nI (eUp A.2.2.1 i _ j 3) ∧ _ = nI (eUp A.2.2.1 i _ j 4) ∧ (¬ eUp A.2.2.1 i _ j 4 = 0 → _ = nI (eUp A.2.2.1 i _ j 5)) ∧ _ = nI (eUp A.2.2.1 i _ j 6) ∧ (eUp A.2.2.1 i _ j 6 = 2 → _ = nI (eUp A.2.2.1 i _ j 7))
              rw [q_un ji, q_un ji, q_un ji]
              exact ⟨c1, c2, c3, c4, c5, cc6, c7, c8⟩
        · rw [Bool.eq_false_iff.mpr ha, if_neg (show ¬ qb (!false) = 0 by decide)]
          have := fin fun w => ha w.2.1
          rw [Bool.eq_false_iff.mpr ha] at this
          exact this
  · rw [if_neg pr, Bool.eq_false_iff.mpr pr, if_neg (show ¬ qb (!false) = 0 by decide)]
    unfold M_into_38
    rw [if_neg (by decide)]
    exact ⟨mi, mt, rfl, h1 ▸ same⟩

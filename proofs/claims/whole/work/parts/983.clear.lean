abbrev qA := qC × Nat × (Nat → Nat → Nat) × List qC
def AI (A : qA) : Prop := KI A.1 ∧ UL A.2.1 A.2.2.1 ∧ (∀ a, a ∈ A.2.2.2 → KI a) ∧ A.2.2.2.length ≤ 40
def qpres (st : qC) (p : Int32) : Prop := 0 ≤ p ∧ p < 6 ∧ ¬ st.1 p.toNatClampNeg = -1
theorem q_i6 {p : Int32} (h0 : 0 ≤ p) (h6 : p < 6) : ∃ m, m < 6 ∧ p = nI m := by
  have n0 : ¬ p < 0 := fun z => by
    rw [Int32.lt_iff_toInt_lt] at z
    rw [Int32.le_iff_toInt_le] at h0
    omega
  refine ⟨p.toNatClampNeg, ?_, nI_self n0⟩
  rw [nI_self n0] at h6
  exact (nI_ltI (b := 6) (clamp_lt31 p) (by decide)).mp h6
theorem q_neg {p : Int32} (h : ¬ p < 0) : 0 ≤ p := by
  rw [Int32.lt_iff_toInt_lt] at h
  rw [Int32.le_iff_toInt_le]
  omega
theorem q_nn {p : Int32} (h : 0 ≤ p) : ¬ p < 0 := fun z => by
  rw [Int32.lt_iff_toInt_lt] at z
  rw [Int32.le_iff_toInt_le] at h
  omega
theorem q_ge {a b : Int32} (h : ¬ a < b) : b ≤ a := by
  rw [Int32.lt_iff_toInt_lt] at h
  rw [Int32.le_iff_toInt_le]
  omega
theorem q_ng {a b : Int32} (h : b ≤ a) : ¬ a < b := fun z => by
  rw [Int32.lt_iff_toInt_lt] at z
  rw [Int32.le_iff_toInt_le] at h
  omega
theorem q_lt {a b : Int32} (h : ¬ b ≤ a) : a < b := by
  rw [Int32.le_iff_toInt_le] at h
  rw [Int32.lt_iff_toInt_lt]
  omega
theorem q_inN {N : Nat} {p : Int32} (hN : N < 2 ^ 31) (h0 : 0 ≤ p) (h6 : p < nI N) : ∃ m, m < N ∧ p = nI m := by
  have n0 := q_nn h0
  refine ⟨p.toNatClampNeg, ?_, nI_self n0⟩
  rw [nI_self n0] at h6
  exact (nI_ltI (clamp_lt31 p) hN).mp h6
theorem q_MhasI {lab : Nat → Int32} {par : Nat → Nat} {am : Nat → Nat → Nat} {cells : Nat → Int32} {row : Nat} (hl : KL lab par) (h : KM lab par am cells row) (hr : row < 82) (p : Int32) (n : Nat) : M_has n (nI row) p cells = some (qb (decide (0 ≤ p ∧ p < 6 ∧ ¬ lab p.toNatClampNeg = -1))) := by
  by_cases z : 0 ≤ p
  · by_cases y : p < 6
    · obtain ⟨m, hm, rfl⟩ := q_i6 z y
      rw [q_Mhas hl h hr hm, nI_clamp (by omega)]
      congr 2
      by_cases x : lab m = -1
      · rw [decide_eq_false (fun w => w x), decide_eq_false (fun w => w.2.2 x)]
      · rw [decide_eq_true x, decide_eq_true ⟨z, y, x⟩]
    · unfold M_has
      rw [decide_eq_false (fun w => y w.2.1)]
      rw [if_neg (q_nn z), if_pos (q_ge y)]
      rfl
  · unfold M_has
    rw [decide_eq_false (fun w => z w.1), if_pos (Classical.byContradiction fun w => z (q_neg w))]
    rfl
def s_clear (A : qA) (l : Int32) : Nat × Int32 × qA := if 0 ≤ l ∧ l < 4 then (0, 0, ((eUp (fun _ => -1) 0 l, fun _ => 0, fun _ _ => 0), 0, A.2.2.1, [])) else (1, 0, A)
def RM (A : qA) (rules : Int32) (ml me mh mo mi mt ma mx cells : Nat → Int32) (found : Int32) : Prop :=
  rules = nI A.2.1 ∧ UM A.2.1 A.2.2.1 ml me mh mo mi mt ma mx ∧ KM A.1.1 A.1.2.1 A.1.2.2 cells 0 ∧ found = nI A.2.2.2.length ∧ KMs cells 1 A.2.2.2
theorem q_set0 {m w : Nat} (h : 7 * m + w < 3854) {v : Int32} {cells : Nat → Int32} {n : Nat} : M_set n 0 (nI m) (nI w) v cells = some (eUp cells (7 * m + w) v) := by
  have := q_set (row := 0) (m := m) (w := w) (v := v) (cells := cells) (n := n) (by omega)
  rw [Nat.mul_zero, Nat.zero_add] at this
  exact this
theorem q_lab3 {l : Int32} : l ≤ (3 : Int32) ↔ l < (4 : Int32) := by
  rw [Int32.le_iff_toInt_le, Int32.lt_iff_toInt_lt]
  have a : (3 : Int32).toInt = 3 := rfl
  have b : (4 : Int32).toInt = 4 := rfl
  omega
theorem KM_0 {lab : Nat → Int32} {par : Nat → Nat} {am : Nat → Nat → Nat} {cells : Nat → Int32} : KM lab par am cells 0 ↔ (∀ m, m < 6 → cells (7 * m + 5) = lab m) ∧ (∀ m, m < 6 → cells (7 * m + 6) = qpM lab par m) ∧ ∀ m, m < 7 → ∀ k, k < 5 → cells (7 * m + k) = nI (am m k) := by
  unfold KM
  simp only [Nat.mul_zero, Nat.zero_add]
theorem r_empty {l : Int32} {cells : Nat → Int32} {rules found : Int32} {n : Nat} (hn : 70 ≤ n) : ∃ cells', M_empty n l rules cells found = some (0, cells', 0) ∧ KM (eUp (fun _ => -1) 0 l) (fun _ => 0) (fun _ _ => 0) cells' 0 ∧ ∀ j, 47 ≤ j → cells' j = cells j := by
  have k2 : ∀ (d m n : Nat) (c0 : Nat → Int32), m + d = 6 → 0 < m → d + 1 ≤ n → (∀ j, j < 47 → c0 j = if (∃ i, i < m ∧ 0 < i ∧ j = 7 * i + 5) then -1 else 0) → (∀ j, 47 ≤ j → c0 j = cells j) → ∃ cells', M_empty_23 l n (nI m) rules c0 found = some (0, cells', 0) ∧ KM (eUp (fun _ => -1) 0 l) (fun _ => 0) (fun _ _ => 0) cells' 0 ∧ ∀ j, 47 ≤ j → cells' j = cells j := by
    intro d
    induction d with
    | zero =>
      intro m n c0 e hm hn g1 g2
      obtain ⟨n, rfl⟩ : ∃ m, n = m + 1 := ⟨n - 1, by omega⟩
      have : m = 6 := by omega
      subst this
      have s5 : M_set n 0 0 5 l c0 = some (eUp c0 5 l) := q_set0 (m := 0) (w := 5) (by omega)
      have s6 : M_set n 0 0 6 (-1) (eUp c0 5 l) = some (eUp (eUp c0 5 l) 6 (-1)) := q_set0 (m := 0) (w := 6) (by omega)
      refine ⟨eUp (eUp c0 5 l) 6 (-1), by rw [M_empty_23, if_pos q_y6, s5, Option.bind_some, s6, Option.bind_some], KM_0.mpr ⟨fun j hj => ?_, fun j hj => ?_, fun j hj k hk => ?_⟩, fun j hj => ?_⟩
      · by_cases j0 : j = 0
        · subst j0; rw [q_un (by omega), q_up, q_up]
        · rw [q_un (by omega), q_un (by omega), q_un j0, g1 _ (by omega), if_pos ⟨j, by omega, by omega, rfl⟩]
      · unfold qpM
        by_cases j0 : j = 0
        · subst j0; rw [q_up]; rfl
        · rw [q_un (by omega), q_un (by omega), if_neg j0, q_un j0, if_pos rfl, g1 _ (by omega), if_neg]
          rintro ⟨i, i1, i2, i3⟩
          omega
      · rw [q_un (by omega), q_un (by omega), g1 _ (by omega), if_neg]
        · rfl
        · rintro ⟨i, i1, i2, i3⟩
          omega
      · rw [q_un (by omega), q_un (by omega)]; exact g2 j hj
    | succ d ih =>
      intro m n c0 e hm hn g1 g2
      obtain ⟨n, rfl⟩ : ∃ m, n = m + 1 := ⟨n - 1, by omega⟩
      have hm6 : m < 6 := by omega
      have s5 : M_set n 0 (nI m) 5 (-1) c0 = some (eUp c0 (7 * m + 5) (-1)) := q_set0 (m := m) (w := 5) (by omega)
      rw [M_empty_23, if_neg (q_n6 hm6), s5, Option.bind_some, nI_1]
      refine ih (m + 1) n _ (by omega) (by omega) (by omega) (fun j hj => ?_) (fun j hj => by rw [q_un (by omega)]; exact g2 j hj)
      by_cases jm : j = 7 * m + 5
      · subst jm; rw [q_up, if_pos ⟨m, by omega, hm, rfl⟩]
      · rw [q_un jm, g1 j hj]
        by_cases x : ∃ i, i < m ∧ 0 < i ∧ j = 7 * i + 5
        · obtain ⟨i, i1, i2, i3⟩ := x
          rw [if_pos ⟨i, i1, i2, i3⟩, if_pos ⟨i, by omega, i2, i3⟩]
        · rw [if_neg x, if_neg]
          rintro ⟨i, i1, i2, i3⟩
          by_cases im : i = m
          · subst im; exact jm i3
          · exact x ⟨i, by omega, i2, i3⟩
  have k1 : ∀ (d k n : Nat) (c0 : Nat → Int32), k + d = 47 → d + 10 ≤ n → (∀ j, j < k → c0 j = 0) → (∀ j, 47 ≤ j → c0 j = cells j) → ∃ cells', M_empty_2 l n (nI k) rules c0 found = some (0, cells', 0) ∧ KM (eUp (fun _ => -1) 0 l) (fun _ => 0) (fun _ _ => 0) cells' 0 ∧ ∀ j, 47 ≤ j → cells' j = cells j := by
    intro d
    induction d with
    | zero =>
      intro k n c0 e hn g1 g2
      obtain ⟨n, rfl⟩ : ∃ m, n = m + 1 := ⟨n - 1, by omega⟩
      have : k = 47 := by omega
      subst this
      rw [M_empty_2, if_pos (by decide)]
      exact k2 5 1 n c0 (by omega) (by omega) (by omega) (fun j hj => by
        rw [g1 j hj, if_neg]
        rintro ⟨i, i1, i2, i3⟩
        omega) g2
    | succ d ih =>
      intro k n c0 e hn g1 g2
      obtain ⟨n, rfl⟩ : ∃ m, n = m + 1 := ⟨n - 1, by omega⟩
      have a : ¬ (47 : Int32) ≤ nI k := nI_ge (b := 47) (by omega) (by decide)
      rw [M_empty_2, if_neg a, nI_clamp (by omega), if_neg (q_in (by omega) (by omega)), nI_1]
      refine ih (k + 1) n _ (by omega) (by omega) (fun j hj => ?_) (fun j hj => by rw [q_un (by omega)]; exact g2 j hj)
      by_cases jk : j = k
      · subst jk; rw [q_up]
      · rw [q_un jk]; exact g1 j (by omega)
  exact k1 47 0 n cells (by omega) (by omega) (fun j hj => absurd hj (by omega)) (fun _ _ => rfl)
theorem r_clear {A : qA} {rules : Int32} {ml me mh mo mi mt ma mx cells : Nat → Int32} {found : Int32} (h : RM A rules ml me mh mo mi mt ma mx cells found) (l code : Int32) {n : Nat} (hn : 70 ≤ n) : ∃ rules' cells' found', M_clear n l code rules cells found = some (nI (s_clear A l).1, rules', cells', found') ∧ RM (s_clear A l).2.2 rules' ml me mh mo mi mt ma mx cells' found' := by
  obtain ⟨h1, h2, h3, h4, h5⟩ := h
  have bad : ∀ c : Int32, ¬ (0 ≤ l ∧ l < 4) → M_clear_10 l n c rules cells found = some (nI (s_clear A l).1, rules, cells, found) := fun c z => by
    unfold M_clear_10 M_clear_15 s_clear
    rw [if_neg (by decide), if_neg z]
    rfl
  have badA : ¬ (0 ≤ l ∧ l < 4) → RM (s_clear A l).2.2 rules ml me mh mo mi mt ma mx cells found := fun z => by
    unfold s_clear
    rw [if_neg z]
    exact ⟨h1, h2, h3, h4, h5⟩
  unfold M_clear
  by_cases z : l < 0
  · have nz : ¬ (0 ≤ l ∧ l < 4) := fun w => q_nn w.1 z
    rw [if_pos z, bad code nz]
    exact ⟨rules, cells, found, rfl, badA nz⟩
  · rw [if_neg z]
    by_cases y : l ≤ (3 : Int32)
    · obtain ⟨c1, f1, f2, f3⟩ := r_empty (l := l) (cells := cells) (rules := rules) (found := found) (n := n) hn
      have ok : 0 ≤ l ∧ l < 4 := ⟨q_neg z, q_lab3.mp y⟩
      have sc : s_clear A l = (0, 0, ((eUp (fun _ => -1) 0 l, fun _ => 0, fun _ _ => 0), 0, A.2.2.1, [])) := if_pos ok
      rw [if_pos y]
      unfold M_clear_15
      rw [if_pos rfl, f1, Option.bind_some, sc]
      exact ⟨0, c1, 0, rfl, rfl, fun i hi => absurd hi (Nat.not_lt_zero _), f2, rfl, fun i s hs => by cases hs⟩
    · have nz : ¬ (0 ≤ l ∧ l < 4) := fun w => y (q_lab3.mpr w.2)
      rw [if_neg y, bad code nz]
      exact ⟨rules, cells, found, rfl, badA nz⟩

def qrs (f : Nat → Nat) : Nat → Nat → Nat
  | _, 0 => 0
  | c, d + 1 => f c + qrs f (c + 1) d
def qcand (l o : Nat) : Nat := if 0 < l ∧ 0 < o then 6 * l / o else 0
def qmx (a b : Nat) : Nat := if b ≤ a then a else b
theorem qcand_le {l o : Nat} (hl : l < 4) : qcand l o ≤ 18 := by
  unfold qcand
  split
  · have : 6 * l / o ≤ 6 * l := Nat.div_le_self _ _
    omega
  · omega
theorem qcand_ok {l o : Nat} (hl : l < 4) (ho : o < 4) (h : l = 0 ∨ 0 < o) : 6 * l ≤ qcand l o * o := by
  have a : l = 0 ∨ l = 1 ∨ l = 2 ∨ l = 3 := by omega
  have b : o = 0 ∨ o = 1 ∨ o = 2 ∨ o = 3 := by omega
  rcases a with rfl | rfl | rfl | rfl <;> rcases b with rfl | rfl | rfl | rfl <;> first | decide | (exfalso; omega)
theorem q_g101 {me : Nat → Int32} {cnt : Nat} {lf : Nat → Nat → Nat} (c6 : cnt ≤ 6) (hof : ∀ i k n, i < cnt → k < 5 → M_of n (me i) (nI k) = some (nI (lf i k))) (h4 : ∀ i k, lf i k < 4) (k50 : Int32 → Int32 → Option Int32) (k65 : Int32 → Int32 → Int32 → Int32 → Int32 → Option Int32) {n G j c l r : Nat} {b : Bool} (hj : j < 5) (hc : c < cnt) (hl : l < 4) (hr : r ≤ 18) : M_greed_101 me k50 k65 n (nI G) (nI j) (qb b) (nI r) (nI c) (nI l) = k65 (nI G) (nI j) (qb (b && (decide (l = 0) || decide (0 < lf c j)))) (nI (qmx r (qcand l (lf c j)))) (nI (c + 1)) := by
  have o4 := h4 c j
  have cl := qcand_le (l := l) (o := lf c j) hl
  have e161 : ∀ (X : Int32) (q : Nat), q ≤ 18 → M_greed_161 k50 k65 n (nI G) (nI j) X (nI r) (nI c) (nI q) = k65 (nI G) (nI j) X (nI (qmx r q)) (nI (c + 1)) := by
    intro X q hq
    unfold M_greed_161 qmx
    rw [nI_1]
    by_cases z : q ≤ r
    · rw [if_pos (nI_le z (by omega)), if_pos z]
    · rw [if_neg (nI_ge (by omega) (by omega)), if_neg z]
  have e137 : ∀ X : Int32, M_greed_137 k50 k65 n (nI G) (nI j) (nI r) (nI c) (nI l) (nI (lf c j)) X = k65 (nI G) (nI j) X (nI (qmx r (qcand l (lf c j)))) (nI (c + 1)) := by
    intro X
    have e0 := e161 X 0 (by omega)
    rw [nI_0] at e0
    unfold M_greed_137 M_greed_160
    rw [e0]
    by_cases z : l = 0
    · rw [if_pos (show nI l ≤ 0 by rw [z]; decide)]
      have : qcand l (lf c j) = 0 := by unfold qcand; rw [if_neg (fun w => by omega)]
      rw [this]
    · rw [if_neg (nI_nle (by omega) (by omega))]
      by_cases y : lf c j = 0
      · rw [if_pos (show nI (lf c j) ≤ 0 by rw [y]; decide)]
        have : qcand l (lf c j) = 0 := by unfold qcand; rw [if_neg (fun w => by omega)]
        rw [this]
      · rw [if_neg (nI_nle (by omega) (by omega)), if_neg (nI_ne0 (by omega) (by omega))]
        have e6 : (6 : Int32) * nI l = nI (6 * l) := pk_mul 6 l
        have : qcand l (lf c j) = 6 * l / lf c j := by unfold qcand; rw [if_pos ⟨by omega, by omega⟩]
        rw [e6, pk_div (by omega) (by omega) (by omega), ← this]
        exact e161 X _ cl
  unfold M_greed_101 M_greed_136 M_greed_132
  rw [nI_clamp (by omega), if_neg (q_in (by omega) (by omega)), hof c j n hc hj, Option.bind_some, e137, e137]
  cases b with
  | false => rw [if_pos qb_f]; rfl
  | true =>
    rw [if_neg qb_t]
    by_cases z : l = 0
    · rw [if_pos (show nI l = 0 by rw [z]; rfl), decide_eq_true z]; rfl
    · rw [if_neg (nI_ne0 (by omega) (by omega)), decide_eq_false z]
      by_cases y : lf c j = 0
      · rw [if_pos (show nI (lf c j) ≤ 0 by rw [y]; decide), decide_eq_false (show ¬ 0 < lf c j by omega)]; rfl
      · rw [if_neg (nI_nle (by omega) (by omega)), decide_eq_true (show 0 < lf c j by omega)]; rfl
theorem q_g65 {row mm : Int32} {ml me mi mt ma cells R : Nat → Int32} {A : Int32} {cnt : Nat} {lf : Nat → Nat → Nat} {al rest : Nat → Nat} (c6 : cnt ≤ 6) (hof : ∀ i k n, i < cnt → k < 5 → M_of n (me i) (nI k) = some (nI (lf i k))) (h4 : ∀ i k, lf i k < 4) (hal : ∀ i n, i < cnt → 7 ≤ n → M_allowed n row mm (nI i) ml me mi mt ma cells R A = some (nI (al i))) (ha : ∀ i, al i ≤ 12) (hR : ∀ k, k < 5 → R k = nI (rest k)) (h12 : ∀ k, k < 5 → rest k ≤ 12) {k : Nat} (hk : k < 5) (k50 : Int32 → Int32 → Option Int32) {j G : Nat} (hj : j < 5) (hG : G < 1000) : ∀ (d c n r : Nat) (b : Bool), c + d = cnt → d + 8 ≤ n → r ≤ 18 → ∃ G', M_greed_65 row mm (nI k) (nI cnt) ml me mi mt ma cells R A k50 n (nI G) (nI j) (qb b) (nI r) (nI c) = k50 (nI G') (nI (j + 1)) ∧ G' ≤ G ∧ (G' = G ∨ ∃ r', r ≤ r' ∧ b = true ∧ (∀ p, c ≤ p → p < cnt → 0 < al p → 6 * lf p k ≤ r' * lf p j) ∧ G' = rest j * r' / 6) := by
  intro d
  induction d with
  | zero =>
    intro c n r b e hn hr
    obtain ⟨n, rfl⟩ : ∃ m, n = m + 1 := ⟨n - 1, by omega⟩
    have : c = cnt := by omega
    subst this
    have b1 : rest j * r ≤ 12 * 18 := Nat.mul_le_mul (h12 j hj) hr
    rw [M_greed_65, if_pos (nI_le (Nat.le_refl _) (by omega)), nI_clamp (by omega), if_neg (q_in hj (by omega)), if_neg (by decide), hR j hj, pk_mul, nI_1]
    have e6 : nI (rest j * r) / (6 : Int32) = nI (rest j * r / 6) := pk_div (d := 6) (by omega) (by omega) (by decide)
    rw [e6]
    cases b with
    | false => exact ⟨G, by rw [if_pos qb_f], Nat.le_refl _, Or.inl rfl⟩
    | true =>
      rw [if_neg qb_t]
      by_cases z : G ≤ rest j * r / 6
      · exact ⟨G, by rw [if_pos (nI_le z (by omega))], Nat.le_refl _, Or.inl rfl⟩
      · exact ⟨rest j * r / 6, by rw [if_neg (nI_ge (by omega) (by omega))], by omega, Or.inr ⟨r, Nat.le_refl _, rfl, fun p h1 h2 => absurd h1 (by omega), rfl⟩⟩
  | succ d ih =>
    intro c n r b e hn hr
    obtain ⟨n, rfl⟩ : ∃ m, n = m + 1 := ⟨n - 1, by omega⟩
    have hc : c < cnt := by omega
    have hac := ha c
    have key : ∀ l, l < 4 → (0 < al c → l = lf c k) → ∃ G', M_greed_101 me k50 (M_greed_65 row mm (nI k) (nI cnt) ml me mi mt ma cells R A k50 n) n (nI G) (nI j) (qb b) (nI r) (nI c) (nI l) = k50 (nI G') (nI (j + 1)) ∧ G' ≤ G ∧ (G' = G ∨ ∃ r', r ≤ r' ∧ b = true ∧ (∀ p, c ≤ p → p < cnt → 0 < al p → 6 * lf p k ≤ r' * lf p j) ∧ G' = rest j * r' / 6) := by
      intro l hl hlk
      have cl := qcand_le (l := l) (o := lf c j) hl
      have mx : qmx r (qcand l (lf c j)) ≤ 18 := by unfold qmx; split <;> omega
      have m1 : r ≤ qmx r (qcand l (lf c j)) := by unfold qmx; split <;> omega
      have m2 : qcand l (lf c j) ≤ qmx r (qcand l (lf c j)) := by unfold qmx; split <;> omega
      rw [q_g101 c6 hof h4 k50 _ hj hc hl hr]
      obtain ⟨G', e1, e2, e3⟩ := ih (c + 1) n (qmx r (qcand l (lf c j))) (b && (decide (l = 0) || decide (0 < lf c j))) (by omega) (by omega) mx
      refine ⟨G', e1, e2, ?_⟩
      rcases e3 with e3 | ⟨r', f1, f2, f3, f4⟩
      · exact Or.inl e3
      · right
        rw [Bool.and_eq_true, Bool.or_eq_true, decide_eq_true_iff, decide_eq_true_iff] at f2
        refine ⟨r', by omega, f2.1, fun p h1 h2 h3 => ?_, f4⟩
        by_cases pc : p = c
        · subst pc
          have w := qcand_ok hl (h4 p j) f2.2
          rw [hlk h3] at w f1 m2
          exact Nat.le_trans w (Nat.mul_le_mul_right _ (by omega))
        · exact f3 p (by omega) h2 h3
    rw [M_greed_65, if_neg (nI_ge hc (by omega)), hal c n hc (by omega), Option.bind_some]
    by_cases z : al c = 0
    · rw [if_pos (show nI (al c) ≤ 0 by rw [z]; decide)]
      exact key 0 (by omega) (fun w => absurd w (by omega))
    · rw [if_neg (nI_nle (by omega) (by omega)), nI_clamp (by omega), if_neg (q_in (by omega) (by omega)), hof c k n hc hk, Option.bind_some]
      exact key (lf c k) (h4 c k) (fun _ => rfl)
theorem q_greed {row mm : Int32} {ml me mi mt ma cells R : Nat → Int32} {A : Int32} {cnt : Nat} {lf : Nat → Nat → Nat} {al rest : Nat → Nat} (c6 : cnt ≤ 6) (hof : ∀ i k n, i < cnt → k < 5 → M_of n (me i) (nI k) = some (nI (lf i k))) (h4 : ∀ i k, lf i k < 4) (hal : ∀ i n, i < cnt → 7 ≤ n → M_allowed n row mm (nI i) ml me mi mt ma cells R A = some (nI (al i))) (ha : ∀ i, al i ≤ 12) (hR : ∀ k, k < 5 → R k = nI (rest k)) (h12 : ∀ k, k < 5 → rest k ≤ 12) {k r : Nat} (hk : k < 5) (hr : r ≤ cnt) {n : Nat} (hn : 40 ≤ n) : ∃ G, M_greed n row mm (nI r) (nI k) (nI cnt) ml me mi mt ma cells R A = some (nI G) ∧ G ≤ qrs (fun i => al i * lf i k) r (cnt - r) ∧ G < 1000 ∧ (G = qrs (fun i => al i * lf i k) r (cnt - r) ∨ ∃ j r', j < 5 ∧ (∀ p, r ≤ p → p < cnt → 0 < al p → 6 * lf p k ≤ r' * lf p j) ∧ G = rest j * r' / 6) := by
  have l50 : ∀ (d j n G : Nat), j + d = 5 → d + 20 ≤ n → G < 1000 → ∃ G', M_greed_50 row mm (nI r) (nI k) (nI cnt) ml me mi mt ma cells R A n (nI G) (nI j) = some (nI G') ∧ G' ≤ G ∧ (G' = G ∨ ∃ j' r', j' < 5 ∧ (∀ p, r ≤ p → p < cnt → 0 < al p → 6 * lf p k ≤ r' * lf p j') ∧ G' = rest j' * r' / 6) := by
    intro d
    induction d with
    | zero =>
      intro j n G e hn hG
      obtain ⟨n, rfl⟩ : ∃ m, n = m + 1 := ⟨n - 1, by omega⟩
      have : j = 5 := by omega
      subst this
      exact ⟨G, by rw [M_greed_50, if_pos q_y5], Nat.le_refl _, Or.inl rfl⟩
    | succ d ih =>
      intro j n G e hn hG
      obtain ⟨n, rfl⟩ : ∃ m, n = m + 1 := ⟨n - 1, by omega⟩
      have hj : j < 5 := by omega
      rw [M_greed_50, if_neg (q_n5 hj)]
      obtain ⟨G', e1, e2, e3⟩ := q_g65 c6 hof h4 hal ha hR h12 hk (M_greed_50 row mm (nI r) (nI k) (nI cnt) ml me mi mt ma cells R A n) hj hG (cnt - r) r n 0 true (by omega) (by omega) (by omega)
      obtain ⟨G2, f1, f2, f3⟩ := ih (j + 1) n G' (by omega) (by omega) (by omega)
      refine ⟨G2, e1.trans f1, by omega, ?_⟩
      rcases f3 with f3 | f3
      · rcases e3 with e3 | ⟨r', g1, g2, g3, g4⟩
        · exact Or.inl (f3.trans e3)
        · exact Or.inr ⟨j, r', hj, g3, f3.trans g4⟩
      · exact Or.inr f3
  have l6 : ∀ (d c n S : Nat), c + d = cnt → d + 30 ≤ n → S + 36 * d < 1000 → ∃ n', 28 ≤ n' ∧ S + qrs (fun i => al i * lf i k) c d < 1000 ∧ M_greed_6 row mm (nI r) (nI k) (nI cnt) ml me mi mt ma cells R A n (nI S) (nI c) = M_greed_50 row mm (nI r) (nI k) (nI cnt) ml me mi mt ma cells R A n' (nI (S + qrs (fun i => al i * lf i k) c d)) 0 := by
    intro d
    induction d with
    | zero =>
      intro c n S e hn hS
      obtain ⟨n, rfl⟩ : ∃ m, n = m + 1 := ⟨n - 1, by omega⟩
      have : c = cnt := by omega
      subst this
      exact ⟨n, by omega, by unfold qrs; omega, by rw [M_greed_6, if_pos (nI_le (Nat.le_refl _) (by omega))]; rfl⟩
    | succ d ih =>
      intro c n S e hn hS
      obtain ⟨n, rfl⟩ : ∃ m, n = m + 1 := ⟨n - 1, by omega⟩
      have hc : c < cnt := by omega
      have b1 : al c * lf c k ≤ 12 * 3 := Nat.mul_le_mul (ha c) (by have := h4 c k; omega)
      obtain ⟨n', e0, e1, e2⟩ := ih (c + 1) n (S + al c * lf c k) (by omega) (by omega) (by omega)
      refine ⟨n', e0, by unfold qrs; omega, ?_⟩
      rw [M_greed_6, if_neg (nI_ge hc (by omega)), hal c n hc (by omega), Option.bind_some, nI_clamp (by omega), if_neg (q_in (by omega) (by omega)), hof c k n hc hk, Option.bind_some, pk_mul, nI_add, nI_1, e2]
      have qe : ∀ F : Nat → Nat, qrs F c (d + 1) = F c + qrs F (c + 1) d := fun _ => rfl
      rw [qe, Nat.add_assoc]
  obtain ⟨n', e0, e1, e2⟩ := l6 (cnt - r) r n 0 (by omega) (by omega) (by omega)
  rw [Nat.zero_add] at e1 e2
  obtain ⟨G, f1, f2, f3⟩ := l50 5 0 n' _ (by omega) (by omega) e1
  refine ⟨G, ?_, f2, by omega, f3⟩
  unfold M_greed
  rw [nI_0] at f1
  rw [← f1, ← e2]; rfl

def qgm (A : qA) (m : Nat) : Nat → Nat := qgr A.2.2.1 (qol (qopl A.1.1 A.1.2.1 A.2.2.1 m) 0 A.2.1) (A.1.2.2 m) false fun _ => 0
def qut (u : Nat → Nat) : Nat := u 0 + u 1 + u 2 + u 3 + u 4 + u 5
theorem qrs_qut {u : Nat → Nat} : ∀ (cnt : Nat), cnt ≤ 6 → (∀ i, cnt ≤ i → u i = 0) → qrs u 0 cnt = qut u := by
  intro cnt h hz
  have e6 : qrs u 0 6 = qut u := by
    show u 0 + (u 1 + (u 2 + (u 3 + (u 4 + (u 5 + 0))))) = _
    unfold qut; omega
  have sp : ∀ (a b c : Nat), qrs u c (a + b) = qrs u c a + qrs u (c + a) b := by
    intro a
    induction a with
    | zero => intro b c; rw [Nat.zero_add]; show _ = 0 + _; rw [Nat.zero_add]; rfl
    | succ a ih =>
      intro b c
      rw [show a + 1 + b = (a + b) + 1 by omega]
      show u c + qrs u (c + 1) (a + b) = u c + qrs u (c + 1) a + qrs u (c + (a + 1)) b
      rw [ih b (c + 1), show c + 1 + a = c + (a + 1) by omega]; omega
  have z : ∀ (d c : Nat), cnt ≤ c → qrs u c d = 0 := by
    intro d
    induction d with
    | zero => intro c _; rfl
    | succ d ih =>
      intro c hc
      show u c + qrs u (c + 1) d = 0
      rw [hz c hc, ih (c + 1) (by omega)]
  have w := sp cnt (6 - cnt) 0
  have z0 := z (6 - cnt) (0 + cnt) (by omega)
  rw [show cnt + (6 - cnt) = 6 by omega, e6, z0] at w
  omega
theorem qgm_chosen {A : qA} : qcs A.1 A.2.1 A.2.2.1 (qgm A) := fun m _ => qgr_chosen
theorem qgm_out {A : qA} {m i : Nat} (h : A.2.1 ≤ i) : qgm A m i = 0 := by
  refine qgr_out _ _ _ _ i (fun w => ?_)
  have := (qol_mem _ _ _ w).2.1
  omega
theorem qgm_abs {A : qA} (hu : UL A.2.1 A.2.2.1) {m : Nat} (ha : A.1.1 m = -1) : qgm A m = fun _ => 0 := by
  have e : qol (qopl A.1.1 A.1.2.1 A.2.2.1 m) 0 A.2.1 = [] := qol_nil _ _ fun i _ h2 => by
    unfold qopl
    have b := (hu.2 i (by omega)).1
    rw [decide_eq_false (fun z => q_m1' (by omega) (z.trans ha)), Bool.false_and]
  unfold qgm
  rw [e]
  rfl
def qsumm (A : qA) : Nat → Nat → Nat
  | _, 0 => 0
  | m, d + 1 => qut (qgm A m) + qsumm A (m + 1) d
def s_round (A : qA) : Nat × Int32 × qA := match qstep A.1 A.2.1 A.2.2.1 (qgm A) with
  | none => (1, 0, A)
  | some s => (0, nI (qsumm A 0 6), (s, A.2))
theorem r_42 {cnt m : Nat} (c6 : cnt ≤ 6) (hm : m < 6) {u : Nat → Nat} (u12 : ∀ i, i < 6 → u i ≤ 12) {chs : Nat → Int32} (hc : chs m = nI (c5p u)) (k9 : Int32 → Int32 → Int32 → (Nat → Int32) → (Nat → Int32) → (Nat → Int32) → Int32 → (Nat → Int32) → Option (Int32 × Int32 × (Nat → Int32) × (Nat → Int32) × (Nat → Int32) × Int32 × (Nat → Int32))) (code : Int32) (cells R U : Nat → Int32) (A : Int32) : ∀ (d i n S : Nat), i + d = cnt → d + 1 ≤ n → M_round_42 (nI cnt) k9 n (nI S) (nI m) (nI i) code cells R U A chs = k9 (nI (S + qrs u i d)) (nI (m + 1)) code cells R U A chs := by
  intro d
  induction d with
  | zero =>
    intro i n S e hn
    obtain ⟨n, rfl⟩ : ∃ m, n = m + 1 := ⟨n - 1, by omega⟩
    rw [M_round_42, if_pos (nI_le (by omega) (by omega)), nI_1]
    rfl
  | succ d ih =>
    intro i n S e hn
    obtain ⟨n, rfl⟩ : ∃ m, n = m + 1 := ⟨n - 1, by omega⟩
    have qe : qrs u i (d + 1) = u i + qrs u (i + 1) d := rfl
    rw [M_round_42, if_neg (nI_ge (by omega) (by omega)), nI_clamp (by omega), if_neg (q_in hm (by omega)), hc, q_used (fun k hk => by have := u12 k hk; omega) (by omega), Option.bind_some, nI_add, nI_1, ih (i + 1) n (S + u i) (by omega) (by omega), qe, Nat.add_assoc]
theorem r_9 {A : qA} (hA : AI A) {ml me mh mo mi mt ma mx cells : Nat → Int32} (h2 : UM A.2.1 A.2.2.1 ml me mh mo mi mt ma mx) (h3 : KM A.1.1 A.1.2.1 A.1.2.2 cells 0) {n : Nat} (hn : 60 ≤ n) : ∀ (d m S : Nat) (R U : Nat → Int32) (a : Int32) (chs : Nat → Int32), m + d = 6 → (∀ j, j < m → chs j = nI (c5p (qgm A j))) → ∃ R' U' a' chs', M_round_9 (nI A.2.1) ml me mh mo mi mt ma mx (n + d) (nI S) (nI m) 0 cells R U a chs = M_round_9 (nI A.2.1) ml me mh mo mi mt ma mx n (nI (S + qsumm A m d)) (nI 6) 0 cells R' U' a' chs' ∧ ∀ j, j < 6 → chs' j = nI (c5p (qgm A j)) := by
  obtain ⟨⟨hl, ht, hk, ha⟩, hu, _⟩ := hA
  have c6 := hu.1
  intro d
  induction d with
  | zero =>
    intro m S R U a chs e hc
    have : m = 6 := by omega
    subst this
    exact ⟨R, U, a, chs, rfl, hc⟩
  | succ d ih =>
    intro m S R U a chs e hc
    have hm : m < 6 := by omega
    have u12 : ∀ i, i < 6 → qgm A m i ≤ 12 := (qchosen_good hu (qgm_chosen (A := A) m hm)).1.2
    have tot : qrs (qgm A m) 0 A.2.1 = qut (qgm A m) := qrs_qut _ c6 fun i hi => qgm_out hi
    have hs : M_has (n + d) 0 (nI m) cells = some (qb (decide (¬ A.1.1 m = -1))) := q_Mhas (row := 0) hl h3 (by omega) hm (n + d)
    have qe : qsumm A m (d + 1) = qut (qgm A m) + qsumm A (m + 1) d := rfl
    have go : ∀ (R' U' : Nat → Int32) (a' : Int32), ∃ R'' U'' a'' chs', M_round_42 (nI A.2.1) (M_round_9 (nI A.2.1) ml me mh mo mi mt ma mx (n + d)) (n + d) (nI S) (nI m) 0 0 cells R' U' a' (eUp chs m (nI (c5p (qgm A m)))) = M_round_9 (nI A.2.1) ml me mh mo mi mt ma mx n (nI (S + qsumm A m (d + 1))) (nI 6) 0 cells R'' U'' a'' chs' ∧ ∀ j, j < 6 → chs' j = nI (c5p (qgm A j)) := fun R' U' a' => by
      have w := r_42 c6 hm u12 (chs := eUp chs m (nI (c5p (qgm A m)))) (q_up ..) (M_round_9 (nI A.2.1) ml me mh mo mi mt ma mx (n + d)) 0 cells R' U' a' A.2.1 0 (n + d) S (by omega) (by omega)
      rw [tot] at w
      have w' : M_round_42 (nI A.2.1) (M_round_9 (nI A.2.1) ml me mh mo mi mt ma mx (n + d)) (n + d) (nI S) (nI m) 0 0 cells R' U' a' (eUp chs m (nI (c5p (qgm A m)))) = _ := w
      rw [w', qe, ← Nat.add_assoc]
      exact ih (m + 1) _ R' U' a' _ (by omega) (fun j hj => by
        by_cases jm : j = m
        · subst jm; rw [q_up]
        · rw [q_un jm]; exact hc j (by omega))
    show ∃ R' U' a' chs', M_round_9 (nI A.2.1) ml me mh mo mi mt ma mx (n + d + 1) (nI S) (nI m) 0 cells R U a chs = _ ∧ _
    rw [M_round_9, if_neg (q_n6 hm), hs, Option.bind_some]
    by_cases z : A.1.1 m = -1
    · have g0 : (0 : Int32) = nI (c5p (qgm A m)) := by rw [qgm_abs hu z]; rfl
      rw [decide_eq_false (fun w => w z), if_pos qb_f, nI_clamp (by omega), if_neg (q_in hm (by omega))]
      have w := go R U a
      rw [← g0] at w
      exact w
    · obtain ⟨R', U', a', f⟩ := q_greedyM (row := 0) hl h3 (by omega) hu h2 hm (hk.1 m hm) R U a (n := n + d) (by omega)
      have f' : M_greedy (n + d) 0 (nI m) (nI A.2.1) ml me mi mt ma cells R U a = some (nI (c5p (qgm A m)), R', U', qb a') := f
      rw [decide_eq_true z, if_neg qb_t, f', Option.bind_some, nI_clamp (by omega), if_neg (q_in hm (by omega))]
      exact go R' U' (qb a')
theorem r_round {A : qA} (hA : AI A) {rules : Int32} {ml me mh mo mi mt ma mx cells : Nat → Int32} {found : Int32} (h : RM A rules ml me mh mo mi mt ma mx cells found) (R U : Nat → Int32) (a : Int32) (chs : Nat → Int32) {n : Nat} (hn : 120 ≤ n) : ∃ cells' R' U' a' chs', M_round n rules ml me mh mo mi mt ma mx cells R U a chs = some ((s_round A).2.1, nI (s_round A).1, cells', R', U', a', chs') ∧ RM (s_round A).2.2 rules ml me mh mo mi mt ma mx cells' found := by
  obtain ⟨h1, h2, h3, h4, h5⟩ := h
  obtain ⟨p, rfl⟩ : ∃ p, n = p + 1 + 6 := ⟨n - 7, by omega⟩
  obtain ⟨R', U', a', chs', f1, f2⟩ := r_9 hA h2 h3 (n := p + 1) (by omega) 6 0 0 R U a chs (by omega) (fun j hj => absurd hj (by omega))
  have f1' : M_round (p + 1 + 6) rules ml me mh mo mi mt ma mx cells R U a chs = M_round_9 (nI A.2.1) ml me mh mo mi mt ma mx (p + 1) (nI (0 + qsumm A 0 6)) (nI 6) 0 cells R' U' a' chs' := by
    rw [h1]; exact f1
  have hu := hA.2.1
  obtain ⟨s1, s2⟩ := q_stepM (row := 0) hA.1 h3 (by omega) hu h2 qgm_chosen f2 (n := p) (by omega)
  have l47 : ∀ c : Nat → Int32, qfr 81 cells c → KM A.1.1 A.1.2.1 A.1.2.2 c 0 ∧ KMs c 1 A.2.2.2 := fun c hf => ⟨KM_fr h3 hf (by omega), fun i s hs => KM_fr (h5 i s hs) hf (by have := (List.getElem?_eq_some_iff.mp hs).1; have := hA.2.2.2; omega)⟩
  rw [f1', M_round_9, if_pos q_y6, Nat.zero_add]
  unfold s_round
  cases q : qstep A.1 A.2.1 A.2.2.1 (qgm A) with
  | none =>
    obtain ⟨c1, t1, t2⟩ := s1 q
    have t1' : M_step p 0 (nI A.2.1) me mh mo mi mt ma mx cells chs' = some (0, c1) := t1
    obtain ⟨k1, k2⟩ := l47 c1 t2
    rw [t1', Option.bind_some, if_pos rfl]
    exact ⟨c1, R', U', a', chs', rfl, h1, h2, k1, h4, k2⟩
  | some s =>
    obtain ⟨c1, t1, t2, t3⟩ := s2 s q
    have t1' : M_step p 0 (nI A.2.1) me mh mo mi mt ma mx cells chs' = some (1, c1) := t1
    obtain ⟨k1, k2⟩ := l47 c1 t3
    obtain ⟨c2, g1, g2, g3⟩ := q_copyM (fr := 81) (to := 0) (by omega) (by omega) (by omega) c1 (n := p) (by omega)
    have g1' : M_copy p 81 0 c1 = some c2 := g1
    rw [t1', Option.bind_some, if_neg (show ¬ (1 : Int32) = 0 by decide), g1', Option.bind_some]
    exact ⟨c2, R', U', a', chs', rfl, h1, h2, KM_copy t2 g2, h4, KMs_47 k2 fun j hj => g3 j (by omega)⟩

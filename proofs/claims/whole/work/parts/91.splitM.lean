theorem q_162skip {cnt : Nat} {ru : Nat → Nat → Nat} {ml me mh mo mi mt ma mx : Nat → Int32} (hu : UL cnt ru) (hM : UM cnt ru ml me mh mo mi mt ma mx) {m : Nat} (hm : m < 6) {u : Nat → Nat} (u12 : ∀ i, i < 6 → u i ≤ 12) {mc : Nat → Int32} (hmc : mc m = nI (c5p u)) (k154 : Int32 → (Nat → Int32) → Option (Int32 × (Nat → Int32))) (cells : Nat → Int32) : ∀ (d c n : Nat), c + d ≤ cnt → (∀ i, c ≤ i → i < c + d → ¬ (ru i 6 = 2 ∧ 0 < u i)) → M_step_162 (nI cnt) mh ma mx mc k154 (n + d) (nI m) (nI c) cells = M_step_162 (nI cnt) mh ma mx mc k154 n (nI m) (nI (c + d)) cells := by
  have c6 := hu.1
  have u32 : ∀ k, k < 6 → u k < 32 := fun k hk => by have := u12 k hk; omega
  intro d
  induction d with
  | zero => intro c n _ _; rfl
  | succ d ih =>
    intro c n hc hz
    have hcc : c < cnt := by omega
    have b7 := (hu.2 c hcc).2.2.2.2.2.2.2.1
    have c7 := (hM c hcc).2.2.2.2.2.2.1
    have st : M_step_162 (nI cnt) mh ma mx mc k154 (n + (d + 1)) (nI m) (nI c) cells = M_step_162 (nI cnt) mh ma mx mc k154 (n + d) (nI m) (nI (c + 1)) cells := by
      show M_step_162 (nI cnt) mh ma mx mc k154 (n + d + 1) (nI m) (nI c) cells = _
      rw [M_step_162, if_neg (nI_ge hcc (by omega)), nI_clamp (by omega), if_neg (q_in (by omega) (by omega)), c7, nI_1]
      by_cases x : ru c 6 = 2
      · have u0 : u c = 0 := by have := hz c (Nat.le_refl _) (by omega); omega
        rw [if_pos (show nI (ru c 6) = 2 by rw [x]; rfl), nI_clamp (by omega), if_neg (q_in hm (by omega)), hmc, q_used u32 (by omega), Option.bind_some, if_pos (show nI (u c) ≤ 0 by rw [u0]; decide)]
      · have g : ¬ nI (ru c 6) = (2 : Int32) := fun v => x ((nI_eq (b := 2) (by omega) (by decide)).mp v)
        rw [if_neg g]
    rw [st, ih (c + 1) n (by omega) (fun i h1 h2 => hz i (by omega) (by omega)), show c + 1 + d = c + (d + 1) by omega]
theorem q_splitM {lab : Nat → Int32} {par : Nat → Nat} {am : Nat → Nat → Nat} {cells : Nat → Int32} (hl : KL lab par) (h : KM lab par am cells 81) {cnt : Nat} {ru : Nat → Nat → Nat} {ml me mh mo mi mt ma mx : Nat → Int32} (hu : UL cnt ru) (hM : UM cnt ru ml me mh mo mi mt ma mx) {m i : Nat} (hm : m < 6) (h0 : ¬ m = 0) (hpr : ¬ lab m = -1) (hi : i < cnt) (ha : ru i 6 = 2) {u : Nat → Nat} (u12 : ∀ i, i < 6 → u i ≤ 12) (hp : 0 < u i) {mc : Nat → Int32} (hmc : mc m = nI (c5p u)) (k154 : Int32 → (Nat → Int32) → Option (Int32 × (Nat → Int32))) {n : Nat} (hn : 20 ≤ n) : (qfind (qfree lab) 1 5 = none → M_step_162 (nI cnt) mh ma mx mc k154 (n + 1) (nI m) (nI i) cells = some (0, cells)) ∧ ∀ f, qfind (qfree lab) 1 5 = some f → ∃ cells', M_step_162 (nI cnt) mh ma mx mc k154 (n + 1) (nI m) (nI i) cells = M_step_162 (nI cnt) mh ma mx mc k154 n (nI m) (nI (i + 1)) cells' ∧ KM (eUp lab f (lab m)) (eUp par f (par m)) (qsa ru am m f i) cells' 81 ∧ qfr 81 cells cells' := by
  have c6 := hu.1
  have u32 : ∀ k, k < 6 → u k < 32 := fun k hk => by have := u12 k hk; omega
  have up := u12 i (by omega)
  obtain ⟨b0, b1, b2, b3, b4, b5, b6, b7, b8⟩ := hu.2 i hi
  obtain ⟨c1, c2, c3, c4, c5, cc6, c7, c8⟩ := hM i hi
  have fr : M_free n 81 cells = some (qoI (qfind (qfree lab) 1 5)) := q_Mfree hl h (by omega) (by omega)
  rw [M_step_162, if_neg (nI_ge hi (by omega)), nI_clamp (by omega), if_neg (q_in (by omega) (by omega)), c7, if_pos (show nI (ru i 6) = 2 by rw [ha]; rfl), nI_clamp (by omega), if_neg (q_in hm (by omega)), hmc, q_used u32 (by omega), Option.bind_some, if_neg (nI_nle hp (by omega)), fr, Option.bind_some]
  refine ⟨fun q => ?_, fun f q => ?_⟩
  · rw [q, if_neg (show ¬ (0 : Int32) ≤ qoI none by decide)]; rfl
  · obtain ⟨fl, f0, f6⟩ := qfree_lab q
    have fm : ¬ f = m := fun z => hpr (z ▸ fl)
    rw [q, if_pos (show (0 : Int32) ≤ qoI (some f) from nI_pos' (by omega)), show qoI (some f) = nI f from rfl]
    have key : ∀ (d k n : Nat) (c0 : Nat → Int32), k + d = 7 → d + 7 ≤ n → (∀ j, j < k → c0 (47 * 81 + 7 * f + j) = cells (47 * 81 + 7 * m + j)) → (∀ j, ¬ (47 * 81 + 7 * f ≤ j ∧ j < 47 * 81 + 7 * f + k) → c0 j = cells j) → ∀ k162, ∃ cells', M_step_211 mh mx k154 k162 n (nI m) (nI i) (nI f) (nI k) c0 = k162 (nI m) (nI (i + 1)) cells' ∧ KM (eUp lab f (lab m)) (eUp par f (par m)) (qsa ru am m f i) cells' 81 ∧ qfr 81 cells cells' := by
      intro d
      induction d with
      | zero =>
        intro k n c0 e hn g1 g2 k162
        obtain ⟨n, rfl⟩ : ∃ m, n = m + 1 := ⟨n - 1, by omega⟩
        have : k = 7 := by omega
        subst this
        have km : KM (eUp lab f (lab m)) (eUp par f (par m)) (eUp am f (am m)) c0 81 := by
          refine ⟨fun j hj => ?_, fun j hj => ?_, fun j hj k hk => ?_⟩
          · by_cases jf : j = f
            · subst jf; rw [g1 5 (by omega), q_up, h.1 m hm]
            · rw [g2 _ (by omega), q_un jf]; exact h.1 j hj
          · by_cases jf : j = f
            · subst jf
              rw [g1 6 (by omega), h.2.1 m hm]
              unfold qpM
              rw [if_neg h0, if_neg hpr, if_neg f0, q_up, if_neg hpr, q_up]
            · rw [g2 _ (by omega), h.2.1 j hj]
              unfold qpM
              rw [q_un jf, q_un jf]
          · by_cases jf : j = f
            · subst jf; rw [g1 k (by omega), q_up]; exact h.2.2 m (by omega) k hk
            · rw [g2 _ (by omega), q_un jf]; exact h.2.2 j hj k hk
        have one : ∀ a b : Nat, nI a + 1 * nI b = nI (a + b) := by
          intro a b
          have : (1 : Int32) * nI b = nI (1 * b) := pk_mul 1 b
          rw [this, nI_add, Nat.one_mul]
        obtain ⟨d1, x1, x2, x3⟩ := q_give km (by omega) (p := m) (hh := ru i 2) (by omega) b3 (P := nI m) (Or.inl ⟨hm, rfl⟩) (X := 1) (fun k hk => one _ _) (n := n) (by omega)
        obtain ⟨d2, y1, y2, y3⟩ := q_give x2 (by omega) (p := f) (hh := ru i 7) (by omega) b8 (P := nI f) (Or.inl ⟨f6, rfl⟩) (X := 1) (fun k hk => one _ _) (n := n) (by omega)
        have x1' : M_give n 81 (nI m) (nI (ru i 2)) 1 c0 = some d1 := x1
        have y1' : M_give n 81 (nI f) (nI (ru i 7)) 1 d1 = some d2 := y1
        refine ⟨d2, ?_, KM_am y2 fun q hq k hk => ?_, qfr_trans (fun j hj => g2 j (by omega)) (qfr_trans x3 y3)⟩
        · rw [M_step_211, if_pos (by decide), nI_clamp (by omega), if_neg (q_in (by omega) (by omega)), c3, x1', Option.bind_some, if_neg (q_in (by omega) (by omega)), c8 ha, y1', Option.bind_some, nI_1]
        · unfold qsa
          by_cases qf' : q = f
          · subst qf'
            rw [q_up, q_un fm, q_un fm, q_up, q_up]
          · rw [q_un qf']
            by_cases qm : q = m
            · subst qm; rw [q_up, q_up, q_un qf']
            · rw [q_un qm, q_un qm, q_un qf', q_un qf']
      | succ d ih =>
        intro k n c0 e hn g1 g2 k162
        obtain ⟨n, rfl⟩ : ∃ m, n = m + 1 := ⟨n - 1, by omega⟩
        have g : ¬ (7 : Int32) ≤ nI k := nI_ge (b := 7) (by omega) (by decide)
        have v1 : M_cell n 81 (nI m) (nI k) c0 = some (cells (47 * 81 + 7 * m + k)) := by
          have := q_cell (row := 81) (m := m) (w := k) (cells := c0) (n := n) (by omega)
          rw [g2 _ (by omega)] at this
          exact this
        have v2 : M_set n 81 (nI f) (nI k) (cells (47 * 81 + 7 * m + k)) c0 = some (eUp c0 (47 * 81 + 7 * f + k) (cells (47 * 81 + 7 * m + k))) := q_set (row := 81) (by omega)
        rw [M_step_211, if_neg g, v1, Option.bind_some, v2, Option.bind_some, nI_1]
        refine ih (k + 1) n _ (by omega) (by omega) (fun j hj => ?_) (fun j hj => ?_) k162
        · by_cases jk : j = k
          · subst jk; rw [q_up]
          · rw [q_un (by omega), g1 j (by omega)]
        · rw [q_un (by omega), g2 j (by omega)]
    exact key 7 0 n cells (by omega) (by omega) (fun j hj => absurd hj (by omega)) (fun _ _ => rfl) _

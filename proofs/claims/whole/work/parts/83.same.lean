theorem q_i47 (row k : Nat) : ((47 : Int32) * nI row) + nI k = nI (47 * row + k) := by
  have a : (47 : Int32) * nI row = nI (47 * row) := pk_mul 47 row
  rw [a, nI_add]
theorem q_copyM {fr to : Nat} (h1 : fr < 82) (h2 : to < 82) (hne : ¬ fr = to) (cells : Nat → Int32) {n : Nat} (hn : 48 ≤ n) : ∃ cells', M_copy n (nI fr) (nI to) cells = some cells' ∧ (∀ x, x < 47 → cells' (47 * to + x) = cells (47 * fr + x)) ∧ ∀ j, ¬ (47 * to ≤ j ∧ j < 47 * to + 47) → cells' j = cells j := by
  have key : ∀ (d k n : Nat) (c0 : Nat → Int32), k + d = 47 → d + 1 ≤ n → (∀ x, x < k → c0 (47 * to + x) = cells (47 * fr + x)) → (∀ j, ¬ (47 * to ≤ j ∧ j < 47 * to + 47) → c0 j = cells j) → ∃ cells', M_copy_2 (nI fr) (nI to) n (nI k) c0 = some cells' ∧ (∀ x, x < 47 → cells' (47 * to + x) = cells (47 * fr + x)) ∧ ∀ j, ¬ (47 * to ≤ j ∧ j < 47 * to + 47) → cells' j = cells j := by
    intro d
    induction d with
    | zero =>
      intro k n c0 e hn g1 g2
      obtain ⟨n, rfl⟩ : ∃ m, n = m + 1 := ⟨n - 1, by omega⟩
      have : k = 47 := by omega
      subst this
      exact ⟨c0, by rw [M_copy_2, if_pos (by decide)], g1, g2⟩
    | succ d ih =>
      intro k n c0 e hn g1 g2
      obtain ⟨n, rfl⟩ : ∃ m, n = m + 1 := ⟨n - 1, by omega⟩
      have a : ¬ (47 : Int32) ≤ nI k := nI_ge (b := 47) (by omega) (by decide)
      rw [M_copy_2, if_neg a, q_i47, q_i47, nI_clamp (by omega), if_neg (q_in (by omega) (by omega)), nI_clamp (by omega), if_neg (q_in (by omega) (by omega)), nI_1]
      refine ih (k + 1) n _ (by omega) (by omega) (fun x hx => ?_) (fun j hj => ?_)
      · by_cases xk : x = k
        · subst xk
          rw [q_up, g2 _ (by omega)]
        · rw [q_un (by omega), g1 x (by omega)]
      · rw [q_un (by omega), g2 j hj]
  exact key 47 0 n cells (by omega) (by omega) (fun x hx => absurd hx (by omega)) (fun _ _ => rfl)
theorem q_sameM {a b : Nat} (h1 : a < 82) (h2 : b < 82) (cells : Nat → Int32) {n : Nat} (hn : 48 ≤ n) : ∃ r : Bool, M_same n (nI a) (nI b) cells = some (qb r) ∧ (r = true ↔ ∀ x, x < 47 → cells (47 * a + x) = cells (47 * b + x)) := by
  have key : ∀ (d k n : Nat), k + d = 47 → d + 1 ≤ n → ∃ r : Bool, M_same_2 (nI a) (nI b) cells n (nI k) = some (qb r) ∧ (r = true ↔ ∀ x, k ≤ x → x < 47 → cells (47 * a + x) = cells (47 * b + x)) := by
    intro d
    induction d with
    | zero =>
      intro k n e hn
      obtain ⟨n, rfl⟩ : ∃ m, n = m + 1 := ⟨n - 1, by omega⟩
      have : k = 47 := by omega
      subst this
      exact ⟨true, by rw [M_same_2, if_pos (by decide)]; rfl, ⟨fun _ x h3 h4 => absurd h3 (by omega), fun _ => rfl⟩⟩
    | succ d ih =>
      intro k n e hn
      obtain ⟨n, rfl⟩ : ∃ m, n = m + 1 := ⟨n - 1, by omega⟩
      have g : ¬ (47 : Int32) ≤ nI k := nI_ge (b := 47) (by omega) (by decide)
      obtain ⟨r, e1, e2⟩ := ih (k + 1) n (by omega) (by omega)
      rw [M_same_2, if_neg g, q_i47, q_i47, nI_clamp (by omega), if_neg (q_in (by omega) (by omega)), nI_clamp (by omega), if_neg (q_in (by omega) (by omega)), nI_1, e1]
      by_cases c : cells (47 * a + k) = cells (47 * b + k)
      · rw [if_pos c]
        refine ⟨r, rfl, e2.trans ⟨fun h x h3 h4 => ?_, fun h x h3 h4 => h x (by omega) h4⟩⟩
        by_cases xk : x = k
        · subst xk; exact c
        · exact h x (by omega) h4
      · rw [if_neg c]
        exact ⟨false, rfl, ⟨fun h => absurd h (by decide), fun h => absurd (h k (Nat.le_refl _) (by omega)) c⟩⟩
  obtain ⟨r, e1, e2⟩ := key 47 0 n (by omega) (by omega)
  exact ⟨r, e1, e2.trans ⟨fun h x hx => h x (Nat.zero_le _) hx, fun h x _ hx => h x hx⟩⟩
def qeqc (lab : Nat → Int32) (par : Nat → Nat) (am : Nat → Nat → Nat) (lab' : Nat → Int32) (par' : Nat → Nat) (am' : Nat → Nat → Nat) : Prop :=
  (∀ m, m < 6 → lab m = lab' m) ∧ (∀ m, m < 6 → qpC lab par m = qpC lab' par' m) ∧ ∀ m, m < 7 → ∀ k, k < 5 → am m k = am' m k
theorem q_sameK {lab : Nat → Int32} {par : Nat → Nat} {am : Nat → Nat → Nat} {cl cp : Nat → Int32} {ch : Nat → Int64} (h : KC lab par am cl cp ch) {lab' : Nat → Int32} {par' : Nat → Nat} {am' : Nat → Nat → Nat} {dl dp : Nat → Int32} {dh : Nat → Int64} (h' : KC lab' par' am' dl dp dh) (hb : ∀ m, m < 7 → ∀ k, k < 5 → am m k < 4096) (hb' : ∀ m, m < 7 → ∀ k, k < 5 → am' m k < 4096) {n : Nat} (hn : 7 ≤ n) : ∃ r : Bool, K_isSame n cl cp ch dl dp dh = some (qb r) ∧ (r = true ↔ qeqc lab par am lab' par' am') := by
  have hq : ∀ m, m < 7 → (lg_cmp (ch m) (dh m) = 0 ↔ ∀ k, k < 5 → am m k = am' m k) := by
    intro m hm
    rw [q_cmp0, h.2.2 m hm, h'.2.2 m hm]
    exact qh_eq (hb m hm) (hb' m hm)
  have key : ∀ (d c n : Nat), c + d = 6 → d + 1 ≤ n → ∃ r : Bool, K_isSame_2 cl cp ch dl dp dh n (nI c) = some (qb r) ∧ (r = true ↔ (∀ m, c ≤ m → m < 6 → lab m = lab' m ∧ qpC lab par m = qpC lab' par' m) ∧ ∀ m, c ≤ m → m < 7 → ∀ k, k < 5 → am m k = am' m k) := by
    intro d
    induction d with
    | zero =>
      intro c n e hn
      obtain ⟨n, rfl⟩ : ∃ m, n = m + 1 := ⟨n - 1, by omega⟩
      have : c = 6 := by omega
      subst this
      rw [K_isSame_2, if_pos q_y6, if_neg (by decide), if_neg (by decide)]
      have e6 : (6 : Int32).toNatClampNeg = 6 := by decide
      rw [e6]
      by_cases z : lg_cmp (ch 6) (dh 6) = 0
      · rw [if_pos z]
        refine ⟨true, rfl, ⟨fun _ => ⟨fun m h1 h2 => absurd h1 (by omega), fun m h1 h2 k hk => ?_⟩, fun _ => rfl⟩⟩
        have : m = 6 := by omega
        subst this
        exact (hq 6 (by omega)).mp z k hk
      · rw [if_neg z]
        exact ⟨false, rfl, ⟨fun w => absurd w (by decide), fun w => absurd ((hq 6 (by omega)).mpr fun k hk => w.2 6 (Nat.le_refl _) (by omega) k hk) z⟩⟩
    | succ d ih =>
      intro c n e hn
      obtain ⟨n, rfl⟩ : ∃ m, n = m + 1 := ⟨n - 1, by omega⟩
      have hc : c < 6 := by omega
      obtain ⟨r, e1, e2⟩ := ih (c + 1) n (by omega) (by omega)
      rw [K_isSame_2, if_neg (q_n6 hc), nI_clamp (by omega), if_neg (q_in (by omega) (by omega)), if_neg (q_in (by omega) (by omega)), if_neg (q_in hc (by omega)), if_neg (q_in hc (by omega)), if_neg (q_in hc (by omega)), if_neg (q_in hc (by omega)), h.1 c hc, h'.1 c hc, h.2.1 c hc, h'.2.1 c hc, nI_1, e1]
      by_cases z : lg_cmp (ch c) (dh c) = 0
      · rw [if_pos z]
        by_cases y : lab c = lab' c
        · rw [if_pos y]
          by_cases x : qpC lab par c = qpC lab' par' c
          · rw [if_pos x]
            refine ⟨r, rfl, e2.trans ⟨fun w => ⟨fun m h1 h2 => ?_, fun m h1 h2 k hk => ?_⟩, fun w => ⟨fun m h1 h2 => w.1 m (by omega) h2, fun m h1 h2 => w.2 m (by omega) h2⟩⟩⟩
            · by_cases mc : m = c
              · subst mc; exact ⟨y, x⟩
              · exact w.1 m (by omega) h2
            · by_cases mc : m = c
              · subst mc; exact (hq m (by omega)).mp z k hk
              · exact w.2 m (by omega) h2 k hk
          · rw [if_neg x]
            exact ⟨false, rfl, ⟨fun w => absurd w (by decide), fun w => absurd (w.1 c (Nat.le_refl _) hc).2 x⟩⟩
        · rw [if_neg y]
          exact ⟨false, rfl, ⟨fun w => absurd w (by decide), fun w => absurd (w.1 c (Nat.le_refl _) hc).1 y⟩⟩
      · rw [if_neg z]
        exact ⟨false, rfl, ⟨fun w => absurd w (by decide), fun w => absurd ((hq c (by omega)).mpr fun k hk => w.2 c (Nat.le_refl _) (by omega) k hk) z⟩⟩
  obtain ⟨r, e1, e2⟩ := key 6 0 n (by omega) (by omega)
  refine ⟨r, e1, e2.trans ⟨fun w => ⟨fun m hm => (w.1 m (Nat.zero_le _) hm).1, fun m hm => (w.1 m (Nat.zero_le _) hm).2, fun m hm => w.2 m (Nat.zero_le _) hm⟩, fun w => ⟨fun m _ hm => ⟨w.1 m hm, w.2.1 m hm⟩, fun m _ hm => w.2.2 m hm⟩⟩⟩
def qok (am : Nat → Nat → Nat) : Prop := (∀ m, m < 6 → ∀ k, k < 5 → am m k ≤ 12) ∧ ∀ k, k < 5 → am 6 k ≤ 999
theorem q_much {lab : Nat → Int32} {par : Nat → Nat} {am : Nat → Nat → Nat} {cl cp : Nat → Int32} {ch : Nat → Int64} (h : KC lab par am cl cp ch) (hb : ∀ m, m < 7 → ∀ k, k < 5 → am m k < 4096) {n : Nat} (hn : 7 ≤ n) : ∃ r : Bool, K_isTooMuch n ch = some (qb r) ∧ (r = false ↔ qok am) := by
  have c12 : (3378524555624460 : Int64) = qh fun _ => 12 := by decide
  have c999 : (281262169255736295 : Int64) = qh fun _ => 999 := by decide
  have key : ∀ (d c n : Nat), c + d = 6 → d + 1 ≤ n → ∃ r : Bool, K_isTooMuch_2 ch n (nI c) = some (qb r) ∧ (r = false ↔ (∀ m, c ≤ m → m < 6 → ∀ k, k < 5 → am m k ≤ 12) ∧ ∀ k, k < 5 → am 6 k ≤ 999) := by
    intro d
    induction d with
    | zero =>
      intro c n e hn
      obtain ⟨n, rfl⟩ : ∃ m, n = m + 1 := ⟨n - 1, by omega⟩
      have : c = 6 := by omega
      subst this
      have e6 : (6 : Int32).toNatClampNeg = 6 := by decide
      rw [K_isTooMuch_2, if_pos q_y6, if_neg (by decide), e6, h.2.2 6 (by omega), c999]
      by_cases z : qle (am 6) fun _ => 999
      · rw [q_within_t (fun _ _ => by omega) z, Option.bind_some, if_neg (by decide)]
        exact ⟨false, rfl, ⟨fun _ => ⟨fun m h1 h2 => absurd h1 (by omega), z⟩, fun _ => rfl⟩⟩
      · rw [q_within_f (hb 6 (by omega)) (fun _ _ => by omega) z, Option.bind_some, if_pos rfl]
        exact ⟨true, rfl, ⟨fun w => absurd w (by decide), fun w => absurd w.2 z⟩⟩
    | succ d ih =>
      intro c n e hn
      obtain ⟨n, rfl⟩ : ∃ m, n = m + 1 := ⟨n - 1, by omega⟩
      have hc : c < 6 := by omega
      obtain ⟨r, e1, e2⟩ := ih (c + 1) n (by omega) (by omega)
      rw [K_isTooMuch_2, if_neg (q_n6 hc), nI_clamp (by omega), if_neg (q_in (by omega) (by omega)), h.2.2 c (by omega), c12, nI_1, e1]
      by_cases z : qle (am c) fun _ => 12
      · rw [q_within_t (fun _ _ => by omega) z, Option.bind_some, if_neg (by decide)]
        refine ⟨r, rfl, e2.trans ⟨fun w => ⟨fun m h1 h2 k hk => ?_, w.2⟩, fun w => ⟨fun m h1 h2 => w.1 m (by omega) h2, w.2⟩⟩⟩
        by_cases mc : m = c
        · subst mc; exact z k hk
        · exact w.1 m (by omega) h2 k hk
      · rw [q_within_f (hb c (by omega)) (fun _ _ => by omega) z, Option.bind_some, if_pos rfl]
        exact ⟨true, rfl, ⟨fun w => absurd w (by decide), fun w => absurd (fun k hk => w.1 c (Nat.le_refl _) hc k hk) z⟩⟩
  obtain ⟨r, e1, e2⟩ := key 6 0 n (by omega) (by omega)
  exact ⟨r, e1, e2.trans ⟨fun w => ⟨fun m hm => w.1 m (Nat.zero_le _) hm, w.2⟩, fun w => ⟨fun m _ hm => w.1 m hm, w.2⟩⟩⟩

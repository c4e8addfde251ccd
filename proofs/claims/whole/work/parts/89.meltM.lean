theorem KM_setk {lab : Nat → Int32} {par : Nat → Nat} {am : Nat → Nat → Nat} {cells : Nat → Int32} {row : Nat} (h : KM lab par am cells row) {q k x : Nat} (hq : q < 7) (hk : k < 5) : KM lab par (eUp am q (eUp (am q) k x)) (eUp cells (47 * row + 7 * q + k) (nI x)) row := by
  refine ⟨fun m hm => ?_, fun m hm => ?_, fun m hm j hj => ?_⟩
  · rw [q_un (by omega)]; exact h.1 m hm
  · rw [q_un (by omega)]; exact h.2.1 m hm
  · by_cases mq : m = q
    · subst mq
      rw [q_up]
      by_cases jk : j = k
      · subst jk; rw [q_up, q_up]
      · rw [q_un (by omega), q_un jk]; exact h.2.2 m hm j hj
    · rw [q_un (by omega), q_un mq]; exact h.2.2 m hm j hj
theorem KM_am {lab : Nat → Int32} {par : Nat → Nat} {am am' : Nat → Nat → Nat} {cells : Nat → Int32} {row : Nat} (h : KM lab par am cells row) (e : ∀ m, m < 7 → ∀ k, k < 5 → am m k = am' m k) : KM lab par am' cells row := ⟨h.1, h.2.1, fun m hm k hk => by rw [← e m hm k hk]; exact h.2.2 m hm k hk⟩
theorem qpM_iff {lab : Nat → Int32} {par : Nat → Nat} (hl : KL lab par) {m c : Nat} (hm : m < 6) (hc : c < 6) (h0 : ¬ c = 0) (hp : ¬ lab c = -1) : qpM lab par c = nI m ↔ qkid lab par m c = true := by
  unfold qpM qkid
  rw [if_neg h0, if_neg hp, decide_eq_true_iff, nI_eq (by have := (hl.2.2 c hc h0 hp).1; omega) (by omega)]
  exact ⟨fun e => ⟨h0, hp, e⟩, fun e => e.2.2⟩
def qmk (par : Nat → Nat) (am : Nat → Nat → Nat) (m k : Nat) : Nat → Nat → Nat := fun q j => if j < k then qma par am m q j else am q j
theorem qmk_t {par : Nat → Nat} {am : Nat → Nat → Nat} {m k q j : Nat} (h : j < k) : qmk par am m k q j = qma par am m q j := if_pos h
theorem qmk_f {par : Nat → Nat} {am : Nat → Nat → Nat} {m k q j : Nat} (h : ¬ j < k) : qmk par am m k q j = am q j := if_neg h
theorem q_meltM {lab : Nat → Int32} {par : Nat → Nat} {am : Nat → Nat → Nat} {cells : Nat → Int32} (hl : KL lab par) (h : KM lab par am cells 81) {m : Nat} (hm : m < 6) (h0 : ¬ m = 0) (hpr : ¬ lab m = -1) (hne : ¬ par m = m) {n : Nat} (hn : 20 ≤ n) : ∃ cells', M_melt n (nI m) cells = some cells' ∧ KM (eUp lab m (-1)) (qmp par m) (qma par am m) cells' 81 ∧ qfr 81 cells cells' := by
  have pm := (hl.2.2 m hm h0 hpr).1
  have cpm : cells (47 * 81 + 7 * m + 6) = nI (par m) := by
    rw [h.2.1 m hm]
    unfold qpM
    rw [if_neg h0, if_neg hpr]
  have key2 : ∀ (d c n : Nat) (c0 : Nat → Int32), c + d = 6 → 0 < c → d + 1 ≤ n → (∀ j, j < 6 → c0 (47 * 81 + 7 * j + 5) = lab j) → (∀ j, j < 6 → c0 (47 * 81 + 7 * j + 6) = if j < c then qpM lab (qmp par m) j else qpM lab par j) → (∀ j, j < 7 → ∀ k, k < 5 → c0 (47 * 81 + 7 * j + k) = nI (qma par am m j k)) → qfr 81 cells c0 → ∃ cells', M_melt_59 (nI m) n (nI (par m)) (nI c) c0 = some cells' ∧ KM (eUp lab m (-1)) (qmp par m) (qma par am m) cells' 81 ∧ qfr 81 cells cells' := by
    intro d
    induction d with
    | zero =>
      intro c n c0 e hc0 hn g1 g2 g3 g4
      obtain ⟨n, rfl⟩ : ∃ m, n = m + 1 := ⟨n - 1, by omega⟩
      have : c = 6 := by omega
      subst this
      have s5 : M_set n 81 (nI m) 5 (-1) c0 = some (eUp c0 (47 * 81 + 7 * m + 5) (-1)) := q_set (row := 81) (w := 5) (by omega)
      have s6 : M_set n 81 (nI m) 6 0 (eUp c0 (47 * 81 + 7 * m + 5) (-1)) = some (eUp (eUp c0 (47 * 81 + 7 * m + 5) (-1)) (47 * 81 + 7 * m + 6) 0) := q_set (row := 81) (w := 6) (by omega)
      refine ⟨eUp (eUp c0 (47 * 81 + 7 * m + 5) (-1)) (47 * 81 + 7 * m + 6) 0, ?_, ⟨fun j hj => ?_, fun j hj => ?_, fun j hj k hk => ?_⟩, fun j hj => ?_⟩
      · rw [M_melt_59, if_pos q_y6, s5, Option.bind_some, s6]; rfl
      · rw [q_un (by omega)]
        by_cases jm : j = m
        · subst jm; rw [q_up, q_up]
        · rw [q_un (by omega), q_un jm]; exact g1 j hj
      · by_cases jm : j = m
        · subst jm
          rw [q_up]
          unfold qpM
          rw [if_neg h0, q_up, if_pos rfl]
        · rw [q_un (by omega), q_un (by omega), g2 j hj, if_pos hj]
          unfold qpM
          rw [q_un jm]
      · rw [q_un (by omega), q_un (by omega)]; exact g3 j hj k hk
      · rw [q_un (by omega), q_un (by omega)]; exact g4 j hj
    | succ d ih =>
      intro c n c0 e hc0 hn g1 g2 g3 g4
      obtain ⟨n, rfl⟩ : ∃ m, n = m + 1 := ⟨n - 1, by omega⟩
      have hc : c < 6 := by omega
      have z : ¬ c = 0 := by omega
      have sk : qpM lab (qmp par m) c = qpM lab par c → ∀ j, j < 6 → c0 (47 * 81 + 7 * j + 6) = if j < c + 1 then qpM lab (qmp par m) j else qpM lab par j := by
        intro w j hj
        rw [g2 j hj]
        by_cases jc : j = c
        · subst jc; rw [if_neg (by omega), if_pos (by omega), w]
        · by_cases jl : j < c
          · rw [if_pos jl, if_pos (by omega)]
          · rw [if_neg jl, if_neg (by omega)]
      have c5 : M_cell n 81 (nI c) 5 c0 = some (lab c) := by
        have := q_cell5 (row := 81) (m := c) (cells := c0) (n := n) (by omega)
        rw [g1 c hc] at this
        exact this
      have c6 : M_cell n 81 (nI c) 6 c0 = some (qpM lab par c) := by
        have := q_cell6 (row := 81) (m := c) (cells := c0) (n := n) (by omega)
        rw [g2 c hc, if_neg (Nat.lt_irrefl _)] at this
        exact this
      have hs : M_has n 81 (nI c) c0 = some (qb (decide (¬ lab c = -1))) := by
        unfold M_has
        rw [if_neg (nI_pos (by omega)), if_neg (q_n6 hc), c5, Option.bind_some]
        by_cases a : lab c = -1
        · rw [if_pos ((q_lab_lt hl hc).mpr a), decide_eq_false (fun z => z a)]; rfl
        · rw [if_neg (fun z => a ((q_lab_lt hl hc).mp z)), decide_eq_true a]; rfl
      rw [M_melt_59, if_neg (q_n6 hc), hs, Option.bind_some, nI_1]
      by_cases a : lab c = -1
      · rw [decide_eq_false (fun z => z a), if_pos qb_f]
        refine ih (c + 1) n c0 (by omega) (by omega) (by omega) g1 (sk ?_) g3 g4
        unfold qpM
        rw [if_neg z, if_neg z, if_pos a, if_pos a]
      · rw [decide_eq_true a, if_neg qb_t, c6, Option.bind_some]
        by_cases k : qkid lab par m c = true
        · have st : M_set n 81 (nI c) 6 (nI (par m)) c0 = some (eUp c0 (47 * 81 + 7 * c + 6) (nI (par m))) := q_set (row := 81) (w := 6) (by omega)
          rw [if_pos ((qpM_iff hl hm hc z a).mpr k), st, Option.bind_some]
          refine ih (c + 1) n _ (by omega) (by omega) (by omega) (fun j hj => by rw [q_un (by omega)]; exact g1 j hj) (fun j hj => ?_) (fun j hj k hk => by rw [q_un (by omega)]; exact g3 j hj k hk) (fun j hj => by rw [q_un (by omega)]; exact g4 j hj)
          by_cases jc : j = c
          · subst jc
            rw [q_up, if_pos (by omega)]
            unfold qkid at k
            rw [decide_eq_true_iff] at k
            unfold qpM qmp
            rw [if_neg z, if_neg a, if_pos k.2.2]
          · rw [q_un (by omega), g2 j hj]
            by_cases jl : j < c
            · rw [if_pos jl, if_pos (by omega)]
            · rw [if_neg jl, if_neg (by omega)]
        · rw [if_neg (fun w => k ((qpM_iff hl hm hc z a).mp w))]
          refine ih (c + 1) n c0 (by omega) (by omega) (by omega) g1 (sk ?_) g3 g4
          unfold qkid at k
          rw [decide_eq_true_iff] at k
          unfold qpM qmp
          rw [if_neg z, if_neg z, if_neg a, if_neg a, if_neg (fun w => k ⟨z, a, w⟩)]
  have key : ∀ (d k n : Nat) (c0 : Nat → Int32), k + d = 5 → d + 8 ≤ n → KM lab par (qmk par am m k) c0 81 → qfr 81 cells c0 → ∃ cells', M_melt_12 (nI m) n (nI (par m)) (nI k) c0 = some cells' ∧ KM (eUp lab m (-1)) (qmp par m) (qma par am m) cells' 81 ∧ qfr 81 cells cells' := by
    intro d
    induction d with
    | zero =>
      intro k n c0 e hn g f
      obtain ⟨n, rfl⟩ : ∃ m, n = m + 1 := ⟨n - 1, by omega⟩
      have : k = 5 := by omega
      subst this
      rw [M_melt_12, if_pos q_y5]
      refine key2 5 1 n c0 (by omega) (by omega) (by omega) g.1 (fun j hj => ?_) (fun j hj k hk => ?_) f
      · rw [g.2.1 j hj]
        by_cases j0 : j = 0
        · subst j0; rfl
        · rw [if_neg (by omega)]
      · rw [g.2.2 j hj k hk, qmk_t hk]
    | succ d ih =>
      intro k n c0 e hn g f
      obtain ⟨n, rfl⟩ : ∃ m, n = m + 1 := ⟨n - 1, by omega⟩
      have hk : k < 5 := by omega
      have v2 : M_cell n 81 (nI (par m)) (nI k) c0 = some (nI (am (par m) k)) := by
        have := q_cell (row := 81) (m := par m) (w := k) (cells := c0) (n := n) (by omega)
        rw [g.2.2 (par m) (by omega) k hk, qmk_f (Nat.lt_irrefl _)] at this
        exact this
      have v3 : M_cell n 81 (nI m) (nI k) c0 = some (nI (am m k)) := by
        have := q_cell (row := 81) (m := m) (w := k) (cells := c0) (n := n) (by omega)
        rw [g.2.2 m (by omega) k hk, qmk_f (Nat.lt_irrefl _)] at this
        exact this
      have s1 : M_set n 81 (nI (par m)) (nI k) (nI (am (par m) k + am m k)) c0 = some (eUp c0 (47 * 81 + 7 * par m + k) (nI (am (par m) k + am m k))) := q_set (row := 81) (by omega)
      have s2 : M_set n 81 (nI m) (nI k) 0 (eUp c0 (47 * 81 + 7 * par m + k) (nI (am (par m) k + am m k))) = some (eUp (eUp c0 (47 * 81 + 7 * par m + k) (nI (am (par m) k + am m k))) (47 * 81 + 7 * m + k) (nI 0)) := q_set (row := 81) (by omega)
      rw [M_melt_12, if_neg (q_n5 hk), v2, Option.bind_some, v3, Option.bind_some, nI_add, s1, Option.bind_some, s2, Option.bind_some, nI_1]
      refine ih (k + 1) n _ (by omega) (by omega) (KM_am (KM_setk (KM_setk g (by omega) hk) (by omega) hk) fun q hq j hj => ?_) (fun j hj => by rw [q_un (by omega), q_un (by omega)]; exact f j hj)
      by_cases jk : j = k
      · subst jk
        rw [qmk_t (Nat.lt_succ_self _)]
        unfold qma
        by_cases qm : q = m
        · subst qm; rw [q_up, q_up, q_up]
        · rw [q_un qm, q_un qm]
          by_cases qp : q = par m
          · subst qp; rw [q_up, q_up, q_up]
          · rw [q_un qp, q_un qp, qmk_f (Nat.lt_irrefl _)]
      · have L : eUp (eUp (qmk par am m k) (par m) (eUp (qmk par am m k (par m)) k (am (par m) k + am m k))) m (eUp (eUp (qmk par am m k) (par m) (eUp (qmk par am m k (par m)) k (am (par m) k + am m k)) m) k 0) q j = qmk par am m k q j := by
          by_cases qm : q = m
          · subst qm; rw [q_up, q_un jk, q_un (fun w => hne w.symm)]
          · rw [q_un qm]
            by_cases qp : q = par m
            · subst qp; rw [q_up, q_un jk]
            · rw [q_un qp]
        rw [L]
        by_cases jl : j < k
        · rw [qmk_t jl, qmk_t (by omega)]
        · rw [qmk_f jl, qmk_f (by omega)]
  have c6 : M_cell n 81 (nI m) 6 cells = some (nI (par m)) := by
    have := q_cell6 (row := 81) (m := m) (cells := cells) (n := n) (by omega)
    rw [cpm] at this
    exact this
  unfold M_melt
  rw [c6, Option.bind_some]
  refine key 5 0 n cells (by omega) (by omega) (KM_am h fun q hq k hk => ?_) (fun _ _ => rfl)
  rw [qmk_f (by omega)]

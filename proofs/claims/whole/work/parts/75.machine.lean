def qT (ru : Nat → Nat → Nat) (rest : Nat → Nat) (s : Bool) (i : Nat) : Nat := qt rest (qf (ru i 1)) (qcap (decide (0 < ru i 6)) s)
def qR (ru : Nat → Nat → Nat) (rest : Nat → Nat) (t i : Nat) : Nat → Nat := fun k => rest k - t * qf (ru i 1) k
def qS (ru : Nat → Nat → Nat) (s : Bool) (t i : Nat) : Bool := s || (decide (0 < t) && decide (0 < ru i 6))
theorem qT_le {ru : Nat → Nat → Nat} {rest : Nat → Nat} {s : Bool} {i : Nat} : qT ru rest s i ≤ 12 := by
  have := qt_le (rest := rest) (left := qf (ru i 1)) (m := qcap (decide (0 < ru i 6)) s)
  have h : qcap (decide (0 < ru i 6)) s ≤ 12 := by
    unfold qcap
    split
    · split <;> omega
    · omega
  unfold qT; omega
theorem qT_fits {ru : Nat → Nat → Nat} {rest : Nat → Nat} {s : Bool} {i t : Nat} (h : t ≤ qT ru rest s i) : ∀ k, k < 5 → t * qf (ru i 1) k ≤ rest k := (qt_iff.mp h).2
theorem qR_sub {ru : Nat → Nat → Nat} {rest : Nat → Nat} {s : Bool} {i t : Nat} (h : t ≤ qT ru rest s i) : qh rest - lN t * qh (qf (ru i 1)) = qh (qR ru rest t i) := by
  rw [qh_mul, qh_sub (qT_fits h)]; rfl
theorem qR_le {ru : Nat → Nat → Nat} {rest : Nat → Nat} {t i k : Nat} : qR ru rest t i k ≤ rest k := Nat.sub_le _ _
def qgr (ru : Nat → Nat → Nat) : List Nat → (Nat → Nat) → Bool → (Nat → Nat) → (Nat → Nat)
  | [], _, _, u => u
  | i :: l, rest, s, u => qgr ru l (qR ru rest (qT ru rest s i) i) (qS ru s (qT ru rest s i) i) (eUp u i (qT ru rest s i))
theorem qol_sorted {p : Nat → Bool} : ∀ (d c : Nat), (qol p c d).Pairwise (· < ·) := by
  intro d
  induction d with
  | zero => intro c; exact List.Pairwise.nil
  | succ d ih =>
    intro c
    unfold qol
    split
    · exact List.Pairwise.cons (fun i hi => by have := qol_mem d (c + 1) i hi; omega) (ih (c + 1))
    · exact ih (c + 1)
theorem qgr_lt {ru : Nat → Nat → Nat} : ∀ (l : List Nat) (rest : Nat → Nat) (s : Bool) (u : Nat → Nat), (∀ k, k < 6 → u k < 16) → ∀ k, k < 6 → qgr ru l rest s u k < 16 := by
  intro l
  induction l with
  | nil => intro rest s u h; exact h
  | cons i l ih =>
    intro rest s u h
    unfold qgr
    refine ih _ _ _ fun k hk => ?_
    have := h k hk
    have := qT_le (ru := ru) (rest := rest) (s := s) (i := i)
    unfold eUp; split <;> omega
theorem qgr_out {ru : Nat → Nat → Nat} : ∀ (l : List Nat) (rest : Nat → Nat) (s : Bool) (u : Nat → Nat) (k : Nat), k ∉ l → qgr ru l rest s u k = u k := by
  intro l
  induction l with
  | nil => intro rest s u k _; rfl
  | cons i l ih =>
    intro rest s u k h
    unfold qgr
    rw [ih _ _ _ k (fun w => h (List.mem_cons_of_mem _ w)), q_un]
    intro w
    subst w
    exact h (List.mem_cons_self ..)
theorem q_machine {cnt : Nat} {ru : Nat → Nat → Nat} {ul : Nat → Int32} {ue uk uh uo ui : Nat → Int64} {ut ud uv : Nat → Int32} {ux : Nat → Int64} (hu : UL cnt ru) (hc : UC cnt ru ul ue uk uh uo ui ut ud uv ux) {ol : List Nat} {g : Nat → Option Nat} (hg : ∀ j, j < ol.length → g j = ol[j]?) (h6 : ol.length ≤ 6) (ho : ∀ i, i ∈ ol → i < cnt) : ∀ (l : List Nat) (j n : Nat) (rest : Nat → Nat) (s : Bool) (u : Nat → Nat), ol.drop j = l → j + l.length = ol.length → l.length + 15 ≤ n → (∀ k, k < 5 → rest k < 2048) → (∀ k, k < 6 → u k < 16) → (∀ i, i ∈ l → u i = 0) → l.Pairwise (· < ·) → O_machineChoice_24 ue ud uv n (qh rest) (qb s) (nI (c4p u)) (nI j) (nI ol.length) g = some (nI (c4p (qgr ru l rest s u)), nI ol.length, g) := by
  intro l
  induction l with
  | nil =>
    intro j n rest s u e el hn hr h16 h0 hp
    obtain ⟨n, rfl⟩ : ∃ m, n = m + 1 := ⟨n - 1, by omega⟩
    have : j = ol.length := el
    subst this
    rw [O_machineChoice_24, if_pos (nI_le (Nat.le_refl _) (by omega))]; rfl
  | cons i l ih =>
    intro j n rest s u e el hn hr h16 h0 hp
    obtain ⟨n, rfl⟩ : ∃ m, n = m + 1 := ⟨n - 1, by omega⟩
    rw [List.length_cons] at el hn
    have hj : j < ol.length := by omega
    have gj : g j = some i := by
      rw [hg j hj]
      have := congrArg (fun x => x[0]?) e
      rw [List.getElem?_drop] at this
      exact this
    have hi : i < cnt := by
      apply ho
      have : i ∈ ol.drop j := by rw [e]; exact List.mem_cons_self ..
      exact List.mem_of_mem_drop this
    have i6 : i < 6 := by have := hu.1; omega
    have ed : ol.drop (j + 1) = l := by
      rw [← List.drop_drop, e]; rfl
    obtain ⟨c1, c2, c3, c4, c5, c6, c7, c8, c9, c10⟩ := hc i hi
    have tl := qT_le (ru := ru) (rest := rest) (s := s) (i := i)
    have em : R_mostUses n (qh rest) (qb s) (ue i) (ud i) (uv i) = some (nI (qT ru rest s i)) := by
      rw [c2, c8, c9, q_most hr (fun k _ => qf_lt _ k) s _ _ (by omega), q_act hu hi]; rfl
    have er : qh rest - (nI (qT ru rest s i)).toInt64 * ue i = qh (qR ru rest (qT ru rest s i) i) := by
      rw [c2, nI_l (by omega), qR_sub (Nat.le_refl _)]
    have e96 : ∀ s', O_machineChoice_96 (O_machineChoice_24 ue ud uv n) n (qh (qR ru rest (qT ru rest s i) i)) (nI (c4p u)) (nI j) (nI (qT ru rest s i)) (qb s') (nI ol.length) g = O_machineChoice_24 ue ud uv n (qh (qR ru rest (qT ru rest s i) i)) (qb s') (nI (c4p (eUp u i (qT ru rest s i)))) (nI (j + 1)) (nI ol.length) g := by
      intro s'
      unfold O_machineChoice_96
      rw [nI_clamp (by omega), if_neg (q_in (by omega) (by omega)), gj]
      show (if 6 ≤ i then none else _) = _
      rw [if_neg (by omega), q_with h16 i6 (by omega) (h0 i (List.mem_cons_self ..)), Option.bind_some, nI_1]
    have ihh := ih (j + 1) n (qR ru rest (qT ru rest s i) i) (qS ru s (qT ru rest s i) i) (eUp u i (qT ru rest s i)) ed (by omega) (by omega) (fun k hk => Nat.lt_of_le_of_lt qR_le (hr k hk)) (fun k hk => by
      have := h16 k hk
      unfold eUp; split <;> omega) (fun k hk => by
      have := List.rel_of_pairwise_cons hp hk
      rw [q_un (by omega)]
      exact h0 k (List.mem_cons_of_mem _ hk)) (List.Pairwise.of_cons hp)
    rw [O_machineChoice_24, if_neg (nI_ge hj (by omega)), nI_clamp (by omega), if_neg (q_in (by omega) (by omega)), gj]
    show (if 6 ≤ i then none else _) = _
    rw [if_neg (by omega), em, Option.bind_some, if_neg (q_in (by omega) (by omega)), er]
    unfold O_machineChoice_95 O_machineChoice_91
    have e0 := e96 false
    have e1 := e96 true
    rw [show qb false = 0 from rfl] at e0
    rw [show qb true = 1 from rfl] at e1
    rw [e0, e1]
    unfold qgr
    have t1 : qb true = 1 := rfl
    have t0 : qb false = 0 := rfl
    cases s with
    | true =>
      rw [if_neg qb_t, ← t1]
      exact ihh
    | false =>
      rw [if_pos qb_f]
      by_cases z : qT ru rest false i = 0
      · rw [if_pos (show nI (qT ru rest false i) ≤ 0 by rw [z]; decide), ← t0]
        have : qS ru false (qT ru rest false i) i = false := by unfold qS; rw [z]; rfl
        rw [this] at ihh ⊢
        exact ihh
      · rw [if_neg (nI_nle (by omega) (by omega)), if_neg (q_in (by omega) (by omega)), c8, c9, q_once, Option.bind_some, q_act hu hi]
        have y : qS ru false (qT ru rest false i) i = decide (0 < ru i 6) := by unfold qS; rw [decide_eq_true (show 0 < qT ru rest false i by omega)]; rfl
        rw [y] at ihh ⊢
        by_cases x : 0 < ru i 6
        · rw [decide_eq_true x] at ihh ⊢
          rw [if_neg qb_t, ← t1]
          exact ihh
        · rw [decide_eq_false x] at ihh ⊢
          rw [if_pos qb_f, ← t0]
          exact ihh
theorem q_greedy {lab : Nat → Int32} {par : Nat → Nat} {am : Nat → Nat → Nat} {cells : Nat → Int32} {row : Nat} (hl : KL lab par) (h : KM lab par am cells row) (hr : row < 82) {cnt : Nat} {ru : Nat → Nat → Nat} {ml me mh mo mi mt ma mx : Nat → Int32} (hu : UL cnt ru) (hM : UM cnt ru ml me mh mo mi mt ma mx) {m : Nat} (hm : m < 6) : ∀ (d c n : Nat) (rest : Nat → Nat) (s : Bool) (u : Nat → Nat) (R U : Nat → Int32), c + d = cnt → d + 8 ≤ n → (∀ k, k < 5 → R k = nI (rest k)) → (∀ k, k < 5 → rest k ≤ 12) → (∀ k, k < 6 → U k = nI (u k)) → (∀ k, k < 6 → u k < 16) → (∀ k, c ≤ k → k < 6 → u k = 0) → ∃ R' U' A', M_greedy_8 (nI row) (nI m) (nI cnt) ml me mi mt ma cells n (nI c) R U (qb s) = some (nI (c5p (qgr ru (qol (qopl lab par ru m) c d) rest s u)), R', U', qb A') := by
  have c6 := hu.1
  intro d
  induction d with
  | zero =>
    intro c n rest s u R U e hn hR h12 hU h16 h0
    obtain ⟨n, rfl⟩ : ∃ m, n = m + 1 := ⟨n - 1, by omega⟩
    refine ⟨R, U, s, ?_⟩
    have : c = cnt := by omega
    subst this
    rw [M_greedy_8, if_pos (nI_le (Nat.le_refl _) (by omega)), q_pack (fun k hk => Nat.lt_trans (h16 k hk) (by omega)) hU c6 h0 (by omega)]; rfl
  | succ d ih =>
    intro c n rest s u R U e hn hR h12 hU h16 h0
    obtain ⟨n, rfl⟩ : ∃ m, n = m + 1 := ⟨n - 1, by omega⟩
    have hc : c < cnt := by omega
    obtain ⟨b0, b1, b2, b3, b4, b5, b6, b7, b8⟩ := hu.2 c hc
    obtain ⟨c1, c2, c3, c4, c5, cc6, c7, c8⟩ := hM c hc
    rw [M_greedy_8, if_neg (nI_ge hc (by omega)), q_allowed hl h hr hu hM hR h12 s hm hc (by omega), Option.bind_some]
    obtain ⟨R', e1, e2⟩ := q_take (R := R) (U := U) (nn := nI (qal lab par ru m rest s c)) (s := s) (show c < 6 by omega) c2 b2 c7 b7 (n := n) (by omega)
    rw [e1, Option.bind_some, nI_1]
    unfold qal at e2 ⊢
    by_cases o : qopl lab par ru m c = true
    · rw [if_pos o] at e2
      rw [if_pos o]
      have q : qol (qopl lab par ru m) c (d + 1) = c :: qol (qopl lab par ru m) (c + 1) d := by rw [qol, if_pos o]
      rw [q]
      unfold qgr
      have tl := qT_le (ru := ru) (rest := rest) (s := s) (i := c)
      have tf := qT_fits (ru := ru) (rest := rest) (s := s) (i := c) (Nat.le_refl _)
      have ea : (if 0 < ru c 6 ∧ ¬ nI (qT ru rest s c) = 0 then (if nI (qT ru rest s c) ≤ 0 then (0 : Int32) else 1) else qb s) = qb (qS ru s (qT ru rest s c) c) := by
        unfold qS
        by_cases x : 0 < ru c 6
        · by_cases y : qT ru rest s c = 0
          · rw [if_neg (fun w => w.2 (by rw [y]; rfl)), y]; simp
          · have y2 : ¬ nI (qT ru rest s c) = 0 := nI_ne0 (by omega) (by omega)
            rw [if_pos ⟨x, y2⟩, if_neg (nI_nle (by omega) (by omega)), decide_eq_true x, decide_eq_true (show 0 < qT ru rest s c by omega)]
            cases s <;> rfl
        · rw [if_neg (fun w => x w.1), decide_eq_false x]; simp
      have ih2 := ih (c + 1) n (qR ru rest (qT ru rest s c) c) (qS ru s (qT ru rest s c) c) (eUp u c (qT ru rest s c)) R' (eUp U c (U c + nI (qT ru rest s c))) (by omega) (by omega) (fun k hk => by
          have := h12 k hk
          rw [e2 k hk, hR k hk]
          show nI (rest k) - nI (qT ru rest s c) * nI (qf (ru c 1) k) = _
          rw [pk_mul, pk_sub (tf k hk)]; rfl) (fun k hk => Nat.le_trans qR_le (h12 k hk)) (fun k hk => by
          by_cases kc : k = c
          · subst kc; rw [q_up, q_up, hU k hk, h0 k (Nat.le_refl _) hk, nI_add, Nat.zero_add]
          · rw [q_un kc, q_un kc, hU k hk]) (fun k hk => by
          have := h16 k hk
          unfold eUp; split <;> omega) (fun k h1 h2 => by rw [q_un (by omega), h0 k (by omega) h2])
      obtain ⟨R2, U2, A2, e3⟩ := ih2
      refine ⟨R2, U2, A2, ?_⟩
      rw [← e3]
      show M_greedy_8 _ _ _ _ _ _ _ _ _ _ _ _ _ (if 0 < ru c 6 ∧ ¬ nI (qT ru rest s c) = 0 then (if nI (qT ru rest s c) ≤ 0 then (0 : Int32) else 1) else qb s) = _
      rw [ea]; rfl
    · rw [if_neg o] at e2
      rw [if_neg o]
      have q : qol (qopl lab par ru m) c (d + 1) = qol (qopl lab par ru m) (c + 1) d := by rw [qol, if_neg o]
      rw [q]
      have ih2 := ih (c + 1) n rest s u R' (eUp U c (U c + nI 0)) (by omega) (by omega) (fun k hk => by
          rw [e2 k hk, hR k hk, pk_mul, pk_sub (by omega)]; simp) h12 (fun k hk => by
          by_cases kc : k = c
          · subst kc; rw [q_up, hU k hk, nI_add, Nat.add_zero]
          · rw [q_un kc, hU k hk]) h16 (fun k h1 h2 => h0 k (by omega) h2)
      obtain ⟨R2, U2, A2, e3⟩ := ih2
      refine ⟨R2, U2, A2, ?_⟩
      rw [← e3, if_neg (fun w => w.2 nI_0)]

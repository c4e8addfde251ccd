theorem KM_fr {lab : Nat → Int32} {par : Nat → Nat} {am : Nat → Nat → Nat} {cells cells' : Nat → Int32} {row r2 : Nat} (h : KM lab par am cells row) (hf : qfr r2 cells cells') (hne : ¬ row = r2) : KM lab par am cells' row := by
  refine ⟨fun m hm => ?_, fun m hm => ?_, fun m hm k hk => ?_⟩
  · rw [hf _ (by omega)]; exact h.1 m hm
  · rw [hf _ (by omega)]; exact h.2.1 m hm
  · rw [hf _ (by omega)]; exact h.2.2 m hm k hk
theorem qfr_trans {row : Nat} {a b c : Nat → Int32} (h : qfr row a b) (g : qfr row b c) : qfr row a c := fun j hj => (g j hj).trans (h j hj)
theorem q_negmul {a t b : Nat} (h : t * b ≤ a) : nI a + (-nI t) * nI b = nI (a - t * b) := by
  rw [Int32.neg_mul, ← Int32.sub_eq_add_neg, pk_mul, pk_sub h]
theorem q_useM {lab : Nat → Int32} {par : Nat → Nat} {am am0 : Nat → Nat → Nat} {cells : Nat → Int32} {row : Nat} (hl : KL lab par) (h0 : KM lab par am0 cells row) (h : KM lab par am cells 81) (hr : row < 81) {cnt : Nat} {ru : Nat → Nat → Nat} {ml me mh mo mi mt ma mx : Nat → Int32} (hu : UL cnt ru) (hM : UM cnt ru ml me mh mo mi mt ma mx) {m i t : Nat} (hm : m < 6) (hpr : ¬ lab m = -1) (hi : i < cnt) (ht : t ≤ 12) (ht0 : 0 < t) (hfit : ∀ k, k < 5 → t * qf (ru i 1) k ≤ am m k) (hchild : ¬ ru i 4 = 0 → (qfind (qkl lab par m (nI (ru i 5))) 1 5).isSome = true) {mc : Nat → Int32} {u : Nat → Nat} (hu32 : ∀ k, k < 6 → u k < 32) (hmc : mc m = nI (c5p u)) (hut : u i = t) (k9 : Int32 → (Nat → Int32) → Option (Int32 × (Nat → Int32))) {n : Nat} (hn : 7 ≤ n) : ∃ cells', M_step_17 (nI row) (nI cnt) me mh mo mi mt ma mc k9 (n + 1) (nI m) (nI i) cells = M_step_17 (nI row) (nI cnt) me mh mo mi mt ma mc k9 n (nI m) (nI (i + 1)) cells' ∧ KM lab par (quse lab par ru am m i t) cells' 81 ∧ qfr 81 cells cells' := by
  obtain ⟨b0, b1, b2, b3, b4, b5, b6, b7, b8⟩ := hu.2 i hi
  obtain ⟨c1, c2, c3, c4, c5, c6, c7, c8⟩ := hM i hi
  have cn6 := hu.1
  have i6 : i < 6 := by omega
  have posv : ∀ (a : Nat → Nat → Nat) (p hh k : Nat), nI (a p k) + nI t * nI (qf hh k) = nI (a p k + qs t (qf hh) k) := by
    intro a p hh k
    rw [pk_mul, nI_add]; rfl
  have e83 : ∀ (a : Nat → Nat → Nat) (c0 : Nat → Int32), KM lab par am0 c0 row → KM lab par a c0 81 → qfr 81 cells c0 → ∃ cells', M_step_83 (nI row) mo mi mt k9 (M_step_17 (nI row) (nI cnt) me mh mo mi mt ma mc k9 n) n (nI m) (nI i) (nI t) c0 = M_step_17 (nI row) (nI cnt) me mh mo mi mt ma mc k9 n (nI m) (nI (i + 1)) cells' ∧ KM lab par (if ru i 4 = 0 then qadd a (qpp par m) (qs t (qf (ru i 3))) else match qfind (qkl lab par m (nI (ru i 5))) 1 5 with | none => qadd a (qpp par m) (qs t (qf (ru i 3))) | some c => qadd (qadd a (qpp par m) (qs t (qf (ru i 3)))) c (qs t (qf (ru i 4)))) cells' 81 ∧ qfr 81 cells cells' := by
    intro a c0 g0 g1 g2
    unfold M_step_83
    have hP : (qpp par m < 6 ∧ qpM lab par m = nI (qpp par m)) ∨ (qpp par m = 6 ∧ qpM lab par m < 0) := by
      unfold qpp qpM
      by_cases z : m = 0
      · rw [if_pos z, if_pos z]; exact Or.inr ⟨rfl, by decide⟩
      · rw [if_neg z, if_neg z, if_neg hpr]; exact Or.inl ⟨(hl.2.2 m hm z hpr).1, rfl⟩
    obtain ⟨d1, f1, f2, f3⟩ := q_give g1 (by omega) (p := qpp par m) (hh := ru i 3) (by rcases hP with w | w <;> omega) b4 hP (X := nI t) (fun k hk => posv a (qpp par m) (ru i 3) k) (n := n) (by omega)
    have f1' : M_give n 81 (qpM lab par m) (nI (ru i 3)) (nI t) c0 = some d1 := f1
    rw [q_cell6 (by omega), Option.bind_some, g0.2.1 m hm, nI_clamp (by omega), if_neg (q_in i6 (by omega)), c4, f1', Option.bind_some, if_neg (q_in i6 (by omega)), c5, nI_1]
    by_cases z : ru i 4 = 0
    · rw [z, if_pos (by decide), if_pos rfl]
      exact ⟨d1, rfl, f2, qfr_trans g2 f3⟩
    · rw [if_neg (nI_nle (by omega) (by omega)), if_neg (q_in i6 (by omega)), if_neg z, c6 z, q_childOf hl (KM_fr g0 f3 (by omega)) (by omega) hm (q_m1' (by omega)) hn, Option.bind_some, if_neg (q_in i6 (by omega))]
      cases o : qfind (qkl lab par m (nI (ru i 5))) 1 5 with
      | none =>
        have := hchild z
        rw [o] at this
        cases this
      | some c =>
        have cl6 := qfind_lt o
        obtain ⟨d2, x1, x2, x3⟩ := q_give f2 (by omega) (p := c) (hh := ru i 4) (by omega) b5 (P := nI c) (Or.inl ⟨by omega, rfl⟩) (X := nI t) (fun k hk => posv _ c (ru i 4) k) (n := n) (by omega)
        have x1' : M_give n 81 (qoI (some c)) (nI (ru i 4)) (nI t) d1 = some d2 := x1
        rw [x1', Option.bind_some]
        exact ⟨d2, rfl, x2, qfr_trans g2 (qfr_trans f3 x3)⟩
  obtain ⟨d1, f1, f2, f3⟩ := q_give h (by omega) (p := m) (hh := ru i 1) (by omega) b2 (P := nI m) (Or.inl ⟨hm, rfl⟩) (X := -nI t) (fun k hk => q_negmul (hfit k hk)) (n := n) (by omega)
  have f1' : M_give n 81 (nI m) (nI (ru i 1)) (-nI t) cells = some d1 := f1
  have us := q_used hu32 i6 n
  rw [hut] at us
  rw [M_step_17, if_neg (nI_ge hi (by omega)), nI_clamp (by omega), if_neg (q_in hm (by omega)), hmc, us, Option.bind_some, if_neg (nI_nle ht0 (by omega)), nI_clamp (by omega), if_neg (q_in i6 (by omega)), c2, f1', Option.bind_some, if_neg (q_in i6 (by omega)), c7, c3]
  unfold quse
  by_cases x : ru i 6 = 2
  · rw [if_pos (show (2 : Int32) ≤ nI (ru i 6) by rw [x]; decide)]
    simp only [if_pos x]
    exact e83 _ d1 (KM_fr h0 f3 (by omega)) f2 f3
  · have g : ¬ (2 : Int32) ≤ nI (ru i 6) := nI_ge (b := 2) (by omega) (by decide)
    obtain ⟨d2, x1, x2, x3⟩ := q_give f2 (by omega) (p := m) (hh := ru i 2) (by omega) b3 (P := nI m) (Or.inl ⟨hm, rfl⟩) (X := nI t) (fun k hk => posv _ m (ru i 2) k) (n := n) (by omega)
    have x1' : M_give n 81 (nI m) (nI (ru i 2)) (nI t) d1 = some d2 := x1
    rw [if_neg g, if_neg (q_in i6 (by omega)), x1', Option.bind_some]
    simp only [if_neg x]
    exact e83 _ d2 (KM_fr (KM_fr h0 f3 (by omega)) x3 (by omega)) x2 (qfr_trans f3 x3)

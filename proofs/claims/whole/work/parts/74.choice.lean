def c4p (u : Nat → Nat) : Nat := u 0 + 16 * (u 1 + 16 * (u 2 + 16 * (u 3 + 16 * (u 4 + 16 * u 5))))
def c5p (u : Nat → Nat) : Nat := u 0 + 32 * (u 1 + 32 * (u 2 + 32 * (u 3 + 32 * (u 4 + 32 * u 5))))
theorem q6 {p : Nat → Prop} (h : ∀ k, k < 6 → p k) : p 0 ∧ p 1 ∧ p 2 ∧ p 3 ∧ p 4 ∧ p 5 := ⟨h 0 (by omega), h 1 (by omega), h 2 (by omega), h 3 (by omega), h 4 (by omega), h 5 (by omega)⟩
theorem c4p_congr {a b : Nat → Nat} (h : ∀ k, k < 6 → a k = b k) : c4p a = c4p b := by
  obtain ⟨h0, h1, h2, h3, h4, h5⟩ := q6 h
  unfold c4p; rw [h0, h1, h2, h3, h4, h5]
theorem c5p_congr {a b : Nat → Nat} (h : ∀ k, k < 6 → a k = b k) : c5p a = c5p b := by
  obtain ⟨h0, h1, h2, h3, h4, h5⟩ := q6 h
  unfold c5p; rw [h0, h1, h2, h3, h4, h5]
theorem c4p_lt {a : Nat → Nat} (h : ∀ k, k < 6 → a k < 16) : c4p a < 2 ^ 24 := by
  obtain ⟨h0, h1, h2, h3, h4, h5⟩ := q6 h
  unfold c4p; omega
theorem c5p_lt {a : Nat → Nat} (h : ∀ k, k < 6 → a k < 32) : c5p a < 2 ^ 30 := by
  obtain ⟨h0, h1, h2, h3, h4, h5⟩ := q6 h
  unfold c5p; omega
theorem q_sp4 {x y l l' : Nat} (h : l < 16) (h' : l' < 16) : (l + 16 * x) ||| (l' + 16 * y) = (l ||| l') + 16 * (x ||| y) := by
  have hm : ((l + 16 * x) ||| (l' + 16 * y)) % 2 ^ 4 = ((l + 16 * x) % 2 ^ 4) ||| ((l' + 16 * y) % 2 ^ 4) := Nat.or_mod_two_pow
  have hd : ((l + 16 * x) ||| (l' + 16 * y)) / 2 ^ 4 = ((l + 16 * x) / 2 ^ 4) ||| ((l' + 16 * y) / 2 ^ 4) := Nat.or_div_two_pow
  have e1 : (l + 16 * x) % 2 ^ 4 = l := by omega
  have e2 : (l' + 16 * y) % 2 ^ 4 = l' := by omega
  have e3 : (l + 16 * x) / 2 ^ 4 = x := by omega
  have e4 : (l' + 16 * y) / 2 ^ 4 = y := by omega
  rw [e1, e2] at hm
  rw [e3, e4] at hd
  omega
theorem q_sp5 {x y l l' : Nat} (h : l < 32) (h' : l' < 32) : (l + 32 * x) ||| (l' + 32 * y) = (l ||| l') + 32 * (x ||| y) := by
  have hm : ((l + 32 * x) ||| (l' + 32 * y)) % 2 ^ 5 = ((l + 32 * x) % 2 ^ 5) ||| ((l' + 32 * y) % 2 ^ 5) := Nat.or_mod_two_pow
  have hd : ((l + 32 * x) ||| (l' + 32 * y)) / 2 ^ 5 = ((l + 32 * x) / 2 ^ 5) ||| ((l' + 32 * y) / 2 ^ 5) := Nat.or_div_two_pow
  have e1 : (l + 32 * x) % 2 ^ 5 = l := by omega
  have e2 : (l' + 32 * y) % 2 ^ 5 = l' := by omega
  have e3 : (l + 32 * x) / 2 ^ 5 = x := by omega
  have e4 : (l' + 32 * y) / 2 ^ 5 = y := by omega
  rw [e1, e2] at hm
  rw [e3, e4] at hd
  omega
theorem c4p_or {a b : Nat → Nat} (ha : ∀ k, k < 6 → a k < 16) (hb : ∀ k, k < 6 → b k < 16) : c4p a ||| c4p b = c4p fun k => a k ||| b k := by
  obtain ⟨h0, h1, h2, h3, h4, h5⟩ := q6 ha
  obtain ⟨g0, g1, g2, g3, g4, g5⟩ := q6 hb
  unfold c4p; rw [q_sp4 h0 g0, q_sp4 h1 g1, q_sp4 h2 g2, q_sp4 h3 g3, q_sp4 h4 g4]
theorem c5p_or {a b : Nat → Nat} (ha : ∀ k, k < 6 → a k < 32) (hb : ∀ k, k < 6 → b k < 32) : c5p a ||| c5p b = c5p fun k => a k ||| b k := by
  obtain ⟨h0, h1, h2, h3, h4, h5⟩ := q6 ha
  obtain ⟨g0, g1, g2, g3, g4, g5⟩ := q6 hb
  unfold c5p; rw [q_sp5 h0 g0, q_sp5 h1 g1, q_sp5 h2 g2, q_sp5 h3 g3, q_sp5 h4 g4]
theorem q_orI {a b : Nat} (ha : a < 2 ^ 32) (hb : b < 2 ^ 32) : nI a ||| nI b = nI (a ||| b) := by
  apply Int32.toBitVec_inj.mp
  apply BitVec.eq_of_toNat_eq
  rw [Int32.toBitVec_or, BitVec.toNat_or, pk_tn ha, pk_tn hb, pk_tn (Nat.or_lt_two_pow ha hb)]
theorem q_shl4 {t i : Nat} (ht : t < 16) (hi : i < 6) : nI t <<< (((4 : Int32) * nI i) &&& 31) = nI (c4p (q1 i t)) := by
  have : i = 0 ∨ i = 1 ∨ i = 2 ∨ i = 3 ∨ i = 4 ∨ i = 5 := by omega
  rcases this with rfl | rfl | rfl | rfl | rfl | rfl
  · rw [pk_shlN _ 0 (by decide) (by omega)]; congr 1; simp [c4p, q1]
  · rw [pk_shlN _ 4 (by decide) (by omega)]; congr 1; simp [c4p, q1]; omega
  · rw [pk_shlN _ 8 (by decide) (by omega)]; congr 1; simp [c4p, q1]; omega
  · rw [pk_shlN _ 12 (by decide) (by omega)]; congr 1; simp [c4p, q1]; omega
  · rw [pk_shlN _ 16 (by decide) (by omega)]; congr 1; simp [c4p, q1]; omega
  · rw [pk_shlN _ 20 (by decide) (by omega)]; congr 1; simp [c4p, q1]; omega
theorem q_shl5 {t i : Nat} (ht : t < 32) (hi : i < 6) : nI t <<< (((5 : Int32) * nI i) &&& 31) = nI (c5p (q1 i t)) := by
  have : i = 0 ∨ i = 1 ∨ i = 2 ∨ i = 3 ∨ i = 4 ∨ i = 5 := by omega
  rcases this with rfl | rfl | rfl | rfl | rfl | rfl
  · rw [pk_shlN _ 0 (by decide) (by omega)]; congr 1; simp [c5p, q1]
  · rw [pk_shlN _ 5 (by decide) (by omega)]; congr 1; simp [c5p, q1]; omega
  · rw [pk_shlN _ 10 (by decide) (by omega)]; congr 1; simp [c5p, q1]; omega
  · rw [pk_shlN _ 15 (by decide) (by omega)]; congr 1; simp [c5p, q1]; omega
  · rw [pk_shlN _ 20 (by decide) (by omega)]; congr 1; simp [c5p, q1]; omega
  · rw [pk_shlN _ 25 (by decide) (by omega)]; congr 1; simp [c5p, q1]; omega
theorem q_with {u : Nat → Nat} {i t : Nat} (hu : ∀ k, k < 6 → u k < 16) (hi : i < 6) (ht : t < 16) (h0 : u i = 0) (n : Nat) : Ch_with n (nI (c4p u)) (nI i) (nI t) = some (nI (c4p (eUp u i t))) := by
  have l1 : ∀ k, k < 6 → q1 i t k < 16 := by
    intro k _
    unfold q1; split <;> omega
  have a := c4p_lt hu
  have b := c4p_lt l1
  unfold Ch_with
  rw [q_shl4 ht hi, q_orI (by omega) (by omega), c4p_or hu l1]
  congr 2
  refine c4p_congr fun k hk => ?_
  unfold q1 eUp
  by_cases e : k = i
  · subst e; rw [if_pos rfl, if_pos rfl, h0, Nat.zero_or]
  · rw [if_neg e, if_neg e, Nat.or_zero]
theorem q_usesOf {u : Nat → Nat} {i : Nat} (hu : ∀ k, k < 6 → u k < 16) (hi : i < 6) (n : Nat) : Ch_usesOf n (nI (c4p u)) (nI i) = some (nI (u i)) := by
  have hv := c4p_lt hu
  have hd : ∀ d, c4p u / 2 ^ d < 2 ^ 32 := fun d => Nat.lt_of_le_of_lt (Nat.div_le_self _ _) (by omega)
  obtain ⟨h0, h1, h2, h3, h4, h5⟩ := q6 hu
  have : i = 0 ∨ i = 1 ∨ i = 2 ∨ i = 3 ∨ i = 4 ∨ i = 5 := by omega
  unfold Ch_usesOf
  rcases this with rfl | rfl | rfl | rfl | rfl | rfl
  · rw [pk_shrN (by omega) _ 0 (by decide), pk_andN (hd _) 4 (by decide)]; congr 2; unfold c4p; omega
  · rw [pk_shrN (by omega) _ 4 (by decide), pk_andN (hd _) 4 (by decide)]; congr 2; unfold c4p; omega
  · rw [pk_shrN (by omega) _ 8 (by decide), pk_andN (hd _) 4 (by decide)]; congr 2; unfold c4p; omega
  · rw [pk_shrN (by omega) _ 12 (by decide), pk_andN (hd _) 4 (by decide)]; congr 2; unfold c4p; omega
  · rw [pk_shrN (by omega) _ 16 (by decide), pk_andN (hd _) 4 (by decide)]; congr 2; unfold c4p; omega
  · rw [pk_shrN (by omega) _ 20 (by decide), pk_andN (hd _) 4 (by decide)]; congr 2; unfold c4p; omega
theorem q_used {u : Nat → Nat} {i : Nat} (hu : ∀ k, k < 6 → u k < 32) (hi : i < 6) (n : Nat) : M_used n (nI (c5p u)) (nI i) = some (nI (u i)) := by
  have hv := c5p_lt hu
  have hd : ∀ d, c5p u / 2 ^ d < 2 ^ 32 := fun d => Nat.lt_of_le_of_lt (Nat.div_le_self _ _) (by omega)
  obtain ⟨h0, h1, h2, h3, h4, h5⟩ := q6 hu
  have : i = 0 ∨ i = 1 ∨ i = 2 ∨ i = 3 ∨ i = 4 ∨ i = 5 := by omega
  unfold M_used
  rcases this with rfl | rfl | rfl | rfl | rfl | rfl
  · rw [pk_shrN (by omega) _ 0 (by decide), pk_andN (hd _) 5 (by decide)]; congr 2; unfold c5p; omega
  · rw [pk_shrN (by omega) _ 5 (by decide), pk_andN (hd _) 5 (by decide)]; congr 2; unfold c5p; omega
  · rw [pk_shrN (by omega) _ 10 (by decide), pk_andN (hd _) 5 (by decide)]; congr 2; unfold c5p; omega
  · rw [pk_shrN (by omega) _ 15 (by decide), pk_andN (hd _) 5 (by decide)]; congr 2; unfold c5p; omega
  · rw [pk_shrN (by omega) _ 20 (by decide), pk_andN (hd _) 5 (by decide)]; congr 2; unfold c5p; omega
  · rw [pk_shrN (by omega) _ 25 (by decide), pk_andN (hd _) 5 (by decide)]; congr 2; unfold c5p; omega
theorem q_pack {u : Nat → Nat} {U : Nat → Int32} {cnt : Nat} (hu : ∀ k, k < 6 → u k < 32) (hU : ∀ k, k < 6 → U k = nI (u k)) (c6 : cnt ≤ 6) (hz : ∀ k, cnt ≤ k → k < 6 → u k = 0) {n : Nat} (hn : 7 ≤ n) : M_pack n (nI cnt) U = some (nI (c5p u)) := by
  have key : ∀ (d c n : Nat), c + d = cnt → d + 1 ≤ n → M_pack_4 (nI cnt) U n (nI (c5p (qpre u c))) (nI c) = some (nI (c5p (qpre u cnt))) := by
    intro d
    induction d with
    | zero =>
      intro c n e hn
      obtain ⟨n, rfl⟩ : ∃ m, n = m + 1 := ⟨n - 1, by omega⟩
      have : c = cnt := by omega
      subst this
      rw [M_pack_4, if_pos (nI_le (Nat.le_refl _) (by omega))]
    | succ d ih =>
      intro c n e hn
      obtain ⟨n, rfl⟩ : ∃ m, n = m + 1 := ⟨n - 1, by omega⟩
      have hc : c < 6 := by omega
      have l0 : ∀ k, k < 6 → qpre u c k < 32 := by
        intro k hk
        have := hu k hk
        unfold qpre; split <;> omega
      have l1 : ∀ k, k < 6 → q1 c (u c) k < 32 := by
        intro k _
        have := hu c hc
        unfold q1; split <;> omega
      have a := c5p_lt l0
      have b := c5p_lt l1
      rw [M_pack_4, if_neg (nI_ge (by omega) (by omega)), nI_clamp (by omega), if_neg (q_in hc (by omega)), hU c hc]
      unfold M_packed
      rw [Option.bind_some, q_shl5 (hu c hc) hc, q_orI (by omega) (by omega), c5p_or l0 l1, nI_1]
      have e2 : c5p (fun k => qpre u c k ||| q1 c (u c) k) = c5p (qpre u (c + 1)) := by
        refine c5p_congr fun k hk => ?_
        unfold qpre q1
        by_cases e : k = c
        · subst e
          rw [if_neg (by omega), if_pos rfl, if_pos (by omega)]; exact Nat.zero_or _
        · rw [if_neg e]
          by_cases d : k < c
          · rw [if_pos d, if_pos (by omega)]; exact Nat.or_zero _
          · rw [if_neg d, if_neg (by omega)]; rfl
      rw [e2]
      exact ih (c + 1) n (by omega) (by omega)
  have e := key cnt 0 n (by omega) (by omega)
  have e2 : c5p (qpre u cnt) = c5p u := by
    refine c5p_congr fun k hk => ?_
    unfold qpre
    by_cases d : k < cnt
    · rw [if_pos d]
    · rw [if_neg d, hz k (by omega) hk]
  rw [e2] at e
  exact e
theorem q_together {u : Nat → Nat} (hu : ∀ k, k < 6 → u k < 16) {n : Nat} (hn : 7 ≤ n) : Ch_usesTogether n (nI (c4p u)) = some (nI (u 0 + u 1 + u 2 + u 3 + u 4 + u 5)) := by
  have step : ∀ (n s k : Nat), k < 6 → Ch_usesTogether_4 (nI (c4p u)) (n + 1) (nI s) (nI k) = Ch_usesTogether_4 (nI (c4p u)) n (nI (s + u k)) (nI (k + 1)) := by
    intro n s k hk
    rw [Ch_usesTogether_4, if_neg (q_n6 hk), q_usesOf hu hk, Option.bind_some, nI_add, nI_1]
  obtain ⟨m, rfl⟩ : ∃ m, n = m + 7 := ⟨n - 7, by omega⟩
  unfold Ch_usesTogether
  have s0 := step (m + 6) 0 0 (by omega)
  have s1 := step (m + 5) (0 + u 0) 1 (by omega)
  have s2 := step (m + 4) (0 + u 0 + u 1) 2 (by omega)
  have s3 := step (m + 3) (0 + u 0 + u 1 + u 2) 3 (by omega)
  have s4 := step (m + 2) (0 + u 0 + u 1 + u 2 + u 3) 4 (by omega)
  have s5 := step (m + 1) (0 + u 0 + u 1 + u 2 + u 3 + u 4) 5 (by omega)
  refine s0.trans (s1.trans (s2.trans (s3.trans (s4.trans (s5.trans ?_)))))
  rw [Ch_usesTogether_4, if_pos q_y6, Nat.zero_add]
theorem q_take {R U me ma : Nat → Int32} {i h a : Nat} {nn : Int32} {s : Bool} (h6 : i < 6) (hL : me i = nI h) (hh : h < 1024) (hA : ma i = nI a) (ha : a ≤ 2) {n : Nat} (hn : 6 ≤ n) : ∃ R', M_take n (nI i) nn me ma R U (qb s) = some (R', eUp U i (U i + nn), if 0 < a ∧ ¬ nn = 0 then (if nn ≤ 0 then 0 else 1) else qb s) ∧ ∀ k, k < 5 → R' k = R k - nn * nI (qf h k) := by
  have key : ∀ (d k n : Nat) (R0 U0 : Nat → Int32), k + d = 5 → d + 1 ≤ n → (∀ j, k ≤ j → j < 5 → R0 j = R j) → (∀ j, j < k → R0 j = R j - nn * nI (qf h j)) → ∃ R', M_take_16 (nI i) nn me ma n (nI k) R0 U0 (qb s) = some (R', U0, if 0 < a ∧ ¬ nn = 0 then (if nn ≤ 0 then 0 else 1) else qb s) ∧ ∀ k, k < 5 → R' k = R k - nn * nI (qf h k) := by
    intro d
    induction d with
    | zero =>
      intro k n R0 U0 e hn h1 h2
      obtain ⟨n, rfl⟩ : ∃ m, n = m + 1 := ⟨n - 1, by omega⟩
      have : k = 5 := by omega
      subst this
      refine ⟨R0, ?_, h2⟩
      have hs : ¬ ¬ (qb s = 0 ∨ qb s = 1) := by cases s <;> decide
      rw [M_take_16, if_pos q_y5, nI_clamp (by omega), if_neg (q_in h6 (by omega)), hA, if_neg hs]
      by_cases z : 0 < a
      · rw [if_neg (nI_nle z (by omega))]
        by_cases y : nn = 0
        · rw [if_pos y, if_neg (fun w => w.2 y)]
        · rw [if_neg y, if_pos (show 0 < a ∧ ¬ nn = 0 from ⟨z, y⟩)]
          by_cases w : nn ≤ 0
          · rw [if_pos w, if_pos w]; rfl
          · rw [if_neg w, if_neg w]; rfl
      · have z0 : a = 0 := by omega
        subst z0
        rw [if_pos (by decide), if_neg (fun w => absurd w.1 (by omega))]
    | succ d ih =>
      intro k n R0 U0 e hn h1 h2
      obtain ⟨n, rfl⟩ : ∃ m, n = m + 1 := ⟨n - 1, by omega⟩
      have hk : k < 5 := by omega
      rw [M_take_16, if_neg (q_n5 hk), nI_clamp (by omega), if_neg (q_in hk (by omega)), nI_clamp (by omega), if_neg (q_in h6 (by omega)), hL, q_of (by omega) hk, Option.bind_some, if_neg (q_in hk (by omega)), nI_1, h1 k (Nat.le_refl _) hk]
      refine ih (k + 1) n _ U0 (by omega) (by omega) (fun j h3 h4 => ?_) (fun j h3 => ?_)
      · rw [q_un (by omega), h1 j (by omega) h4]
      · by_cases jk : j = k
        · subst jk; rw [q_up]
        · rw [q_un jk, h2 j (by omega)]
  unfold M_take
  rw [nI_clamp (by omega), if_neg (q_in h6 (by omega)), if_neg (q_in h6 (by omega))]
  exact key 5 0 n R _ (by omega) (by omega) (fun _ _ _ => rfl) (fun j hj => absurd hj (by omega))
theorem q_begin {lab : Nat → Int32} {par : Nat → Nat} {am : Nat → Nat → Nat} {cells : Nat → Int32} {row : Nat} (h : KM lab par am cells row) (hr : row < 82) {m : Nat} (hm : m < 6) (R U : Nat → Int32) (A : Int32) {n : Nat} (hn : 13 ≤ n) : ∃ R' U', M_begin n (nI row) (nI m) cells R U A = some (R', U', 0) ∧ (∀ k, k < 5 → R' k = nI (am m k)) ∧ (∀ k, k < 6 → U' k = 0) := by
  have key2 : ∀ (d k n : Nat) (R0 U0 : Nat → Int32), k + d = 6 → d + 1 ≤ n → (∀ j, j < k → U0 j = 0) → ∃ U', M_begin_28 n (nI k) R0 U0 A = some (R0, U', 0) ∧ ∀ j, j < 6 → U' j = 0 := by
    intro d
    induction d with
    | zero =>
      intro k n R0 U0 e hn h1
      obtain ⟨n, rfl⟩ : ∃ m, n = m + 1 := ⟨n - 1, by omega⟩
      have : k = 6 := by omega
      subst this
      exact ⟨U0, by rw [M_begin_28, if_pos q_y6]; rfl, h1⟩
    | succ d ih =>
      intro k n R0 U0 e hn h1
      obtain ⟨n, rfl⟩ : ∃ m, n = m + 1 := ⟨n - 1, by omega⟩
      have hk : k < 6 := by omega
      rw [M_begin_28, if_neg (q_n6 hk), nI_clamp (by omega), if_neg (q_in hk (by omega)), nI_1]
      refine ih (k + 1) n _ _ (by omega) (by omega) (fun j h3 => ?_)
      by_cases jk : j = k
      · subst jk; rw [q_up]
      · rw [q_un jk, h1 j (by omega)]
  have key : ∀ (d k n : Nat) (R0 U0 : Nat → Int32), k + d = 5 → d + 8 ≤ n → (∀ j, j < k → R0 j = nI (am m j)) → ∃ R' U', M_begin_2 (nI row) (nI m) cells n (nI k) R0 U0 A = some (R', U', 0) ∧ (∀ k, k < 5 → R' k = nI (am m k)) ∧ (∀ k, k < 6 → U' k = 0) := by
    intro d
    induction d with
    | zero =>
      intro k n R0 U0 e hn h1
      obtain ⟨n, rfl⟩ : ∃ m, n = m + 1 := ⟨n - 1, by omega⟩
      have : k = 5 := by omega
      subst this
      obtain ⟨U', e1, e2⟩ := key2 6 0 n R0 U0 (by omega) (by omega) (fun j hj => absurd hj (by omega))
      refine ⟨R0, U', ?_, h1, e2⟩
      rw [M_begin_2, if_pos q_y5]
      exact e1
    | succ d ih =>
      intro k n R0 U0 e hn h1
      obtain ⟨n, rfl⟩ : ∃ m, n = m + 1 := ⟨n - 1, by omega⟩
      have hk : k < 5 := by omega
      rw [M_begin_2, if_neg (q_n5 hk), q_cell (by omega), Option.bind_some, h.2.2 m (by omega) k hk, nI_clamp (by omega), if_neg (q_in hk (by omega)), nI_1]
      refine ih (k + 1) n _ _ (by omega) (by omega) (fun j h3 => ?_)
      by_cases jk : j = k
      · subst jk; rw [q_up]
      · rw [q_un jk, h1 j (by omega)]
  exact key 5 0 n R U (by omega) (by omega) (fun j hj => absurd hj (by omega))

def qv (a : Nat → Nat) : Nat := a 0 + 4096 * (a 1 + 4096 * (a 2 + 4096 * (a 3 + 4096 * a 4)))
def qh (a : Nat → Nat) : Int64 := lN (qv a)
theorem q5 {p : Nat → Prop} (h : ∀ k, k < 5 → p k) : p 0 ∧ p 1 ∧ p 2 ∧ p 3 ∧ p 4 := ⟨h 0 (by omega), h 1 (by omega), h 2 (by omega), h 3 (by omega), h 4 (by omega)⟩
theorem q5' {p : Nat → Prop} (h : p 0 ∧ p 1 ∧ p 2 ∧ p 3 ∧ p 4) : ∀ k, k < 5 → p k := by
  intro k hk
  obtain ⟨h0, h1, h2, h3, h4⟩ := h
  have : k = 0 ∨ k = 1 ∨ k = 2 ∨ k = 3 ∨ k = 4 := by omega
  rcases this with rfl | rfl | rfl | rfl | rfl <;> assumption
theorem qv_lt {a : Nat → Nat} (h : ∀ k, k < 5 → a k < 4096) : qv a < 2 ^ 60 := by
  obtain ⟨h0, h1, h2, h3, h4⟩ := q5 h
  unfold qv; omega
theorem q_tn {n : Nat} (h : n < 2 ^ 64) : (lN n).toBitVec.toNat = n := Nat.mod_eq_of_lt h
theorem qv_congr {a b : Nat → Nat} (h : ∀ k, k < 5 → a k = b k) : qv a = qv b := by
  obtain ⟨h0, h1, h2, h3, h4⟩ := q5 h
  unfold qv; rw [h0, h1, h2, h3, h4]
theorem qh_congr {a b : Nat → Nat} (h : ∀ k, k < 5 → a k = b k) : qh a = qh b := congrArg lN (qv_congr h)
theorem qh_add (a b : Nat → Nat) : qh a + qh b = qh fun k => a k + b k := by
  unfold qh; rw [lN_add]; congr 1; dsimp only [qv]; omega
theorem qh_sub {a b : Nat → Nat} (h : ∀ k, k < 5 → b k ≤ a k) : qh a - qh b = qh fun k => a k - b k := by
  obtain ⟨h0, h1, h2, h3, h4⟩ := q5 h
  unfold qh; rw [lN_sub (by unfold qv; omega)]; congr 1; dsimp only [qv]; omega
theorem qh_mul (u : Nat) (a : Nat → Nat) : lN u * qh a = qh fun k => u * a k := by
  unfold qh; rw [lN_mul]; congr 1; unfold qv; simp only [Nat.mul_add, Nat.mul_left_comm u]
theorem qv_inj {a b : Nat → Nat} (ha : ∀ k, k < 5 → a k < 4096) (hb : ∀ k, k < 5 → b k < 4096) (e : qv a = qv b) : ∀ k, k < 5 → a k = b k := by
  obtain ⟨h0, h1, h2, h3, h4⟩ := q5 ha
  obtain ⟨g0, g1, g2, g3, g4⟩ := q5 hb
  unfold qv at e
  apply q5'; omega
theorem qh_eq {a b : Nat → Nat} (ha : ∀ k, k < 5 → a k < 4096) (hb : ∀ k, k < 5 → b k < 4096) : qh a = qh b ↔ ∀ k, k < 5 → a k = b k := by
  refine ⟨fun e => qv_inj ha hb ?_, qh_congr⟩
  have h1 := qv_lt ha
  have h2 := qv_lt hb
  exact (pk_lEQ (by omega) (by omega)).mp e
theorem qh_0 : qh (fun _ => 0) = 0 := rfl
theorem q_ushr {n : Nat} (hn : n < 2 ^ 64) (s : UInt64) (k : Nat) (hs : (s.toBitVec % 64).toNat = k) : ((lN n).toUInt64 >>> s).toInt64 = lN (n / 2 ^ k) := by
  apply Int64.toBitVec_inj.mp
  apply BitVec.eq_of_toNat_eq
  have e : ((lN n).toUInt64 >>> s).toInt64.toBitVec = (lN n).toBitVec >>> k := by
    rw [← hs]
    exact UInt64.toBitVec_shiftRight _ _
  rw [e, BitVec.toNat_ushiftRight, Nat.shiftRight_eq_div_pow, q_tn hn, q_tn (Nat.lt_of_le_of_lt (Nat.div_le_self _ _) hn)]
theorem q_and {a b : Nat} (ha : a < 2 ^ 64) (hb : b < 2 ^ 64) : lN a &&& lN b = lN (a &&& b) := by
  apply Int64.toBitVec_inj.mp
  apply BitVec.eq_of_toNat_eq
  rw [Int64.toBitVec_and, BitVec.toNat_and, q_tn ha, q_tn hb, q_tn (Nat.lt_of_le_of_lt Nat.and_le_left ha)]
theorem q_or {a b : Nat} (ha : a < 2 ^ 64) (hb : b < 2 ^ 64) : lN a ||| lN b = lN (a ||| b) := by
  apply Int64.toBitVec_inj.mp
  apply BitVec.eq_of_toNat_eq
  rw [Int64.toBitVec_or, BitVec.toNat_or, q_tn ha, q_tn hb, q_tn (Nat.or_lt_two_pow ha hb)]
theorem q_sp_or {x y l l' : Nat} (h : l < 4096) (h' : l' < 4096) : (l + 4096 * x) ||| (l' + 4096 * y) = (l ||| l') + 4096 * (x ||| y) := by
  have hm : ((l + 4096 * x) ||| (l' + 4096 * y)) % 2 ^ 12 = ((l + 4096 * x) % 2 ^ 12) ||| ((l' + 4096 * y) % 2 ^ 12) := Nat.or_mod_two_pow
  have hd : ((l + 4096 * x) ||| (l' + 4096 * y)) / 2 ^ 12 = ((l + 4096 * x) / 2 ^ 12) ||| ((l' + 4096 * y) / 2 ^ 12) := Nat.or_div_two_pow
  have e1 : (l + 4096 * x) % 2 ^ 12 = l := by omega
  have e2 : (l' + 4096 * y) % 2 ^ 12 = l' := by omega
  have e3 : (l + 4096 * x) / 2 ^ 12 = x := by omega
  have e4 : (l' + 4096 * y) / 2 ^ 12 = y := by omega
  rw [e1, e2] at hm
  rw [e3, e4] at hd
  omega
theorem q_sp_and {x y l l' : Nat} (h : l < 4096) (h' : l' < 4096) : (l + 4096 * x) &&& (l' + 4096 * y) = (l &&& l') + 4096 * (x &&& y) := by
  have hm : ((l + 4096 * x) &&& (l' + 4096 * y)) % 2 ^ 12 = ((l + 4096 * x) % 2 ^ 12) &&& ((l' + 4096 * y) % 2 ^ 12) := Nat.and_mod_two_pow
  have hd : ((l + 4096 * x) &&& (l' + 4096 * y)) / 2 ^ 12 = ((l + 4096 * x) / 2 ^ 12) &&& ((l' + 4096 * y) / 2 ^ 12) := Nat.and_div_two_pow
  have e1 : (l + 4096 * x) % 2 ^ 12 = l := by omega
  have e2 : (l' + 4096 * y) % 2 ^ 12 = l' := by omega
  have e3 : (l + 4096 * x) / 2 ^ 12 = x := by omega
  have e4 : (l' + 4096 * y) / 2 ^ 12 = y := by omega
  rw [e1, e2] at hm
  rw [e3, e4] at hd
  omega
theorem qv_or {a b : Nat → Nat} (ha : ∀ k, k < 5 → a k < 4096) (hb : ∀ k, k < 5 → b k < 4096) : qv a ||| qv b = qv fun k => a k ||| b k := by
  obtain ⟨h0, h1, h2, h3, h4⟩ := q5 ha
  obtain ⟨g0, g1, g2, g3, g4⟩ := q5 hb
  unfold qv; rw [q_sp_or h0 g0, q_sp_or h1 g1, q_sp_or h2 g2, q_sp_or h3 g3]
theorem qv_and {a b : Nat → Nat} (ha : ∀ k, k < 5 → a k < 4096) (hb : ∀ k, k < 5 → b k < 4096) : qv a &&& qv b = qv fun k => a k &&& b k := by
  obtain ⟨h0, h1, h2, h3, h4⟩ := q5 ha
  obtain ⟨g0, g1, g2, g3, g4⟩ := q5 hb
  unfold qv; rw [q_sp_and h0 g0, q_sp_and h1 g1, q_sp_and h2 g2, q_sp_and h3 g3]
theorem qh_or {a b : Nat → Nat} (ha : ∀ k, k < 5 → a k < 4096) (hb : ∀ k, k < 5 → b k < 4096) : qh a ||| qh b = qh fun k => a k ||| b k := by
  have h1 := qv_lt ha
  have h2 := qv_lt hb
  unfold qh; rw [q_or (by omega) (by omega), qv_or ha hb]
theorem qh_and {a b : Nat → Nat} (ha : ∀ k, k < 5 → a k < 4096) (hb : ∀ k, k < 5 → b k < 4096) : qh a &&& qh b = qh fun k => a k &&& b k := by
  have h1 := qv_lt ha
  have h2 := qv_lt hb
  unfold qh; rw [q_and (by omega) (by omega), qv_and ha hb]
theorem q_or11 {f : Nat} (h : f < 2048) : f ||| 2048 = f + 2048 := by
  have e : 2 ^ 11 * 1 + f = 2 ^ 11 * 1 ||| f := Nat.two_pow_add_eq_or_of_lt (i := 11) (b := f) h 1
  have e2 : 2048 + f = 2048 ||| f := e
  rw [Nat.or_comm, ← e2]
  omega
theorem q_and11 {g : Nat} (h : g < 4096) : g &&& 2048 = if 2048 ≤ g then 2048 else 0 := by
  have hm : (g &&& 2048) % 2 ^ 11 = (g % 2 ^ 11) &&& (2048 % 2 ^ 11) := Nat.and_mod_two_pow
  have hd : (g &&& 2048) / 2 ^ 11 = (g / 2 ^ 11) &&& (2048 / 2 ^ 11) := Nat.and_div_two_pow
  have z : (g % 2 ^ 11) &&& (2048 % 2 ^ 11) = 0 := Nat.and_zero _
  by_cases c : 2048 ≤ g
  · have d : g / 2 ^ 11 = 1 := by omega
    rw [d] at hd
    have w : (1 : Nat) &&& (2048 / 2 ^ 11) = 1 := rfl
    rw [if_pos c]; omega
  · have d : g / 2 ^ 11 = 0 := by omega
    rw [d] at hd
    have w : (0 : Nat) &&& (2048 / 2 ^ 11) = 0 := rfl
    rw [if_neg c]; omega
theorem q_and12 {g : Nat} (h : g < 4096) : g &&& 4095 = g := by
  have e : g &&& (2 ^ 12 - 1) = g % 2 ^ 12 := Nat.and_two_pow_sub_one_eq_mod g 12
  have e2 : g &&& 4095 = g % 2 ^ 12 := e
  rw [e2]; omega
theorem q_cmp0 {x y : Int64} : lg_cmp x y = 0 ↔ x = y := by
  unfold lg_cmp
  by_cases h : x > y
  · rw [if_pos h]
    refine ⟨fun z => absurd z (by decide), fun z => ?_⟩
    subst z
    exact absurd h (Int64.lt_irrefl)
  · rw [if_neg h]
    by_cases e : x = y
    · rw [if_pos e]; exact ⟨fun _ => e, fun _ => rfl⟩
    · rw [if_neg e]; exact ⟨fun z => absurd z (by decide), fun z => absurd z e⟩
theorem q_count {a : Nat → Nat} (h : ∀ k, k < 5 → a k < 4096) {k : Nat} (hk : k < 5) (n : Nat) : H_count n (qh a) (nI k) = some (nI (a k)) := by
  have hv := qv_lt h
  obtain ⟨h0, h1, h2, h3, h4⟩ := q5 h
  have c : (4095 : Int64) = lN 4095 := rfl
  unfold H_count qh
  have hd : ∀ d, qv a / 2 ^ d < 2 ^ 64 := fun d => Nat.lt_of_le_of_lt (Nat.div_le_self _ _) (by omega)
  have key : ∀ d, lN (qv a / 2 ^ d) &&& (4095 : Int64) = lN (qv a / 2 ^ d % 4096) := by
    intro d
    rw [c, q_and (hd d) (by omega)]
    congr 1
    exact Nat.and_two_pow_sub_one_eq_mod _ 12
  have : k = 0 ∨ k = 1 ∨ k = 2 ∨ k = 3 ∨ k = 4 := by omega
  rcases this with rfl | rfl | rfl | rfl | rfl
  · rw [q_ushr (by omega) _ 0 (by decide), key, lN_i]; congr 2; unfold qv; omega
  · rw [q_ushr (by omega) _ 12 (by decide), key, lN_i]; congr 2; unfold qv; omega
  · rw [q_ushr (by omega) _ 24 (by decide), key, lN_i]; congr 2; unfold qv; omega
  · rw [q_ushr (by omega) _ 36 (by decide), key, lN_i]; congr 2; unfold qv; omega
  · rw [q_ushr (by omega) _ 48 (by decide), key, lN_i]; congr 2; unfold qv; omega
def qle (a b : Nat → Nat) : Prop := ∀ k, k < 5 → a k ≤ b k
theorem q_top : (576601524159907840 : Int64) = qh fun _ => 2048 := by decide
theorem q_holds_t {a b : Nat → Nat} (ha : ∀ k, k < 5 → a k < 2048) (hb : qle b a) (n : Nat) : H_holds n (qh a) (qh b) = some 1 := by
  have ha4 : ∀ k, k < 5 → a k < 4096 := fun k hk => Nat.lt_trans (ha k hk) (by omega)
  have e1 : qh a ||| (576601524159907840 : Int64) = qh fun k => a k + 2048 := by
    rw [q_top, qh_or ha4 (fun _ _ => by omega)]
    exact qh_congr fun k hk => q_or11 (ha k hk)
  have e2 : (qh fun k => a k + 2048) - qh b = qh fun k => a k + 2048 - b k := qh_sub fun k hk => Nat.le_trans (hb k hk) (Nat.le_add_right _ _)
  have l3 : ∀ k, k < 5 → a k + 2048 - b k < 4096 := fun k hk => by have := ha k hk; omega
  have e3 : (qh fun k => a k + 2048 - b k) &&& (576601524159907840 : Int64) = 576601524159907840 := by
    rw [q_top, qh_and l3 (fun _ _ => by omega)]
    refine qh_congr fun k hk => ?_
    rw [q_and11 (l3 k hk), if_pos (by have := hb k hk; omega)]
  unfold H_holds
  rw [e1, e2, e3, if_pos (q_cmp0.mpr rfl)]
  rfl
theorem q_holds_f {a b : Nat → Nat} (ha : ∀ k, k < 5 → a k < 2048) (hb4 : ∀ k, k < 5 → b k ≤ 2048) (hb : ¬ qle b a) (n : Nat) : H_holds n (qh a) (qh b) = some 0 := by
  have ha4 : ∀ k, k < 5 → a k < 4096 := fun k hk => Nat.lt_trans (ha k hk) (by omega)
  have e1 : qh a ||| (576601524159907840 : Int64) = qh fun k => a k + 2048 := by
    rw [q_top, qh_or ha4 (fun _ _ => by omega)]
    exact qh_congr fun k hk => q_or11 (ha k hk)
  have e2 : (qh fun k => a k + 2048) - qh b = qh fun k => a k + 2048 - b k := qh_sub fun k hk => Nat.le_trans (hb4 k hk) (Nat.le_add_left _ _)
  have l3 : ∀ k, k < 5 → a k + 2048 - b k < 4096 := fun k hk => by have := ha k hk; omega
  have e3 : (qh fun k => a k + 2048 - b k) &&& (576601524159907840 : Int64) = qh fun k => (a k + 2048 - b k) &&& 2048 := by
    rw [q_top, qh_and l3 (fun _ _ => by omega)]
  have e4 : ¬ (qh fun k => (a k + 2048 - b k) &&& 2048) = 576601524159907840 := by
    intro z
    rw [q_top] at z
    have w := (qh_eq (fun k hk => by rw [q_and11 (l3 k hk)]; split <;> omega) (fun _ _ => by omega)).mp z
    apply hb
    intro k hk
    have v := w k hk
    rw [q_and11 (l3 k hk)] at v
    split at v <;> omega
  unfold H_holds
  rw [e1, e2, e3, if_neg (fun z => e4 (q_cmp0.mp z))]
  rfl
theorem q_within_t {a b : Nat → Nat} (hb : ∀ k, k < 5 → b k < 2048) (h : qle a b) (n : Nat) : H_within n (qh a) (qh b) = some 1 := by
  have ha : ∀ k, k < 5 → a k < 4096 := fun k hk => by have := hb k hk; have := h k hk; omega
  have e : qh a &&& (576601524159907840 : Int64) = 0 := by
    rw [q_top, qh_and ha (fun _ _ => by omega), ← qh_0]
    refine qh_congr fun k hk => ?_
    rw [q_and11 (ha k hk), if_neg (by have := hb k hk; have := h k hk; omega)]
  unfold H_within
  rw [e, if_pos (q_cmp0.mpr rfl), q_holds_t hb h]
  rfl
theorem q_within_f {a b : Nat → Nat} (ha : ∀ k, k < 5 → a k < 4096) (hb : ∀ k, k < 5 → b k < 2048) (h : ¬ qle a b) (n : Nat) : H_within n (qh a) (qh b) = some 0 := by
  have e : qh a &&& (576601524159907840 : Int64) = qh fun k => a k &&& 2048 := by
    rw [q_top, qh_and ha (fun _ _ => by omega)]
  unfold H_within
  rw [e]
  by_cases c : ∀ k, k < 5 → a k < 2048
  · have e0 : (qh fun k => a k &&& 2048) = 0 := by
      rw [← qh_0]
      refine qh_congr fun k hk => ?_
      rw [q_and11 (ha k hk), if_neg (by have := c k hk; omega)]
    rw [if_pos (q_cmp0.mpr e0), q_holds_f hb (fun k hk => Nat.le_of_lt (c k hk)) h]
    rfl
  · rw [if_neg]
    · rfl
    · intro z
      apply c
      have w := q_cmp0.mp z
      rw [← qh_0] at w
      have w2 := (qh_eq (fun k hk => by rw [q_and11 (ha k hk)]; split <;> omega) (fun _ _ => by omega)).mp w
      intro k hk
      have v := w2 k hk
      rw [q_and11 (ha k hk)] at v
      split at v <;> omega

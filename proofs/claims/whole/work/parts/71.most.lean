theorem q_n5 {k : Nat} (h : k < 5) : ¬ (5 : Int32) ≤ nI k := nI_ge (b := 5) h (by decide)
theorem q_n6 {k : Nat} (h : k < 6) : ¬ (6 : Int32) ≤ nI k := nI_ge (b := 6) h (by decide)
theorem q_y5 : (5 : Int32) ≤ nI 5 := by decide
theorem q_y6 : (6 : Int32) ≤ nI 6 := by decide
theorem q_in {k N : Nat} (h : k < N) (hk : k < 2 ^ 31) : ¬ (nI k < 0 ∨ N ≤ k) := fun z => z.elim (nI_pos hk) (fun w => absurd h (by omega))
def qb (b : Bool) : Int32 := if b then 1 else 0
def qf (h k : Nat) : Nat := h / 4 ^ k % 4
theorem qf_lt (h k : Nat) : qf h k < 4 := Nat.mod_lt _ (by omega)
theorem qf_4 {h : Nat} : ∀ k, k < 5 → qf h k < 4096 := fun k _ => Nat.lt_trans (qf_lt h k) (by omega)
theorem qf_0 {k : Nat} : qf 0 k = 0 := by unfold qf; rw [Nat.zero_div]
theorem qf_pos {h : Nat} (h0 : 0 < h) (h1 : h < 1024) : ∃ k, k < 5 ∧ 0 < qf h k := by
  apply Classical.byContradiction
  intro c
  have w : ∀ k, k < 5 → qf h k = 0 := fun k hk => Classical.byContradiction fun z => c ⟨k, hk, by omega⟩
  obtain ⟨h0, h1, h2, h3, h4⟩ := q5 w
  unfold qf at h0 h1 h2 h3 h4
  omega
theorem q_of {h k : Nat} (hh : h < 2 ^ 31) (hk : k < 5) (n : Nat) : M_of n (nI h) (nI k) = some (nI (qf h k)) := by
  have hd : ∀ d, h / 2 ^ d < 2 ^ 32 := fun d => Nat.lt_of_le_of_lt (Nat.div_le_self _ _) (by omega)
  have : k = 0 ∨ k = 1 ∨ k = 2 ∨ k = 3 ∨ k = 4 := by omega
  unfold M_of qf
  rcases this with rfl | rfl | rfl | rfl | rfl
  · rw [pk_shrN hh _ 0 (by decide), pk_andN (hd _) 2 (by decide)]
  · rw [pk_shrN hh _ 2 (by decide), pk_andN (hd _) 2 (by decide)]
  · rw [pk_shrN hh _ 4 (by decide), pk_andN (hd _) 2 (by decide)]
  · rw [pk_shrN hh _ 6 (by decide), pk_andN (hd _) 2 (by decide)]
  · rw [pk_shrN hh _ 8 (by decide), pk_andN (hd _) 2 (by decide)]
theorem q_shl {x : Nat} (s : Int64) (k : Nat) (hs : (s.toBitVec.smod 64).toNat = k) (h : x * 2 ^ k < 2 ^ 64) : lN x <<< s = lN (x * 2 ^ k) := by
  apply Int64.toBitVec_inj.mp
  apply BitVec.eq_of_toNat_eq
  have hn : x < 2 ^ 64 := Nat.lt_of_le_of_lt (Nat.le_mul_of_pos_right x (Nat.two_pow_pos k)) h
  have e : (lN x <<< s).toBitVec.toNat = (lN x).toBitVec.toNat * 2 ^ k % 2 ^ 64 := by
    show ((lN x).toBitVec <<< (s.toBitVec.smod 64).toNat).toNat = _
    rw [hs, BitVec.toNat_shiftLeft, Nat.shiftLeft_eq]
  rw [e, q_tn hn, q_tn h, Nat.mod_eq_of_lt h]
def q1 (j x : Nat) : Nat → Nat := fun i => if i = j then x else 0
theorem q1_lt {j x : Nat} (h : x < 4096) : ∀ k, k < 5 → q1 j x k < 4096 := by
  intro k _
  unfold q1; split <;> omega
theorem q_put {x k : Nat} (hx : x < 4096) (hk : k < 5) : lN x <<< (((12 : Int32) * nI k).toInt64 &&& 63) = qh (q1 k x) := by
  have : k = 0 ∨ k = 1 ∨ k = 2 ∨ k = 3 ∨ k = 4 := by omega
  rcases this with rfl | rfl | rfl | rfl | rfl
  · rw [q_shl _ 0 (by decide) (by omega)]; unfold qh; congr 1; simp [qv, q1]
  · rw [q_shl _ 12 (by decide) (by omega)]; unfold qh; congr 1; simp [qv, q1]; omega
  · rw [q_shl _ 24 (by decide) (by omega)]; unfold qh; congr 1; simp [qv, q1]; omega
  · rw [q_shl _ 36 (by decide) (by omega)]; unfold qh; congr 1; simp [qv, q1]; omega
  · rw [q_shl _ 48 (by decide) (by omega)]; unfold qh; congr 1; simp [qv, q1]; omega
def qpre (a : Nat → Nat) (j : Nat) : Nat → Nat := fun i => if i < j then a i else 0
theorem qpre_or {a : Nat → Nat} {j : Nat} (ha : ∀ k, k < 5 → a k < 4096) (hj : j < 5) : qh (qpre a j) ||| qh (q1 j (a j)) = qh (qpre a (j + 1)) := by
  have hp : ∀ k, k < 5 → qpre a j k < 4096 := by
    intro k hk
    have := ha k hk
    unfold qpre; split <;> omega
  rw [qh_or hp (q1_lt (ha j hj))]
  refine qh_congr fun k hk => ?_
  unfold qpre q1
  by_cases c : k = j
  · subst c
    rw [if_neg (by omega), if_pos rfl, if_pos (by omega)]; exact Nat.zero_or _
  · rw [if_neg c]
    by_cases d : k < j
    · rw [if_pos d, if_pos (by omega)]; exact Nat.or_zero _
    · rw [if_neg d, if_neg (by omega)]; rfl
theorem qpre_0 (a : Nat → Nat) : qh (qpre a 0) = 0 := rfl
theorem qpre_5 (a : Nat → Nat) : qh (qpre a 5) = qh a := qh_congr fun k hk => by unfold qpre; rw [if_pos hk]
theorem q_ofH {h : Nat} (hh : h < 2 ^ 31) {n : Nat} (hn : 6 ≤ n) : H_ofHandful n (nI h) = some (qh (qf h)) := by
  have step : ∀ (n k : Nat), k < 5 → H_ofHandful_4 (nI h) (n + 1) (qh (qpre (qf h) k)) (nI k) = H_ofHandful_4 (nI h) n (qh (qpre (qf h) (k + 1))) (nI (k + 1)) := by
    intro n k hk
    rw [H_ofHandful_4]
    rw [if_neg (q_n5 hk)]
    have e := q_of hh hk 0
    unfold M_of at e
    rw [Option.some.inj e, nI_l (by have := qf_lt h k; omega), q_put (Nat.lt_trans (qf_lt h k) (by omega)) hk, qpre_or qf_4 hk, nI_1]
  obtain ⟨m, rfl⟩ : ∃ m, n = m + 6 := ⟨n - 6, by omega⟩
  unfold H_ofHandful
  have s0 := step (m + 5) 0 (by omega)
  have s1 := step (m + 4) 1 (by omega)
  have s2 := step (m + 3) 2 (by omega)
  have s3 := step (m + 2) 3 (by omega)
  have s4 := step (m + 1) 4 (by omega)
  refine s0.trans (s1.trans (s2.trans (s3.trans (s4.trans ?_))))
  rw [H_ofHandful_4, if_pos (show (5 : Int32) ≤ nI 5 by decide), qpre_5]
def qk (a : Nat → Nat) : Nat → Nat := fun k => if 0 < a k then 4095 else 0
theorem qk_4 {a : Nat → Nat} : ∀ k, k < 5 → qk a k < 4096 := by
  intro k _
  unfold qk; split <;> omega
theorem q_kinds {a : Nat → Nat} (ha : ∀ k, k < 5 → a k < 4096) {n : Nat} (hn : 6 ≤ n) : H_kindsOf n (qh a) = some (qh (qk a)) := by
  have c : (4095 : Int64) = lN 4095 := rfl
  have step : ∀ (n k : Nat), k < 5 → H_kindsOf_5 (qh a) (n + 1) (qh (qpre (qk a) k)) (nI k) = H_kindsOf_5 (qh a) n (qh (qpre (qk a) (k + 1))) (nI (k + 1)) := by
    intro n k hk
    rw [H_kindsOf_5, if_neg (q_n5 hk), q_count ha hk, Option.bind_some]
    rw [nI_1]
    by_cases z : 0 < a k
    · rw [if_neg (nI_nle z (by have := ha k hk; omega)), c, q_put (by omega) hk]
      have e : qk a k = 4095 := by unfold qk; rw [if_pos z]
      rw [← e, qpre_or qk_4 hk]
    · have z0 : a k = 0 := by omega
      rw [z0, if_pos (show nI 0 ≤ 0 by decide)]
      congr 1
      refine qh_congr fun j hj => ?_
      unfold qpre
      by_cases d : j < k
      · rw [if_pos d, if_pos (by omega)]
      · rw [if_neg d]
        by_cases d2 : j < k + 1
        · rw [if_pos d2]
          have : j = k := by omega
          subst this
          unfold qk; rw [if_neg z]
        · rw [if_neg d2]
  obtain ⟨m, rfl⟩ : ∃ m, n = m + 6 := ⟨n - 6, by omega⟩
  unfold H_kindsOf
  have s0 := step (m + 5) 0 (by omega)
  have s1 := step (m + 4) 1 (by omega)
  have s2 := step (m + 3) 2 (by omega)
  have s3 := step (m + 2) 3 (by omega)
  have s4 := step (m + 1) 4 (by omega)
  refine s0.trans (s1.trans (s2.trans (s3.trans (s4.trans ?_))))
  rw [H_kindsOf_5, if_pos (show (5 : Int32) ≤ nI 5 by decide), qpre_5]
theorem qh_mask {a b : Nat → Nat} (ha : ∀ k, k < 5 → a k < 4096) : qh a &&& qh (qk b) = qh fun k => if 0 < b k then a k else 0 := by
  rw [qh_and ha qk_4]
  refine qh_congr fun k hk => ?_
  unfold qk
  split
  · exact q_and12 (ha k hk)
  · exact Nat.and_zero _
def qs (u : Nat) (a : Nat → Nat) : Nat → Nat := fun k => u * a k
def qleb (a b : Nat → Nat) : Bool := decide (a 0 ≤ b 0 ∧ a 1 ≤ b 1 ∧ a 2 ≤ b 2 ∧ a 3 ≤ b 3 ∧ a 4 ≤ b 4)
theorem qleb_iff {a b : Nat → Nat} : qleb a b = true ↔ qle a b := by
  unfold qleb qle
  rw [decide_eq_true_iff]
  exact ⟨fun h => q5' (p := fun k => a k ≤ b k) h, fun h => q5 h⟩
def qt (rest left : Nat → Nat) : Nat → Nat
  | 0 => 0
  | m + 1 => if qleb (qs (m + 1) left) rest then m + 1 else qt rest left m
theorem qt_iff {rest left : Nat → Nat} {u : Nat} : ∀ {m : Nat}, u ≤ qt rest left m ↔ u ≤ m ∧ qle (qs u left) rest := by
  intro m
  induction m with
  | zero =>
    unfold qt
    refine ⟨fun h => ⟨h, fun k _ => ?_⟩, fun h => h.1⟩
    have : u = 0 := by omega
    subst this
    unfold qs; rw [Nat.zero_mul]; exact Nat.zero_le _
  | succ m ih =>
    unfold qt
    by_cases c : qleb (qs (m + 1) left) rest = true
    · rw [if_pos c]
      refine ⟨fun h => ⟨h, fun k hk => Nat.le_trans (Nat.mul_le_mul_right _ h) (qleb_iff.mp c k hk)⟩, fun h => h.1⟩
    · rw [if_neg c, ih]
      refine ⟨fun h => ⟨by omega, h.2⟩, fun h => ⟨?_, h.2⟩⟩
      have : u ≠ m + 1 := by
        intro e
        subst e
        exact c (qleb_iff.mpr h.2)
      have := h.1
      omega
theorem qt_le {rest left : Nat → Nat} {m : Nat} : qt rest left m ≤ m := (qt_iff.mp (Nat.le_refl _)).1
theorem qt_fits {rest left : Nat → Nat} {m : Nat} : qle (qs (qt rest left m) left) rest := (qt_iff.mp (Nat.le_refl _)).2
theorem qt_eq {rest left : Nat → Nat} {m t : Nat} (h : ∀ u, u ≤ t ↔ u ≤ m ∧ qle (qs u left) rest) : t = qt rest left m :=
  Nat.le_antisymm (qt_iff.mpr ((h t).mp (Nat.le_refl _))) ((h _).mpr (qt_iff.mp (Nat.le_refl _)))
theorem qt_cap {rest left : Nat → Nat} {k : Nat} (hk : k < 5) (hp : 0 < left k) (hr : rest k ≤ 12) : qt rest left 99 = qt rest left 12 := by
  refine qt_eq fun u => ?_
  rw [qt_iff]
  refine ⟨fun h => ⟨?_, h.2⟩, fun h => ⟨by omega, h.2⟩⟩
  have e : u * left k ≤ rest k := h.2 k hk
  have e2 : u ≤ u * left k := Nat.le_mul_of_pos_right u hp
  omega
theorem qt_min {rest left : Nat → Nat} {a b : Nat} (h : b ≤ a) : (if b < qt rest left a then b else qt rest left a) = qt rest left b := by
  refine qt_eq fun u => ?_
  have i := qt_iff (rest := rest) (left := left) (u := u) (m := a)
  have g : ∀ w, w ≤ qt rest left a → qle (qs w left) rest := fun w hw => (qt_iff.mp hw).2
  split
  · refine ⟨fun h => ⟨h, g u (by omega)⟩, fun h => h.1⟩
  · rw [i]
    refine ⟨fun h => ⟨?_, h.2⟩, fun h => ⟨by omega, h.2⟩⟩
    have := i.mpr h
    omega
theorem q_once (d v : Bool) (n : Nat) : R_isOnce n (qb d) (qb v) = some (qb (d || v)) := by
  cases d <;> cases v <;> rfl
theorem q_most38 {rest left : Nat → Nat} (hr : ∀ k, k < 5 → rest k < 2048) (hl : ∀ k, k < 5 → left k < 4) {most : Nat} (hm : most ≤ 12) : ∀ (d u n : Nat), u + d = most → d + 1 ≤ n → qle (qs u left) rest → R_mostUses_38 (qh rest) (qh left) n (nI most) (qh (qs (u + 1) left)) (nI u) = some (nI (qt rest left most)) := by
  have mono : ∀ {u w : Nat}, u ≤ w → qle (qs w left) rest → qle (qs u left) rest := fun h hu k hk => Nat.le_trans (Nat.mul_le_mul_right _ h) (hu k hk)
  intro d
  induction d with
  | zero =>
    intro u n e hn hu
    obtain ⟨n, rfl⟩ : ∃ m, n = m + 1 := ⟨n - 1, by omega⟩
    rw [R_mostUses_38, if_pos (nI_le (by omega) (by omega))]
    have : u = qt rest left most := qt_eq fun w => ⟨fun h => ⟨by omega, mono h hu⟩, fun h => by omega⟩
    rw [← this]
  | succ d ih =>
    intro u n e hn hu
    obtain ⟨n, rfl⟩ : ∃ m, n = m + 1 := ⟨n - 1, by omega⟩
    rw [R_mostUses_38, if_neg (nI_ge (by omega) (by omega))]
    by_cases c : qle (qs (u + 1) left) rest
    · rw [q_holds_t hr c, Option.bind_some, if_neg (by decide)]
      have e2 : qh (qs (u + 1) left) + qh left = qh (qs (u + 1 + 1) left) := by
        rw [qh_add]
        exact qh_congr fun k _ => (Nat.succ_mul (u + 1) (left k)).symm
      rw [e2, nI_1]
      exact ih (u + 1) n (by omega) (by omega) c
    · have b : ∀ k, k < 5 → qs (u + 1) left k ≤ 2048 := by
        intro k hk
        have : (u + 1) * left k ≤ 13 * 4 := Nat.mul_le_mul (by omega) (Nat.le_of_lt (hl k hk))
        unfold qs; omega
      rw [q_holds_f hr b c, Option.bind_some, if_pos rfl]
      have : u = qt rest left most := qt_eq fun w => ⟨fun h => ⟨by omega, mono h hu⟩, fun h => Classical.byContradiction fun z => c (mono (by omega) h.2)⟩
      rw [← this]
def qcap (once spent : Bool) : Nat := if once then (if spent then 0 else 1) else 12
theorem q_most {rest left : Nat → Nat} (hr : ∀ k, k < 5 → rest k < 2048) (hl : ∀ k, k < 5 → left k < 4) (s d v : Bool) {n : Nat} (hn : 14 ≤ n) : R_mostUses n (qh rest) (qb s) (qh left) (qb d) (qb v) = some (nI (qt rest left (qcap (d || v) s))) := by
  have z : qle (qs 0 left) rest := fun k _ => by unfold qs; rw [Nat.zero_mul]; exact Nat.zero_le _
  have one : qh (qs (0 + 1) left) = qh left := qh_congr fun k _ => Nat.one_mul _
  have key : ∀ most, most ≤ 12 → R_mostUses_38 (qh rest) (qh left) n (nI most) (qh left) 0 = some (nI (qt rest left most)) := by
    intro most hm
    have := q_most38 hr hl hm most 0 n (by omega) (by omega) z
    rw [one] at this
    exact this
  have k12 := key 12 (by omega)
  have k1 := key 1 (by omega)
  have k0 := key 0 (by omega)
  unfold R_mostUses
  rw [q_once, Option.bind_some]
  cases d <;> cases v <;> cases s <;> simp [R_mostUses_13, q_once, qb, qcap] <;> first | exact k12 | exact k1 | exact k0
theorem q_times {rest : Nat → Nat} {R L : Nat → Int32} {r h : Nat} (hR : ∀ k, k < 5 → R k = nI (rest k)) (hr : ∀ k, k < 5 → rest k < 2 ^ 30) (h6 : r < 6) (hL : L r = nI h) (hh : h < 1024) {n : Nat} (hn : 6 ≤ n) : M_times n (nI r) L R = some (nI (qt rest (qf h) 99)) := by
  have key : ∀ (d k t n : Nat), k + d = 5 → d + 1 ≤ n → (∀ u, u ≤ t ↔ u ≤ 99 ∧ ∀ j, j < k → u * qf h j ≤ rest j) → M_times_5 (nI r) L R n (nI t) (nI k) = some (nI (qt rest (qf h) 99)) := by
    intro d
    induction d with
    | zero =>
      intro k t n e hn inv
      obtain ⟨n, rfl⟩ : ∃ m, n = m + 1 := ⟨n - 1, by omega⟩
      have : k = 5 := by omega
      subst this
      rw [M_times_5, if_pos q_y5, qt_eq (t := t) (m := 99) inv]
    | succ d ih =>
      intro k t n e hn inv
      obtain ⟨n, rfl⟩ : ∃ m, n = m + 1 := ⟨n - 1, by omega⟩
      have hk : k < 5 := by omega
      have t99 : t ≤ 99 := ((inv t).mp (Nat.le_refl _)).1
      have q4 := qf_lt h k
      have rk := hr k hk
      rw [M_times_5, if_neg (q_n5 hk), if_neg (nI_in h6 (by omega)), nI_clamp (by omega), hL, q_of (by omega) hk, Option.bind_some, nI_1, nI_clamp (by omega)]
      by_cases z : qf h k = 0
      · rw [z, if_pos (by decide)]
        refine ih (k + 1) t n (by omega) (by omega) fun u => ?_
        rw [inv u]
        refine ⟨fun h => ⟨h.1, fun j hj => ?_⟩, fun h => ⟨h.1, fun j hj => h.2 j (by omega)⟩⟩
        by_cases jk : j = k
        · subst jk; rw [z]; omega
        · exact h.2 j (by omega)
      · have dl : rest k / qf h k ≤ rest k := Nat.div_le_self _ _
        have di : ∀ u, u ≤ rest k / qf h k ↔ u * qf h k ≤ rest k := fun u => Nat.le_div_iff_mul_le (by omega)
        rw [if_neg (nI_nle (by omega) (by omega)), if_neg (q_in hk (by omega)), if_neg (nI_ne0 (by omega) (by omega)), hR k hk, pk_div (by omega) (by omega) (by omega)]
        by_cases c : t ≤ rest k / qf h k
        · rw [if_pos (nI_le c (by omega))]
          refine ih (k + 1) t n (by omega) (by omega) fun u => ?_
          refine ⟨fun h => ⟨((inv u).mp h).1, fun j hj => ?_⟩, fun h => (inv u).mpr ⟨h.1, fun j hj => h.2 j (by omega)⟩⟩
          by_cases jk : j = k
          · subst jk; exact (di u).mp (by omega)
          · exact ((inv u).mp h).2 j (by omega)
        · rw [if_neg (nI_ge (by omega) (by omega)), if_neg (q_in hk (by omega)), if_neg (nI_ne0 (by omega) (by omega))]
          refine ih (k + 1) _ n (by omega) (by omega) fun u => ?_
          refine ⟨fun h => ⟨by omega, fun j hj => ?_⟩, fun h => (di u).mpr (h.2 k (by omega))⟩
          by_cases jk : j = k
          · subst jk; exact (di u).mp h
          · exact ((inv u).mp (by omega)).2 j (by omega)
  exact key 5 0 99 n (by omega) (by omega) fun u => ⟨fun h => ⟨h, fun j hj => absurd hj (by omega)⟩, fun h => h.1⟩

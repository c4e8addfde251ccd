def qfr (row : Nat) (a b : Nat → Int32) : Prop := ∀ j, ¬ (47 * row ≤ j ∧ j < 47 * row + 47) → b j = a j
theorem q_give {lab : Nat → Int32} {par : Nat → Nat} {am : Nat → Nat → Nat} {cells : Nat → Int32} {row : Nat} (h : KM lab par am cells row) (hr : row < 82) {p hh : Nat} (hp : p < 7) (h1 : hh < 1024) {P X : Int32} (hP : (p < 6 ∧ P = nI p) ∨ (p = 6 ∧ P < 0)) {v : Nat → Nat} (hv : ∀ k, k < 5 → nI (am p k) + X * nI (qf hh k) = nI (v k)) {n : Nat} (hn : 6 ≤ n) : ∃ cells', M_give n (nI row) P (nI hh) X cells = some cells' ∧ KM lab par (eUp am p v) cells' row ∧ qfr row cells cells' := by
  have key : ∀ (d k n : Nat) (c0 : Nat → Int32), k + d = 5 → d + 1 ≤ n → (∀ j, j < k → c0 (47 * row + 7 * p + j) = nI (v j)) → (∀ j, ¬ (47 * row + 7 * p ≤ j ∧ j < 47 * row + 7 * p + k) → c0 j = cells j) → ∃ cells', M_give_23 (nI hh) X n (nI (47 * row + 7 * p)) (nI k) c0 = some cells' ∧ (∀ j, j < 5 → cells' (47 * row + 7 * p + j) = nI (v j)) ∧ ∀ j, ¬ (47 * row + 7 * p ≤ j ∧ j < 47 * row + 7 * p + 5) → cells' j = cells j := by
    intro d
    induction d with
    | zero =>
      intro k n c0 e hn g1 g2
      obtain ⟨n, rfl⟩ : ∃ m, n = m + 1 := ⟨n - 1, by omega⟩
      have : k = 5 := by omega
      subst this
      exact ⟨c0, by rw [M_give_23, if_pos q_y5], g1, g2⟩
    | succ d ih =>
      intro k n c0 e hn g1 g2
      obtain ⟨n, rfl⟩ : ∃ m, n = m + 1 := ⟨n - 1, by omega⟩
      have hk : k < 5 := by omega
      rw [M_give_23, if_neg (q_n5 hk), nI_add, nI_clamp (by omega), if_neg (q_in (by omega) (by omega)), q_of (by omega) hk, Option.bind_some, if_neg (q_in (by omega) (by omega)), nI_1, g2 _ (by omega), h.2.2 p hp k hk, hv k hk]
      refine ih (k + 1) n _ (by omega) (by omega) (fun j hj => ?_) (fun j hj => ?_)
      · by_cases jk : j = k
        · subst jk; rw [q_up]
        · rw [q_un (by omega), g1 j (by omega)]
      · rw [q_un (by omega), g2 j (by omega)]
  obtain ⟨cells', e1, e2, e3⟩ := key 5 0 n cells (by omega) (by omega) (fun j hj => absurd hj (by omega)) (fun _ _ => rfl)
  refine ⟨cells', ?_, ⟨fun m hm => ?_, fun m hm => ?_, fun m hm k hk => ?_⟩, fun j hj => e3 j (by omega)⟩
  · rw [← e1]
    unfold M_give
    have a : (47 : Int32) * nI row = nI (47 * row) := pk_mul 47 row
    rcases hP with ⟨p6, rfl⟩ | ⟨p6, hneg⟩
    · have b : (7 : Int32) * nI p = nI (7 * p) := pk_mul 7 p
      rw [if_pos (nI_pos' (by omega)), a, b, nI_add]; rfl
    · have b : (42 : Int32) = nI 42 := rfl
      have c : ¬ 0 ≤ P := by
        intro w
        rw [Int32.le_iff_toInt_le] at w
        rw [Int32.lt_iff_toInt_lt] at hneg
        omega
      rw [if_neg c, a, b, nI_add, p6]; rfl
  · rw [e3 _ (by omega)]; exact h.1 m hm
  · rw [e3 _ (by omega)]; exact h.2.1 m hm
  · by_cases mp : m = p
    · subst mp; rw [e2 k hk, q_up]
    · rw [q_un mp, e3 _ (by omega)]; exact h.2.2 m hm k hk
def qadd (am : Nat → Nat → Nat) (p : Nat) (v : Nat → Nat) : Nat → Nat → Nat := eUp am p fun k => am p k + v k
def qsubv (am : Nat → Nat → Nat) (p : Nat) (v : Nat → Nat) : Nat → Nat → Nat := eUp am p fun k => am p k - v k
def qpp (par : Nat → Nat) (m : Nat) : Nat := if m = 0 then 6 else par m
def quse (lab : Nat → Int32) (par : Nat → Nat) (ru : Nat → Nat → Nat) (am : Nat → Nat → Nat) (m i t : Nat) : Nat → Nat → Nat :=
  let a1 := qsubv am m (qs t (qf (ru i 1)))
  let a2 := if ru i 6 = 2 then a1 else qadd a1 m (qs t (qf (ru i 2)))
  let a3 := qadd a2 (qpp par m) (qs t (qf (ru i 3)))
  if ru i 4 = 0 then a3 else match qfind (qkl lab par m (nI (ru i 5))) 1 5 with
    | none => a3
    | some c => qadd a3 c (qs t (qf (ru i 4)))
theorem KC_up {lab : Nat → Int32} {par : Nat → Nat} {am : Nat → Nat → Nat} {cl cp : Nat → Int32} {ch : Nat → Int64} (h : KC lab par am cl cp ch) {p : Nat} {x : Int64} {v : Nat → Nat} (e : x = qh v) : KC lab par (eUp am p v) cl cp (eUp ch p x) := by
  refine ⟨h.1, h.2.1, fun m hm => ?_⟩
  by_cases mp : m = p
  · subst mp; rw [q_up, q_up, e]
  · rw [q_un mp, q_un mp]; exact h.2.2 m hm
theorem KC_add {lab : Nat → Int32} {par : Nat → Nat} {am : Nat → Nat → Nat} {cl cp : Nat → Int32} {ch : Nat → Int64} (h : KC lab par am cl cp ch) {p t : Nat} (hp : p < 7) (ht : t < 2 ^ 31) (w : Nat → Nat) : KC lab par (qadd am p (qs t w)) cl cp (eUp ch p (ch p + (nI t).toInt64 * qh w)) := by
  refine KC_up h ?_
  rw [h.2.2 p hp, nI_l ht, qh_mul, qh_add]; rfl
theorem KC_sub {lab : Nat → Int32} {par : Nat → Nat} {am : Nat → Nat → Nat} {cl cp : Nat → Int32} {ch : Nat → Int64} (h : KC lab par am cl cp ch) {p t : Nat} (hp : p < 7) (ht : t < 2 ^ 31) (w : Nat → Nat) (hw : ∀ k, k < 5 → t * w k ≤ am p k) : KC lab par (qsubv am p (qs t w)) cl cp (eUp ch p (ch p - (nI t).toInt64 * qh w)) := by
  refine KC_up h ?_
  rw [h.2.2 p hp, nI_l ht, qh_mul, qh_sub hw]; rfl
theorem q_takeMake {lab : Nat → Int32} {par : Nat → Nat} {am : Nat → Nat → Nat} {cl cp : Nat → Int32} {ch : Nat → Int64} (hl : KL lab par) (h : KC lab par am cl cp ch) {cnt : Nat} {ru : Nat → Nat → Nat} {ul : Nat → Int32} {ue uk uh uo ui : Nat → Int64} {ut ud uv : Nat → Int32} {ux : Nat → Int64} (hu : UL cnt ru) (hc : UC cnt ru ul ue uk uh uo ui ut ud uv ux) {m i t : Nat} (hm : m < 6) (hpr : ¬ lab m = -1) (hi : i < cnt) (ht : t ≤ 12) (hfit : ∀ k, k < 5 → t * qf (ru i 1) k ≤ am m k) (w : Nat → Option Nat) {n : Nat} (hn : 7 ≤ n) : ∃ ch', W_takeAndMake n (nI m) i (nI t) w ue uh uo ui ut ud uv cl cp ch = some (if 0 < ru i 6 then eUp w m (some i) else w, ch') ∧ KC lab par (quse lab par ru am m i t) cl cp ch' := by
  obtain ⟨b0, b1, b2, b3, b4, b5, b6, b7, b8⟩ := hu.2 i hi
  obtain ⟨c1, c2, c3, c4, c5, c6, c7, c8, c9, c10⟩ := hc i hi
  have pl : qpp par m < 7 := by
    unfold qpp
    split
    · omega
    · rename_i z; have := (hl.2.2 m hm z hpr).1; omega
  have cpm : cp m = nI (qpp par m) := by
    rw [h.2.1 m hm]
    unfold qpC qpp
    split
    · rfl
    · first | rfl | rw [if_neg hpr]
  have e107 : ∀ c0, W_takeAndMake_107 (nI m) i ud uv n w c0 = some (if 0 < ru i 6 then eUp w m (some i) else w, c0) := by
    intro c0
    unfold W_takeAndMake_107
    rw [c8, c9, q_once, Option.bind_some, q_act hu hi, nI_clamp (by omega), if_neg (q_in hm (by omega))]
    by_cases x : 0 < ru i 6
    · rw [decide_eq_true x, if_neg qb_t, if_pos x]
    · rw [decide_eq_false x, if_pos qb_f, if_neg x]
  have e41 : ∀ (a : Nat → Nat → Nat) (c0 : Nat → Int64), KC lab par a cl cp c0 → ∃ ch', W_takeAndMake_41 (nI m) i (nI t) uo ui ut ud uv cl cp n w c0 = some (if 0 < ru i 6 then eUp w m (some i) else w, ch') ∧ KC lab par (if ru i 4 = 0 then qadd a (qpp par m) (qs t (qf (ru i 3))) else match qfind (qkl lab par m (nI (ru i 5))) 1 5 with | none => qadd a (qpp par m) (qs t (qf (ru i 3))) | some c => qadd (qadd a (qpp par m) (qs t (qf (ru i 3)))) c (qs t (qf (ru i 4)))) cl cp ch' := by
    intro a c0 hk
    have k1 := KC_add hk pl (show t < 2 ^ 31 by omega) (qf (ru i 3))
    unfold W_takeAndMake_41
    rw [nI_clamp (by omega), if_neg (q_in hm (by omega)), cpm, nI_clamp (by omega), if_neg (q_in pl (by omega)), if_neg (q_in pl (by omega)), c5, c6, e107]
    by_cases z : ru i 4 = 0
    · rw [if_pos (q_cmp0.mpr ((qf_eq0 b5).mpr z)), if_pos z]
      exact ⟨_, rfl, k1⟩
    · rw [if_neg (fun y => z ((qf_eq0 b5).mp (q_cmp0.mp y))), if_neg z, c7 z, q_first hl h hm _ hn, Option.bind_some]
      cases o : qfind (qkl lab par m (nI (ru i 5))) 1 5 with
      | none =>
        rw [if_pos (show qoI none = -1 from rfl)]
        exact ⟨_, rfl, k1⟩
      | some c =>
        have cl6 := qfind_lt o
        rw [show qoI (some c) = nI c from rfl, if_neg (q_m1' (by omega)), nI_clamp (by omega), if_neg (q_in (by omega) (by omega)), if_neg (q_in (by omega) (by omega)), e107]
        exact ⟨_, rfl, KC_add k1 (by omega) (by omega) (qf (ru i 4))⟩
  have s1 := KC_sub h (show m < 7 by omega) (show t < 2 ^ 31 by omega) (qf (ru i 1)) hfit
  have s2 := KC_add s1 (show m < 7 by omega) (show t < 2 ^ 31 by omega) (qf (ru i 2))
  unfold W_takeAndMake quse
  rw [nI_clamp (by omega), if_neg (q_in (by omega) (by omega)), if_neg (q_in (by omega) (by omega)), if_neg (q_in (by omega) (by omega)), if_neg (q_in (by omega) (by omega)), c2, c4, c9]
  by_cases x : ru i 6 = 2
  · rw [decide_eq_true x, if_neg qb_t]
    obtain ⟨ch', f1, f2⟩ := e41 _ _ s1
    refine ⟨ch', f1, ?_⟩
    simp only [if_pos x]
    exact f2
  · rw [decide_eq_false x, if_pos qb_f]
    obtain ⟨ch', f1, f2⟩ := e41 _ _ s2
    refine ⟨ch', f1, ?_⟩
    simp only [if_neg x]
    exact f2

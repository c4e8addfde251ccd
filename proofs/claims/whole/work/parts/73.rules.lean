def UL (cnt : Nat) (ru : Nat → Nat → Nat) : Prop :=
  cnt ≤ 6 ∧ ∀ i, i < cnt → ru i 0 < 4 ∧ 0 < ru i 1 ∧ ru i 1 < 1024 ∧ ru i 2 < 1024 ∧ ru i 3 < 1024 ∧ ru i 4 < 1024 ∧ ru i 5 < 4 ∧ ru i 6 ≤ 2 ∧ ru i 7 < 1024
def UC (cnt : Nat) (ru : Nat → Nat → Nat) (ul : Nat → Int32) (ue uk uh uo ui : Nat → Int64) (ut ud uv : Nat → Int32) (ux : Nat → Int64) : Prop :=
  ∀ i, i < cnt → ul i = nI (ru i 0) ∧ ue i = qh (qf (ru i 1)) ∧ uk i = qh (qk (qf (ru i 1))) ∧ uh i = qh (qf (ru i 2)) ∧ uo i = qh (qf (ru i 3)) ∧ ui i = qh (qf (ru i 4)) ∧ (¬ ru i 4 = 0 → ut i = nI (ru i 5)) ∧ ud i = qb (decide (ru i 6 = 1)) ∧ uv i = qb (decide (ru i 6 = 2)) ∧ (ru i 6 = 2 → ux i = qh (qf (ru i 7)))
def UM (cnt : Nat) (ru : Nat → Nat → Nat) (ml me mh mo mi mt ma mx : Nat → Int32) : Prop :=
  ∀ i, i < cnt → ml i = nI (ru i 0) ∧ me i = nI (ru i 1) ∧ mh i = nI (ru i 2) ∧ mo i = nI (ru i 3) ∧ mi i = nI (ru i 4) ∧ (¬ ru i 4 = 0 → mt i = nI (ru i 5)) ∧ ma i = nI (ru i 6) ∧ (ru i 6 = 2 → mx i = nI (ru i 7))
def qop (lab : Nat → Int32) (par : Nat → Nat) (ru : Nat → Nat → Nat) (m i : Nat) : Bool :=
  !(decide (0 < ru i 6) && decide (m = 0)) && (!(decide (ru i 6 = 2) && decide (0 < qcnt (qkid lab par m) 1 5)) && (decide (ru i 4 = 0) || (qfind (qkl lab par m (nI (ru i 5))) 1 5).isSome))
def qopl (lab : Nat → Int32) (par : Nat → Nat) (ru : Nat → Nat → Nat) (m i : Nat) : Bool := decide (nI (ru i 0) = lab m) && qop lab par ru m i
theorem qf_eq0 {h : Nat} (hh : h < 1024) : qh (qf h) = 0 ↔ h = 0 := by
  rw [← qh_0, qh_eq qf_4 (fun _ _ => by omega)]
  refine ⟨fun e => ?_, fun e k _ => by rw [e]; exact qf_0⟩
  apply Classical.byContradiction
  intro z
  obtain ⟨k, hk, hp⟩ := qf_pos (by omega) hh
  have := e k hk
  omega
theorem qoI_m1 {o : Option Nat} (h : ∀ j, o = some j → j < 2 ^ 31) : qoI o = -1 ↔ o.isSome = false := by
  cases o with
  | none => exact ⟨fun _ => rfl, fun _ => rfl⟩
  | some j => exact ⟨fun e => absurd e (q_m1' (h j rfl)), fun e => absurd e (by simp)⟩
theorem qfind_lt {p : Nat → Bool} {c d j : Nat} (h : qfind p c d = some j) : j < c + d := (qfind_some d c h).2.2.1
theorem q_isOpen {lab : Nat → Int32} {par : Nat → Nat} {am : Nat → Nat → Nat} {cl cp : Nat → Int32} {ch : Nat → Int64} (hl : KL lab par) (h : KC lab par am cl cp ch) {cnt : Nat} {ru : Nat → Nat → Nat} {ul : Nat → Int32} {ue uk uh uo ui : Nat → Int64} {ut ud uv : Nat → Int32} {ux : Nat → Int64} (hu : UL cnt ru) (hc : UC cnt ru ul ue uk uh uo ui ut ud uv ux) {m i : Nat} (hm : m < 6) (hi : i < cnt) {n : Nat} (hn : 7 ≤ n) : O_isOpen n (nI m) (ui i) (ut i) (ud i) (uv i) cl cp = some (qb (qop lab par ru m i)) := by
  obtain ⟨b0, b1, b2, b3, b4, b5, b6, b7, b8⟩ := hu.2 i hi
  obtain ⟨c1, c2, c3, c4, c5, c6, c7, c8, c9, c10⟩ := hc i hi
  have f30 : O_isOpen_30 (nI m) (ui i) (ut i) cl cp n = some (qb (decide (ru i 4 = 0) || (qfind (qkl lab par m (nI (ru i 5))) 1 5).isSome)) := by
    unfold O_isOpen_30
    rw [c6]
    by_cases z : ru i 4 = 0
    · rw [if_pos (q_cmp0.mpr ((qf_eq0 b5).mpr z)), decide_eq_true z]; rfl
    · rw [if_neg (fun w => z ((qf_eq0 b5).mp (q_cmp0.mp w))), c7 z, q_first hl h hm _ hn, Option.bind_some, decide_eq_false z]
      by_cases s : (qfind (qkl lab par m (nI (ru i 5))) 1 5).isSome = true
      · rw [if_neg, s]
        · rfl
        · intro w
          rw [qoI_m1 (fun j hj => by have := qfind_lt hj; omega)] at w
          rw [s] at w
          cases w
      · have s' := Bool.eq_false_iff.mpr s
        rw [if_pos ((qoI_m1 (fun j hj => by have := qfind_lt hj; omega)).mpr s'), s']; rfl
  have f13 : O_isOpen_13 (nI m) (ui i) (ut i) (uv i) cl cp n = some (qb (!(decide (ru i 6 = 2) && decide (0 < qcnt (qkid lab par m) 1 5)) && (decide (ru i 4 = 0) || (qfind (qkl lab par m (nI (ru i 5))) 1 5).isSome))) := by
    unfold O_isOpen_13
    rw [f30, c9, q_count6 hl h hm hn, Option.bind_some]
    have l5 := qcnt_le (p := qkid lab par m) 5 1
    by_cases z : ru i 6 = 2
    · rw [decide_eq_true z, if_neg qb_t]
      by_cases w : 0 < qcnt (qkid lab par m) 1 5
      · rw [if_neg (nI_nle w (by omega)), decide_eq_true w]; rfl
      · have w0 : qcnt (qkid lab par m) 1 5 = 0 := by omega
        rw [w0, if_pos (by decide)]; rfl
    · rw [decide_eq_false z, if_pos qb_f]; rfl
  unfold O_isOpen
  rw [f13, c8, c9]
  unfold qop
  have ob : (decide (ru i 6 = 1) || decide (ru i 6 = 2)) = decide (0 < ru i 6) := by
    by_cases z : 0 < ru i 6
    · rw [decide_eq_true z]
      by_cases y : ru i 6 = 1
      · rw [decide_eq_true y]; rfl
      · rw [decide_eq_true (show ru i 6 = 2 by omega), Bool.or_true]
    · rw [decide_eq_false z, decide_eq_false (show ¬ ru i 6 = 1 by omega), decide_eq_false (show ¬ ru i 6 = 2 by omega)]; rfl
  rw [q_once, Option.bind_some, ob]
  by_cases z : 0 < ru i 6
  · rw [decide_eq_true z, if_neg qb_t]
    by_cases y : m = 0
    · subst y
      rw [if_pos nI_0]; rfl
    · rw [if_neg (nI_ne0 (by omega) (by omega)), decide_eq_false y]; rfl
  · rw [decide_eq_false z, if_pos qb_f]; rfl
theorem q_act {cnt : Nat} {ru : Nat → Nat → Nat} (hu : UL cnt ru) {i : Nat} (hi : i < cnt) : (decide (ru i 6 = 1) || decide (ru i 6 = 2)) = decide (0 < ru i 6) := by
  have b7 := (hu.2 i hi).2.2.2.2.2.2.2.1
  by_cases z : 0 < ru i 6
  · rw [decide_eq_true z]
    by_cases y : ru i 6 = 1
    · rw [decide_eq_true y]; rfl
    · rw [decide_eq_true (show ru i 6 = 2 by omega), Bool.or_true]
  · rw [decide_eq_false z, decide_eq_false (show ¬ ru i 6 = 1 by omega), decide_eq_false (show ¬ ru i 6 = 2 by omega)]; rfl
def qol (p : Nat → Bool) : Nat → Nat → List Nat
  | _, 0 => []
  | c, d + 1 => if p c then c :: qol p (c + 1) d else qol p (c + 1) d
theorem qol_len {p : Nat → Bool} : ∀ (d c : Nat), (qol p c d).length ≤ d := by
  intro d
  induction d with
  | zero => intro c; exact Nat.le_refl _
  | succ d ih =>
    intro c
    have := ih (c + 1)
    unfold qol
    split
    · rw [List.length_cons]; omega
    · omega
theorem qol_mem {p : Nat → Bool} : ∀ (d c i : Nat), i ∈ qol p c d → c ≤ i ∧ i < c + d ∧ p i = true := by
  intro d
  induction d with
  | zero => intro c i h; cases h
  | succ d ih =>
    intro c i h
    unfold qol at h
    split at h
    · rename_i e
      cases h with
      | head => exact ⟨Nat.le_refl _, by omega, e⟩
      | tail _ h => have := ih (c + 1) i h; exact ⟨by omega, by omega, this.2.2⟩
    · have := ih (c + 1) i h; exact ⟨by omega, by omega, this.2.2⟩
theorem q_gather {lab : Nat → Int32} {par : Nat → Nat} {am : Nat → Nat → Nat} {cl cp : Nat → Int32} {ch : Nat → Int64} (hl : KL lab par) (h : KC lab par am cl cp ch) {cnt : Nat} {ru : Nat → Nat → Nat} {ul : Nat → Int32} {ue uk uh uo ui : Nat → Int64} {ut ud uv : Nat → Int32} {ux : Nat → Int64} (hu : UL cnt ru) (hc : UC cnt ru ul ue uk uh uo ui ut ud uv ux) {m : Nat} (hm : m < 6) (g0 : Nat → Option Nat) {n : Nat} (hn : 14 ≤ n) : ∃ g, O_gatherOpen n (nI m) g0 ul ui ut ud uv (nI cnt) cl cp = some (nI (qol (qopl lab par ru m) 0 cnt).length, g) ∧ ∀ j, j < (qol (qopl lab par ru m) 0 cnt).length → g j = (qol (qopl lab par ru m) 0 cnt)[j]? := by
  have c6 := hu.1
  have key : ∀ (d c n : Nat) (acc : List Nat) (g : Nat → Option Nat), c + d = cnt → d + 8 ≤ n → acc.length ≤ c → (∀ j, j < acc.length → g j = acc[j]?) → ∃ g', O_gatherOpen_8 (nI m) ul ui ut ud uv (nI cnt) cl cp n (nI c) (nI acc.length) g = some (nI (acc ++ qol (qopl lab par ru m) c d).length, g') ∧ ∀ j, j < (acc ++ qol (qopl lab par ru m) c d).length → g' j = (acc ++ qol (qopl lab par ru m) c d)[j]? := by
    intro d
    induction d with
    | zero =>
      intro c n acc g e hn ha hg
      obtain ⟨n, rfl⟩ : ∃ m, n = m + 1 := ⟨n - 1, by omega⟩
      refine ⟨g, ?_, ?_⟩
      · rw [O_gatherOpen_8, if_pos (nI_le (by omega) (by omega))]
        unfold qol; rw [List.append_nil]
      · unfold qol; rw [List.append_nil]; exact hg
    | succ d ih =>
      intro c n acc g e hn ha hg
      obtain ⟨n, rfl⟩ : ∃ m, n = m + 1 := ⟨n - 1, by omega⟩
      have hi : c < cnt := by omega
      rw [O_gatherOpen_8, if_neg (nI_ge hi (by omega)), nI_clamp (by omega), if_neg (q_in (by omega) (by omega)), nI_clamp (by omega), if_neg (q_in hm (by omega)), (hc c hi).1, h.1 m hm, nI_1, nI_clamp (by omega)]
      unfold qol
      by_cases e1 : nI (ru c 0) = lab m
      · rw [if_pos e1, q_isOpen hl h hu hc hm hi (by omega), Option.bind_some]
        by_cases e2 : qop lab par ru m c = true
        · have eo : qopl lab par ru m c = true := by unfold qopl; rw [decide_eq_true e1, e2]; rfl
          rw [e2, if_neg qb_t, if_neg (q_in (by omega) (by omega)), if_pos eo, nI_1]
          have ih2 := ih (c + 1) n (acc ++ [c]) (eUp g acc.length (some c)) (by omega) (by omega) (by rw [List.length_append]; simp; omega) (by
            intro j hj
            rw [List.length_append] at hj
            have hj' : j < acc.length + 1 := hj
            by_cases jl : j = acc.length
            · subst jl; rw [q_up]; simp
            · rw [q_un jl, hg j (by omega), List.getElem?_append_left (by omega)])
          rw [List.length_append] at ih2
          rw [List.append_assoc] at ih2
          exact ih2
        · have eo : ¬ qopl lab par ru m c = true := by unfold qopl; rw [Bool.eq_false_iff.mpr e2, Bool.and_false]; exact Bool.false_ne_true
          rw [Bool.eq_false_iff.mpr e2, if_pos qb_f, if_neg eo]
          exact ih (c + 1) n acc g (by omega) (by omega) (by omega) hg
      · have eo : ¬ qopl lab par ru m c = true := by unfold qopl; rw [decide_eq_false e1]; exact Bool.false_ne_true
        rw [if_neg e1, if_neg eo]
        exact ih (c + 1) n acc g (by omega) (by omega) (by omega) hg
  have e := key cnt 0 n [] g0 (by omega) (by omega) (Nat.zero_le _) (fun j hj => absurd hj (Nat.not_lt_zero _))
  exact e
def qal (lab : Nat → Int32) (par : Nat → Nat) (ru : Nat → Nat → Nat) (m : Nat) (rest : Nat → Nat) (s : Bool) (i : Nat) : Nat :=
  if qopl lab par ru m i then qt rest (qf (ru i 1)) (qcap (decide (0 < ru i 6)) s) else 0
theorem q_allowed {lab : Nat → Int32} {par : Nat → Nat} {am : Nat → Nat → Nat} {cells : Nat → Int32} {row : Nat} (hl : KL lab par) (h : KM lab par am cells row) (hr : row < 82) {cnt : Nat} {ru : Nat → Nat → Nat} {ml me mh mo mi mt ma mx : Nat → Int32} (hu : UL cnt ru) (hM : UM cnt ru ml me mh mo mi mt ma mx) {rest : Nat → Nat} {R : Nat → Int32} (hR : ∀ k, k < 5 → R k = nI (rest k)) (h12 : ∀ k, k < 5 → rest k ≤ 12) (s : Bool) {m i : Nat} (hm : m < 6) (hi : i < cnt) {n : Nat} (hn : 7 ≤ n) : M_allowed n (nI row) (nI m) (nI i) ml me mi mt ma cells R (qb s) = some (nI (qal lab par ru m rest s i)) := by
  obtain ⟨b0, b1, b2, b3, b4, b5, b6, b7, b8⟩ := hu.2 i hi
  obtain ⟨c1, c2, c3, c4, c5, c6, c7, c8⟩ := hM i hi
  have i6 : i < 6 := by have := hu.1; omega
  have tm := q_times hR (fun k hk => by have := h12 k hk; omega) i6 c2 b2 (n := n) (by omega)
  obtain ⟨k, hk, kp⟩ := qf_pos b1 b2
  rw [qt_cap hk kp (h12 k hk)] at tm
  have tl := qt_le (rest := rest) (left := qf (ru i 1)) (m := 12)
  have f83 : M_allowed_83 (nI i) me ma R n = some (nI (qt rest (qf (ru i 1)) (qcap (decide (0 < ru i 6)) false))) := by
    unfold M_allowed_83
    rw [tm, Option.bind_some, nI_clamp (by omega), if_neg (q_in i6 (by omega)), c7]
    by_cases z : 0 < ru i 6
    · rw [if_neg (nI_nle z (by omega)), decide_eq_true z]
      have w := qt_min (rest := rest) (left := qf (ru i 1)) (a := 12) (b := 1) (by omega)
      show _ = some (nI (qt rest (qf (ru i 1)) 1))
      rw [← w]
      by_cases y : 1 < qt rest (qf (ru i 1)) 12
      · have g1 : ¬ nI (qt rest (qf (ru i 1)) 12) ≤ (1 : Int32) := nI_ge (a := 1) y (by omega)
        rw [if_neg g1, if_pos y]; rfl
      · have g1 : nI (qt rest (qf (ru i 1)) 12) ≤ (1 : Int32) := nI_le (b := 1) (by omega) (by decide)
        rw [if_pos g1, if_neg y]
    · have z0 : ru i 6 = 0 := by omega
      rw [z0, if_pos (by decide)]; rfl
  have f42 : M_allowed_42 (nI row) (nI m) (nI i) me ma cells R (qb s) n = some (nI (if !(decide (0 < ru i 6) && decide (m = 0)) && !(decide (ru i 6 = 2) && decide (0 < qcnt (qkid lab par m) 1 5)) then qt rest (qf (ru i 1)) (qcap (decide (0 < ru i 6)) s) else 0)) := by
    unfold M_allowed_42
    rw [f83, nI_clamp (by omega), if_neg (q_in i6 (by omega)), c7]
    by_cases z : 0 < ru i 6
    · rw [if_neg (nI_nle z (by omega)), decide_eq_true z]
      cases s with
      | true =>
        rw [if_neg qb_t]
        show _ = some (nI (if _ then 0 else 0))
        rw [ite_self]; rfl
      | false =>
        rw [if_pos qb_f]
        by_cases y : m = 0
        · subst y
          rw [if_pos nI_0]; rfl
        · rw [if_neg (nI_ne0 (by omega) (by omega)), if_neg (q_in i6 (by omega)), decide_eq_false y]
          by_cases w : ru i 6 = 2
          · have l5 := qcnt_le (p := qkid lab par m) 5 1
            rw [if_pos (show nI (ru i 6) = 2 by rw [w]; rfl), q_kids hl h hr hm hn, Option.bind_some, decide_eq_true w]
            by_cases v : 0 < qcnt (qkid lab par m) 1 5
            · rw [if_neg (nI_nle v (by omega)), decide_eq_true v]; rfl
            · have v0 : qcnt (qkid lab par m) 1 5 = 0 := by omega
              rw [v0, if_pos (by decide)]; rfl
          · have g1 : ¬ nI (ru i 6) = (2 : Int32) := fun v => w ((nI_eq (b := 2) (by omega) (by decide)).mp v)
            rw [if_neg g1, decide_eq_false w]; rfl
    · have z0 : ru i 6 = 0 := by omega
      rw [z0, if_pos (by decide)]; rfl
  unfold M_allowed qal qopl qop
  rw [f42, nI_clamp (by omega), if_neg (q_in i6 (by omega)), q_cell5 (by omega), Option.bind_some, c1, h.1 m hm]
  by_cases e1 : nI (ru i 0) = lab m
  · rw [if_pos e1, if_neg (q_in i6 (by omega)), decide_eq_true e1, c5]
    by_cases z : ru i 4 = 0
    · rw [z, if_pos (by decide)]
      simp
    · rw [if_neg (nI_nle (by omega) (by omega)), if_neg (q_in i6 (by omega)), c6 z, q_childOf hl h hr hm (q_m1' (by omega)) hn, Option.bind_some, decide_eq_false z]
      cases o : qfind (qkl lab par m (nI (ru i 5))) 1 5 with
      | none =>
        rw [if_neg (show ¬ (0 : Int32) ≤ qoI none by decide)]
        simp [nI_0]
      | some j =>
        have := qfind_lt o
        rw [if_pos (show (0 : Int32) ≤ qoI (some j) from nI_pos' (by omega))]
        simp
  · rw [if_neg e1, decide_eq_false e1]; rfl

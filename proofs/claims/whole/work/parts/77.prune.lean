def qstop (ru : Nat → Nat → Nat) (rest mt : Nat → Nat) (b : Bool) (i : Nat) : Bool := (decide (0 < ru i 6) && b) || !qleb (fun k => qf (ru i 1) k + (if 0 < qf (ru i 1) k then mt k else 0)) rest
theorem q_get {ol l : List Nat} {g : Nat → Option Nat} {i j : Nat} (hg : ∀ j, j < ol.length → g j = ol[j]?) (hj : j < ol.length) (e : ol.drop j = i :: l) : g j = some i ∧ i ∈ ol ∧ ol.drop (j + 1) = l := by
  refine ⟨?_, ?_, ?_⟩
  · rw [hg j hj]
    have := congrArg (fun x => x[0]?) e
    rw [List.getElem?_drop] at this
    exact this
  · have : i ∈ ol.drop j := by rw [e]; exact List.mem_cons_self ..
    exact List.mem_of_mem_drop this
  · rw [← List.drop_drop, e]; rfl
theorem q_cbm92 {cnt : Nat} {ru : Nat → Nat → Nat} {ul : Nat → Int32} {ue uk uh uo ui : Nat → Int64} {ut ud uv : Nat → Int32} {ux : Nat → Int64} (hu : UL cnt ru) (hc : UC cnt ru ul ue uk uh uo ui ut ud uv ux) {ol : List Nat} {g : Nat → Option Nat} (hg : ∀ j, j < ol.length → g j = ol[j]?) (h6 : ol.length ≤ 6) (ho : ∀ i, i ∈ ol → i < cnt) {rest mt : Nat → Nat} {b : Bool} {p : Nat} (hp : p ≤ ol.length) (hr : ∀ k, k < 5 → rest k < 2048) (hm : ∀ k, k < 5 → mt k ≤ 1000) : ∀ (l : List Nat) (j n : Nat), (ol.take p).drop j = l → j + l.length = p → l.length + 1 ≤ n → O_canBecomeMaximal_92 (nI p) (qh rest) g ue uk ud uv n (qh mt) (qb b) (nI j) = some (qb (l.all (qstop ru rest mt b))) := by
  intro l
  induction l with
  | nil =>
    intro j n e el hn
    obtain ⟨n, rfl⟩ : ∃ m, n = m + 1 := ⟨n - 1, by omega⟩
    have : j = p := el
    subst this
    rw [O_canBecomeMaximal_92, if_pos (nI_le (Nat.le_refl _) (by omega))]; rfl
  | cons i l ih =>
    intro j n e el hn
    obtain ⟨n, rfl⟩ : ∃ m, n = m + 1 := ⟨n - 1, by omega⟩
    rw [List.length_cons] at el hn
    have hj : j < p := by omega
    have lt : (ol.take p).length = p := by rw [List.length_take]; omega
    obtain ⟨gj, im, ed⟩ := q_get (ol := ol.take p) (g := g) (fun j hj => by
      rw [lt] at hj
      rw [hg j (by omega), List.getElem?_take, if_pos hj]) (show j < (ol.take p).length by omega) e
    have hi : i < cnt := ho i (List.mem_of_mem_take im)
    have i6 : i < 6 := by have := hu.1; omega
    obtain ⟨c1, c2, c3, c4, c5, c6, c7, c8, c9, c10⟩ := hc i hi
    have e121 : ∀ x : Bool, O_canBecomeMaximal_121 (qh rest) g ue uk (O_canBecomeMaximal_92 (nI p) (qh rest) g ue uk ud uv n) n (qh mt) (qb b) (nI j) (qb x) = some (qb ((x || !qleb (fun k => qf (ru i 1) k + (if 0 < qf (ru i 1) k then mt k else 0)) rest) && l.all (qstop ru rest mt b))) := by
      intro x
      unfold O_canBecomeMaximal_121
      rw [nI_clamp (by omega), if_neg (q_in (by omega) (by omega)), gj]
      show (if 6 ≤ i then none else _) = _
      rw [if_neg (by omega), if_neg (q_in (by omega) (by omega)), nI_1]
      cases x with
      | true =>
        rw [if_neg qb_t, ih (j + 1) n ed (by omega) (by omega)]; rfl
      | false =>
        rw [if_pos qb_f, c2, c3, qh_mask (fun k hk => by have := hm k hk; omega), qh_add]
        by_cases z : qle (fun k => qf (ru i 1) k + (if 0 < qf (ru i 1) k then mt k else 0)) rest
        · rw [q_holds_t hr z, Option.bind_some, if_neg (by decide), qleb_iff.mpr z]; rfl
        · have z' : qleb (fun k => qf (ru i 1) k + (if 0 < qf (ru i 1) k then mt k else 0)) rest = false := Bool.eq_false_iff.mpr fun w => z (qleb_iff.mp w)
          rw [q_holds_f hr (fun k hk => by
            have := hm k hk
            have := qf_lt (ru i 1) k
            show qf (ru i 1) k + (if 0 < qf (ru i 1) k then mt k else 0) ≤ 2048
            split <;> omega) z, Option.bind_some, if_pos rfl, ih (j + 1) n ed (by omega) (by omega), z']; rfl
    rw [O_canBecomeMaximal_92, if_neg (nI_ge hj (by omega)), nI_clamp (by omega), if_neg (q_in (by omega) (by omega)), gj]
    show (if 6 ≤ i then none else _) = _
    rw [if_neg (by omega), c8, c9, q_once, Option.bind_some, q_act hu hi]
    unfold O_canBecomeMaximal_120
    have e0 := e121 false
    have e1 := e121 true
    rw [show qb false = 0 from rfl] at e0
    rw [show qb true = 1 from rfl] at e1
    rw [e0, e1, List.all_cons]
    unfold qstop
    by_cases x : 0 < ru i 6
    · rw [decide_eq_true x, if_neg qb_t]
      cases b with
      | true => rw [if_neg qb_t]; rfl
      | false => rw [if_pos qb_f]; rfl
    · rw [decide_eq_false x, if_pos qb_f]; rfl
def qpot (ru : Nat → Nat → Nat) (l : List Nat) (rest : Nat → Nat) (s : Bool) (k : Nat) : Nat := qsum (fun j => qT ru rest s j * qf (ru j 1) k) l
def qmay (ru : Nat → Nat → Nat) (l : List Nat) (rest : Nat → Nat) (s : Bool) : Bool := l.any fun j => decide (0 < qT ru rest s j) && decide (0 < ru j 6)
theorem q_cbm10 {cnt : Nat} {ru : Nat → Nat → Nat} {ul : Nat → Int32} {ue uk uh uo ui : Nat → Int64} {ut ud uv : Nat → Int32} {ux : Nat → Int64} (hu : UL cnt ru) (hc : UC cnt ru ul ue uk uh uo ui ut ud uv ux) {ol : List Nat} {g : Nat → Option Nat} (hg : ∀ j, j < ol.length → g j = ol[j]?) (h6 : ol.length ≤ 6) (ho : ∀ i, i ∈ ol → i < cnt) {rest : Nat → Nat} {s : Bool} {p : Nat} (hp : p ≤ ol.length) (hr : ∀ k, k < 5 → rest k ≤ 12) : ∀ (l : List Nat) (j n : Nat) (mt : Nat → Nat) (b : Bool), ol.drop j = l → j + l.length = ol.length → l.length + 22 ≤ n → (∀ k, k < 5 → mt k + 12 * l.length ≤ 1000) → O_canBecomeMaximal_10 (nI p) (qh rest) (qb s) (nI ol.length) g ue uk ud uv n (qh mt) (qb b) (nI j) = some (qb ((ol.take p).all (qstop ru rest (fun k => mt k + qpot ru l rest s k) (b || qmay ru l rest s)))) := by
  have hr2 : ∀ k, k < 5 → rest k < 2048 := fun k hk => by have := hr k hk; omega
  intro l
  induction l with
  | nil =>
    intro j n mt b e el hn hm
    obtain ⟨n, rfl⟩ : ∃ m, n = m + 1 := ⟨n - 1, by omega⟩
    have : j = ol.length := el
    subst this
    rw [O_canBecomeMaximal_10, if_pos (nI_le (Nat.le_refl _) (by omega))]
    have w := q_cbm92 hu hc hg h6 ho (b := b) hp hr2 (fun k hk => by have := hm k hk; omega) (ol.take p) 0 n rfl (by rw [List.length_take]; omega) (by rw [List.length_take]; omega)
    have eb : (b || qmay ru [] rest s) = b := by unfold qmay; simp
    rw [eb]
    exact w
  | cons i l ih =>
    intro j n mt b e el hn hm
    obtain ⟨n, rfl⟩ : ∃ m, n = m + 1 := ⟨n - 1, by omega⟩
    rw [List.length_cons] at el hn hm
    have hj : j < ol.length := by omega
    obtain ⟨gj, im, ed⟩ := q_get hg hj e
    have hi : i < cnt := ho i im
    have i6 : i < 6 := by have := hu.1; omega
    obtain ⟨c1, c2, c3, c4, c5, c6, c7, c8, c9, c10⟩ := hc i hi
    have tl := qT_le (ru := ru) (rest := rest) (s := s) (i := i)
    have em : R_mostUses n (qh rest) (qb s) (ue i) (ud i) (uv i) = some (nI (qT ru rest s i)) := by
      rw [c2, c8, c9, q_most hr2 (fun k _ => qf_lt _ k) s _ _ (by omega), q_act hu hi]; rfl
    have et : qh mt + (nI (qT ru rest s i)).toInt64 * ue i = qh fun k => mt k + qT ru rest s i * qf (ru i 1) k := by
      rw [c2, nI_l (by omega), qh_mul, qh_add]
    have fit := qT_fits (ru := ru) (rest := rest) (s := s) (i := i) (Nat.le_refl _)
    have ihh : ∀ b' : Bool, O_canBecomeMaximal_10 (nI p) (qh rest) (qb s) (nI ol.length) g ue uk ud uv n (qh fun k => mt k + qT ru rest s i * qf (ru i 1) k) (qb b') (nI (j + 1)) = some (qb ((ol.take p).all (qstop ru rest (fun k => mt k + qpot ru (i :: l) rest s k) (b' || qmay ru l rest s)))) := by
      intro b'
      rw [ih (j + 1) n _ b' ed (by omega) (by omega) (fun k hk => by have := hm k hk; have := fit k hk; have := hr k hk; omega)]
      have : (fun k => mt k + qT ru rest s i * qf (ru i 1) k + qpot ru l rest s k) = fun k => mt k + qpot ru (i :: l) rest s k := by
        funext k
        unfold qpot
        rw [Nat.add_assoc]; rfl
      rw [this]
    rw [O_canBecomeMaximal_10, if_neg (nI_ge hj (by omega)), nI_clamp (by omega), if_neg (q_in (by omega) (by omega)), gj]
    show (if 6 ≤ i then none else _) = _
    rw [if_neg (by omega), em, Option.bind_some, if_neg (q_in (by omega) (by omega)), et, nI_1]
    have t1 : qb true = 1 := rfl
    have t0 : qb false = 0 := rfl
    have em2 : qmay ru (i :: l) rest s = ((decide (0 < qT ru rest s i) && decide (0 < ru i 6)) || qmay ru l rest s) := rfl
    rw [em2]
    cases b with
    | true =>
      rw [if_neg qb_t, ← t1, ihh true]; rfl
    | false =>
      rw [if_pos qb_f]
      by_cases z : qT ru rest s i = 0
      · rw [if_pos (show nI (qT ru rest s i) ≤ 0 by rw [z]; decide), ← t0, ihh false, decide_eq_false (show ¬ 0 < qT ru rest s i by omega)]; rfl
      · rw [if_neg (nI_nle (by omega) (by omega)), if_neg (q_in (by omega) (by omega)), c8, c9, q_once, Option.bind_some, q_act hu hi, decide_eq_true (show 0 < qT ru rest s i by omega)]
        by_cases x : 0 < ru i 6
        · rw [decide_eq_true x, if_neg qb_t, ← t1, ihh true]; rfl
        · rw [decide_eq_false x, if_pos qb_f, ← t0, ihh false]; rfl
def qcbm (ru : Nat → Nat → Nat) (ol : List Nat) (p : Nat) (rest : Nat → Nat) (s : Bool) : Bool := (ol.take p).all (qstop ru rest (qpot ru (ol.drop p) rest s) (s || qmay ru (ol.drop p) rest s))
theorem q_cbm {cnt : Nat} {ru : Nat → Nat → Nat} {ul : Nat → Int32} {ue uk uh uo ui : Nat → Int64} {ut ud uv : Nat → Int32} {ux : Nat → Int64} (hu : UL cnt ru) (hc : UC cnt ru ul ue uk uh uo ui ut ud uv ux) {ol : List Nat} {g : Nat → Option Nat} (hg : ∀ j, j < ol.length → g j = ol[j]?) (h6 : ol.length ≤ 6) (ho : ∀ i, i ∈ ol → i < cnt) {rest : Nat → Nat} {s : Bool} {p : Nat} (hp : p ≤ ol.length) (hr : ∀ k, k < 5 → rest k ≤ 12) {n : Nat} (hn : 30 ≤ n) : O_canBecomeMaximal n (nI p) (qh rest) (qb s) (nI ol.length) g ue uk ud uv = some (qb (qcbm ru ol p rest s)) := by
  have w := q_cbm10 hu hc hg h6 ho (s := s) hp hr (ol.drop p) p n (fun _ => 0) s rfl (by rw [List.length_drop]; omega) (by rw [List.length_drop]; omega) (fun k hk => by rw [List.length_drop]; omega)
  have e : (fun k => 0 + qpot ru (ol.drop p) rest s k) = qpot ru (ol.drop p) rest s := funext fun k => Nat.zero_add _
  rw [e] at w
  exact w
theorem q_cbm_f {ru : Nat → Nat → Nat} {ol : List Nat} {p : Nat} {rest : Nat → Nat} {s : Bool} (h : qcbm ru ol p rest s = false) (u : Nat → Nat) : qen ru ol (ol.drop p) rest s u = [] := by
  unfold qcbm at h
  rw [List.all_eq_false] at h
  obtain ⟨i, hi, hs⟩ := h
  have hs := Bool.eq_false_iff.mpr hs
  unfold qstop at hs
  rw [Bool.or_eq_false_iff] at hs
  obtain ⟨h1, h2⟩ := hs
  rw [Bool.not_eq_false'] at h2
  have h3 := qleb_iff.mp h2
  refine q_prune (List.mem_of_mem_take hi) _ _ _ _ (fun k hk z => ?_) (fun x => ?_)
  · left
    have w : qf (ru i 1) k + (if 0 < qf (ru i 1) k then qpot ru (ol.drop p) rest s k else 0) ≤ rest k := h3 k hk
    rw [if_pos z] at w
    exact w
  · rw [decide_eq_true x, Bool.true_and, Bool.or_eq_false_iff] at h1
    refine ⟨h1.1, fun q hq hT y => ?_⟩
    have w := h1.2
    unfold qmay at w
    rw [List.any_eq_false] at w
    apply w q hq
    rw [decide_eq_true hT, decide_eq_true y]; rfl
theorem q_cbm_all {ru : Nat → Nat → Nat} {ol : List Nat} {p : Nat} {rest : Nat → Nat} {s : Bool} (hp : ol.length ≤ p) : qcbm ru ol p rest s = qmax ru ol rest s := by
  unfold qcbm qmax
  rw [List.take_of_length_le hp, List.drop_of_length_le hp]
  congr 1
  funext i
  unfold qstop qmay qpot
  rw [List.any_nil, Bool.or_false]
  have e : (fun k => qf (ru i 1) k + (if 0 < qf (ru i 1) k then qsum (fun j => qT ru rest s j * qf (ru j 1) k) [] else 0)) = qf (ru i 1) := by
    funext k
    unfold qsum
    rw [ite_self, Nat.add_zero]
  rw [e]
  have w := qT_pos (ru := ru) (rest := rest) (s := s) (i := i)
  by_cases z : qT ru rest s i = 0
  · rw [decide_eq_true z]
    by_cases y : qle (qf (ru i 1)) rest
    · have v : ¬ (0 < ru i 6 → s = false) := fun v => absurd (w.mpr ⟨y, v⟩) (by omega)
      have x : 0 < ru i 6 := Classical.byContradiction fun x => v fun q => absurd q x
      have s1 : s = true := by
        cases s with
        | true => rfl
        | false => exact absurd (fun _ => rfl) v
      rw [decide_eq_true x, s1]; rfl
    · rw [show qleb (qf (ru i 1)) rest = false from Bool.eq_false_iff.mpr fun q => y (qleb_iff.mp q)]; simp
  · rw [decide_eq_false z]
    have v := w.mp (by omega)
    rw [qleb_iff.mpr v.1]
    by_cases x : 0 < ru i 6
    · rw [v.2 x]; simp
    · rw [decide_eq_false x]; rfl

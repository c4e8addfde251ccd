theorem qT_after {ru : Nat → Nat → Nat} {rest : Nat → Nat} {s : Bool} {i : Nat} (hr : ∀ k, k < 5 → rest k ≤ 12) (h1 : 0 < ru i 1) (h2 : ru i 1 < 1024) : qT ru (qR ru rest (qT ru rest s i) i) (qS ru s (qT ru rest s i) i) i = 0 := by
  apply Classical.byContradiction
  intro c
  obtain ⟨p1, p2⟩ := qT_pos.mp (Nat.pos_of_ne_zero c)
  have fit := qT_fits (Nat.le_refl (qT ru rest s i))
  have cap : qT ru rest s i + 1 ≤ qcap (decide (0 < ru i 6)) s := by
    by_cases x : 0 < ru i 6
    · have w := p2 x
      unfold qS at w
      rw [decide_eq_true x] at w ⊢
      cases s with
      | true => cases w
      | false =>
        by_cases z : 0 < qT ru rest false i
        · rw [decide_eq_true z] at w; cases w
        · have : qT ru rest false i = 0 := by omega
          rw [this]; decide
    · rw [decide_eq_false x]
      obtain ⟨k, hk, hp⟩ := qf_pos h1 h2
      have a := fit k hk
      have b := p1 k hk
      unfold qR at b
      have r := hr k hk
      have e : (qT ru rest s i + 1) * qf (ru i 1) k = qT ru rest s i * qf (ru i 1) k + qf (ru i 1) k := Nat.succ_mul _ _
      have l : qT ru rest s i + 1 ≤ (qT ru rest s i + 1) * qf (ru i 1) k := Nat.le_mul_of_pos_right _ hp
      show qT ru rest s i + 1 ≤ 12
      omega
  have big : qT ru rest s i + 1 ≤ qT ru rest s i := qt_iff.mpr ⟨cap, fun k hk => by
    have a := fit k hk
    have b := p1 k hk
    unfold qR at b
    have e : (qT ru rest s i + 1) * qf (ru i 1) k = qT ru rest s i * qf (ru i 1) k + qf (ru i 1) k := Nat.succ_mul _ _
    show (qT ru rest s i + 1) * qf (ru i 1) k ≤ rest k
    omega⟩
  omega
theorem qdn_ne {α : Type} {f : Nat → List α} (T : Nat) (h : ¬ f T = []) : ¬ qdn f T = [] := by
  cases T with
  | zero => exact h
  | succ T =>
    unfold qdn
    intro z
    exact h (List.append_eq_nil_iff.mp z).1
theorem qen_ne {ru : Nat → Nat → Nat} {ol : List Nat} : ∀ (l : List Nat) (rest : Nat → Nat) (s : Bool) (u : Nat → Nat), (∀ i, i ∈ l → 0 < ru i 1 ∧ ru i 1 < 1024) → (∀ k, k < 5 → rest k ≤ 12) → (∀ i, i ∈ ol → i ∉ l → qT ru rest s i = 0) → ¬ qen ru ol l rest s u = [] := by
  intro l
  induction l with
  | nil =>
    intro rest s u _ _ h
    unfold qen
    rw [if_pos (qmax_iff.mpr fun i hi => h i hi List.not_mem_nil)]
    intro z; cases z
  | cons i l ih =>
    intro rest s u hl hr h
    have qe : qen ru ol (i :: l) rest s u = qdn (fun t => qen ru ol l (qR ru rest t i) (qS ru s t i) (eUp u i t)) (qT ru rest s i) := rfl
    rw [qe]
    refine qdn_ne _ (ih _ _ _ (fun j hj => hl j (List.mem_cons_of_mem _ hj)) (fun k hk => Nat.le_trans qR_le (hr k hk)) (fun j hj hn => ?_))
    by_cases ji : j = i
    · subst ji
      obtain ⟨h1, h2⟩ := hl j (List.mem_cons_self ..)
      exact qT_after hr h1 h2
    · have z := h j hj (fun w => by
        cases w with
        | head => exact ji rfl
        | tail _ w => exact hn w)
      have m := qT_mono (ru := ru) (i := j) (rest := rest) (rest' := qR ru rest (qT ru rest s i) i) (s := s) (s' := qS ru s (qT ru rest s i) i) (fun k _ => qR_le) qS_mono
      omega
theorem qch_ne {lab : Nat → Int32} {par : Nat → Nat} {am : Nat → Nat → Nat} {cnt : Nat} {ru : Nat → Nat → Nat} {m : Nat} (hu : UL cnt ru) (h12 : ∀ k, k < 5 → am m k ≤ 12) : 1 ≤ (qch lab par am cnt ru m).length := by
  refine List.length_pos_iff.mpr (qen_ne _ _ _ _ (fun i hi => ?_) h12 (fun i hi hn => absurd hi hn))
  have := (qol_mem _ _ _ hi).2.1
  obtain ⟨_, b1, b2, _⟩ := hu.2 i (by omega)
  exact ⟨b1, b2⟩
theorem qol_nil {p : Nat → Bool} : ∀ (d c : Nat), (∀ i, c ≤ i → i < c + d → p i = false) → qol p c d = [] := by
  intro d
  induction d with
  | zero => intro c _; rfl
  | succ d ih =>
    intro c h
    unfold qol
    rw [h c (Nat.le_refl _) (by omega), if_neg (by decide)]
    exact ih (c + 1) (fun i h1 h2 => h i (by omega) (by omega))
theorem qch_abs {lab : Nat → Int32} {par : Nat → Nat} {am : Nat → Nat → Nat} {cnt : Nat} {ru : Nat → Nat → Nat} {m : Nat} (hu : UL cnt ru) (ha : lab m = -1) : qch lab par am cnt ru m = [fun _ => 0] := by
  have e : qol (qopl lab par ru m) 0 cnt = [] := qol_nil _ _ fun i _ h2 => by
    unfold qopl
    have b := (hu.2 i (by omega)).1
    rw [decide_eq_false (fun z => q_m1' (by omega) (z.trans ha)), Bool.false_and]
  unfold qch
  rw [e]
  rfl
def qpr (ln : Nat → Nat) : Nat → Nat
  | 0 => 1
  | m + 1 => qpr ln m * ln m
def qsu (ln : Nat → Nat) : Nat → Nat
  | 0 => 0
  | m + 1 => qsu ln m + ln m
theorem q_abone {a b : Nat} (ha : 1 ≤ a) (hb : 1 ≤ b) : a + b ≤ a * b + 1 := by
  obtain ⟨x, rfl⟩ : ∃ x, a = x + 1 := ⟨a - 1, by omega⟩
  obtain ⟨y, rfl⟩ : ∃ y, b = y + 1 := ⟨b - 1, by omega⟩
  have e : (x + 1) * (y + 1) = x * y + x + y + 1 := by rw [Nat.succ_mul, Nat.mul_succ]; omega
  rw [e]
  omega
theorem qpr_pos {ln : Nat → Nat} (h : ∀ j, j < 6 → 1 ≤ ln j) : ∀ m, m ≤ 6 → 1 ≤ qpr ln m := by
  intro m
  induction m with
  | zero => intro _; exact Nat.le_refl _
  | succ m ih => intro hm; exact Nat.mul_pos (ih (by omega)) (h m (by omega))
theorem qsu_le {ln : Nat → Nat} (h : ∀ j, j < 6 → 1 ≤ ln j) : ∀ m, m ≤ 6 → qsu ln m + 1 ≤ qpr ln m + m := by
  intro m
  induction m with
  | zero => intro _; exact Nat.le_refl _
  | succ m ih =>
    intro hm
    have a := ih (by omega)
    have b := q_abone (qpr_pos h m (by omega)) (h m (by omega))
    show qsu ln m + ln m + 1 ≤ qpr ln m * ln m + (m + 1)
    omega
theorem qpr_mono {ln : Nat → Nat} (h : ∀ j, j < 6 → 1 ≤ ln j) : ∀ d m, m + d ≤ 6 → qpr ln m ≤ qpr ln (m + d) := by
  intro d
  induction d with
  | zero => intro m _; exact Nat.le_refl _
  | succ d ih =>
    intro m hm
    refine Nat.le_trans (ih m (by omega)) ?_
    show qpr ln (m + d) ≤ qpr ln (m + d) * ln (m + d)
    exact Nat.le_mul_of_pos_right _ (h (m + d) (by omega))
theorem qsu_mono {ln : Nat → Nat} : ∀ d m, qsu ln m ≤ qsu ln (m + d) := by
  intro d
  induction d with
  | zero => intro m; exact Nat.le_refl _
  | succ d ih =>
    intro m
    refine Nat.le_trans (ih m) ?_
    show qsu ln (m + d) ≤ qsu ln (m + d) + ln (m + d)
    exact Nat.le_add_right _ _
def qvl (ln dg : Nat → Nat) : Nat → Nat
  | 0 => 0
  | m + 1 => qvl ln dg m * ln m + dg m
def qinc (ln : Nat → Nat) : Nat → (Nat → Nat) → (Nat → Nat) × Bool
  | 0, dg => (dg, true)
  | m + 1, dg => if dg m + 1 = ln m then qinc ln m (eUp dg m 0) else (eUp dg m (dg m + 1), false)
theorem qvl_congr {ln dg dg' : Nat → Nat} : ∀ m, (∀ j, j < m → dg j = dg' j) → qvl ln dg m = qvl ln dg' m := by
  intro m
  induction m with
  | zero => intro _; rfl
  | succ m ih =>
    intro h
    show qvl ln dg m * ln m + dg m = qvl ln dg' m * ln m + dg' m
    rw [ih fun j hj => h j (by omega), h m (by omega)]
theorem qvl_lt {ln dg : Nat → Nat} : ∀ m, (∀ j, j < m → dg j < ln j) → qvl ln dg m < qpr ln m := by
  intro m
  induction m with
  | zero => intro _; exact Nat.one_pos
  | succ m ih =>
    intro h
    have a := ih fun j hj => h j (by omega)
    have b := h m (by omega)
    show qvl ln dg m * ln m + dg m < qpr ln m * ln m
    have c : (qvl ln dg m + 1) * ln m ≤ qpr ln m * ln m := Nat.mul_le_mul_right _ a
    rw [Nat.succ_mul] at c
    omega
theorem qinc_spec {ln : Nat → Nat} : ∀ (m : Nat) (dg : Nat → Nat), (∀ j, j < m → dg j < ln j) → ((qinc ln m dg).2 = false → qvl ln (qinc ln m dg).1 m = qvl ln dg m + 1) ∧ ((qinc ln m dg).2 = true → qvl ln dg m + 1 = qpr ln m) ∧ (∀ j, j < m → (qinc ln m dg).1 j < ln j) ∧ ∀ j, m ≤ j → (qinc ln m dg).1 j = dg j := by
  intro m
  induction m with
  | zero => intro dg _; exact ⟨fun h => (by cases h), fun _ => rfl, fun j hj => absurd hj (by omega), fun _ _ => rfl⟩
  | succ m ih =>
    intro dg h
    have hm := h m (by omega)
    have qe : qinc ln (m + 1) dg = if dg m + 1 = ln m then qinc ln m (eUp dg m 0) else (eUp dg m (dg m + 1), false) := rfl
    rw [qe]
    by_cases c : dg m + 1 = ln m
    · rw [if_pos c]
      obtain ⟨r1, r2, r3, r4⟩ := ih (eUp dg m 0) (fun j hj => by rw [q_un (by omega)]; exact h j (by omega))
      have cg : qvl ln (eUp dg m 0) m = qvl ln dg m := qvl_congr m fun j hj => q_un (by omega)
      have vm : (qinc ln m (eUp dg m 0)).1 m = 0 := by rw [r4 m (Nat.le_refl _), q_up]
      refine ⟨fun z => ?_, fun z => ?_, fun j hj => ?_, fun j hj => ?_⟩
      · show qvl ln (qinc ln m (eUp dg m 0)).1 m * ln m + (qinc ln m (eUp dg m 0)).1 m = qvl ln dg m * ln m + dg m + 1
        rw [r1 z, cg, vm, Nat.succ_mul]
        omega
      · have w := r2 z
        rw [cg] at w
        show qvl ln dg m * ln m + dg m + 1 = qpr ln m * ln m
        rw [← w, Nat.succ_mul]
        omega
      · by_cases jm : j = m
        · subst jm; rw [vm]; omega
        · exact r3 j (by omega)
      · rw [r4 j (by omega), q_un (by omega)]
    · rw [if_neg c]
      refine ⟨fun _ => ?_, fun z => (by cases z), fun j hj => ?_, fun j hj => ?_⟩
      · show qvl ln (eUp dg m (dg m + 1)) m * ln m + eUp dg m (dg m + 1) m = qvl ln dg m * ln m + dg m + 1
        have e := qvl_congr (ln := ln) (dg := eUp dg m (dg m + 1)) (dg' := dg) m (fun j hj => q_un (by omega))
        rw [q_up, e]
        omega
      · show eUp dg m (dg m + 1) j < ln j
        by_cases jm : j = m
        · subst jm; rw [q_up]; omega
        · rw [q_un jm]; exact h j (by omega)
      · show eUp dg m (dg m + 1) j = dg j
        rw [q_un (by omega)]
def qL (st : qC) (cnt : Nat) (ru : Nat → Nat → Nat) (m : Nat) : List (Nat → Nat) := qch st.1 st.2.1 st.2.2 cnt ru m
def qln (st : qC) (cnt : Nat) (ru : Nat → Nat → Nat) (m : Nat) : Nat := (qL st cnt ru m).length
def qus (st : qC) (cnt : Nat) (ru : Nat → Nat → Nat) (dg : Nat → Nat) (m : Nat) : Nat → Nat := (qL st cnt ru m).getD (dg m) fun _ => 0
theorem qln_pos {st : qC} {cnt : Nat} {ru : Nat → Nat → Nat} (hu : UL cnt ru) (hk : qok st.2.2) : ∀ j, j < 6 → 1 ≤ qln st cnt ru j := fun j hj => qch_ne hu (hk.1 j hj)
theorem qus_get {st : qC} {cnt : Nat} {ru : Nat → Nat → Nat} {dg : Nat → Nat} {m : Nat} (h : dg m < qln st cnt ru m) : (qL st cnt ru m)[dg m]? = some (qus st cnt ru dg m) := by
  unfold qus
  rw [List.getD_eq_getElem?_getD, List.getElem?_eq_getElem h]
  rfl
theorem qus_chosen {st : qC} {cnt : Nat} {ru : Nat → Nat → Nat} {dg : Nat → Nat} (h : ∀ j, j < 6 → dg j < qln st cnt ru j) : qcs st cnt ru (qus st cnt ru dg) := fun m hm => qch_chosen (List.mem_of_getElem? (qus_get (h m hm)))
def qtab (ln : Nat → Nat) (L : Nat → List (Nat → Nat)) (row starts : Nat → Int32) (m : Nat) : Prop :=
  ∀ j, j < m → starts j = nI (qsu ln j) ∧ starts (j + 1) = nI (qsu ln (j + 1)) ∧ ∀ t v, (L j)[t]? = some v → row (qsu ln j + t) = nI (c4p v)
theorem q_countAll {st : qC} {cl cp : Nat → Int32} {ch : Nat → Int64} (hI : KI st) (h : KC st.1 st.2.1 st.2.2 cl cp ch) {cnt : Nat} {ru : Nat → Nat → Nat} {ul : Nat → Int32} {ue uk uh uo ui : Nat → Int64} {ut ud uv : Nat → Int32} {ux : Nat → Int64} (hu : UL cnt ru) (hc : UC cnt ru ul ue uk uh uo ui ut ud uv ux) : ∀ (d m n : Nat) (op s : Int32) (g : Nat → Option Nat) (row starts places : Nat → Int32), m + d = 6 → d + 120 ≤ n → qpr (qln st cnt ru) m ≤ 1000 → qtab (qln st cnt ru) (qL st cnt ru) row starts m → (∀ j, j < m → places j = nI (qsu (qln st cnt ru) j)) → ∃ res, O_countAll_10 ul ue uk ui ut ud uv (nI cnt) cl cp ch n (nI (qpr (qln st cnt ru) m)) (nI m) op s (nI (qsu (qln st cnt ru) m)) g row starts places = some res ∧ (qpr (qln st cnt ru) 6 ≤ 1000 → res.1 = nI (qpr (qln st cnt ru) 6) ∧ qtab (qln st cnt ru) (qL st cnt ru) res.2.2.2.2.2.1 res.2.2.2.2.2.2.1 6 ∧ ∀ j, j < 6 → res.2.2.2.2.2.2.2 j = nI (qsu (qln st cnt ru) j)) ∧ (¬ qpr (qln st cnt ru) 6 ≤ 1000 → res.1 = 1001) := by
  obtain ⟨hl, ht, hk, ha⟩ := hI
  have lp := qln_pos (st := st) hu hk
  intro d
  induction d with
  | zero =>
    intro m n op s g row starts places e hn hP hT hp
    obtain ⟨n, rfl⟩ : ∃ m, n = m + 1 := ⟨n - 1, by omega⟩
    have : m = 6 := by omega
    subst this
    have nl : ¬ (1001 : Int32) < nI (qpr (qln st cnt ru) 6) := fun z => absurd ((nI_ltI (a := 1001) (by decide) (by omega)).mp z) (by omega)
    refine ⟨_, by rw [O_countAll_10, if_pos q_y6, if_neg nl], fun _ => ⟨rfl, hT, hp⟩, fun z => absurd hP z⟩
  | succ d ih =>
    intro m n op s g row starts places e hn hP hT hp
    obtain ⟨n, rfl⟩ : ∃ m, n = m + 1 := ⟨n - 1, by omega⟩
    have hm : m < 6 := by omega
    have sl := qsu_le lp m (by omega)
    have pp := qpr_pos lp m (by omega)
    have nl : ¬ (1000 : Int32) < nI (qpr (qln st cnt ru) m) := fun z => absurd ((nI_ltI (a := 1000) (by decide) (by omega)).mp z) (by omega)
    obtain ⟨g1, o1, f1⟩ := q_list hl h hu hc hm (hk.1 m hm) g row (en := qsu (qln st cnt ru) m) (by omega) (n := n) (by omega)
    have f1' : O_list n (nI m) (nI (qsu (qln st cnt ru) m)) g row ul ue uk ui ut ud uv (nI cnt) cl cp ch = some (o1, nI (qsu (qln st cnt ru) m), nI (qsu (qln st cnt ru) m + ((qL st cnt ru m).take 1001).length), g1, qput c4p row (qsu (qln st cnt ru) m) ((qL st cnt ru m).take 1001)) := f1
    have l1 : ((qL st cnt ru m).take 1001).length ≤ 1001 := by rw [List.length_take]; exact Nat.min_le_left _ _
    have sb : nI (qsu (qln st cnt ru) m + ((qL st cnt ru m).take 1001).length) - nI (qsu (qln st cnt ru) m) = nI ((qL st cnt ru m).take 1001).length := by
      rw [pk_sub (Nat.le_add_right _ _), Nat.add_sub_cancel_left]
    have st0 : O_countAll_10 ul ue uk ui ut ud uv (nI cnt) cl cp ch (n + 1) (nI (qpr (qln st cnt ru) m)) (nI m) op s (nI (qsu (qln st cnt ru) m)) g row starts places = O_countAll_10 ul ue uk ui ut ud uv (nI cnt) cl cp ch n (nI (qpr (qln st cnt ru) m * ((qL st cnt ru m).take 1001).length)) (nI (m + 1)) o1 (nI (qsu (qln st cnt ru) m)) (nI (qsu (qln st cnt ru) m + ((qL st cnt ru m).take 1001).length)) g1 (qput c4p row (qsu (qln st cnt ru) m) ((qL st cnt ru m).take 1001)) (eUp (eUp starts m (nI (qsu (qln st cnt ru) m))) (m + 1) (nI (qsu (qln st cnt ru) m + ((qL st cnt ru m).take 1001).length))) (eUp places m (nI (qsu (qln st cnt ru) m))) := by
      rw [O_countAll_10, if_neg (q_n6 hm), if_neg nl, f1', Option.bind_some, nI_1, nI_clamp (by omega), nI_clamp (by omega), if_neg (q_in (by omega) (by omega)), if_neg (q_in (by omega) (by omega)), if_neg (q_in (by omega) (by omega)), sb, pk_mul]
    rw [st0]
    by_cases x : qpr (qln st cnt ru) (m + 1) ≤ 1000
    · have x' : qpr (qln st cnt ru) m * (qL st cnt ru m).length ≤ 1000 := x
      have lb : (qL st cnt ru m).length ≤ qpr (qln st cnt ru) m * (qL st cnt ru m).length := Nat.le_mul_of_pos_left _ pp
      have tk : (qL st cnt ru m).take 1001 = qL st cnt ru m := List.take_of_length_le (by omega)
      rw [tk]
      have qsl : ∀ j, j < m → qsu (qln st cnt ru) (j + 1) ≤ qsu (qln st cnt ru) m := fun j hj => by
        have := qsu_mono (ln := qln st cnt ru) (m - (j + 1)) (j + 1)
        rw [show j + 1 + (m - (j + 1)) = m by omega] at this
        exact this
      exact ih (m + 1) n o1 _ g1 _ _ _ (by omega) (by omega) x (fun j hj => by
        by_cases jm : j = m
        · subst jm
          refine ⟨by rw [q_un (by omega), q_up], by rw [q_up]; rfl, fun t v hv => qput_at _ _ _ _ _ hv⟩
        · obtain ⟨a1, a2, a3⟩ := hT j (by omega)
          refine ⟨by rw [q_un (by omega), q_un (by omega)]; exact a1, ?_, fun t v hv => ?_⟩
          · rw [q_un (by omega)]
            by_cases j1 : j + 1 = m
            · rw [j1, q_up]
            · rw [q_un j1]; exact a2
          · have tl : t < qln st cnt ru j := (List.getElem?_eq_some_iff.mp hv).1
            have b := qsl j (by omega)
            have b' : qsu (qln st cnt ru) j + qln st cnt ru j ≤ qsu (qln st cnt ru) m := b
            rw [qput_lo _ _ _ _ (by omega)]
            exact a3 t v hv) (fun j hj => by
        by_cases jm : j = m
        · subst jm; rw [q_up]
        · rw [q_un jm]; exact hp j (by omega))
    · have x' : ¬ qpr (qln st cnt ru) m * (qL st cnt ru m).length ≤ 1000 := x
      obtain ⟨n, rfl⟩ : ∃ m, n = m + 1 := ⟨n - 1, by omega⟩
      have big : 1000 < qpr (qln st cnt ru) m * ((qL st cnt ru m).take 1001).length := by
        by_cases y : (qL st cnt ru m).length ≤ 1001
        · rw [List.take_of_length_le y]; omega
        · rw [List.length_take, Nat.min_eq_left (by omega)]
          have : 1001 ≤ qpr (qln st cnt ru) m * 1001 := Nat.le_mul_of_pos_left _ pp
          omega
      have bb : qpr (qln st cnt ru) m * ((qL st cnt ru m).take 1001).length ≤ 1000 * 1001 := Nat.mul_le_mul hP l1
      have n6 : ¬ qpr (qln st cnt ru) 6 ≤ 1000 := fun z => by
        have := qpr_mono lp d (m + 1) (by omega)
        rw [show m + 1 + d = 6 by omega] at this
        exact x (Nat.le_trans this z)
      generalize qpr (qln st cnt ru) m * ((qL st cnt ru m).take 1001).length = V at big bb
      have g0 : (1000 : Int32) < nI V := (nI_ltI (a := 1000) (by decide) (by omega)).mpr big
      have mn : (if (1001 : Int32) < nI V then (1001 : Int32) else nI V) = 1001 := by
        by_cases y : V = 1001
        · rw [y]; decide
        · exact if_pos ((nI_ltI (a := 1001) (by decide) (by omega)).mpr (by omega))
      by_cases y6 : m + 1 = 6
      · refine ⟨_, by rw [O_countAll_10, y6, if_pos q_y6, mn], fun z => absurd z n6, fun _ => rfl⟩
      · refine ⟨_, by rw [O_countAll_10, if_neg (q_n6 (show m + 1 < 6 by omega)), if_pos g0, mn], fun z => absurd z n6, fun _ => rfl⟩
theorem nI_dn (k : Nat) : nI (k + 1) + (-1 : Int32) = nI k := by
  rw [← nI_1, Int32.add_assoc]
  have : (1 : Int32) + (-1 : Int32) = 0 := by decide
  rw [this, Int32.add_zero]
theorem q_takeNext0 {ln : Nat → Nat} {L : Nat → List (Nat → Nat)} {row starts : Nat → Int32} (hT : qtab ln L row starts 6) (hs : qsu ln 6 ≤ 2000) {dg : Nat → Nat} (hd : ∀ j, j < 6 → dg j < ln j) (hL : ∀ j, j < 6 → ln j = (L j).length) : ∀ (m n : Nat) (pl qa : Nat → Int32), m ≤ 6 → m + 1 ≤ n → (∀ j, j < m → pl j = nI (qsu ln j + dg j)) → ∃ qa', O_takeNext_4 row starts n 0 (nI m + (-1 : Int32)) pl qa = some (pl, qa') ∧ (∀ j, j < m → ∀ v, (L j)[dg j]? = some v → qa' j = nI (c4p v)) ∧ ∀ j, m ≤ j → qa' j = qa j := by
  intro m
  induction m with
  | zero =>
    intro n pl qa _ hn _
    obtain ⟨n, rfl⟩ : ∃ m, n = m + 1 := ⟨n - 1, by omega⟩
    exact ⟨qa, by rw [O_takeNext_4, if_pos (by decide)], fun j hj => absurd hj (by omega), fun _ _ => rfl⟩
  | succ m ih =>
    intro n pl qa hm hn hp
    obtain ⟨n, rfl⟩ : ∃ m, n = m + 1 := ⟨n - 1, by omega⟩
    have b : qsu ln (m + 1) ≤ qsu ln 6 := by
      have := qsu_mono (ln := ln) (6 - (m + 1)) (m + 1)
      rw [show m + 1 + (6 - (m + 1)) = 6 by omega] at this
      exact this
    have b' : qsu ln m + ln m ≤ qsu ln 6 := b
    have dm := hd m (by omega)
    have v0 : (L m)[dg m]? = some ((L m)[dg m]'(by rw [← hL m (by omega)]; exact dm)) := List.getElem?_eq_getElem _
    obtain ⟨qa', e1, e2, e3⟩ := ih n pl (eUp qa m (row (qsu ln m + dg m))) (by omega) (by omega) (fun j hj => hp j (by omega))
    refine ⟨qa', ?_, fun j hj v hv => ?_, fun j hj => ?_⟩
    · rw [nI_dn, O_takeNext_4, if_neg (nI_pos (by omega)), nI_clamp (by omega), if_neg (q_in (by omega) (by omega)), hp m (by omega), nI_clamp (by omega), if_neg (q_in (by omega) (by omega)), if_neg (q_in (by omega) (by omega)), if_pos rfl]
      exact e1
    · by_cases jm : j = m
      · subst jm
        rw [e3 j (Nat.le_refl _), q_up]
        exact (hT j (by omega)).2.2 _ _ hv
      · exact e2 j (by omega) v hv
    · rw [e3 j (by omega), q_un (by omega)]
theorem q_takeNext1 {ln : Nat → Nat} {L : Nat → List (Nat → Nat)} {row starts : Nat → Int32} (hT : qtab ln L row starts 6) (hs : qsu ln 6 ≤ 2000) (hL : ∀ j, j < 6 → ln j = (L j).length) : ∀ (m n : Nat) (dg : Nat → Nat) (pl qa : Nat → Int32), m ≤ 6 → m + 1 ≤ n → (∀ j, j < 6 → dg j < ln j) → (∀ j, j < m → pl j = nI (qsu ln j + dg j)) → ∃ pl' qa', O_takeNext_4 row starts n 1 (nI m + (-1 : Int32)) pl qa = some (pl', qa') ∧ (∀ j, j < m → pl' j = nI (qsu ln j + (qinc ln m dg).1 j)) ∧ (∀ j, j < m → ∀ v, (L j)[dg j]? = some v → qa' j = nI (c4p v)) ∧ ∀ j, m ≤ j → pl' j = pl j ∧ qa' j = qa j := by
  intro m
  induction m with
  | zero =>
    intro n dg pl qa _ hn _ _
    obtain ⟨n, rfl⟩ : ∃ m, n = m + 1 := ⟨n - 1, by omega⟩
    exact ⟨pl, qa, by rw [O_takeNext_4, if_pos (by decide)], fun j hj => absurd hj (by omega), fun j hj => absurd hj (by omega), fun _ _ => ⟨rfl, rfl⟩⟩
  | succ m ih =>
    intro n dg pl qa hm hn hd hp
    obtain ⟨n, rfl⟩ : ∃ m, n = m + 1 := ⟨n - 1, by omega⟩
    have b : qsu ln (m + 1) ≤ qsu ln 6 := by
      have := qsu_mono (ln := ln) (6 - (m + 1)) (m + 1)
      rw [show m + 1 + (6 - (m + 1)) = 6 by omega] at this
      exact this
    have b' : qsu ln m + ln m ≤ qsu ln 6 := b
    have dm := hd m (by omega)
    obtain ⟨t1, t2, t3⟩ := hT m (by omega)
    have t2' : starts (m + 1) = nI (qsu ln m + ln m) := t2
    have qe : qinc ln (m + 1) dg = if dg m + 1 = ln m then qinc ln m (eUp dg m 0) else (eUp dg m (dg m + 1), false) := rfl
    have head : O_takeNext_4 row starts (n + 1) 1 (nI (m + 1) + (-1 : Int32)) pl qa = if nI (qsu ln m + dg m + 1) = nI (qsu ln m + ln m) then O_takeNext_58 starts (O_takeNext_4 row starts n) n (nI m) 1 (eUp pl m (nI (qsu ln m + dg m + 1))) (eUp qa m (row (qsu ln m + dg m))) else O_takeNext_58 starts (O_takeNext_4 row starts n) n (nI m) 0 (eUp pl m (nI (qsu ln m + dg m + 1))) (eUp qa m (row (qsu ln m + dg m))) := by
      rw [nI_dn, O_takeNext_4, if_neg (nI_pos (by omega)), nI_clamp (by omega), if_neg (q_in (by omega) (by omega)), hp m (by omega), nI_clamp (by omega), if_neg (q_in (by omega) (by omega)), if_neg (q_in (by omega) (by omega)), if_neg (by decide), if_neg (q_in (by omega) (by omega)), if_neg (q_in (by omega) (by omega)), if_neg (q_in (by omega) (by omega)), nI_1, nI_clamp (by omega), if_neg (q_in (by omega) (by omega)), q_up, t2', nI_1]
    rw [head]
    by_cases c : dg m + 1 = ln m
    · rw [if_pos (by rw [show qsu ln m + dg m + 1 = qsu ln m + ln m by omega])]
      unfold O_takeNext_58
      rw [if_neg (by decide), nI_clamp (by omega), if_neg (q_in (by omega) (by omega)), if_neg (q_in (by omega) (by omega)), t1]
      obtain ⟨pl', qa', e1, e2, e3, e4⟩ := ih n (eUp dg m 0) (eUp (eUp pl m (nI (qsu ln m + dg m + 1))) m (nI (qsu ln m))) (eUp qa m (row (qsu ln m + dg m))) (by omega) (by omega) (fun j hj => by
        by_cases jm : j = m
        · subst jm; rw [q_up]; omega
        · rw [q_un jm]; exact hd j hj) (fun j hj => by rw [q_un (by omega), q_un (by omega), q_un (by omega)]; exact hp j (by omega))
      rw [qe, if_pos c]
      refine ⟨pl', qa', e1, fun j hj => ?_, fun j hj v hv => ?_, fun j hj => ?_⟩
      · by_cases jm : j = m
        · subst jm
          have i4 := (qinc_spec (ln := ln) j (eUp dg j 0) (fun i hi => by rw [q_un (by omega)]; exact hd i (by omega))).2.2.2 j (Nat.le_refl _)
          rw [(e4 j (Nat.le_refl _)).1, q_up, i4, q_up]
          rfl
        · exact e2 j (by omega)
      · by_cases jm : j = m
        · subst jm
          rw [(e4 j (Nat.le_refl _)).2, q_up]
          exact t3 _ _ hv
        · exact e3 j (by omega) v (by rw [q_un jm]; exact hv)
      · rw [(e4 j (by omega)).1, (e4 j (by omega)).2, q_un (by omega), q_un (by omega), q_un (by omega)]
        exact ⟨rfl, rfl⟩
    · rw [if_neg (fun z => c (by have := (nI_eq (by omega) (by omega)).mp z; omega))]
      unfold O_takeNext_58
      rw [if_pos rfl]
      obtain ⟨qa', e1, e2, e3⟩ := q_takeNext0 hT hs hd hL m n (eUp pl m (nI (qsu ln m + dg m + 1))) (eUp qa m (row (qsu ln m + dg m))) (by omega) (by omega) (fun j hj => by rw [q_un (by omega)]; exact hp j (by omega))
      rw [qe, if_neg c]
      refine ⟨_, qa', e1, fun j hj => ?_, fun j hj v hv => ?_, fun j hj => ?_⟩
      · show _ = nI (qsu ln j + eUp dg m (dg m + 1) j)
        by_cases jm : j = m
        · subst jm; rw [q_up, q_up]; rfl
        · rw [q_un jm, q_un jm]; exact hp j (by omega)
      · by_cases jm : j = m
        · subst jm
          rw [e3 j (Nat.le_refl _), q_up]
          exact t3 _ _ hv
        · exact e2 j (by omega) v hv
      · rw [q_un (by omega), e3 j (by omega), q_un (by omega)]
        exact ⟨rfl, rfl⟩

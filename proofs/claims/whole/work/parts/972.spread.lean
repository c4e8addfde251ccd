def qsv (lab : Nat → Int32) (ln : Nat → Nat) : Nat → Nat
  | 0 => 0
  | m + 1 => if lab m = -1 then qsv lab ln m else qsv lab ln m + ln m
theorem qsv_le {lab : Nat → Int32} {ln : Nat → Nat} : ∀ m, qsv lab ln m ≤ qsu ln m := by
  intro m
  induction m with
  | zero => exact Nat.le_refl _
  | succ m ih =>
    show (if lab m = -1 then qsv lab ln m else qsv lab ln m + ln m) ≤ qsu ln m + ln m
    split <;> omega
theorem qsv_mono {lab : Nat → Int32} {ln : Nat → Nat} : ∀ d m, qsv lab ln m ≤ qsv lab ln (m + d) := by
  intro d
  induction d with
  | zero => intro m; exact Nat.le_refl _
  | succ d ih =>
    intro m
    refine Nat.le_trans (ih m) ?_
    show qsv lab ln (m + d) ≤ if lab (m + d) = -1 then qsv lab ln (m + d) else qsv lab ln (m + d) + ln (m + d)
    split <;> omega
def qtM (lab : Nat → Int32) (ln : Nat → Nat) (L : Nat → List (Nat → Nat)) (li be mn : Nat → Int32) (m : Nat) : Prop :=
  ∀ j, j < m → mn j = nI (ln j) ∧ (¬ lab j = -1 → be j = nI (qsv lab ln j) ∧ ∀ t v, (L j)[t]? = some v → li (qsv lab ln j + t) = nI (c5p v))
theorem q_P1001 {P : Nat} (h1 : 1 ≤ P) (h2 : P ≤ 1000) : P + 1000 / P ≤ 1001 := by
  have a : 1 ≤ 1000 / P := (Nat.le_div_iff_mul_le h1).mpr (by omega)
  have b := q_abone h1 a
  have c : P * (1000 / P) ≤ 1000 := Nat.mul_div_le _ _
  omega
theorem q_spread9 {st : qC} (hI : KI st) {cnt : Nat} {ru : Nat → Nat → Nat} (hu : UL cnt ru) : ∀ (d m : Nat), m + d = 6 → qpr (qln st cnt ru) m ≤ 1000 → ∃ K, ∀ (row : Nat) (ml me mh mo mi mt ma mx cells : Nat → Int32), KM st.1 st.2.1 st.2.2 cells row → row < 81 → UM cnt ru ml me mh mo mi mt ma mx → ∀ n, K ≤ n → ∀ (more : Int32) (R U : Nat → Int32) (A : Int32) (li be mn dg chs : Nat → Int32), qtM st.1 (qln st cnt ru) (qL st cnt ru) li be mn m → (∀ j, j < m → dg j = 0) →
    (qpr (qln st cnt ru) 6 ≤ 1000 → ∃ R' U' A' li' ld' be' mn' dg', M_spread_9 (nI row) (nI cnt) ml me mh mo mi mt ma mx (n + d + 1) (nI (qpr (qln st cnt ru) m)) (nI m) cells more R U A li (nI (qsv st.1 (qln st cnt ru) m)) be mn dg chs = M_spread_97 (nI row) (nI cnt) me mh mo mi mt ma mx n 1 cells more R' U' A' li' ld' be' mn' dg' chs ∧ qtM st.1 (qln st cnt ru) (qL st cnt ru) li' be' mn' 6 ∧ ∀ j, j < 6 → dg' j = 0)
    ∧ (¬ qpr (qln st cnt ru) 6 ≤ 1000 → ∃ res, M_spread_9 (nI row) (nI cnt) ml me mh mo mi mt ma mx (n + d + 1) (nI (qpr (qln st cnt ru) m)) (nI m) cells more R U A li (nI (qsv st.1 (qln st cnt ru) m)) be mn dg chs = some res ∧ res.1 = 0 ∧ res.2.1 = cells) := by
  obtain ⟨hl, ht, hk, ha⟩ := hI
  have lp := qln_pos (st := st) hu hk
  intro d
  induction d with
  | zero =>
    intro m e hP
    have : m = 6 := by omega
    subst this
    refine ⟨0, fun row ml me mh mo mi mt ma mx cells h hr hM n hn more R U A li be mn dg chs hT hd => ⟨fun _ => ?_, fun z => absurd hP z⟩⟩
    exact ⟨R, U, A, li, _, be, mn, dg, by rw [M_spread_9, if_pos q_y6], hT, hd⟩
  | succ d ih =>
    intro m e hP
    have hm : m < 6 := by omega
    have pp := qpr_pos lp m (by omega)
    have sl := qsu_le lp m (by omega)
    have sv := qsv_le (lab := st.1) (ln := qln st cnt ru) m
    by_cases z : st.1 m = -1
    · have l1 : qln st cnt ru m = 1 := by
        unfold qln qL
        rw [qch_abs hu z]; rfl
      have e1 : qpr (qln st cnt ru) (m + 1) = qpr (qln st cnt ru) m := by
        show qpr (qln st cnt ru) m * qln st cnt ru m = _
        rw [l1, Nat.mul_one]
      have e2 : qsv st.1 (qln st cnt ru) (m + 1) = qsv st.1 (qln st cnt ru) m := if_pos z
      obtain ⟨K, hK⟩ := ih (m + 1) (by omega) (by rw [e1]; exact hP)
      rw [e1, e2] at hK
      refine ⟨K, fun row ml me mh mo mi mt ma mx cells h hr hM n hn more R U A li be mn dg chs hT hd => ?_⟩
      have st0 : M_spread_9 (nI row) (nI cnt) ml me mh mo mi mt ma mx (n + (d + 1) + 1) (nI (qpr (qln st cnt ru) m)) (nI m) cells more R U A li (nI (qsv st.1 (qln st cnt ru) m)) be mn dg chs = M_spread_9 (nI row) (nI cnt) ml me mh mo mi mt ma mx (n + d + 1) (nI (qpr (qln st cnt ru) m)) (nI (m + 1)) cells more R U A li (nI (qsv st.1 (qln st cnt ru) m)) (eUp be m (nI (qsv st.1 (qln st cnt ru) m))) (eUp mn m 1) (eUp dg m 0) chs := by
        show M_spread_9 (nI row) (nI cnt) ml me mh mo mi mt ma mx ((n + d + 1) + 1) _ _ _ _ _ _ _ _ _ _ _ _ _ = _
        rw [M_spread_9, if_neg (q_n6 hm), nI_clamp (by omega), if_neg (q_in hm (by omega)), if_neg (q_in hm (by omega)), if_neg (q_in hm (by omega)), q_Mhas hl h (by omega) hm, Option.bind_some, decide_eq_false (fun w => w z), if_pos qb_f, nI_1]
      rw [st0]
      exact hK row ml me mh mo mi mt ma mx cells h hr hM n hn more R U A li _ _ _ chs (fun j hj => by
        by_cases jm : j = m
        · subst jm
          exact ⟨by rw [q_up, l1]; rfl, fun w => absurd z w⟩
        · obtain ⟨a1, a2⟩ := hT j (by omega)
          refine ⟨by rw [q_un jm]; exact a1, fun w => ?_⟩
          rw [q_un jm]
          exact a2 w) (fun j hj => by
        by_cases jm : j = m
        · subst jm; rw [q_up]
        · rw [q_un jm]; exact hd j (by omega))
    · have e2 : qsv st.1 (qln st cnt ru) (m + 1) = qsv st.1 (qln st cnt ru) m + qln st cnt ru m := if_neg z
      have P1 := q_P1001 pp hP
      obtain ⟨K1, hK1⟩ := q_write (m := m) (most := 1000 / qpr (qln st cnt ru) m + 1) hl hu hm (by omega) (Nat.succ_pos _) (hk.1 m hm)
      have wr : ∀ (row : Nat) (ml me mh mo mi mt ma mx cells : Nat → Int32), KM st.1 st.2.1 st.2.2 cells row → row < 81 → UM cnt ru ml me mh mo mi mt ma mx → ∀ n, K1 ≤ n → ∀ (more : Int32) (R U : Nat → Int32) (A : Int32) (li be mn dg chs : Nat → Int32), ∃ R' U' A', M_spread_9 (nI row) (nI cnt) ml me mh mo mi mt ma mx (n + (d + 1) + 1) (nI (qpr (qln st cnt ru) m)) (nI m) cells more R U A li (nI (qsv st.1 (qln st cnt ru) m)) be mn dg chs = if nI (qpr (qln st cnt ru) m * ((qL st cnt ru m).take (1000 / qpr (qln st cnt ru) m + 1)).length) ≤ (1000 : Int32) then M_spread_9 (nI row) (nI cnt) ml me mh mo mi mt ma mx (n + d + 1) (nI (qpr (qln st cnt ru) m * ((qL st cnt ru m).take (1000 / qpr (qln st cnt ru) m + 1)).length)) (nI (m + 1)) cells more R' U' A' (qput c5p li (qsv st.1 (qln st cnt ru) m) ((qL st cnt ru m).take (1000 / qpr (qln st cnt ru) m + 1))) (nI (qsv st.1 (qln st cnt ru) m + ((qL st cnt ru m).take (1000 / qpr (qln st cnt ru) m + 1)).length)) (eUp be m (nI (qsv st.1 (qln st cnt ru) m))) (eUp (eUp mn m 1) m (nI ((qL st cnt ru m).take (1000 / qpr (qln st cnt ru) m + 1)).length)) (eUp dg m 0) chs else some (0, cells, more, R', U', A', qput c5p li (qsv st.1 (qln st cnt ru) m) ((qL st cnt ru m).take (1000 / qpr (qln st cnt ru) m + 1)), nI (qsv st.1 (qln st cnt ru) m + ((qL st cnt ru m).take (1000 / qpr (qln st cnt ru) m + 1)).length), eUp be m (nI (qsv st.1 (qln st cnt ru) m)), eUp (eUp mn m 1) m (nI ((qL st cnt ru m).take (1000 / qpr (qln st cnt ru) m + 1)).length), eUp dg m 0, chs) := by
        intro row ml me mh mo mi mt ma mx cells h hr hM n hn more R U A li be mn dg chs
        obtain ⟨R', U', A', f1⟩ := hK1 row ml me mh mo mi mt ma mx cells h (by omega) hM (n + d + 1) (by omega) R U A li (qsv st.1 (qln st cnt ru) m) (by omega)
        refine ⟨R', U', A', ?_⟩
        have f1' : M_write (n + d + 1) (nI row) (nI m) (nI (1000 / qpr (qln st cnt ru) m + 1)) (nI cnt) ml me mi mt ma cells R U A li (nI (qsv st.1 (qln st cnt ru) m)) = some (nI ((qL st cnt ru m).take (1000 / qpr (qln st cnt ru) m + 1)).length, R', U', A', qput c5p li (qsv st.1 (qln st cnt ru) m) ((qL st cnt ru m).take (1000 / qpr (qln st cnt ru) m + 1)), nI (qsv st.1 (qln st cnt ru) m + ((qL st cnt ru m).take (1000 / qpr (qln st cnt ru) m + 1)).length)) := f1
        have dv : (1000 : Int32) / nI (qpr (qln st cnt ru) m) = nI (1000 / qpr (qln st cnt ru) m) := pk_div (a := 1000) (by decide) pp (by omega)
        show M_spread_9 (nI row) (nI cnt) ml me mh mo mi mt ma mx ((n + d + 1) + 1) _ _ _ _ _ _ _ _ _ _ _ _ _ = _
        rw [M_spread_9, if_neg (q_n6 hm), nI_clamp (by omega), if_neg (q_in hm (by omega)), if_neg (q_in hm (by omega)), if_neg (q_in hm (by omega)), q_Mhas hl h (by omega) hm, Option.bind_some, decide_eq_true z, if_neg qb_t, if_neg (nI_ne0 pp (by omega)), dv, nI_1, f1', Option.bind_some, if_neg (q_in hm (by omega)), if_neg (q_in hm (by omega)), q_up, pk_mul, nI_1]
        rfl
      by_cases x : qpr (qln st cnt ru) (m + 1) ≤ 1000
      · have x' : qpr (qln st cnt ru) m * (qL st cnt ru m).length ≤ 1000 := x
        have lb : (qL st cnt ru m).length ≤ 1000 / qpr (qln st cnt ru) m := (Nat.le_div_iff_mul_le pp).mpr (by rw [Nat.mul_comm]; exact x')
        have tk : (qL st cnt ru m).take (1000 / qpr (qln st cnt ru) m + 1) = qL st cnt ru m := List.take_of_length_le (by omega)
        rw [tk] at wr
        obtain ⟨K, hK⟩ := ih (m + 1) (by omega) x
        refine ⟨K + K1, fun row ml me mh mo mi mt ma mx cells h hr hM n hn more R U A li be mn dg chs hT hd => ?_⟩
        obtain ⟨R', U', A', w1⟩ := wr row ml me mh mo mi mt ma mx cells h hr hM n (by omega) more R U A li be mn dg chs
        have le1 : nI (qpr (qln st cnt ru) m * (qL st cnt ru m).length) ≤ (1000 : Int32) := nI_le (b := 1000) x' (by decide)
        rw [w1, if_pos le1]
        have hK' := hK row ml me mh mo mi mt ma mx cells h hr hM n (by omega) more R' U' A' (qput c5p li (qsv st.1 (qln st cnt ru) m) (qL st cnt ru m)) (eUp be m (nI (qsv st.1 (qln st cnt ru) m))) (eUp (eUp mn m 1) m (nI (qL st cnt ru m).length)) (eUp dg m 0) chs (fun j hj => by
          by_cases jm : j = m
          · subst jm
            refine ⟨by rw [q_up]; rfl, fun _ => ⟨by rw [q_up], fun t v hv => qput_at _ _ _ _ _ hv⟩⟩
          · obtain ⟨a1, a2⟩ := hT j (by omega)
            refine ⟨by rw [q_un jm, q_un jm]; exact a1, fun w => ?_⟩
            obtain ⟨a3, a4⟩ := a2 w
            refine ⟨by rw [q_un jm]; exact a3, fun t v hv => ?_⟩
            have tl : t < qln st cnt ru j := (List.getElem?_eq_some_iff.mp hv).1
            have b := qsv_mono (lab := st.1) (ln := qln st cnt ru) (m - (j + 1)) (j + 1)
            rw [show j + 1 + (m - (j + 1)) = m by omega] at b
            have b2 : qsv st.1 (qln st cnt ru) (j + 1) = qsv st.1 (qln st cnt ru) j + qln st cnt ru j := if_neg w
            rw [qput_lo _ _ _ _ (by omega)]
            exact a4 t v hv) (fun j hj => by
          by_cases jm : j = m
          · subst jm; rw [q_up]
          · rw [q_un jm]; exact hd j (by omega))
        rw [e2] at hK'
        exact hK'
      · have x' : ¬ qpr (qln st cnt ru) m * (qL st cnt ru m).length ≤ 1000 := x
        have lb : 1000 / qpr (qln st cnt ru) m + 1 ≤ (qL st cnt ru m).length := by
          apply Classical.byContradiction
          intro y
          have : (qL st cnt ru m).length ≤ 1000 / qpr (qln st cnt ru) m := by omega
          have := (Nat.le_div_iff_mul_le pp).mp this
          rw [Nat.mul_comm] at this
          exact x' this
        have tl : ((qL st cnt ru m).take (1000 / qpr (qln st cnt ru) m + 1)).length = 1000 / qpr (qln st cnt ru) m + 1 := by rw [List.length_take, Nat.min_eq_left lb]
        have big : 1000 < qpr (qln st cnt ru) m * (1000 / qpr (qln st cnt ru) m + 1) := Nat.lt_mul_div_succ _ pp
        have up : qpr (qln st cnt ru) m * (1000 / qpr (qln st cnt ru) m + 1) ≤ 1000 * 1001 := Nat.mul_le_mul hP (by omega)
        have n6 : ¬ qpr (qln st cnt ru) 6 ≤ 1000 := fun w => by
          have := qpr_mono lp d (m + 1) (by omega)
          rw [show m + 1 + d = 6 by omega] at this
          exact x (Nat.le_trans this w)
        refine ⟨K1, fun row ml me mh mo mi mt ma mx cells h hr hM n hn more R U A li be mn dg chs hT hd => ⟨fun w => absurd w n6, fun _ => ?_⟩⟩
        obtain ⟨R', U', A', w1⟩ := wr row ml me mh mo mi mt ma mx cells h hr hM n (by omega) more R U A li be mn dg chs
        rw [tl] at w1
        have le1 : ¬ nI (qpr (qln st cnt ru) m * (1000 / qpr (qln st cnt ru) m + 1)) ≤ (1000 : Int32) := nI_ge (a := 1000) big (by omega)
        rw [w1, if_neg le1]
        exact ⟨_, rfl, rfl, rfl⟩
theorem q_104 {st : qC} {cells : Nat → Int32} {row : Nat} (hI : KI st) (h : KM st.1 st.2.1 st.2.2 cells row) (hr : row < 81) {cnt : Nat} {ru : Nat → Nat → Nat} (hu : UL cnt ru) {me mh mo mi mt ma mx li be mn dgI : Nat → Int32} (hT : qtM st.1 (qln st cnt ru) (qL st cnt ru) li be mn 6) (hP : qpr (qln st cnt ru) 6 ≤ 1000) {dg : Nat → Nat} (hd : ∀ j, j < 6 → dg j < qln st cnt ru j) (hdI : ∀ j, j < 6 → dgI j = nI (dg j)) (k97 : Int32 → (Nat → Int32) → Int32 → (Nat → Int32) → (Nat → Int32) → Int32 → (Nat → Int32) → Int32 → (Nat → Int32) → (Nat → Int32) → (Nat → Int32) → (Nat → Int32) → Option (Int32 × (Nat → Int32) × Int32 × (Nat → Int32) × (Nat → Int32) × Int32 × (Nat → Int32) × Int32 × (Nat → Int32) × (Nat → Int32) × (Nat → Int32) × (Nat → Int32))) (more : Int32) (R U : Nat → Int32) (A ld : Int32) {n : Nat} : ∀ (d m : Nat) (chs : Nat → Int32), m + d = 6 → (∀ j, j < m → chs j = nI (c5p (qus st cnt ru dg j))) → ∃ chs', M_spread_104 (nI row) (nI cnt) me mh mo mi mt ma mx k97 (n + d) (nI m) cells more R U A li ld be mn dgI chs = M_spread_104 (nI row) (nI cnt) me mh mo mi mt ma mx k97 n (nI 6) cells more R U A li ld be mn dgI chs' ∧ ∀ j, j < 6 → chs' j = nI (c5p (qus st cnt ru dg j)) := by
  obtain ⟨hl, ht, hk, ha⟩ := hI
  have lp := qln_pos (st := st) hu hk
  intro d
  induction d with
  | zero =>
    intro m chs e hc
    have : m = 6 := by omega
    subst this
    exact ⟨chs, rfl, hc⟩
  | succ d ih =>
    intro m chs e hc
    have hm : m < 6 := by omega
    have dm := hd m hm
    have gv := qus_get dm
    by_cases z : st.1 m = -1
    · have us0 : qus st cnt ru dg m = fun _ => 0 := by
        have lq : qL st cnt ru m = [fun _ => 0] := qch_abs hu z
        have l1 : qln st cnt ru m = 1 := by unfold qln; rw [lq]; rfl
        have d0 : dg m = 0 := by omega
        rw [lq, d0] at gv
        exact (Option.some.inj gv).symm
      have st0 : M_spread_104 (nI row) (nI cnt) me mh mo mi mt ma mx k97 (n + (d + 1)) (nI m) cells more R U A li ld be mn dgI chs = M_spread_104 (nI row) (nI cnt) me mh mo mi mt ma mx k97 (n + d) (nI (m + 1)) cells more R U A li ld be mn dgI (eUp chs m 0) := by
        show M_spread_104 (nI row) (nI cnt) me mh mo mi mt ma mx k97 (n + d + 1) _ _ _ _ _ _ _ _ _ _ _ _ = _
        rw [M_spread_104, if_neg (q_n6 hm), q_Mhas hl h (by omega) hm, Option.bind_some, decide_eq_false (fun w => w z), if_pos qb_f, nI_clamp (by omega), if_neg (q_in hm (by omega)), nI_1]
      rw [st0]
      exact ih (m + 1) _ (by omega) (fun j hj => by
        by_cases jm : j = m
        · subst jm; rw [q_up, us0]; rfl
        · rw [q_un jm]; exact hc j (by omega))
    · obtain ⟨_, a2⟩ := hT m hm
      obtain ⟨a3, a4⟩ := a2 z
      have e2 : qsv st.1 (qln st cnt ru) (m + 1) = qsv st.1 (qln st cnt ru) m + qln st cnt ru m := if_neg z
      have b1 := qsv_mono (lab := st.1) (ln := qln st cnt ru) (6 - (m + 1)) (m + 1)
      rw [show m + 1 + (6 - (m + 1)) = 6 by omega] at b1
      have b2 := qsv_le (lab := st.1) (ln := qln st cnt ru) 6
      have b3 := qsu_le lp 6 (by omega)
      have st0 : M_spread_104 (nI row) (nI cnt) me mh mo mi mt ma mx k97 (n + (d + 1)) (nI m) cells more R U A li ld be mn dgI chs = M_spread_104 (nI row) (nI cnt) me mh mo mi mt ma mx k97 (n + d) (nI (m + 1)) cells more R U A li ld be mn dgI (eUp chs m (li (qsv st.1 (qln st cnt ru) m + dg m))) := by
        show M_spread_104 (nI row) (nI cnt) me mh mo mi mt ma mx k97 (n + d + 1) _ _ _ _ _ _ _ _ _ _ _ _ = _
        rw [M_spread_104, if_neg (q_n6 hm), q_Mhas hl h (by omega) hm, Option.bind_some, decide_eq_true z, if_neg qb_t, nI_clamp (by omega), if_neg (q_in hm (by omega)), if_neg (q_in hm (by omega)), a3, hdI m hm, nI_add, nI_clamp (by omega), if_neg (q_in (by omega) (by omega)), if_neg (q_in hm (by omega)), nI_1]
      rw [st0]
      exact ih (m + 1) _ (by omega) (fun j hj => by
        by_cases jm : j = m
        · subst jm; rw [q_up]; exact a4 _ _ gv
        · rw [q_un jm]; exact hc j (by omega))
theorem q_178 {ln : Nat → Nat} {mn : Nat → Int32} (hmn : ∀ j, j < 6 → mn j = nI (ln j)) (hln : ∀ j, j < 6 → 1 ≤ ln j) (hlt : ∀ j, j < 6 → ln j < 2 ^ 31) (k97 : Int32 → (Nat → Int32) → Int32 → (Nat → Int32) → (Nat → Int32) → Int32 → (Nat → Int32) → Int32 → (Nat → Int32) → (Nat → Int32) → (Nat → Int32) → (Nat → Int32) → Option (Int32 × (Nat → Int32) × Int32 × (Nat → Int32) × (Nat → Int32) × Int32 × (Nat → Int32) × Int32 × (Nat → Int32) × (Nat → Int32) × (Nat → Int32) × (Nat → Int32))) (cells : Nat → Int32) (more : Int32) (R U : Nat → Int32) (A : Int32) (li : Nat → Int32) (ld : Int32) (be chs : Nat → Int32) : ∀ (m n : Nat) (dg : Nat → Nat) (dgI : Nat → Int32), m ≤ 6 → m + 1 ≤ n → (∀ j, j < 6 → dg j < ln j) → (∀ j, j < 6 → dgI j = nI (dg j)) → ∃ dgI', M_spread_178 k97 n (nI m + (-1 : Int32)) cells more R U A li ld be mn dgI chs = k97 (if (qinc ln m dg).2 = true then 0 else 1) cells more R U A li ld be mn dgI' chs ∧ ∀ j, j < 6 → dgI' j = nI ((qinc ln m dg).1 j) := by
  intro m
  induction m with
  | zero =>
    intro n dg dgI _ hn hd hI
    obtain ⟨n, rfl⟩ : ∃ m, n = m + 1 := ⟨n - 1, by omega⟩
    refine ⟨dgI, ?_, hI⟩
    rw [M_spread_178, if_pos (by decide)]
    unfold M_spread_216
    rw [if_pos (by decide)]
    unfold M_spread_226
    rw [if_pos rfl]
    rfl
  | succ m ih =>
    intro n dg dgI hm hn hd hI
    obtain ⟨n, rfl⟩ : ∃ m, n = m + 1 := ⟨n - 1, by omega⟩
    have dm := hd m (by omega)
    have lm := hlt m (by omega)
    have l1 := hln m (by omega)
    have qe : qinc ln (m + 1) dg = if dg m + 1 = ln m then qinc ln m (eUp dg m 0) else (eUp dg m (dg m + 1), false) := rfl
    have sb : nI (ln m) - (1 : Int32) = nI (ln m - 1) := pk_sub (b := 1) l1
    rw [nI_dn, M_spread_178, if_neg (nI_pos (by omega)), nI_clamp (by omega), if_neg (q_in (by omega) (by omega)), if_neg (q_in (by omega) (by omega)), hI m (by omega), hmn m (by omega), sb, qe]
    by_cases c : dg m + 1 = ln m
    · rw [if_pos c, if_pos (by rw [show dg m = ln m - 1 by omega]), if_neg (q_in (by omega) (by omega))]
      exact ih n (eUp dg m 0) (eUp dgI m 0) (by omega) (by omega) (fun j hj => by
        by_cases jm : j = m
        · subst jm; rw [q_up]; omega
        · rw [q_un jm]; exact hd j hj) (fun j hj => by
        by_cases jm : j = m
        · subst jm; rw [q_up, q_up]; rfl
        · rw [q_un jm, q_un jm]; exact hI j hj)
    · rw [if_neg c, if_neg (fun w => c (by have := (nI_eq (by omega) (by omega)).mp w; omega))]
      unfold M_spread_216
      rw [if_neg (nI_pos (by omega))]
      unfold M_spread_226
      rw [if_neg (by decide), nI_clamp (by omega), if_neg (q_in (by omega) (by omega)), if_neg (q_in (by omega) (by omega)), hI m (by omega), nI_1]
      refine ⟨_, rfl, fun j hj => ?_⟩
      show _ = nI (eUp dg m (dg m + 1) j)
      by_cases jm : j = m
      · subst jm; rw [q_up, q_up]
      · rw [q_un jm, q_un jm]; exact hI j hj

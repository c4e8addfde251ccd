theorem q_162end {cnt : Nat} {ru : Nat → Nat → Nat} {ml me mh mo mi mt ma mx : Nat → Int32} (hu : UL cnt ru) (hM : UM cnt ru ml me mh mo mi mt ma mx) {m : Nat} (hm : m < 6) {u : Nat → Nat} (u12 : ∀ i, i < 6 → u i ≤ 12) {mc : Nat → Int32} (hmc : mc m = nI (c5p u)) (k154 : Int32 → (Nat → Int32) → Option (Int32 × (Nat → Int32))) (cells : Nat → Int32) {c N : Nat} (hc : c ≤ cnt) (hN : 7 ≤ N) (hz : ∀ i, c ≤ i → i < cnt → ¬ (ru i 6 = 2 ∧ 0 < u i)) : M_step_162 (nI cnt) mh ma mx mc k154 N (nI m) (nI c) cells = k154 (nI (m + 1)) cells := by
  have c6 := hu.1
  obtain ⟨p, rfl⟩ : ∃ p, N = p + 1 + (cnt - c) := ⟨N - 1 - (cnt - c), by omega⟩
  rw [q_162skip hu hM hm u12 hmc k154 cells (cnt - c) c (p + 1) (by omega) (fun i h1 h2 => hz i h1 (by omega)), show c + (cnt - c) = cnt by omega, M_step_162, if_pos (nI_le (Nat.le_refl _) (by omega)), nI_1]
theorem q_spM {cnt : Nat} {ru : Nat → Nat → Nat} {ml me mh mo mi mt ma mx : Nat → Int32} (hu : UL cnt ru) (hM : UM cnt ru ml me mh mo mi mt ma mx) {us : Nat → Nat → Nat} (u12 : ∀ m, m < 6 → ∀ i, i < 6 → us m i ≤ 12) {mc : Nat → Int32} (hmc : ∀ m, m < 6 → mc m = nI (c5p (us m))) {o : Nat → Option Nat} (hou : qou cnt ru us o) {n : Nat} (hn : 40 ≤ n) : ∀ (d m : Nat) (st : qC) (cells : Nat → Int32), m + d = 6 → qoo cnt ru us st.1 o → KL st.1 st.2.1 → KT st.1 st.2.1 → KM st.1 st.2.1 st.2.2 cells 81 → (qsp ru o st m d = none → ∃ cells', M_step_154 (nI cnt) mh ma mx mc (n + d + 1) (nI m) cells = some (0, cells') ∧ qfr 81 cells cells') ∧ ∀ st', qsp ru o st m d = some st' → ∃ cells', M_step_154 (nI cnt) mh ma mx mc (n + d + 1) (nI m) cells = M_step_286 (nI cnt) ma mc n 1 cells' ∧ KM st'.1 st'.2.1 st'.2.2 cells' 81 ∧ qfr 81 cells cells' := by
  have c6 := hu.1
  intro d
  induction d with
  | zero =>
    intro m st cells e ho hl ht h
    have : m = 6 := by omega
    subst this
    refine ⟨fun z => (by cases z), fun st' z => ?_⟩
    cases z
    exact ⟨cells, by rw [M_step_154, if_pos q_y6], h, fun _ _ => rfl⟩
  | succ d ih =>
    intro m st cells e ho hl ht h
    have hm : m < 6 := by omega
    have st0 : M_step_154 (nI cnt) mh ma mx mc (n + (d + 1) + 1) (nI m) cells = M_step_162 (nI cnt) mh ma mx mc (M_step_154 (nI cnt) mh ma mx mc (n + d + 1)) (n + d + 1) (nI m) (nI 0) cells := by
      show M_step_154 (nI cnt) mh ma mx mc ((n + d + 1) + 1) (nI m) cells = _
      rw [M_step_154, if_neg (q_n6 hm)]; rfl
    rw [st0]
    have skip : (∀ i, i < cnt → ¬ (ru i 6 = 2 ∧ 0 < us m i)) → M_step_162 (nI cnt) mh ma mx mc (M_step_154 (nI cnt) mh ma mx mc (n + d + 1)) (n + d + 1) (nI m) (nI 0) cells = M_step_154 (nI cnt) mh ma mx mc (n + d + 1) (nI (m + 1)) cells := fun hz => q_162end hu hM hm (u12 m hm) (hmc m hm) _ cells (Nat.zero_le _) (by omega) (fun i _ h2 => hz i h2)
    unfold qsp
    cases om : o m with
    | none =>
      rw [skip (fun i hi z => by have := hou m hm i hi z.2 (by omega); rw [om] at this; cases this)]
      exact ih (m + 1) st cells (by omega) ho hl ht h
    | some i =>
      obtain ⟨o1, o2, o3, o4, o5⟩ := ho m hm i om
      have uni : ∀ j, j < cnt → ru j 6 = 2 ∧ 0 < us m j → j = i := fun j hj z => by
        have := hou m hm j hj z.2 (by omega)
        rw [om] at this
        cases this
        rfl
      dsimp only
      by_cases x : ru i 6 = 2
      · rw [if_pos x]
        have s0 : M_step_162 (nI cnt) mh ma mx mc (M_step_154 (nI cnt) mh ma mx mc (n + d + 1)) (n + d + 1) (nI m) (nI 0) cells = M_step_162 (nI cnt) mh ma mx mc (M_step_154 (nI cnt) mh ma mx mc (n + d + 1)) (n + d - i + 1) (nI m) (nI i) cells := by
          have w := q_162skip hu hM hm (u12 m hm) (hmc m hm) (M_step_154 (nI cnt) mh ma mx mc (n + d + 1)) cells i 0 (n + d - i + 1) (by omega) (fun j h1 h2 z => by have := uni j (by omega) z; omega)
          rw [show n + d - i + 1 + i = n + d + 1 by omega, Nat.zero_add] at w
          exact w
        rw [s0]
        obtain ⟨s1, s2⟩ := q_splitM hl h hu hM hm o4 o5 o1 x (u12 m hm) o2 (hmc m hm) (M_step_154 (nI cnt) mh ma mx mc (n + d + 1)) (n := n + d - i) (by omega)
        cases q : qfind (qfree st.1) 1 5 with
        | none =>
          refine ⟨fun _ => ⟨cells, s1 q, fun _ _ => rfl⟩, fun st' z => (by cases z)⟩
        | some f =>
          obtain ⟨d1, t1, t2, t3⟩ := s2 f q
          obtain ⟨fl, f0, f6⟩ := qfree_lab q
          rw [t1, q_162end hu hM hm (u12 m hm) (hmc m hm) _ d1 (by omega) (by omega) (fun j h1 h2 z => by have := uni j h2 z; omega)]
          obtain ⟨r1, r2⟩ := ih (m + 1) (eUp st.1 f (st.1 m), eUp st.2.1 f (st.2.1 m), qsa ru st.2.2 m f i) d1 (by omega) (fun j hj i' hi' => by
            obtain ⟨p1, p2, p3, p4, p5⟩ := ho j hj i' hi'
            refine ⟨p1, p2, p3, p4, ?_⟩
            show ¬ eUp st.1 f (st.1 m) j = -1
            by_cases jf : j = f
            · subst jf; rw [q_up]; exact o5
            · rw [q_un jf]; exact p5) (KL_split hl hm o4 o5 fl f0) (KT_split hl ht hm o4 o5 fl) t2
          refine ⟨fun z => ?_, fun st' z => ?_⟩
          · obtain ⟨d2, y1, y2⟩ := r1 z
            exact ⟨d2, y1, qfr_trans t3 y2⟩
          · obtain ⟨d2, y1, y2, y3⟩ := r2 st' z
            exact ⟨d2, y1, y2, qfr_trans t3 y3⟩
      · rw [if_neg x, skip (fun j hj z => x (by have := uni j hj z; rw [← this]; exact z.1))]
        exact ih (m + 1) st cells (by omega) ho hl ht h
theorem q_mlC {cnt : Nat} {ru : Nat → Nat → Nat} {ul : Nat → Int32} {ue uk uh uo ui : Nat → Int64} {ut ud uv : Nat → Int32} {ux : Nat → Int64} (hu : UL cnt ru) (hc : UC cnt ru ul ue uk uh uo ui ut ud uv ux) {us : Nat → Nat → Nat} {o w : Nat → Option Nat} (hw : ∀ m, m < 6 → w m = o m) : ∀ (d m n : Nat) (st : qC) (cl cp : Nat → Int32) (ch : Nat → Int64), m + d = 6 → d + 8 ≤ n → (∀ j, m ≤ j → j < 6 → ∀ i, o j = some i → i < cnt ∧ 0 < us j i ∧ 0 < ru i 6 ∧ ¬ j = 0 ∧ ¬ st.1 j = -1) → KL st.1 st.2.1 → KT st.1 st.2.1 → KC st.1 st.2.1 st.2.2 cl cp ch → ∃ cl' cp' ch', W_meltAll_2 w ud n (nI m) cl cp ch = some (cl', cp', ch') ∧ KC (qml ru o st m d).1 (qml ru o st m d).2.1 (qml ru o st m d).2.2 cl' cp' ch' ∧ KL (qml ru o st m d).1 (qml ru o st m d).2.1 ∧ KT (qml ru o st m d).1 (qml ru o st m d).2.1 := by
  have c6 := hu.1
  intro d
  induction d with
  | zero =>
    intro m n st cl cp ch e hn ho hl ht h
    obtain ⟨n, rfl⟩ : ∃ m, n = m + 1 := ⟨n - 1, by omega⟩
    have : m = 6 := by omega
    subst this
    exact ⟨cl, cp, ch, by rw [W_meltAll_2, if_pos q_y6], h, hl, ht⟩
  | succ d ih =>
    intro m n st cl cp ch e hn ho hl ht h
    obtain ⟨n, rfl⟩ : ∃ m, n = m + 1 := ⟨n - 1, by omega⟩
    have hm : m < 6 := by omega
    have ho' : ∀ j, m + 1 ≤ j → j < 6 → ∀ i, o j = some i → i < cnt ∧ 0 < us j i ∧ 0 < ru i 6 ∧ ¬ j = 0 ∧ ¬ st.1 j = -1 := fun j h1 h2 => ho j (by omega) h2
    have st0 : W_meltAll_2 w ud (n + 1) (nI m) cl cp ch = (match o m with | none => (W_meltAll_2 w ud n (nI (m + 1)) cl cp ch) | some v2 => if 6 ≤ v2 then none else (if ud v2 = 0 then (W_meltAll_2 w ud n (nI (m + 1)) cl cp ch) else ((W_melt n (nI m) cl cp ch).bind fun v3 => (W_meltAll_2 w ud n (nI (m + 1)) v3.1 v3.2.1 v3.2.2)))) := by
      rw [W_meltAll_2, if_neg (q_n6 hm), nI_clamp (by omega), if_neg (q_in hm (by omega)), nI_1, hw m hm]
      cases o m <;> rfl
    rw [st0]
    unfold qml
    cases om : o m with
    | none => exact ih (m + 1) n st cl cp ch (by omega) (by omega) ho' hl ht h
    | some i =>
      obtain ⟨o1, o2, o3, o4, o5⟩ := ho m (Nat.le_refl _) hm i om
      have du := (hc i o1).2.2.2.2.2.2.2.1
      dsimp only
      rw [if_neg (show ¬ 6 ≤ i by omega), du]
      by_cases x : ru i 6 = 1
      · obtain ⟨cl1, cp1, ch1, t1, t2⟩ := q_meltC hl h hm o4 o5 (KT_ne ht hm o4 o5) (n := n) (by omega)
        rw [if_pos x, decide_eq_true x, if_neg qb_t, t1, Option.bind_some]
        exact ih (m + 1) n (eUp st.1 m (-1), qmp st.2.1 m, qma st.2.1 st.2.2 m) cl1 cp1 ch1 (by omega) (by omega) (fun j h1 h2 i' hi' => by
          obtain ⟨p1, p2, p3, p4, p5⟩ := ho j (by omega) h2 i' hi'
          refine ⟨p1, p2, p3, p4, ?_⟩
          show ¬ eUp st.1 m (-1) j = -1
          rw [q_un (by omega)]; exact p5) (KL_melt hl hm o4 o5 (KT_ne ht hm o4 o5)) (KT_melt ht hm o4 o5) t2
      · rw [if_neg x, decide_eq_false x, if_pos qb_f]
        exact ih (m + 1) n st cl cp ch (by omega) (by omega) ho' hl ht h
theorem q_294skip {cnt : Nat} {ru : Nat → Nat → Nat} {ml me mh mo mi mt ma mx : Nat → Int32} (hu : UL cnt ru) (hM : UM cnt ru ml me mh mo mi mt ma mx) {m : Nat} (hm : m < 6) {u : Nat → Nat} (u12 : ∀ i, i < 6 → u i ≤ 12) {mc : Nat → Int32} (hmc : mc m = nI (c5p u)) (k286 : Int32 → (Nat → Int32) → Option (Int32 × (Nat → Int32))) (cells : Nat → Int32) : ∀ (d c n : Nat), c + d ≤ cnt → (∀ i, c ≤ i → i < c + d → ¬ (ru i 6 = 1 ∧ 0 < u i)) → M_step_294 (nI cnt) ma mc k286 (n + d) (nI m) (nI c) cells = M_step_294 (nI cnt) ma mc k286 n (nI m) (nI (c + d)) cells := by
  have c6 := hu.1
  have u32 : ∀ k, k < 6 → u k < 32 := fun k hk => by have := u12 k hk; omega
  intro d
  induction d with
  | zero => intro c n _ _; rfl
  | succ d ih =>
    intro c n hc hz
    have hcc : c < cnt := by omega
    have b7 := (hu.2 c hcc).2.2.2.2.2.2.2.1
    have c7 := (hM c hcc).2.2.2.2.2.2.1
    have st : M_step_294 (nI cnt) ma mc k286 (n + (d + 1)) (nI m) (nI c) cells = M_step_294 (nI cnt) ma mc k286 (n + d) (nI m) (nI (c + 1)) cells := by
      show M_step_294 (nI cnt) ma mc k286 (n + d + 1) (nI m) (nI c) cells = _
      rw [M_step_294, if_neg (nI_ge hcc (by omega)), nI_clamp (by omega), if_neg (q_in (by omega) (by omega)), c7, nI_1]
      by_cases x : ru c 6 = 1
      · have u0 : u c = 0 := by have := hz c (Nat.le_refl _) (by omega); omega
        rw [if_pos (show nI (ru c 6) = 1 by rw [x]; rfl), nI_clamp (by omega), if_neg (q_in hm (by omega)), hmc, q_used u32 (by omega), Option.bind_some, if_pos (show nI (u c) ≤ 0 by rw [u0]; decide)]
      · have g : ¬ nI (ru c 6) = (1 : Int32) := fun v => x ((nI_eq (b := 1) (by omega) (by decide)).mp v)
        rw [if_neg g]
    rw [st, ih (c + 1) n (by omega) (fun i h1 h2 => hz i (by omega) (by omega)), show c + 1 + d = c + (d + 1) by omega]
theorem q_294end {cnt : Nat} {ru : Nat → Nat → Nat} {ml me mh mo mi mt ma mx : Nat → Int32} (hu : UL cnt ru) (hM : UM cnt ru ml me mh mo mi mt ma mx) {m : Nat} (hm : m < 6) {u : Nat → Nat} (u12 : ∀ i, i < 6 → u i ≤ 12) {mc : Nat → Int32} (hmc : mc m = nI (c5p u)) (k286 : Int32 → (Nat → Int32) → Option (Int32 × (Nat → Int32))) (cells : Nat → Int32) {c N : Nat} (hc : c ≤ cnt) (hN : 7 ≤ N) (hz : ∀ i, c ≤ i → i < cnt → ¬ (ru i 6 = 1 ∧ 0 < u i)) : M_step_294 (nI cnt) ma mc k286 N (nI m) (nI c) cells = k286 (nI (m + 1)) cells := by
  have c6 := hu.1
  obtain ⟨p, rfl⟩ : ∃ p, N = p + 1 + (cnt - c) := ⟨N - 1 - (cnt - c), by omega⟩
  rw [q_294skip hu hM hm u12 hmc k286 cells (cnt - c) c (p + 1) (by omega) (fun i h1 h2 => hz i h1 (by omega)), show c + (cnt - c) = cnt by omega, M_step_294, if_pos (nI_le (Nat.le_refl _) (by omega)), nI_1]
theorem q_mlM {cnt : Nat} {ru : Nat → Nat → Nat} {ml me mh mo mi mt ma mx : Nat → Int32} (hu : UL cnt ru) (hM : UM cnt ru ml me mh mo mi mt ma mx) {us : Nat → Nat → Nat} (u12 : ∀ m, m < 6 → ∀ i, i < 6 → us m i ≤ 12) {mc : Nat → Int32} (hmc : ∀ m, m < 6 → mc m = nI (c5p (us m))) {o : Nat → Option Nat} (hou : qou cnt ru us o) {n : Nat} (hn : 40 ≤ n) : ∀ (d m : Nat) (st : qC) (cells : Nat → Int32), m + d = 6 → (∀ j, m ≤ j → j < 6 → ∀ i, o j = some i → i < cnt ∧ 0 < us j i ∧ 0 < ru i 6 ∧ ¬ j = 0 ∧ ¬ st.1 j = -1) → KL st.1 st.2.1 → KT st.1 st.2.1 → KM st.1 st.2.1 st.2.2 cells 81 → ∃ cells', M_step_286 (nI cnt) ma mc (n + d + 1) (nI m) cells = M_step_344 n 0 cells' ∧ KM (qml ru o st m d).1 (qml ru o st m d).2.1 (qml ru o st m d).2.2 cells' 81 ∧ qfr 81 cells cells' := by
  have c6 := hu.1
  intro d
  induction d with
  | zero =>
    intro m st cells e ho hl ht h
    have : m = 6 := by omega
    subst this
    exact ⟨cells, by rw [M_step_286, if_pos q_y6], h, fun _ _ => rfl⟩
  | succ d ih =>
    intro m st cells e ho hl ht h
    have hm : m < 6 := by omega
    have ho' : ∀ j, m + 1 ≤ j → j < 6 → ∀ i, o j = some i → i < cnt ∧ 0 < us j i ∧ 0 < ru i 6 ∧ ¬ j = 0 ∧ ¬ st.1 j = -1 := fun j h1 h2 => ho j (by omega) h2
    have st0 : M_step_286 (nI cnt) ma mc (n + (d + 1) + 1) (nI m) cells = M_step_294 (nI cnt) ma mc (M_step_286 (nI cnt) ma mc (n + d + 1)) (n + d + 1) (nI m) (nI 0) cells := by
      show M_step_286 (nI cnt) ma mc ((n + d + 1) + 1) (nI m) cells = _
      rw [M_step_286, if_neg (q_n6 hm)]; rfl
    rw [st0]
    have skip : (∀ i, i < cnt → ¬ (ru i 6 = 1 ∧ 0 < us m i)) → M_step_294 (nI cnt) ma mc (M_step_286 (nI cnt) ma mc (n + d + 1)) (n + d + 1) (nI m) (nI 0) cells = M_step_286 (nI cnt) ma mc (n + d + 1) (nI (m + 1)) cells := fun hz => q_294end hu hM hm (u12 m hm) (hmc m hm) _ cells (Nat.zero_le _) (by omega) (fun i _ h2 => hz i h2)
    unfold qml
    cases om : o m with
    | none =>
      rw [skip (fun i hi z => by have := hou m hm i hi z.2 (by omega); rw [om] at this; cases this)]
      exact ih (m + 1) st cells (by omega) ho' hl ht h
    | some i =>
      obtain ⟨o1, o2, o3, o4, o5⟩ := ho m (Nat.le_refl _) hm i om
      have uni : ∀ j, j < cnt → ru j 6 = 1 ∧ 0 < us m j → j = i := fun j hj z => by
        have := hou m hm j hj z.2 (by omega)
        rw [om] at this
        cases this
        rfl
      dsimp only
      by_cases x : ru i 6 = 1
      · rw [if_pos x]
        have s0 : M_step_294 (nI cnt) ma mc (M_step_286 (nI cnt) ma mc (n + d + 1)) (n + d + 1) (nI m) (nI 0) cells = M_step_294 (nI cnt) ma mc (M_step_286 (nI cnt) ma mc (n + d + 1)) (n + d - i + 1) (nI m) (nI i) cells := by
          have w := q_294skip hu hM hm (u12 m hm) (hmc m hm) (M_step_286 (nI cnt) ma mc (n + d + 1)) cells i 0 (n + d - i + 1) (by omega) (fun j h1 h2 z => by have := uni j (by omega) z; omega)
          rw [show n + d - i + 1 + i = n + d + 1 by omega, Nat.zero_add] at w
          exact w
        have u32 : ∀ k, k < 6 → us m k < 32 := fun k hk => by have := u12 m hm k hk; omega
        have c7 := (hM i o1).2.2.2.2.2.2.1
        have up := u12 m hm i (by omega)
        obtain ⟨d1, t1, t2, t3⟩ := q_meltM hl h hm o4 o5 (KT_ne ht hm o4 o5) (n := n + d - i) (by omega)
        rw [s0, M_step_294, if_neg (nI_ge o1 (by omega)), nI_clamp (by omega), if_neg (q_in (by omega) (by omega)), c7, if_pos (show nI (ru i 6) = 1 by rw [x]; rfl), nI_clamp (by omega), if_neg (q_in hm (by omega)), hmc m hm, q_used u32 (by omega), Option.bind_some, if_neg (nI_nle o2 (by omega)), t1, Option.bind_some, nI_1, q_294end hu hM hm (u12 m hm) (hmc m hm) _ d1 (by omega) (by omega) (fun j h1 h2 z => by have := uni j h2 z; omega)]
        obtain ⟨d2, y1, y2, y3⟩ := ih (m + 1) (eUp st.1 m (-1), qmp st.2.1 m, qma st.2.1 st.2.2 m) d1 (by omega) (fun j h1 h2 i' hi' => by
          obtain ⟨p1, p2, p3, p4, p5⟩ := ho j (by omega) h2 i' hi'
          refine ⟨p1, p2, p3, p4, ?_⟩
          show ¬ eUp st.1 m (-1) j = -1
          rw [q_un (by omega)]; exact p5) (KL_melt hl hm o4 o5 (KT_ne ht hm o4 o5)) (KT_melt ht hm o4 o5) t2
        exact ⟨d2, y1, y2, qfr_trans t3 y3⟩
      · rw [if_neg x, skip (fun j hj z => x (by have := uni j hj z; rw [← this]; exact z.1))]
        exact ih (m + 1) st cells (by omega) ho' hl ht h

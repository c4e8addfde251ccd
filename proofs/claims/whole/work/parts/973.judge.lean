theorem KM_low {lab : Nat → Int32} {par : Nat → Nat} {am : Nat → Nat → Nat} {cells cells' : Nat → Int32} {row : Nat} (h : KM lab par am cells row) (hr : row < 41) (hf : ∀ j, j < 47 * 41 → cells' j = cells j) : KM lab par am cells' row := by
  refine ⟨fun m hm => ?_, fun m hm => ?_, fun m hm k hk => ?_⟩
  · rw [hf _ (by omega)]; exact h.1 m hm
  · rw [hf _ (by omega)]; exact h.2.1 m hm
  · rw [hf _ (by omega)]; exact h.2.2 m hm k hk
theorem KMs_81 {cells cells' : Nat → Int32} {acc : List qC} (h : KMs cells 41 acc) (h40 : acc.length ≤ 40) (hf : qfr 81 cells cells') : KMs cells' 41 acc := fun i s hs => KM_fr (h i s hs) hf (by have := (List.getElem?_eq_some_iff.mp hs).1; omega)
theorem q_97a {st : qC} {row : Nat} (hI : KI st) (hr : row < 41) {cnt : Nat} {ru : Nat → Nat → Nat} (hu : UL cnt ru) {ml me mh mo mi mt ma mx li be mn : Nat → Int32} (hM : UM cnt ru ml me mh mo mi mt ma mx) (hT : qtM st.1 (qln st cnt ru) (qL st cnt ru) li be mn 6) (hP : qpr (qln st cnt ru) 6 ≤ 1000) (R U : Nat → Int32) (A ld : Int32) {N : Nat} (hN : 200 ≤ N) {dg : Nat → Nat} {dgI : Nat → Int32} {acc : List qC} {cells : Nat → Int32} (chs : Nat → Int32) (hd : ∀ j, j < 6 → dg j < qln st cnt ru j) (hdI : ∀ j, j < 6 → dgI j = nI (dg j)) (h : KM st.1 st.2.1 st.2.2 cells row) (hA : KMs cells 41 acc) (h40 : acc.length ≤ 40) (hK : ∀ a, a ∈ acc → KI a) :
    (qstep st cnt ru (qus st cnt ru dg) = none → ∃ cells' chs' dgI', M_spread_97 (nI row) (nI cnt) me mh mo mi mt ma mx (N + 1) 1 cells (nI acc.length) R U A li ld be mn dgI chs = M_spread_97 (nI row) (nI cnt) me mh mo mi mt ma mx N (if (qinc (qln st cnt ru) 6 dg).2 = true then 0 else 1) cells' (nI acc.length) R U A li ld be mn dgI' chs' ∧ KMs cells' 41 acc ∧ (∀ j, j < 47 * 41 → cells' j = cells j) ∧ ∀ j, j < 6 → dgI' j = nI ((qinc (qln st cnt ru) 6 dg).1 j))
    ∧ ∀ s, qstep st cnt ru (qus st cnt ru dg) = some s → (qkeep acc s = none → ∃ res, M_spread_97 (nI row) (nI cnt) me mh mo mi mt ma mx (N + 1) 1 cells (nI acc.length) R U A li ld be mn dgI chs = some res ∧ res.1 = 0 ∧ ∀ j, j < 47 * 41 → res.2.1 j = cells j)
      ∧ ∀ acc', qkeep acc s = some acc' → ∃ cells' chs' dgI', M_spread_97 (nI row) (nI cnt) me mh mo mi mt ma mx (N + 1) 1 cells (nI acc.length) R U A li ld be mn dgI chs = M_spread_97 (nI row) (nI cnt) me mh mo mi mt ma mx N (if (qinc (qln st cnt ru) 6 dg).2 = true then 0 else 1) cells' (nI acc'.length) R U A li ld be mn dgI' chs' ∧ KMs cells' 41 acc' ∧ (∀ j, j < 47 * 41 → cells' j = cells j) ∧ (∀ j, j < 6 → dgI' j = nI ((qinc (qln st cnt ru) 6 dg).1 j)) ∧ acc'.length ≤ 40 ∧ ∀ a, a ∈ acc' → KI a := by
  have hk := hI.2.2.1
  have lp := qln_pos (st := st) hu hk
  have lt : ∀ j, j < 6 → qln st cnt ru j < 2 ^ 31 := fun j hj => by
    have a := qsu_le lp 6 (by omega)
    have b := qsu_mono (ln := qln st cnt ru) (6 - (j + 1)) (j + 1)
    rw [show j + 1 + (6 - (j + 1)) = 6 by omega] at b
    have c : qsu (qln st cnt ru) (j + 1) = qsu (qln st cnt ru) j + qln st cnt ru j := rfl
    omega
  obtain ⟨p, rfl⟩ : ∃ p, N = p + 1 + 6 := ⟨N - 7, by omega⟩
  have low : ∀ c : Nat → Int32, qfr 81 cells c → ∀ j, j < 47 * 41 → c j = cells j := fun c hf j hj => hf j (by omega)
  generalize hk97 : M_spread_97 (nI row) (nI cnt) me mh mo mi mt ma mx (p + 1 + 6) = k97
  obtain ⟨chs', f1, f2⟩ := q_104 hI h (by omega) hu hT hP hd hdI (me := me) (mh := mh) (mo := mo) (mi := mi) (mt := mt) (ma := ma) (mx := mx) k97 (nI acc.length) R U A ld (n := p + 1) 6 0 chs (by omega) (fun j hj => absurd hj (by omega))
  have f1' : M_spread_104 (nI row) (nI cnt) me mh mo mi mt ma mx k97 (p + 1 + 6) 0 cells (nI acc.length) R U A li ld be mn dgI chs = M_spread_104 (nI row) (nI cnt) me mh mo mi mt ma mx k97 (p + 1) (nI 6) cells (nI acc.length) R U A li ld be mn dgI chs' := f1
  have e5 : (5 : Int32) = nI 6 + (-1 : Int32) := by decide
  obtain ⟨s1, s2⟩ := q_stepM hI h (by omega) hu hM (qus_chosen hd) f2 (n := p) (by omega)
  have q178 := fun (c : Nat → Int32) (mo' : Int32) => q_178 (fun j hj => (hT j hj).1) lp lt k97 c mo' R U A li ld be chs' 6 p dg dgI (by omega) (by omega) hd hdI
  rw [M_spread_97, if_neg (by decide), hk97, f1', M_spread_104, if_pos q_y6]
  refine ⟨fun q => ?_, fun s q => ⟨fun g => ?_, fun acc' g => ?_⟩⟩
  · obtain ⟨c1, t1, t2⟩ := s1 q
    obtain ⟨dgI', g1, g2⟩ := q178 c1 (nI acc.length)
    rw [t1, Option.bind_some, if_pos rfl, e5, g1]
    exact ⟨c1, chs', dgI', rfl, KMs_81 hA h40 t2, low c1 t2, g2⟩
  · obtain ⟨c1, t1, t2, t3⟩ := s2 s q
    obtain ⟨a1, _⟩ := q_addM (KMs_81 hA h40 t3) t2 hK (qstep_KI hI hu (qus_chosen hd) q) h40 (n := p) (by omega)
    rw [t1, Option.bind_some, if_neg (show ¬ (1 : Int32) = 0 by decide), a1 g, Option.bind_some, if_pos rfl]
    exact ⟨_, rfl, rfl, low c1 t3⟩
  · obtain ⟨c1, t1, t2, t3⟩ := s2 s q
    obtain ⟨_, a2⟩ := q_addM (KMs_81 hA h40 t3) t2 hK (qstep_KI hI hu (qus_chosen hd) q) h40 (n := p) (by omega)
    obtain ⟨c2, b1, b2, b3, b4, b5⟩ := a2 acc' g
    obtain ⟨dgI', g1, g2⟩ := q178 c2 (nI acc'.length)
    rw [t1, Option.bind_some, if_neg (show ¬ (1 : Int32) = 0 by decide), b1, Option.bind_some, if_neg (show ¬ (1 : Int32) = 0 by decide), e5, g1]
    exact ⟨c2, chs', dgI', rfl, b2, fun j hj => (b3 j hj).trans (low c1 t3 j hj), g2, b4, b5⟩
theorem qwl_1 {st : qC} {cnt : Nat} {ru : Nat → Nat → Nat} (r : Nat) (dg : Nat → Nat) (acc : List qC) : qwl st cnt ru (r + 1) dg acc = (match qstep st cnt ru (qus st cnt ru dg) with
    | none => qwl st cnt ru r (qinc (qln st cnt ru) 6 dg).1 acc
    | some s => match qkeep acc s with
      | none => none
      | some acc' => qwl st cnt ru r (qinc (qln st cnt ru) 6 dg).1 acc') := rfl
theorem q_97 {st : qC} {row : Nat} (hI : KI st) (hr : row < 41) {cnt : Nat} {ru : Nat → Nat → Nat} (hu : UL cnt ru) {ml me mh mo mi mt ma mx li be mn : Nat → Int32} (hM : UM cnt ru ml me mh mo mi mt ma mx) (hT : qtM st.1 (qln st cnt ru) (qL st cnt ru) li be mn 6) (hP : qpr (qln st cnt ru) 6 ≤ 1000) (R U : Nat → Int32) (A ld : Int32) {n : Nat} (hn : 200 ≤ n) : ∀ (r : Nat) (dg : Nat → Nat) (dgI : Nat → Int32) (acc : List qC) (cells chs : Nat → Int32), (∀ j, j < 6 → dg j < qln st cnt ru j) → (∀ j, j < 6 → dgI j = nI (dg j)) → qvl (qln st cnt ru) dg 6 + (r + 1) = qpr (qln st cnt ru) 6 → KM st.1 st.2.1 st.2.2 cells row → KMs cells 41 acc → acc.length ≤ 40 → (∀ a, a ∈ acc → KI a) →
    (qwl st cnt ru (r + 1) dg acc = none → ∃ res, M_spread_97 (nI row) (nI cnt) me mh mo mi mt ma mx (n + r + 1) 1 cells (nI acc.length) R U A li ld be mn dgI chs = some res ∧ res.1 = 0 ∧ ∀ j, j < 47 * 41 → res.2.1 j = cells j)
    ∧ ∀ acc', qwl st cnt ru (r + 1) dg acc = some acc' → ∃ res, M_spread_97 (nI row) (nI cnt) me mh mo mi mt ma mx (n + r + 1) 1 cells (nI acc.length) R U A li ld be mn dgI chs = some res ∧ res.1 = 1 ∧ res.2.2.1 = nI acc'.length ∧ KMs res.2.1 41 acc' ∧ (∀ j, j < 47 * 41 → res.2.1 j = cells j) ∧ acc'.length ≤ 40 ∧ ∀ a, a ∈ acc' → KI a := by
  intro r
  induction r with
  | zero =>
    intro dg dgI acc cells chs hd hdI hv h hA h40 hK
    obtain ⟨i1, i2, i3, i4⟩ := qinc_spec (ln := qln st cnt ru) 6 dg hd
    have cy : (qinc (qln st cnt ru) 6 dg).2 = true := by
      cases c : (qinc (qln st cnt ru) 6 dg).2 with
      | true => rfl
      | false =>
        have a := i1 c
        have b := qvl_lt (ln := qln st cnt ru) 6 i3
        omega
    obtain ⟨a1, a2⟩ := q_97a hI hr hu hM hT hP R U A ld (N := n) hn chs hd hdI h hA h40 hK
    rw [cy, if_pos rfl] at a1 a2
    have fin : ∀ (c : Nat → Int32) (mo' : Int32) (dgI' chs' : Nat → Int32), M_spread_97 (nI row) (nI cnt) me mh mo mi mt ma mx n 0 c mo' R U A li ld be mn dgI' chs' = some (1, c, mo', R, U, A, li, ld, be, mn, dgI', chs') := by
      intro c mo' dgI' chs'
      obtain ⟨n, rfl⟩ : ∃ m, n = m + 1 := ⟨n - 1, by omega⟩
      rw [M_spread_97, if_pos rfl]; rfl
    rw [qwl_1]
    cases q : qstep st cnt ru (qus st cnt ru dg) with
    | none =>
      obtain ⟨c1, chs', dgI', t1, t2, t3, t4⟩ := a1 q
      dsimp only
      refine ⟨fun z => (by cases z), fun acc' z => ?_⟩
      cases z
      exact ⟨_, by rw [show n + 0 + 1 = n + 1 from rfl, t1, fin], rfl, rfl, t2, t3, h40, hK⟩
    | some s =>
      obtain ⟨b1, b2⟩ := a2 s q
      dsimp only
      cases g : qkeep acc s with
      | none => exact ⟨fun _ => b1 g, fun acc' z => (by cases z)⟩
      | some acc1 =>
        obtain ⟨c1, chs', dgI', t1, t2, t3, t4, t5, t6⟩ := b2 acc1 g
        dsimp only
        refine ⟨fun z => (by cases z), fun acc' z => ?_⟩
        cases z
        exact ⟨_, by rw [show n + 0 + 1 = n + 1 from rfl, t1, fin], rfl, rfl, t2, t3, t5, t6⟩
  | succ r ih =>
    intro dg dgI acc cells chs hd hdI hv h hA h40 hK
    obtain ⟨i1, i2, i3, i4⟩ := qinc_spec (ln := qln st cnt ru) 6 dg hd
    have cy : (qinc (qln st cnt ru) 6 dg).2 = false := by
      cases c : (qinc (qln st cnt ru) 6 dg).2 with
      | false => rfl
      | true =>
        have a := i2 c
        omega
    have v1 := i1 cy
    obtain ⟨a1, a2⟩ := q_97a hI hr hu hM hT hP R U A ld (N := n + r + 1) (by omega) chs hd hdI h hA h40 hK
    rw [cy, if_neg (by decide)] at a1 a2
    rw [qwl_1]
    have nn : n + (r + 1) + 1 = n + r + 1 + 1 := by omega
    rw [nn]
    cases q : qstep st cnt ru (qus st cnt ru dg) with
    | none =>
      obtain ⟨c1, chs', dgI', t1, t2, t3, t4⟩ := a1 q
      dsimp only
      rw [t1]
      obtain ⟨r1, r2⟩ := ih (qinc (qln st cnt ru) 6 dg).1 dgI' acc c1 chs' i3 t4 (by omega) (KM_low h hr t3) t2 h40 hK
      refine ⟨fun z => ?_, fun acc' z => ?_⟩
      · obtain ⟨res, x1, x2, x3⟩ := r1 z
        exact ⟨res, x1, x2, fun j hj => (x3 j hj).trans (t3 j hj)⟩
      · obtain ⟨res, x1, x2, x3, x4, x5, x6, x7⟩ := r2 acc' z
        exact ⟨res, x1, x2, x3, x4, fun j hj => (x5 j hj).trans (t3 j hj), x6, x7⟩
    | some s =>
      obtain ⟨b1, b2⟩ := a2 s q
      dsimp only
      cases g : qkeep acc s with
      | none => exact ⟨fun _ => b1 g, fun acc' z => (by cases z)⟩
      | some acc1 =>
        obtain ⟨c1, chs', dgI', t1, t2, t3, t4, t5, t6⟩ := b2 acc1 g
        dsimp only
        rw [t1]
        obtain ⟨r1, r2⟩ := ih (qinc (qln st cnt ru) 6 dg).1 dgI' acc1 c1 chs' i3 t4 (by omega) (KM_low h hr t3) t2 t5 t6
        refine ⟨fun z => ?_, fun acc' z => ?_⟩
        · obtain ⟨res, x1, x2, x3⟩ := r1 z
          exact ⟨res, x1, x2, fun j hj => (x3 j hj).trans (t3 j hj)⟩
        · obtain ⟨res, x1, x2, x3, x4, x5, x6, x7⟩ := r2 acc' z
          exact ⟨res, x1, x2, x3, x4, fun j hj => (x5 j hj).trans (t3 j hj), x6, x7⟩
theorem qvl_0 {ln : Nat → Nat} : ∀ m, qvl ln (fun _ => 0) m = 0 := by
  intro m
  induction m with
  | zero => rfl
  | succ m ih =>
    show qvl ln (fun _ => 0) m * ln m + 0 = 0
    rw [ih, Nat.zero_mul]
theorem q_spreadM {st : qC} (hI : KI st) {cnt : Nat} {ru : Nat → Nat → Nat} (hu : UL cnt ru) : ∃ K, ∀ (row : Nat) (ml me mh mo mi mt ma mx cells : Nat → Int32), KM st.1 st.2.1 st.2.2 cells row → row < 41 → UM cnt ru ml me mh mo mi mt ma mx → ∀ n, K ≤ n → ∀ (R U : Nat → Int32) (A : Int32) (li be mn dg chs : Nat → Int32) (acc : List qC), KMs cells 41 acc → acc.length ≤ 40 → (∀ a, a ∈ acc → KI a) →
    (qspr st cnt ru acc = none → ∃ res, M_spread n (nI row) (nI cnt) ml me mh mo mi mt ma mx cells (nI acc.length) R U A li be mn dg chs = some res ∧ res.1 = 0 ∧ ∀ j, j < 47 * 41 → res.2.1 j = cells j)
    ∧ ∀ acc', qspr st cnt ru acc = some acc' → ∃ res, M_spread n (nI row) (nI cnt) ml me mh mo mi mt ma mx cells (nI acc.length) R U A li be mn dg chs = some res ∧ res.1 = 1 ∧ res.2.2.1 = nI acc'.length ∧ KMs res.2.1 41 acc' ∧ (∀ j, j < 47 * 41 → res.2.1 j = cells j) ∧ acc'.length ≤ 40 ∧ ∀ a, a ∈ acc' → KI a := by
  have lp := qln_pos (st := st) hu hI.2.2.1
  obtain ⟨K, hK⟩ := q_spread9 hI hu 6 0 (by omega) (show 1 ≤ 1000 by decide)
  refine ⟨K + 1300, fun row ml me mh mo mi mt ma mx cells h hr hM n hn R U A li be mn dg chs acc hA h40 hKI => ?_⟩
  obtain ⟨N, rfl⟩ : ∃ N, n = N + 6 + 1 := ⟨n - 7, by omega⟩
  obtain ⟨k1, k2⟩ := hK row ml me mh mo mi mt ma mx cells h (by omega) hM N (by omega) (nI acc.length) R U A li be mn dg chs (fun j hj => absurd hj (by omega)) (fun j hj => absurd hj (by omega))
  have st0 : M_spread (N + 6 + 1) (nI row) (nI cnt) ml me mh mo mi mt ma mx cells (nI acc.length) R U A li be mn dg chs = M_spread_9 (nI row) (nI cnt) ml me mh mo mi mt ma mx (N + 6 + 1) (nI (qpr (qln st cnt ru) 0)) (nI 0) cells (nI acc.length) R U A li (nI (qsv st.1 (qln st cnt ru) 0)) be mn dg chs := rfl
  rw [st0]
  unfold qspr
  by_cases hP : qpr (qln st cnt ru) 6 ≤ 1000
  · rw [if_pos hP]
    obtain ⟨R', U', A', li', ld', be', mn', dg', e1, e2, e3⟩ := k1 hP
    rw [e1]
    have pp := qpr_pos lp 6 (by omega)
    obtain ⟨r, hr1⟩ : ∃ r, qpr (qln st cnt ru) 6 = r + 1 := ⟨qpr (qln st cnt ru) 6 - 1, by omega⟩
    obtain ⟨p, hp⟩ : ∃ p, N = p + r + 1 := ⟨N - r - 1, by omega⟩
    rw [hr1, hp]
    exact q_97 hI hr hu hM e2 hP R' U' A' ld' (n := p) (by omega) r (fun _ => 0) dg' acc cells chs (fun j hj => lp j hj) (fun j hj => by rw [e3 j hj]; rfl) (by rw [qvl_0, hr1]; omega) h hA h40 hKI
  · rw [if_neg hP]
    obtain ⟨res, e1, e2, e3⟩ := k2 hP
    refine ⟨fun _ => ⟨res, e1, e2, fun j _ => by rw [e3]⟩, fun acc' z => (by cases z)⟩

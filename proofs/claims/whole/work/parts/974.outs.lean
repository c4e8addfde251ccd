theorem qkeep_inv {acc acc' : List qC} {s : qC} (h : qkeep acc s = some acc') (hs : KI s) (hA : ∀ a, a ∈ acc → KI a) (h40 : acc.length ≤ 40) : (∀ a, a ∈ acc' → KI a) ∧ acc'.length ≤ 40 := by
  unfold qkeep at h
  by_cases x : acc.any (fun a => qsmb a s) = true
  · rw [if_pos x] at h
    cases h
    exact ⟨hA, h40⟩
  · rw [if_neg x] at h
    by_cases y : 40 ≤ acc.length
    · rw [if_pos y] at h; cases h
    · rw [if_neg y] at h
      cases h
      refine ⟨fun a ha => ?_, by rw [List.length_append]; show acc.length + 1 ≤ 40; omega⟩
      rcases List.mem_append.mp ha with w | w
      · exact hA a w
      · cases w with
        | head => exact hs
        | tail _ w => cases w
theorem qwl_inv {st : qC} (hI : KI st) {cnt : Nat} {ru : Nat → Nat → Nat} (hu : UL cnt ru) : ∀ (r : Nat) (dg : Nat → Nat) (acc acc' : List qC), (∀ j, j < 6 → dg j < qln st cnt ru j) → qwl st cnt ru r dg acc = some acc' → (∀ a, a ∈ acc → KI a) → acc.length ≤ 40 → (∀ a, a ∈ acc' → KI a) ∧ acc'.length ≤ 40 := by
  intro r
  induction r with
  | zero =>
    intro dg acc acc' _ h hA h40
    cases h
    exact ⟨hA, h40⟩
  | succ r ih =>
    intro dg acc acc' hd h hA h40
    have i3 := (qinc_spec (ln := qln st cnt ru) 6 dg hd).2.2.1
    rw [qwl_1] at h
    cases q : qstep st cnt ru (qus st cnt ru dg) with
    | none =>
      rw [q] at h
      exact ih _ _ _ i3 h hA h40
    | some s =>
      rw [q] at h
      dsimp only at h
      cases g : qkeep acc s with
      | none => rw [g] at h; cases h
      | some acc1 =>
        rw [g] at h
        obtain ⟨k1, k2⟩ := qkeep_inv g (qstep_KI hI hu (qus_chosen hd) q) hA h40
        exact ih _ _ _ i3 h k1 k2
theorem qspr_inv {st : qC} (hI : KI st) {cnt : Nat} {ru : Nat → Nat → Nat} (hu : UL cnt ru) {acc acc' : List qC} (h : qspr st cnt ru acc = some acc') (hA : ∀ a, a ∈ acc → KI a) (h40 : acc.length ≤ 40) : (∀ a, a ∈ acc' → KI a) ∧ acc'.length ≤ 40 := by
  unfold qspr at h
  by_cases x : qpr (qln st cnt ru) 6 ≤ 1000
  · rw [if_pos x] at h
    exact qwl_inv hI hu _ _ _ _ (fun j hj => qln_pos hu hI.2.2.1 j hj) h hA h40
  · rw [if_neg x] at h; cases h
theorem qgo_inv {cnt : Nat} {ru : Nat → Nat → Nat} (hu : UL cnt ru) : ∀ (l acc acc' : List qC), (∀ a, a ∈ l → KI a) → qgo cnt ru l acc = some acc' → (∀ a, a ∈ acc → KI a) → acc.length ≤ 40 → (∀ a, a ∈ acc' → KI a) ∧ acc'.length ≤ 40 := by
  intro l
  induction l with
  | nil =>
    intro acc acc' _ h hA h40
    cases h
    exact ⟨hA, h40⟩
  | cons s l ih =>
    intro acc acc' hl h hA h40
    have qe : qgo cnt ru (s :: l) acc = (match qspr s cnt ru acc with
      | none => none
      | some acc' => qgo cnt ru l acc') := rfl
    rw [qe] at h
    cases q : qspr s cnt ru acc with
    | none => rw [q] at h; cases h
    | some acc1 =>
      rw [q] at h
      obtain ⟨k1, k2⟩ := qspr_inv (hl s (List.mem_cons_self ..)) hu q hA h40
      exact ih _ _ (fun a ha => hl a (List.mem_cons_of_mem _ ha)) h k1 k2
theorem qouts_inv {cnt : Nat} {ru : Nat → Nat → Nat} (hu : UL cnt ru) : ∀ (r : Nat) (l l' : List qC), (∀ a, a ∈ l → KI a) → l.length ≤ 40 → qouts cnt ru r l = some l' → (∀ a, a ∈ l' → KI a) ∧ l'.length ≤ 40 := by
  intro r
  induction r with
  | zero =>
    intro l l' hl h40 h
    cases h
    exact ⟨hl, h40⟩
  | succ r ih =>
    intro l l' hl h40 h
    have qe : qouts cnt ru (r + 1) l = (match qgo cnt ru l [] with
      | none => none
      | some l' => qouts cnt ru r l') := rfl
    rw [qe] at h
    cases q : qgo cnt ru l [] with
    | none => rw [q] at h; cases h
    | some l1 =>
      rw [q] at h
      obtain ⟨k1, k2⟩ := qgo_inv hu l [] l1 hl q (fun a ha => absurd ha List.not_mem_nil) (Nat.zero_le _)
      exact ih _ _ k1 k2 h
theorem KMs_low {cells cells' : Nat → Int32} {l : List qC} (h : KMs cells 1 l) (h40 : l.length ≤ 40) (hf : ∀ j, j < 47 * 41 → cells' j = cells j) : KMs cells' 1 l := fun i s hs => KM_low (h i s hs) (by have := (List.getElem?_eq_some_iff.mp hs).1; omega) hf
abbrev qK40 := Int32 → Int32 → (Nat → Int32) → Int32 → Int32 → (Nat → Int32) → (Nat → Int32) → Int32 → (Nat → Int32) → Int32 → (Nat → Int32) → (Nat → Int32) → (Nat → Int32) → (Nat → Int32) → Option (Int32 × Int32 × (Nat → Int32) × Int32 × Int32 × (Nat → Int32) × (Nat → Int32) × Int32 × (Nat → Int32) × Int32 × (Nat → Int32) × (Nat → Int32) × (Nat → Int32) × (Nat → Int32))
theorem q_52 {cnt : Nat} {ru : Nat → Nat → Nat} (hu : UL cnt ru) {l : List qC} (hl : ∀ a, a ∈ l → KI a) (l40 : l.length ≤ 40) : ∀ (rem : List qC) (i : Nat) (acc : List qC), l.drop i = rem → i + rem.length = l.length → (∀ a, a ∈ acc → KI a) → acc.length ≤ 40 → ∃ K, ∀ (ml me mh mo mi mt ma mx : Nat → Int32), UM cnt ru ml me mh mo mi mt ma mx → ∀ p, K ≤ p → ∀ (k40 : qK40) (L2 code : Int32) (cells R U : Nat → Int32) (A : Int32) (li : Nat → Int32) (ld : Int32) (be mn dg chs : Nat → Int32), KMs cells 1 l → KMs cells 41 acc →
    (qgo cnt ru rem acc = none → ∃ res, M_outcomes_52 (nI cnt) ml me mh mo mi mt ma mx k40 (p + rem.length + 1) L2 (nI i) code cells (nI l.length) (nI acc.length) R U A li ld be mn dg chs = some res ∧ res.1 = -2 ∧ res.2.1 = code ∧ (∀ j, j < 47 → res.2.2.1 j = cells j) ∧ res.2.2.2.1 = 0)
    ∧ ∀ acc', qgo cnt ru rem acc = some acc' → ∃ cells' R' U' A' li' ld' be' mn' dg' chs', M_outcomes_52 (nI cnt) ml me mh mo mi mt ma mx k40 (p + rem.length + 1) L2 (nI i) code cells (nI l.length) (nI acc.length) R U A li ld be mn dg chs = M_outcomes_94 k40 p L2 0 code cells' (nI acc'.length) (nI acc'.length) R' U' A' li' ld' be' mn' dg' chs' ∧ KMs cells' 41 acc' ∧ ∀ j, j < 47 * 41 → cells' j = cells j := by
  intro rem
  induction rem with
  | nil =>
    intro i acc hd hi hA h40
    refine ⟨0, fun ml me mh mo mi mt ma mx hM p hp k40 L2 code cells R U A li ld be mn dg chs h1 h2 => ⟨fun z => (by cases z), fun acc' z => ?_⟩⟩
    cases z
    have e : i = l.length := hi
    exact ⟨cells, R, U, A, li, ld, be, mn, dg, chs, by rw [M_outcomes_52, if_pos (nI_le (by omega) (by omega))]; rfl, h2, fun _ _ => rfl⟩
  | cons s rem ih =>
    intro i acc hd hi hA h40
    have hi' : i + (rem.length + 1) = l.length := hi
    have gi : l[i]? = some s := by
      have : (l.drop i)[0]? = some s := by rw [hd]; rfl
      rw [List.getElem?_drop] at this
      exact this
    have hd' : l.drop (i + 1) = rem := by
      have : (l.drop i).drop 1 = rem := by rw [hd]; rfl
      rw [List.drop_drop] at this
      exact this
    have hs : KI s := hl s (List.mem_of_getElem? gi)
    have qe : qgo cnt ru (s :: rem) acc = (match qspr s cnt ru acc with
      | none => none
      | some acc' => qgo cnt ru rem acc') := rfl
    rw [qe]
    obtain ⟨K1, hK1⟩ := q_spreadM hs hu
    have e1 : (1 : Int32) + nI i = nI (1 + i) := nI_add 1 i
    cases q : qspr s cnt ru acc with
    | none =>
      refine ⟨K1, fun ml me mh mo mi mt ma mx hM p hp k40 L2 code cells R U A li ld be mn dg chs h1 h2 => ⟨fun _ => ?_, fun acc' z => (by cases z)⟩⟩
      obtain ⟨k1, _⟩ := hK1 (1 + i) ml me mh mo mi mt ma mx cells (h1 i s gi) (by omega) hM (p + (rem.length + 1)) (by omega) R U A li be mn dg chs acc h2 h40 hA
      obtain ⟨res, x1, x2, x3⟩ := k1 q
      refine ⟨_, by
        show M_outcomes_52 (nI cnt) ml me mh mo mi mt ma mx k40 (p + (rem.length + 1) + 1) L2 (nI i) code cells (nI l.length) (nI acc.length) R U A li ld be mn dg chs = _
        rw [M_outcomes_52, if_neg (nI_ge (by omega) (by omega)), e1, x1, Option.bind_some, if_pos x2], rfl, rfl, fun j hj => x3 j (by omega), rfl⟩
    | some acc1 =>
      obtain ⟨k1, k2⟩ := qspr_inv hs hu q hA h40
      obtain ⟨K2, hK2⟩ := ih (i + 1) acc1 hd' (by omega) k1 k2
      refine ⟨K1 + K2, fun ml me mh mo mi mt ma mx hM p hp k40 L2 code cells R U A li ld be mn dg chs h1 h2 => ?_⟩
      obtain ⟨_, k4⟩ := hK1 (1 + i) ml me mh mo mi mt ma mx cells (h1 i s gi) (by omega) hM (p + (rem.length + 1)) (by omega) R U A li be mn dg chs acc h2 h40 hA
      obtain ⟨res, x1, x2, x3, x4, x5, x6, x7⟩ := k4 acc1 q
      have st0 : M_outcomes_52 (nI cnt) ml me mh mo mi mt ma mx k40 (p + (s :: rem).length + 1) L2 (nI i) code cells (nI l.length) (nI acc.length) R U A li ld be mn dg chs = M_outcomes_52 (nI cnt) ml me mh mo mi mt ma mx k40 (p + rem.length + 1) L2 (nI (i + 1)) code res.2.1 (nI l.length) (nI acc1.length) res.2.2.2.1 res.2.2.2.2.1 res.2.2.2.2.2.1 res.2.2.2.2.2.2.1 res.2.2.2.2.2.2.2.1 res.2.2.2.2.2.2.2.2.1 res.2.2.2.2.2.2.2.2.2.1 res.2.2.2.2.2.2.2.2.2.2.1 res.2.2.2.2.2.2.2.2.2.2.2 := by
        show M_outcomes_52 (nI cnt) ml me mh mo mi mt ma mx k40 (p + (rem.length + 1) + 1) L2 (nI i) code cells (nI l.length) (nI acc.length) R U A li ld be mn dg chs = _
        rw [M_outcomes_52, if_neg (nI_ge (by omega) (by omega)), e1, x1, Option.bind_some, if_neg (by rw [x2]; decide), nI_1, x3]
        rfl
      rw [st0]
      obtain ⟨y1, y2⟩ := hK2 ml me mh mo mi mt ma mx hM p (by omega) k40 L2 code res.2.1 res.2.2.2.1 res.2.2.2.2.1 res.2.2.2.2.2.1 res.2.2.2.2.2.2.1 res.2.2.2.2.2.2.2.1 res.2.2.2.2.2.2.2.2.1 res.2.2.2.2.2.2.2.2.2.1 res.2.2.2.2.2.2.2.2.2.2.1 res.2.2.2.2.2.2.2.2.2.2.2 (KMs_low h1 l40 x5) x4
      refine ⟨fun z => ?_, fun acc' z => ?_⟩
      · obtain ⟨r', z1, z2, z3, z4, z5⟩ := y1 z
        exact ⟨r', z1, z2, z3, fun j hj => (z4 j hj).trans (x5 j (by omega)), z5⟩
      · obtain ⟨c', R', U', A', li', ld', be', mn', dg', chs', z1, z2, z3⟩ := y2 acc' z
        exact ⟨c', R', U', A', li', ld', be', mn', dg', chs', z1, z2, fun j hj => (z3 j hj).trans (x5 j hj)⟩
theorem q_94 {acc : List qC} (h40 : acc.length ≤ 40) (k40 : qK40) (L2 code more : Int32) (R U : Nat → Int32) (A : Int32) (li : Nat → Int32) (ld : Int32) (be mn dg chs : Nat → Int32) {n : Nat} (hn : 60 ≤ n) : ∀ (d i : Nat) (cells : Nat → Int32), i + d = acc.length → KMs cells 41 acc → (∀ j s, j < i → acc[j]? = some s → KM s.1 s.2.1 s.2.2 cells (1 + j)) → ∃ cells', M_outcomes_94 k40 (n + d + 1) L2 (nI i) code cells (nI acc.length) more R U A li ld be mn dg chs = k40 (L2 + 1) code cells' (nI acc.length) more R U A li ld be mn dg chs ∧ KMs cells' 1 acc ∧ ∀ j, j < 47 → cells' j = cells j := by
  intro d
  induction d with
  | zero =>
    intro i cells e h1 h2
    refine ⟨cells, by rw [M_outcomes_94, if_pos (nI_le (by omega) (by omega))], fun j s hs => h2 j s ?_ hs, fun _ _ => rfl⟩
    have := (List.getElem?_eq_some_iff.mp hs).1
    omega
  | succ d ih =>
    intro i cells e h1 h2
    have il : i < acc.length := by omega
    have e1 : (41 : Int32) + nI i = nI (41 + i) := nI_add 41 i
    have e2 : (1 : Int32) + nI i = nI (1 + i) := nI_add 1 i
    obtain ⟨c1, f1, f2, f3⟩ := q_copyM (fr := 41 + i) (to := 1 + i) (by omega) (by omega) (by omega) cells (n := n + d + 1) (by omega)
    have st0 : M_outcomes_94 k40 (n + (d + 1) + 1) L2 (nI i) code cells (nI acc.length) more R U A li ld be mn dg chs = M_outcomes_94 k40 (n + d + 1) L2 (nI (i + 1)) code c1 (nI acc.length) more R U A li ld be mn dg chs := by
      show M_outcomes_94 k40 ((n + d + 1) + 1) L2 (nI i) code cells (nI acc.length) more R U A li ld be mn dg chs = _
      rw [M_outcomes_94, if_neg (nI_ge il (by omega)), e1, e2, f1, Option.bind_some, nI_1]
    have hf : qfr (1 + i) cells c1 := f3
    rw [st0]
    obtain ⟨c2, g1, g2, g3⟩ := ih (i + 1) c1 (by omega) (fun j s hs => KM_fr (h1 j s hs) hf (by have := (List.getElem?_eq_some_iff.mp hs).1; omega)) (fun j s hj hs => by
      by_cases ji : j = i
      · subst ji
        exact KM_copy (h1 j s hs) f2
      · exact KM_fr (h2 j s (by omega) hs) hf (by omega))
    exact ⟨c2, g1, g2, fun j hj => (g3 j hj).trans (f3 j (by omega))⟩
theorem q_40 {cnt : Nat} {ru : Nat → Nat → Nat} (hu : UL cnt ru) {r : Nat} (hr : r ≤ 3) : ∀ (d t : Nat) (l : List qC), t + d = r → (∀ a, a ∈ l → KI a) → l.length ≤ 40 → ∃ K, ∀ (ml me mh mo mi mt ma mx : Nat → Int32), UM cnt ru ml me mh mo mi mt ma mx → ∀ n, K ≤ n → ∀ (code : Int32) (cells : Nat → Int32) (more : Int32) (R U : Nat → Int32) (A : Int32) (li : Nat → Int32) (ld : Int32) (be mn dg chs : Nat → Int32), KMs cells 1 l →
    (qouts cnt ru d l = none → ∃ res, M_outcomes_40 (nI r) (nI cnt) ml me mh mo mi mt ma mx n (nI t) code cells (nI l.length) more R U A li ld be mn dg chs = some res ∧ res.1 = -2 ∧ res.2.1 = code ∧ (∀ j, j < 47 → res.2.2.1 j = cells j) ∧ res.2.2.2.1 = 0)
    ∧ ∀ l', qouts cnt ru d l = some l' → ∃ res, M_outcomes_40 (nI r) (nI cnt) ml me mh mo mi mt ma mx n (nI t) code cells (nI l.length) more R U A li ld be mn dg chs = some res ∧ res.1 = nI l'.length ∧ res.2.1 = code ∧ (∀ j, j < 47 → res.2.2.1 j = cells j) ∧ res.2.2.2.1 = nI l'.length ∧ KMs res.2.2.1 1 l' := by
  intro d
  induction d with
  | zero =>
    intro t l e hl h40
    refine ⟨1, fun ml me mh mo mi mt ma mx hM n hn code cells more R U A li ld be mn dg chs h1 => ⟨fun z => (by cases z), fun l' z => ?_⟩⟩
    cases z
    obtain ⟨n, rfl⟩ : ∃ m, n = m + 1 := ⟨n - 1, by omega⟩
    exact ⟨_, by rw [M_outcomes_40, if_pos (nI_le (by omega) (by omega))], rfl, rfl, fun _ _ => rfl, rfl, h1⟩
  | succ d ih =>
    intro t l e hl h40
    have qe : qouts cnt ru (d + 1) l = (match qgo cnt ru l [] with
      | none => none
      | some l' => qouts cnt ru d l') := rfl
    rw [qe]
    obtain ⟨K1, hK1⟩ := q_52 hu hl h40 l 0 [] rfl (by omega) (fun a ha => absurd ha List.not_mem_nil) (Nat.zero_le _)
    have nil41 : ∀ c : Nat → Int32, KMs c 41 [] := fun c i s hs => by cases hs
    have step : ∀ (ml me mh mo mi mt ma mx : Nat → Int32) (n : Nat) (code : Int32) (cells : Nat → Int32) (more : Int32) (R U : Nat → Int32) (A : Int32) (li : Nat → Int32) (ld : Int32) (be mn dg chs : Nat → Int32), M_outcomes_40 (nI r) (nI cnt) ml me mh mo mi mt ma mx (n + 1) (nI t) code cells (nI l.length) more R U A li ld be mn dg chs = M_outcomes_52 (nI cnt) ml me mh mo mi mt ma mx (M_outcomes_40 (nI r) (nI cnt) ml me mh mo mi mt ma mx n) n (nI t) (nI 0) code cells (nI l.length) (nI ([] : List qC).length) R U A li ld be mn dg chs := by
      intro ml me mh mo mi mt ma mx n code cells more R U A li ld be mn dg chs
      rw [M_outcomes_40, if_neg (nI_ge (by omega) (by omega))]
      rfl
    cases q : qgo cnt ru l [] with
    | none =>
      refine ⟨K1 + 100, fun ml me mh mo mi mt ma mx hM n hn code cells more R U A li ld be mn dg chs h1 => ⟨fun _ => ?_, fun l' z => (by cases z)⟩⟩
      obtain ⟨p, rfl⟩ : ∃ p, n = p + l.length + 1 + 1 := ⟨n - l.length - 2, by omega⟩
      obtain ⟨k1, _⟩ := hK1 ml me mh mo mi mt ma mx hM p (by omega) (M_outcomes_40 (nI r) (nI cnt) ml me mh mo mi mt ma mx (p + l.length + 1)) (nI t) code cells R U A li ld be mn dg chs h1 (nil41 cells)
      rw [step]
      exact k1 q
    | some l1 =>
      obtain ⟨i1, i2⟩ := qgo_inv hu l [] l1 hl q (fun a ha => absurd ha List.not_mem_nil) (Nat.zero_le _)
      obtain ⟨K2, hK2⟩ := ih (t + 1) l1 (by omega) i1 i2
      refine ⟨K1 + K2 + 300, fun ml me mh mo mi mt ma mx hM n hn code cells more R U A li ld be mn dg chs h1 => ?_⟩
      obtain ⟨p, rfl⟩ : ∃ p, n = p + l1.length + 1 + l.length + 1 + 1 := ⟨n - l1.length - l.length - 3, by omega⟩
      obtain ⟨_, k2⟩ := hK1 ml me mh mo mi mt ma mx hM (p + l1.length + 1) (by omega) (M_outcomes_40 (nI r) (nI cnt) ml me mh mo mi mt ma mx (p + l1.length + 1 + l.length + 1)) (nI t) code cells R U A li ld be mn dg chs h1 (nil41 cells)
      obtain ⟨c', R', U', A', li', ld', be', mn', dg', chs', z1, z2, z3⟩ := k2 l1 q
      obtain ⟨c2, y1, y2, y3⟩ := q_94 i2 (M_outcomes_40 (nI r) (nI cnt) ml me mh mo mi mt ma mx (p + l1.length + 1 + l.length + 1)) (nI t) code (nI l1.length) R' U' A' li' ld' be' mn' dg' chs' (n := p) (by omega) l1.length 0 c' (by omega) z2 (fun j s hj => absurd hj (by omega))
      have y1' : M_outcomes_94 (M_outcomes_40 (nI r) (nI cnt) ml me mh mo mi mt ma mx (p + l1.length + 1 + l.length + 1)) (p + l1.length + 1) (nI t) 0 code c' (nI l1.length) (nI l1.length) R' U' A' li' ld' be' mn' dg' chs' = _ := y1
      rw [step, z1, y1', nI_1]
      obtain ⟨w1, w2⟩ := hK2 ml me mh mo mi mt ma mx hM (p + l1.length + 1 + l.length + 1) (by omega) code c2 (nI l1.length) R' U' A' li' ld' be' mn' dg' chs' y2
      have fr : ∀ j, j < 47 → c2 j = cells j := fun j hj => (y3 j hj).trans (z3 j (by omega))
      refine ⟨fun z => ?_, fun l' z => ?_⟩
      · obtain ⟨res, x1, x2, x3, x4, x5⟩ := w1 z
        exact ⟨res, x1, x2, x3, fun j hj => (x4 j hj).trans (fr j hj), x5⟩
      · obtain ⟨res, x1, x2, x3, x4, x5, x6⟩ := w2 l' z
        exact ⟨res, x1, x2, x3, fun j hj => (x4 j hj).trans (fr j hj), x5, x6⟩

def qra (f : Nat → Bool) : Nat → Nat → Bool
  | _, 0 => true
  | c, d + 1 => f c && qra f (c + 1) d
theorem qra_iff {f : Nat → Bool} : ∀ (d c : Nat), qra f c d = true ↔ ∀ i, c ≤ i → i < c + d → f i = true := by
  intro d
  induction d with
  | zero => intro c; exact ⟨fun _ i h1 h2 => absurd h1 (by omega), fun _ => rfl⟩
  | succ d ih =>
    intro c
    unfold qra
    rw [Bool.and_eq_true, ih (c + 1)]
    refine ⟨fun h i h1 h2 => ?_, fun h => ⟨h c (Nat.le_refl _) (by omega), fun i h1 h2 => h i (by omega) (by omega)⟩⟩
    by_cases e : i = c
    · subst e; exact h.1
    · exact h.2 i (by omega) (by omega)
theorem q_sublt {a b c : Nat} (ha : a < 2 ^ 30) (hb : b < 2 ^ 30) (hc : c < 2 ^ 30) : nI a - nI b < nI c ↔ a < b + c := by
  rw [Int32.lt_iff_toInt_lt, pk_sub_toInt ha hb, nI_toInt (by omega)]
  omega
def qbad (ac al : Nat → Nat) (q p : Nat) : Bool := !(decide (0 < ac q) && (decide (0 < ac p) && decide (0 < al p)))
theorem q_st94 {row mm : Int32} {ml me mi mt ma cells R : Nat → Int32} {A : Int32} {cnt : Nat} {al ac : Nat → Nat} (c6 : cnt ≤ 6) (hal : ∀ i n, i < cnt → 7 ≤ n → M_allowed n row mm (nI i) ml me mi mt ma cells R A = some (nI (al i))) (ha : ∀ i, al i ≤ 12) (hac : ∀ i, i < cnt → ma i = nI (ac i)) (h2 : ∀ i, i < cnt → ac i ≤ 2) (k3 : Int32 → Option Int32) {q : Nat} (hq : q < cnt) : ∀ (d p n : Nat) (b : Bool), p + d = cnt → d + 8 ≤ n → M_stuck_94 row mm (nI cnt) ml me mi mt ma cells R A k3 n (nI q) (qb b) (nI p) = if (b && qra (qbad ac al q) p d) = true then some 1 else k3 (nI (q + 1)) := by
  intro d
  induction d with
  | zero =>
    intro p n b e hn
    obtain ⟨n, rfl⟩ : ∃ m, n = m + 1 := ⟨n - 1, by omega⟩
    rw [M_stuck_94, if_pos (nI_le (by omega) (by omega)), nI_1]
    cases b <;> rfl
  | succ d ih =>
    intro p n b e hn
    obtain ⟨n, rfl⟩ : ∃ m, n = m + 1 := ⟨n - 1, by omega⟩
    have hp : p < cnt := by omega
    have i0 := ih (p + 1) n false (by omega) (by omega)
    have i1 := ih (p + 1) n true (by omega) (by omega)
    rw [show qb false = 0 from rfl] at i0
    rw [show qb true = 1 from rfl] at i1
    rw [M_stuck_94, if_neg (nI_ge hp (by omega)), nI_1, i0, i1]
    have qe : qra (qbad ac al q) p (d + 1) = (qbad ac al q p && qra (qbad ac al q) (p + 1) d) := rfl
    rw [qe]
    cases b with
    | false => rw [if_pos qb_f]; rfl
    | true =>
      have hq2 := h2 q hq
      have hp2 := h2 p hp
      have hap := ha p
      rw [if_neg qb_t, nI_clamp (by omega), if_neg (q_in (by omega) (by omega)), hac q hq]
      unfold qbad
      by_cases x : 0 < ac q
      · rw [if_neg (nI_nle x (by omega)), nI_clamp (by omega), if_neg (q_in (by omega) (by omega)), hac p hp, decide_eq_true x]
        by_cases y : 0 < ac p
        · rw [if_neg (nI_nle y (by omega)), hal p n hp (by omega), Option.bind_some, decide_eq_true y]
          by_cases z : 0 < al p
          · rw [if_pos (show (0 : Int32) < nI (al p) from nI_lt (a := 0) z (by omega)), decide_eq_true z]; rfl
          · have z0 : al p = 0 := by omega
            rw [z0, if_neg (by decide)]; rfl
        · have y0 : ac p = 0 := by omega
          rw [y0, if_pos (by decide)]; rfl
      · have x0 : ac q = 0 := by omega
        rw [x0, if_pos (by decide)]; rfl
def qct (lf : Nat → Nat → Nat) (al rest : Nat → Nat) (cnt r q k : Nat) : Prop := ∃ G, lf q k + G ≤ rest k ∧ (G = qrs (fun i => al i * lf i k) r (cnt - r) ∨ ∃ j r', j < 5 ∧ (∀ p, r ≤ p → p < cnt → 0 < al p → 6 * lf p k ≤ r' * lf p j) ∧ G = rest j * r' / 6)
theorem q_st26 {row mm : Int32} {ml me mi mt ma cells R : Nat → Int32} {A : Int32} {cnt : Nat} {lf : Nat → Nat → Nat} {al ac rest : Nat → Nat} (c6 : cnt ≤ 6) (hof : ∀ i k n, i < cnt → k < 5 → M_of n (me i) (nI k) = some (nI (lf i k))) (h4 : ∀ i k, lf i k < 4) (hal : ∀ i n, i < cnt → 7 ≤ n → M_allowed n row mm (nI i) ml me mi mt ma cells R A = some (nI (al i))) (ha : ∀ i, al i ≤ 12) (hR : ∀ k, k < 5 → R k = nI (rest k)) (h12 : ∀ k, k < 5 → rest k ≤ 12) (hac : ∀ i, i < cnt → ma i = nI (ac i)) (h2 : ∀ i, i < cnt → ac i ≤ 2) (k3 : Int32 → Option Int32) {q r : Nat} (hq : q < cnt) (hr : r ≤ cnt) : ∀ (d k n : Nat) (b : Bool), k + d = 5 → d + 45 ≤ n → ∃ b' : Bool, M_stuck_26 row mm (nI r) (nI cnt) ml me mi mt ma cells R A k3 n (nI q) (qb b) (nI k) = (if (b' && qra (qbad ac al q) r (cnt - r)) = true then some 1 else k3 (nI (q + 1))) ∧ (b' = true → b = true ∧ ∀ k', k ≤ k' → k' < 5 → 0 < lf q k' → qct lf al rest cnt r q k') ∧ (r = cnt → b = true → (∀ k', k ≤ k' → k' < 5 → lf q k' ≤ rest k') → b' = true) := by
  intro d
  induction d with
  | zero =>
    intro k n b e hn
    obtain ⟨n, rfl⟩ : ∃ m, n = m + 1 := ⟨n - 1, by omega⟩
    have : k = 5 := by omega
    subst this
    refine ⟨b, ?_, fun h => ⟨h, fun k' h1 h2 => absurd h1 (by omega)⟩, fun _ h _ => h⟩
    rw [M_stuck_26, if_pos q_y5]
    exact q_st94 c6 hal ha hac h2 k3 hq (cnt - r) r n b (by omega) (by omega)
  | succ d ih =>
    intro k n b e hn
    obtain ⟨n, rfl⟩ : ∃ m, n = m + 1 := ⟨n - 1, by omega⟩
    have hk : k < 5 := by omega
    have l4 := h4 q k
    have r12 := h12 k hk
    obtain ⟨b0, x1, x2, x3⟩ := ih (k + 1) n false (by omega) (by omega)
    obtain ⟨b1, y1, y2, y3⟩ := ih (k + 1) n true (by omega) (by omega)
    rw [show qb false = 0 from rfl] at x1
    rw [show qb true = 1 from rfl] at y1
    rw [M_stuck_26, if_neg (q_n5 hk), nI_clamp (by omega), if_neg (q_in (by omega) (by omega)), hof q k n hq hk, Option.bind_some, nI_1, x1, y1]
    cases b with
    | false =>
      refine ⟨b0, by rw [if_pos qb_f], fun h => absurd (x2 h).1 (by decide), fun _ h => absurd h (by decide)⟩
    | true =>
      rw [if_neg qb_t]
      by_cases z : lf q k = 0
      · rw [if_pos (show nI (lf q k) = 0 by rw [z]; rfl)]
        refine ⟨b1, rfl, fun h => ⟨rfl, fun k' h1 h3 h5 => ?_⟩, fun h _ h3 => y3 h rfl fun k' h5 h7 => h3 k' (by omega) h7⟩
        by_cases kk : k' = k
        · subst kk; exact absurd h5 (by omega)
        · exact (y2 h).2 k' (by omega) h3 h5
      · obtain ⟨G, g1, g2, g3, g4⟩ := q_greed c6 hof h4 hal ha hR h12 hk hr (n := n) (by omega)
        rw [if_neg (nI_ne0 (by omega) (by omega)), nI_clamp (by omega), if_neg (q_in hk (by omega)), g1, Option.bind_some, hR k hk]
        have sl := q_sublt (a := rest k) (b := G) (c := lf q k) (by omega) (by omega) (by omega)
        by_cases w : rest k < G + lf q k
        · rw [if_pos (sl.mpr w)]
          refine ⟨b0, rfl, fun h => absurd (x2 h).1 (by decide), fun h _ h3 => ?_⟩
          have g0 : G = 0 := by
            have q0 : cnt - r = 0 := by omega
            rw [q0] at g2
            exact Nat.le_zero.mp g2
          have := h3 k (Nat.le_refl _) hk
          omega
        · rw [if_neg (fun v => w (sl.mp v))]
          refine ⟨b1, rfl, fun h => ⟨rfl, fun k' h1 h3 h5 => ?_⟩, fun h _ h3 => y3 h rfl fun k' h5 h7 => h3 k' (by omega) h7⟩
          by_cases kk : k' = k
          · subst kk; exact ⟨G, by omega, g4⟩
          · exact (y2 h).2 k' (by omega) h3 h5
theorem q_st3 {row mm : Int32} {ml me mi mt ma cells R : Nat → Int32} {A : Int32} {cnt : Nat} {lf : Nat → Nat → Nat} {al ac rest : Nat → Nat} (c6 : cnt ≤ 6) (hof : ∀ i k n, i < cnt → k < 5 → M_of n (me i) (nI k) = some (nI (lf i k))) (h4 : ∀ i k, lf i k < 4) (hal : ∀ i n, i < cnt → 7 ≤ n → M_allowed n row mm (nI i) ml me mi mt ma cells R A = some (nI (al i))) (ha : ∀ i, al i ≤ 12) (hR : ∀ k, k < 5 → R k = nI (rest k)) (h12 : ∀ k, k < 5 → rest k ≤ 12) (hac : ∀ i, i < cnt → ma i = nI (ac i)) (h2 : ∀ i, i < cnt → ac i ≤ 2) {r : Nat} (hr : r ≤ cnt) : ∀ (d c n : Nat), c + d = r → d + 52 ≤ n → ∃ b : Bool, M_stuck_3 row mm (nI r) (nI cnt) ml me mi mt ma cells R A n (nI c) = some (qb b) ∧ (b = true → ∃ q, q < r ∧ 0 < al q ∧ (∀ k, k < 5 → 0 < lf q k → qct lf al rest cnt r q k) ∧ ∀ p, r ≤ p → p < cnt → qbad ac al q p = true) ∧ (b = false → r = cnt → (∀ q, q < cnt → 0 < al q → ∀ k, k < 5 → lf q k ≤ rest k) → ∀ q, c ≤ q → q < r → al q = 0) := by
  intro d
  induction d with
  | zero =>
    intro c n e hn
    obtain ⟨n, rfl⟩ : ∃ m, n = m + 1 := ⟨n - 1, by omega⟩
    exact ⟨false, by rw [M_stuck_3, if_pos (nI_le (by omega) (by omega))]; rfl, fun h => absurd h (by decide), fun _ _ _ q h1 h3 => absurd h1 (by omega)⟩
  | succ d ih =>
    intro c n e hn
    obtain ⟨n, rfl⟩ : ∃ m, n = m + 1 := ⟨n - 1, by omega⟩
    have hc : c < cnt := by omega
    have hac' := ha c
    obtain ⟨b, x1, x2, x3⟩ := ih (c + 1) n (by omega) (by omega)
    rw [M_stuck_3, if_neg (nI_ge (by omega) (by omega)), hal c n hc (by omega), Option.bind_some, nI_1]
    by_cases z : al c = 0
    · rw [if_pos (show nI (al c) ≤ 0 by rw [z]; decide)]
      refine ⟨b, x1, x2, fun h1 h3 h5 q h7 h9 => ?_⟩
      by_cases qc : q = c
      · subst qc; exact z
      · exact x3 h1 h3 h5 q (by omega) h9
    · rw [if_neg (nI_nle (by omega) (by omega))]
      obtain ⟨b', y1, y2, y3⟩ := q_st26 c6 hof h4 hal ha hR h12 hac h2 (M_stuck_3 row mm (nI r) (nI cnt) ml me mi mt ma cells R A n) hc hr 5 0 n true (by omega) (by omega)
      have y1' : M_stuck_26 row mm (nI r) (nI cnt) ml me mi mt ma cells R A (M_stuck_3 row mm (nI r) (nI cnt) ml me mi mt ma cells R A n) n (nI c) 1 0 = _ := y1
      rw [y1']
      by_cases w : (b' && qra (qbad ac al c) r (cnt - r)) = true
      · rw [if_pos w]
        rw [Bool.and_eq_true] at w
        refine ⟨true, rfl, fun _ => ⟨c, by omega, by omega, fun k hk hp => (y2 w.1).2 k (Nat.zero_le _) hk hp, fun p h1 h3 => (qra_iff _ _).mp w.2 p h1 (by omega)⟩, fun h => absurd h (by decide)⟩
      · rw [if_neg w]
        refine ⟨b, x1, x2, fun h1 h3 h5 q h7 h9 => ?_⟩
        exfalso
        apply w
        rw [Bool.and_eq_true]
        refine ⟨y3 h3 rfl fun k _ hk => h5 c hc (by omega) k hk, ?_⟩
        rw [h3, Nat.sub_self]; rfl
theorem qol_mem' {p : Nat → Bool} : ∀ (d c i : Nat), c ≤ i → i < c + d → p i = true → i ∈ qol p c d := by
  intro d
  induction d with
  | zero => intro c i h1 h2; exact absurd h1 (by omega)
  | succ d ih =>
    intro c i h1 h2 h3
    unfold qol
    by_cases e : i = c
    · subst e; rw [if_pos h3]; exact List.mem_cons_self ..
    · have := ih (c + 1) i (by omega) (by omega) h3
      split
      · exact List.mem_cons_of_mem _ this
      · exact this
theorem qrs_qol {p : Nat → Bool} {f g : Nat → Nat} : ∀ (d c : Nat), qrs (fun i => (if p i = true then f i else 0) * g i) c d = qsum (fun i => f i * g i) (qol p c d) := by
  intro d
  induction d with
  | zero => intro c; rfl
  | succ d ih =>
    intro c
    have qe : ∀ F : Nat → Nat, qrs F c (d + 1) = F c + qrs F (c + 1) d := fun _ => rfl
    rw [qe, ih, qol]
    by_cases e : p c = true
    · rw [if_pos e, if_pos e]; rfl
    · rw [if_neg e, if_neg e, Nat.zero_mul, Nat.zero_add]
theorem q_stuck {lab : Nat → Int32} {par : Nat → Nat} {am : Nat → Nat → Nat} {cells : Nat → Int32} {row : Nat} (hl : KL lab par) (h : KM lab par am cells row) (hrw : row < 82) {cnt : Nat} {ru : Nat → Nat → Nat} {ml me mh mo mi mt ma mx : Nat → Int32} (hu : UL cnt ru) (hM : UM cnt ru ml me mh mo mi mt ma mx) {rest : Nat → Nat} {R : Nat → Int32} (hR : ∀ k, k < 5 → R k = nI (rest k)) (h12 : ∀ k, k < 5 → rest k ≤ 12) (s : Bool) {m r : Nat} (hm : m < 6) (hr : r ≤ cnt) {n : Nat} (hn : 60 ≤ n) : ∃ b : Bool, M_stuck n (nI row) (nI m) (nI r) (nI cnt) ml me mi mt ma cells R (qb s) = some (qb b) ∧ (b = true → ∀ u, qen ru (qol (qopl lab par ru m) 0 cnt) (qol (qopl lab par ru m) r (cnt - r)) rest s u = []) ∧ (b = false → r = cnt → qmax ru (qol (qopl lab par ru m) 0 cnt) rest s = true) := by
  have c6 := hu.1
  have hof : ∀ i k n, i < cnt → k < 5 → M_of n (me i) (nI k) = some (nI (qf (ru i 1) k)) := by
    intro i k n hi hk
    have := (hu.2 i hi).2.2.1
    rw [(hM i hi).2.1, q_of (by omega) hk]
  have hal : ∀ i n, i < cnt → 7 ≤ n → M_allowed n (nI row) (nI m) (nI i) ml me mi mt ma cells R (qb s) = some (nI (qal lab par ru m rest s i)) := fun i n hi hn => q_allowed hl h hrw hu hM hR h12 s hm hi hn
  have ha : ∀ i, qal lab par ru m rest s i ≤ 12 := by
    intro i
    have := qT_le (ru := ru) (rest := rest) (s := s) (i := i)
    unfold qT at this
    unfold qal
    split <;> omega
  have hac : ∀ i, i < cnt → ma i = nI (ru i 6) := fun i hi => (hM i hi).2.2.2.2.2.2.1
  have h2 : ∀ i, i < cnt → ru i 6 ≤ 2 := fun i hi => (hu.2 i hi).2.2.2.2.2.2.2.1
  have alp : ∀ q, 0 < qal lab par ru m rest s q → qopl lab par ru m q = true ∧ 0 < qT ru rest s q := by
    intro q hq
    unfold qal at hq
    split at hq
    · rename_i o; exact ⟨o, hq⟩
    · exact absurd hq (by omega)
  have alo : ∀ q, qopl lab par ru m q = true → qal lab par ru m rest s q = qT ru rest s q := by
    intro q o
    unfold qal qT
    rw [if_pos o]
  obtain ⟨b, e1, e2, e3⟩ := q_st3 (lf := fun i k => qf (ru i 1) k) (ac := fun i => ru i 6) c6 hof (fun i k => qf_lt _ k) hal ha hR h12 hac h2 hr r 0 n (by omega) (by omega)
  refine ⟨b, e1, fun hb u => ?_, fun hb hrc => ?_⟩
  · obtain ⟨q, q1, q2, q3, q4⟩ := e2 hb
    obtain ⟨qo, qt⟩ := alp q q2
    refine q_prune (qol_mem' _ _ q (Nat.zero_le _) (by omega) qo) _ _ _ _ (fun k hk hp => ?_) (fun x => ?_)
    · obtain ⟨G, g1, g2⟩ := q3 k hk hp
      rcases g2 with g2 | ⟨j, r', j1, j2, j3⟩
      · left
        have w := qrs_qol (p := qopl lab par ru m) (f := fun i => qT ru rest s i) (g := fun i => qf (ru i 1) k) (cnt - r) r
        have g2' : G = qrs (fun i => (if qopl lab par ru m i = true then qT ru rest s i else 0) * qf (ru i 1) k) r (cnt - r) := g2
        rw [w] at g2'
        rw [← g2']
        exact g1
      · right
        refine ⟨j, r', j1, fun p hp hT => ?_, ?_⟩
        · have pm := qol_mem _ _ _ hp
          exact j2 p pm.1 (by omega) (by rw [alo p pm.2.2]; exact hT)
        · rw [← j3]; exact g1
    · refine ⟨(qT_pos.mp qt).2 x, fun p hp hT y => ?_⟩
      have pm := qol_mem _ _ _ hp
      have w := q4 p pm.1 (by omega)
      unfold qbad at w
      rw [decide_eq_true x, decide_eq_true y, decide_eq_true (show 0 < qal lab par ru m rest s p by rw [alo p pm.2.2]; exact hT)] at w
      exact absurd w (by decide)
  · rw [qmax_iff]
    intro i hi
    have im := qol_mem _ _ _ hi
    have w := e3 hb hrc (fun q _ hq k hk => (qT_pos.mp (alp q hq).2).1 k hk) i (Nat.zero_le _) (by omega)
    rw [alo i im.2.2] at w
    exact w

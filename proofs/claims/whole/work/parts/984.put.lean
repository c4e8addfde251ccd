def qpb (st : qC) (p : Int32) : Bool := decide (0 ≤ p ∧ p < 6 ∧ ¬ st.1 p.toNatClampNeg = -1)
theorem qpb_t {st : qC} {p : Int32} (h : qpb st p = true) : ∃ m, m < 6 ∧ p = nI m ∧ ¬ st.1 m = -1 := by
  have w := decide_eq_true_iff.mp h
  obtain ⟨m, hm, rfl⟩ := q_i6 w.1 w.2.1
  refine ⟨m, hm, rfl, ?_⟩
  have := w.2.2
  rw [nI_clamp (by omega)] at this
  exact this
def s_membrane (A : qA) (p l : Int32) : Nat × Int32 × qA :=
  if qpb A.1 p = true then (if 0 ≤ l ∧ l < 4 then (match qfind (qfree A.1.1) 1 5 with
    | none => (3, 0, A)
    | some f => (0, nI f, ((eUp A.1.1 f l, eUp A.1.2.1 f p.toNatClampNeg, eUp A.1.2.2 f fun _ => 0), A.2))) else (2, 0, A)) else (1, 0, A)
theorem KMs_47 {cells cells' : Nat → Int32} {l : List qC} (h : KMs cells 1 l) (hf : ∀ j, 47 ≤ j → cells' j = cells j) : KMs cells' 1 l := fun i s hs => by
  obtain ⟨a, b, c⟩ := h i s hs
  refine ⟨fun m hm => ?_, fun m hm => ?_, fun m hm k hk => ?_⟩
  · rw [hf _ (by omega)]; exact a m hm
  · rw [hf _ (by omega)]; exact b m hm
  · rw [hf _ (by omega)]; exact c m hm k hk
theorem r_membrane {A : qA} (hA : AI A) {rules : Int32} {ml me mh mo mi mt ma mx cells : Nat → Int32} {found : Int32} (h : RM A rules ml me mh mo mi mt ma mx cells found) (p l code : Int32) {n : Nat} (hn : 20 ≤ n) : ∃ cells', M_membrane n p l code cells = some ((s_membrane A p l).2.1, nI (s_membrane A p l).1, cells') ∧ RM (s_membrane A p l).2.2 rules ml me mh mo mi mt ma mx cells' found := by
  obtain ⟨h1, h2, h3, h4, h5⟩ := h
  obtain ⟨⟨hl, ht, hk, ha⟩, _⟩ := hA
  have fr : M_free n 0 cells = some (qoI (qfind (qfree A.1.1) 1 5)) := q_Mfree (row := 0) hl h3 (by omega) (by omega)
  have hs : M_has n 0 p cells = some (qb (qpb A.1 p)) := q_MhasI (row := 0) hl h3 (by omega) p n
  have same : RM A rules ml me mh mo mi mt ma mx cells found := ⟨h1, h2, h3, h4, h5⟩
  unfold M_membrane s_membrane
  rw [fr, Option.bind_some, hs, Option.bind_some]
  by_cases pr : qpb A.1 p = true
  · rw [if_pos pr, pr, if_neg qb_t]
    have bad : ∀ L3 : Int32, M_membrane_29 p l n L3 code cells = some (0, 2, cells) := fun L3 => by
      unfold M_membrane_29 M_membrane_42
      rw [if_neg (by decide)]
    by_cases z : l < 0
    · rw [if_pos z, bad, if_neg (show ¬ (0 ≤ l ∧ l < 4) from fun w => q_nn w.1 z)]
      exact ⟨cells, rfl, same⟩
    · rw [if_neg z]
      by_cases y : l ≤ (3 : Int32)
      · have ok : 0 ≤ l ∧ l < 4 := ⟨q_neg z, q_lab3.mp y⟩
        rw [if_pos y, if_pos ok]
        cases q : qfind (qfree A.1.1) 1 5 with
        | none =>
          rw [if_neg (show ¬ (0 : Int32) ≤ qoI none by decide)]
          unfold M_membrane_42
          rw [if_neg (by decide)]
          exact ⟨cells, rfl, same⟩
        | some f =>
          obtain ⟨fl, f0, f6⟩ := qfree_lab q
          obtain ⟨m, hm, rfl, hp⟩ := qpb_t pr
          obtain ⟨lb, l4, rfl⟩ := q_inN (N := 4) (by decide) ok.1 ok.2
          rw [if_pos (show (0 : Int32) ≤ qoI (some f) from nI_pos' (by omega)), show qoI (some f) = nI f from rfl]
          unfold M_membrane_42
          rw [if_pos (by decide)]
          have key : ∀ (d k n : Nat) (c0 : Nat → Int32), k + d = 5 → d + 1 ≤ n → (∀ j, j < k → c0 (7 * f + j) = 0) → (∀ j, ¬ (7 * f ≤ j ∧ j < 7 * f + k) → c0 j = cells j) → ∃ cells', M_membrane_57 (nI m) (nI lb) n (nI f) (nI k) 0 c0 = some (nI f, 0, cells') ∧ RM ((eUp A.1.1 f (nI lb), eUp A.1.2.1 f (nI m).toNatClampNeg, eUp A.1.2.2 f fun _ => 0), A.2) rules ml me mh mo mi mt ma mx cells' found := by
            intro d
            induction d with
            | zero =>
              intro k n c0 e hn g1 g2
              obtain ⟨n, rfl⟩ : ∃ m, n = m + 1 := ⟨n - 1, by omega⟩
              have : k = 5 := by omega
              subst this
              have s5 : M_set n 0 (nI f) 5 (nI lb) c0 = some (eUp c0 (7 * f + 5) (nI lb)) := q_set0 (m := f) (w := 5) (by omega)
              have s6 : M_set n 0 (nI f) 6 (nI m) (eUp c0 (7 * f + 5) (nI lb)) = some (eUp (eUp c0 (7 * f + 5) (nI lb)) (7 * f + 6) (nI m)) := q_set0 (m := f) (w := 6) (by omega)
              obtain ⟨a1, a2, a3⟩ := KM_0.mp h3
              refine ⟨eUp (eUp c0 (7 * f + 5) (nI lb)) (7 * f + 6) (nI m), by rw [M_membrane_57, if_pos q_y5, s5, Option.bind_some, s6, Option.bind_some], h1, h2, KM_0.mpr ⟨fun j hj => ?_, fun j hj => ?_, fun j hj k hk => ?_⟩, h4, KMs_47 h5 fun j hj => ?_⟩
              · show _ = eUp A.1.1 f (nI lb) j
                by_cases jf : j = f
                · subst jf; rw [q_un (by omega), q_up, q_up]
                · rw [q_un (by omega), q_un (by omega), q_un jf, g2 _ (by omega)]; exact a1 j hj
              · show _ = qpM (eUp A.1.1 f (nI lb)) (eUp A.1.2.1 f (nI m).toNatClampNeg) j
                unfold qpM
                by_cases jf : j = f
                · subst jf; rw [q_up, if_neg f0, q_up, if_neg (q_m1' (by omega)), q_up, nI_clamp (by omega)]
                · rw [q_un (by omega), q_un (by omega), q_un jf, q_un jf, g2 _ (by omega)]; exact a2 j hj
              · show _ = nI (eUp A.1.2.2 f (fun _ => 0) j k)
                by_cases jf : j = f
                · subst jf; rw [q_un (by omega), q_un (by omega), q_up, g1 k (by omega)]; rfl
                · rw [q_un (by omega), q_un (by omega), q_un jf, g2 _ (by omega)]; exact a3 j hj k hk
              · rw [q_un (by omega), q_un (by omega), g2 _ (by omega)]
            | succ d ih =>
              intro k n c0 e hn g1 g2
              obtain ⟨n, rfl⟩ : ∃ m, n = m + 1 := ⟨n - 1, by omega⟩
              have hk5 : k < 5 := by omega
              have s0 : M_set n 0 (nI f) (nI k) 0 c0 = some (eUp c0 (7 * f + k) 0) := q_set0 (by omega)
              rw [M_membrane_57, if_neg (q_n5 hk5), s0, Option.bind_some, nI_1]
              refine ih (k + 1) n _ (by omega) (by omega) (fun j hj => ?_) (fun j hj => ?_)
              · by_cases jk : j = k
                · subst jk; rw [q_up]
                · rw [q_un (by omega)]; exact g1 j (by omega)
              · rw [q_un (by omega)]; exact g2 j (by omega)
          exact key 5 0 n cells (by omega) (by omega) (fun j hj => absurd hj (by omega)) (fun _ _ => rfl)
      · rw [if_neg y, bad, if_neg (show ¬ (0 ≤ l ∧ l < 4) from fun w => y (q_lab3.mpr w.2))]
        exact ⟨cells, rfl, same⟩
  · have pf := Bool.eq_false_iff.mpr pr
    rw [if_neg pr, pf, if_pos qb_f]
    unfold M_membrane_42
    rw [if_neg (by decide)]
    exact ⟨cells, rfl, same⟩
def qhb (h : Int32) : Bool := decide (0 ≤ h ∧ h < 1024)
theorem qhb_t {h : Int32} (w : qhb h = true) : ∃ x, x < 1024 ∧ h = nI x := by
  have v := decide_eq_true_iff.mp w
  exact q_inN (N := 1024) (by decide) v.1 v.2
theorem q_noHandful (h : Int32) (n : Nat) : M_noHandful n h = some (qb (!qhb h)) := by
  unfold M_noHandful
  by_cases z : h < 0
  · have : qhb h = false := decide_eq_false (fun w => q_nn w.1 z)
    rw [if_pos z, this]
    rfl
  · rw [if_neg z]
    have e : h ≤ (1023 : Int32) ↔ h < (1024 : Int32) := by
      rw [Int32.le_iff_toInt_le, Int32.lt_iff_toInt_lt]
      have a : (1023 : Int32).toInt = 1023 := rfl
      have b : (1024 : Int32).toInt = 1024 := rfl
      omega
    by_cases y : h ≤ (1023 : Int32)
    · have : qhb h = true := decide_eq_true ⟨q_neg z, e.mp y⟩
      rw [if_pos y, this]
      rfl
    · have : qhb h = false := decide_eq_false (fun w => y (e.mpr w.2))
      rw [if_neg y, this]
      rfl
def qfull (a : Nat → Nat) (h : Nat) : Bool := qallb 5 fun k => decide (a k + qf h k ≤ 12)
theorem qfull_iff {a : Nat → Nat} {h : Nat} : qfull a h = true ↔ ∀ k, k < 5 → a k + qf h k ≤ 12 := by
  unfold qfull
  rw [qallb_iff]
  exact ⟨fun w k hk => decide_eq_true_iff.mp (w k hk), fun w k hk => decide_eq_true (w k hk)⟩
def s_put (A : qA) (p h : Int32) : Nat × Int32 × qA :=
  if qpb A.1 p = true then (if qhb h = true then (if qfull (A.1.2.2 p.toNatClampNeg) h.toNatClampNeg = true then (0, 0, ((A.1.1, A.1.2.1, eUp A.1.2.2 p.toNatClampNeg fun k => A.1.2.2 p.toNatClampNeg k + qf h.toNatClampNeg k), A.2)) else (3, 0, A)) else (2, 0, A)) else (1, 0, A)
theorem r_put {A : qA} (hA : AI A) {rules : Int32} {ml me mh mo mi mt ma mx cells : Nat → Int32} {found : Int32} (h : RM A rules ml me mh mo mi mt ma mx cells found) (p hh : Int32) {n : Nat} (hn : 20 ≤ n) : ∃ cells', M_put n p hh cells = some (nI (s_put A p hh).1, cells') ∧ RM (s_put A p hh).2.2 rules ml me mh mo mi mt ma mx cells' found := by
  obtain ⟨h1, h2, h3, h4, h5⟩ := h
  obtain ⟨⟨hl, ht, hk, ha⟩, _⟩ := hA
  have hs : M_has n 0 p cells = some (qb (qpb A.1 p)) := q_MhasI (row := 0) hl h3 (by omega) p n
  have same : RM A rules ml me mh mo mi mt ma mx cells found := ⟨h1, h2, h3, h4, h5⟩
  have bad : ∀ (c : Int32) (k n : Nat), ¬ c = 0 → k ≤ 5 → 1 ≤ n → M_put_31 p hh n (nI k) c cells = some (c, cells) := fun c k n hc hk5 hn => by
    obtain ⟨n, rfl⟩ : ∃ m, n = m + 1 := ⟨n - 1, by omega⟩
    have e76 : M_put_76 p hh n c cells = some (c, cells) := by unfold M_put_76; rw [if_neg hc]
    rw [M_put_31]
    rw [if_neg hc]
    split
    · exact e76
    · exact e76
  have bad0 : ∀ c : Int32, ¬ c = 0 → M_put_31 p hh n 0 c cells = some (c, cells) := fun c hc => bad c 0 n hc (by omega) (by omega)
  unfold M_put s_put
  rw [hs, Option.bind_some]
  by_cases pr : qpb A.1 p = true
  · rw [if_pos pr, pr, if_neg qb_t, q_noHandful, Option.bind_some]
    by_cases hb : qhb hh = true
    · obtain ⟨m, hm, rfl, hp⟩ := qpb_t pr
      obtain ⟨x, hx, rfl⟩ := qhb_t hb
      rw [if_pos hb, hb, if_pos (show qb (!true) = 0 by decide), nI_clamp (by omega), nI_clamp (by omega)]
      have key : ∀ (d k n : Nat), k + d = 5 → d + 10 ≤ n → ((∀ j, k ≤ j → j < 5 → A.1.2.2 m j + qf x j ≤ 12) → ∃ n', 6 ≤ n' ∧ M_put_31 (nI m) (nI x) n (nI k) 0 cells = M_put_76 (nI m) (nI x) n' 0 cells) ∧ (¬ (∀ j, k ≤ j → j < 5 → A.1.2.2 m j + qf x j ≤ 12) → M_put_31 (nI m) (nI x) n (nI k) 0 cells = some (3, cells)) := by
        intro d
        induction d with
        | zero =>
          intro k n e hn
          obtain ⟨n, rfl⟩ : ∃ m, n = m + 1 := ⟨n - 1, by omega⟩
          have : k = 5 := by omega
          subst this
          refine ⟨fun _ => ⟨n, by omega, by rw [M_put_31, if_pos q_y5]⟩, fun w => absurd (fun j h1 h2 => absurd h1 (by omega)) w⟩
        | succ d ih =>
          intro k n e hn
          obtain ⟨n, rfl⟩ : ∃ m, n = m + 1 := ⟨n - 1, by omega⟩
          have hk5 : k < 5 := by omega
          have c1 : M_cell n 0 (nI m) (nI k) cells = some (nI (A.1.2.2 m k)) := by
            have w := q_cell (row := 0) (m := m) (w := k) (cells := cells) (n := n) (by omega)
            rw [h3.2.2 m (by omega) k hk5] at w
            exact w
          have b1 := hk.1 m hm k hk5
          have b2 := qf_lt x k
          have i12 : nI (A.1.2.2 m k + qf x k) ≤ (12 : Int32) ↔ A.1.2.2 m k + qf x k ≤ 12 := q_cmpI (c := 12) (by omega) (by decide)
          obtain ⟨r1, r2⟩ := ih (k + 1) n (by omega) (by omega)
          rw [M_put_31, if_neg (q_n5 hk5), if_pos rfl, c1, Option.bind_some, q_of (by omega) hk5, Option.bind_some, nI_add, nI_1]
          by_cases y : A.1.2.2 m k + qf x k ≤ 12
          · rw [if_pos (i12.mpr y)]
            refine ⟨fun w => r1 (fun j h1 h2 => w j (by omega) h2), fun w => r2 (fun w' => w (fun j h1 h2 => ?_))⟩
            by_cases jk : j = k
            · rw [jk]; exact y
            · exact w' j (by omega) h2
          · rw [if_neg (fun w => y (i12.mp w))]
            exact ⟨fun w => absurd (w k (Nat.le_refl _) hk5) y, fun _ => bad 3 (k + 1) n (by decide) (by omega) (by omega)⟩
      obtain ⟨k1, k2⟩ := key 5 0 n (by omega) (by omega)
      by_cases y : qfull (A.1.2.2 m) x = true
      · rw [if_pos y]
        have y' := qfull_iff.mp y
        obtain ⟨n', hn', e⟩ := k1 (fun j _ hj => y' j hj)
        have e' : M_put_31 (nI m) (nI x) n 0 0 cells = M_put_76 (nI m) (nI x) n' 0 cells := e
        obtain ⟨c1, g1, g2, g3⟩ := q_give h3 (by omega) (p := m) (hh := x) (by omega) hx (P := nI m) (Or.inl ⟨hm, rfl⟩) (X := 1) (v := fun k => A.1.2.2 m k + qf x k) (fun k hk => by
          have o : (1 : Int32) * nI (qf x k) = nI (1 * qf x k) := pk_mul 1 _
          rw [o, nI_add, Nat.one_mul]) (n := n') (by omega)
        have g1' : M_give n' 0 (nI m) (nI x) 1 cells = some c1 := g1
        rw [e']
        unfold M_put_76
        rw [if_pos rfl, g1', Option.bind_some]
        exact ⟨c1, rfl, h1, h2, g2, h4, KMs_47 h5 fun j hj => g3 j (by omega)⟩
      · rw [if_neg y]
        have e := k2 (fun w => y (qfull_iff.mpr fun k hk => w k (Nat.zero_le _) hk))
        exact ⟨cells, e, same⟩
    · have hf := Bool.eq_false_iff.mpr hb
      rw [if_neg hb, hf, if_neg (show ¬ qb (!false) = 0 by decide), bad0 2 (by decide)]
      exact ⟨cells, rfl, same⟩
  · have pf := Bool.eq_false_iff.mpr pr
    rw [if_neg pr, pf, if_pos qb_f, bad0 1 (by decide)]
    exact ⟨cells, rfl, same⟩

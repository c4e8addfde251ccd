theorem q_cmpI {x c : Nat} (hx : x < 2 ^ 31) (hc : c < 2 ^ 31) : nI x ≤ nI c ↔ x ≤ c := ⟨fun w => Classical.byContradiction fun z => nI_ge (a := c) (b := x) (by omega) hx w, fun w => nI_le w hc⟩
theorem q_369 {lab : Nat → Int32} {par : Nat → Nat} {am : Nat → Nat → Nat} {cells : Nat → Int32} (h : KM lab par am cells 81) (hb : ∀ m, m < 7 → ∀ k, k < 5 → am m k < 4096) {k : Nat} (hk : k < 5) (k344 : Int32 → (Nat → Int32) → Option (Int32 × (Nat → Int32))) : ∀ (d c n : Nat), c + d = 6 → d + 1 ≤ n → ((∀ m, c ≤ m → m < 6 → am m k ≤ 12) → M_step_369 k344 n (nI k) (nI c) cells = k344 (nI (k + 1)) cells) ∧ (¬ (∀ m, c ≤ m → m < 6 → am m k ≤ 12) → M_step_369 k344 n (nI k) (nI c) cells = some (0, cells)) := by
  intro d
  induction d with
  | zero =>
    intro c n e hn
    obtain ⟨n, rfl⟩ : ∃ m, n = m + 1 := ⟨n - 1, by omega⟩
    have : c = 6 := by omega
    subst this
    refine ⟨fun _ => ?_, fun z => absurd (fun m h1 h2 => absurd h1 (by omega)) z⟩
    rw [M_step_369, if_pos q_y6, nI_1]
  | succ d ih =>
    intro c n e hn
    obtain ⟨n, rfl⟩ : ∃ m, n = m + 1 := ⟨n - 1, by omega⟩
    have hc : c < 6 := by omega
    have v : M_cell n 81 (nI c) (nI k) cells = some (nI (am c k)) := by
      have w := q_cell (row := 81) (m := c) (w := k) (cells := cells) (n := n) (by omega)
      rw [h.2.2 c (by omega) k hk] at w
      exact w
    have i12 : nI (am c k) ≤ (12 : Int32) ↔ am c k ≤ 12 := q_cmpI (c := 12) (by have := hb c (by omega) k hk; omega) (by decide)
    obtain ⟨r1, r2⟩ := ih (c + 1) n (by omega) (by omega)
    rw [M_step_369, if_neg (q_n6 hc), v, Option.bind_some, nI_1]
    by_cases x : am c k ≤ 12
    · rw [if_pos (i12.mpr x)]
      refine ⟨fun w => r1 (fun m h1 h2 => w m (by omega) h2), fun w => r2 (fun w' => w (fun m h1 h2 => ?_))⟩
      by_cases mc : m = c
      · rw [mc]; exact x
      · exact w' m (by omega) h2
    · rw [if_neg (fun z => x (i12.mp z))]
      exact ⟨fun w => absurd (w c (Nat.le_refl _) hc) x, fun _ => rfl⟩
theorem q_muchM {lab : Nat → Int32} {par : Nat → Nat} {am : Nat → Nat → Nat} {cells : Nat → Int32} (h : KM lab par am cells 81) (hb : ∀ m, m < 7 → ∀ k, k < 5 → am m k < 4096) {n : Nat} (hn : 20 ≤ n) : ∃ r : Bool, M_step_344 n 0 cells = some (qb r, cells) ∧ (r = true ↔ qok am) := by
  have key : ∀ (d k n : Nat), k + d = 5 → d + 8 ≤ n → ∃ r : Bool, M_step_344 n (nI k) cells = some (qb r, cells) ∧ (r = true ↔ ∀ j, k ≤ j → j < 5 → am 6 j ≤ 999 ∧ ∀ m, m < 6 → am m j ≤ 12) := by
    intro d
    induction d with
    | zero =>
      intro k n e hn
      obtain ⟨n, rfl⟩ : ∃ m, n = m + 1 := ⟨n - 1, by omega⟩
      have : k = 5 := by omega
      subst this
      exact ⟨true, by rw [M_step_344, if_pos q_y5]; rfl, fun _ j h1 h2 => absurd h1 (by omega), fun _ => rfl⟩
    | succ d ih =>
      intro k n e hn
      obtain ⟨n, rfl⟩ : ∃ m, n = m + 1 := ⟨n - 1, by omega⟩
      have hk : k < 5 := by omega
      have e1 : (3849 : Int32) + nI k = nI (3849 + k) := nI_add 3849 k
      have e2 : cells (3849 + k) = nI (am 6 k) := by
        have w := h.2.2 6 (by omega) k hk
        rw [← w]
      have i9 : nI (am 6 k) ≤ (999 : Int32) ↔ am 6 k ≤ 999 := q_cmpI (c := 999) (by have := hb 6 (by omega) k hk; omega) (by decide)
      obtain ⟨r, f1, f2⟩ := ih (k + 1) n (by omega) (by omega)
      obtain ⟨g1, g2⟩ := q_369 h hb hk (M_step_344 n) 6 0 n (by omega) (by omega)
      rw [M_step_344, if_neg (q_n5 hk), e1, nI_clamp (by omega), if_neg (q_in (by omega) (by omega)), e2]
      by_cases x : am 6 k ≤ 999
      · rw [if_pos (i9.mpr x)]
        by_cases y : ∀ m, 0 ≤ m → m < 6 → am m k ≤ 12
        · refine ⟨r, ?_, f2.trans ⟨fun w j h1 h2 => ?_, fun w j h1 h2 => w j (by omega) h2⟩⟩
          · rw [← f1]; exact g1 y
          · by_cases jk : j = k
            · rw [jk]; exact ⟨x, fun m hm => y m (Nat.zero_le _) hm⟩
            · exact w j (by omega) h2
        · refine ⟨false, g2 y, fun w => absurd w (by decide), fun w => absurd (fun m _ hm => (w k (Nat.le_refl _) hk).2 m hm) y⟩
      · rw [if_neg (fun z => x (i9.mp z))]
        exact ⟨false, rfl, fun w => absurd w (by decide), fun w => absurd (w k (Nat.le_refl _) hk).1 x⟩
  obtain ⟨r, e1, e2⟩ := key 5 0 n (by omega) (by omega)
  exact ⟨r, e1, e2.trans ⟨fun w => ⟨fun m hm k hk => (w k (Nat.zero_le _) hk).2 m hm, fun k hk => (w k (Nat.zero_le _) hk).1⟩, fun w j _ hj => ⟨w.2 j hj, fun m hm => w.1 m hm j hj⟩⟩⟩
def qall (lab : Nat → Int32) (par : Nat → Nat) (ru : Nat → Nat → Nat) (cnt : Nat) (us : Nat → Nat → Nat) : (Nat → Nat → Nat) → Nat → Nat → (Nat → Nat → Nat)
  | am, _, 0 => am
  | am, m, d + 1 => qall lab par ru cnt us (qin lab par ru m (us m) am 0 cnt) (m + 1) d
def qos (ru : Nat → Nat → Nat) (cnt : Nat) (us : Nat → Nat → Nat) (m : Nat) : Option Nat := qw ru (us m) none 0 cnt
theorem qin_o {lab : Nat → Int32} {par : Nat → Nat} {ru : Nat → Nat → Nat} {m : Nat} {u : Nat → Nat} {q : Nat} (hq : ¬ q = m) (k : Nat) : ∀ (d c : Nat) (am : Nat → Nat → Nat), am q k ≤ qin lab par ru m u am c d q k := by
  intro d
  induction d with
  | zero => intro c am; exact Nat.le_refl _
  | succ d ih =>
    intro c am
    have qi : qin lab par ru m u am c (d + 1) = qin lab par ru m u (if u c = 0 then am else quse lab par ru am m c (u c)) (c + 1) d := rfl
    rw [qi]
    refine Nat.le_trans ?_ (ih (c + 1) _)
    by_cases z : u c = 0
    · rw [if_pos z]; exact Nat.le_refl _
    · rw [if_neg z]; exact quse_o hq k
theorem q_p1C {lab : Nat → Int32} {par : Nat → Nat} {am0 : Nat → Nat → Nat} {cl cp : Nat → Int32} (hl : KL lab par) {cnt : Nat} {ru : Nat → Nat → Nat} {ul : Nat → Int32} {ue uk uh uo ui : Nat → Int64} {ut ud uv : Nat → Int32} {ux : Nat → Int64} (hu : UL cnt ru) (hc : UC cnt ru ul ue uk uh uo ui ut ud uv ux) {us : Nat → Nat → Nat} (hch : ∀ m, m < 6 → qchosen lab par am0 cnt ru m (us m)) {qa : Nat → Int32} (hqa : ∀ m, m < 6 → qa m = nI (c4p (us m))) {n : Nat} (hn : 20 ≤ n) : ∀ (d m : Nat) (am : Nat → Nat → Nat) (w : Nat → Option Nat) (ch : Nat → Int64), m + d = 6 → (∀ j, m ≤ j → j < 6 → ∀ k, k < 5 → am0 j k ≤ am j k) → KC lab par am cl cp ch → (∀ j, j < m → w j = qos ru cnt us j) → ∃ w' ch', W_carryOut_3 ue uh uo ui ut ud uv ux (nI cnt) qa (n + d) (nI m) w cl cp ch = W_carryOut_3 ue uh uo ui ut ud uv ux (nI cnt) qa n (nI 6) w' cl cp ch' ∧ KC lab par (qall lab par ru cnt us am m d) cl cp ch' ∧ ∀ j, j < 6 → w' j = qos ru cnt us j := by
  have c6 := hu.1
  intro d
  induction d with
  | zero =>
    intro m am w ch e hf h hw
    have : m = 6 := by omega
    subst this
    exact ⟨w, ch, rfl, h, hw⟩
  | succ d ih =>
    intro m am w ch e hf h hw
    have hm : m < 6 := by omega
    obtain ⟨g1, g2⟩ := qchosen_good hu (hch m hm)
    obtain ⟨ch1, f1, f2⟩ := q_phC (cl := cl) (cp := cp) hl hu hc hm g1 (hqa m hm) (W_carryOut_3 ue uh uo ui ut ud uv ux (nI cnt) qa (n + d)) cnt 0 (n + d) am (eUp w m none) ch (by omega) (by omega) h (fun k hk => Nat.le_trans (g2 k hk) (hf m (Nat.le_refl _) hm k hk))
    have st : W_carryOut_3 ue uh uo ui ut ud uv ux (nI cnt) qa (n + (d + 1)) (nI m) w cl cp ch = W_carryOut_3 ue uh uo ui ut ud uv ux (nI cnt) qa (n + d) (nI (m + 1)) (eUp (eUp w m none) m (qw ru (us m) ((eUp w m none) m) 0 cnt)) cl cp ch1 := by
      rw [← f1]
      show W_carryOut_3 ue uh uo ui ut ud uv ux (nI cnt) qa (n + d + 1) (nI m) w cl cp ch = _
      rw [W_carryOut_3, if_neg (q_n6 hm), nI_clamp (by omega), if_neg (q_in hm (by omega))]; rfl
    rw [st]
    exact ih (m + 1) (qin lab par ru m (us m) am 0 cnt) _ ch1 (by omega) (fun j h1 h2 k hk => Nat.le_trans (hf j (by omega) h2 k hk) (qin_o (by omega) k _ _ _)) f2 (fun j hj => by
      by_cases jm : j = m
      · subst jm; rw [q_up, q_up]; rfl
      · rw [q_un jm, q_un jm]; exact hw j (by omega))
theorem q_p1M {lab : Nat → Int32} {par : Nat → Nat} {am0 : Nat → Nat → Nat} {row : Nat} (hl : KL lab par) (hr : row < 81) {cnt : Nat} {ru : Nat → Nat → Nat} {ml me mh mo mi mt ma mx : Nat → Int32} (hu : UL cnt ru) (hM : UM cnt ru ml me mh mo mi mt ma mx) {us : Nat → Nat → Nat} (hch : ∀ m, m < 6 → qchosen lab par am0 cnt ru m (us m)) {mc : Nat → Int32} (hmc : ∀ m, m < 6 → mc m = nI (c5p (us m))) {n : Nat} (hn : 20 ≤ n) : ∀ (d m : Nat) (am : Nat → Nat → Nat) (cells : Nat → Int32), m + d = 6 → (∀ j, m ≤ j → j < 6 → ∀ k, k < 5 → am0 j k ≤ am j k) → KM lab par am0 cells row → KM lab par am cells 81 → ∃ cells', M_step_9 (nI row) (nI cnt) me mh mo mi mt ma mx mc (n + d + 1) (nI m) cells = M_step_154 (nI cnt) mh ma mx mc n 1 cells' ∧ KM lab par (qall lab par ru cnt us am m d) cells' 81 ∧ qfr 81 cells cells' := by
  have c6 := hu.1
  intro d
  induction d with
  | zero =>
    intro m am cells e hf h0 h
    have : m = 6 := by omega
    subst this
    exact ⟨cells, by rw [M_step_9, if_pos q_y6], h, fun _ _ => rfl⟩
  | succ d ih =>
    intro m am cells e hf h0 h
    have hm : m < 6 := by omega
    obtain ⟨g1, g2⟩ := qchosen_good hu (hch m hm)
    obtain ⟨d1, f1, f2, f3⟩ := q_phM hl hr hu hM hm g1 (hmc m hm) (M_step_9 (nI row) (nI cnt) me mh mo mi mt ma mx mc (n + d + 1)) cnt 0 (n + d + 1) am cells (by omega) (by omega) h0 h (fun k hk => Nat.le_trans (g2 k hk) (hf m (Nat.le_refl _) hm k hk))
    have st : M_step_9 (nI row) (nI cnt) me mh mo mi mt ma mx mc (n + (d + 1) + 1) (nI m) cells = M_step_9 (nI row) (nI cnt) me mh mo mi mt ma mx mc (n + d + 1) (nI (m + 1)) d1 := by
      rw [← f1]
      show M_step_9 (nI row) (nI cnt) me mh mo mi mt ma mx mc ((n + d + 1) + 1) (nI m) cells = _
      rw [M_step_9, if_neg (q_n6 hm)]; rfl
    rw [st]
    obtain ⟨d2, y1, y2, y3⟩ := ih (m + 1) (qin lab par ru m (us m) am 0 cnt) d1 (by omega) (fun j h1 h2 k hk => Nat.le_trans (hf j (by omega) h2 k hk) (qin_o (by omega) k _ _ _)) (KM_fr h0 f3 (by omega)) f2
    exact ⟨d2, y1, y2, qfr_trans f3 y3⟩
theorem qw_some {ru : Nat → Nat → Nat} {u : Nat → Nat} {i : Nat} : ∀ (d c : Nat) (w : Option Nat), qw ru u w c d = some i → w = some i ∨ (c ≤ i ∧ i < c + d ∧ 0 < u i ∧ 0 < ru i 6) := by
  intro d
  induction d with
  | zero => intro c w h; exact Or.inl h
  | succ d ih =>
    intro c w h
    have qe : qw ru u w c (d + 1) = qw ru u (if u c = 0 then w else if 0 < ru c 6 then some c else w) (c + 1) d := rfl
    rw [qe] at h
    rcases ih (c + 1) _ h with x | ⟨x1, x2, x3, x4⟩
    · by_cases z : u c = 0
      · rw [if_pos z] at x; exact Or.inl x
      · rw [if_neg z] at x
        by_cases y : 0 < ru c 6
        · rw [if_pos y] at x
          cases x
          exact Or.inr ⟨Nat.le_refl _, by omega, by omega, y⟩
        · rw [if_neg y] at x; exact Or.inl x
    · exact Or.inr ⟨by omega, by omega, x3, x4⟩
theorem qw_keep {ru : Nat → Nat → Nat} {u : Nat → Nat} {i : Nat} : ∀ (d c : Nat), (∀ j, c ≤ j → j < c + d → 0 < u j → 0 < ru j 6 → j = i) → qw ru u (some i) c d = some i := by
  intro d
  induction d with
  | zero => intro c _; rfl
  | succ d ih =>
    intro c h
    have qe : qw ru u (some i) c (d + 1) = qw ru u (if u c = 0 then some i else if 0 < ru c 6 then some c else some i) (c + 1) d := rfl
    have r := ih (c + 1) (fun j h1 h2 => h j (by omega) (by omega))
    rw [qe]
    by_cases z : u c = 0
    · rw [if_pos z]; exact r
    · rw [if_neg z]
      by_cases y : 0 < ru c 6
      · have e := h c (Nat.le_refl _) (by omega) (by omega) y
        rw [if_pos y]
        rw [← e] at r ⊢
        exact r
      · rw [if_neg y]; exact r
theorem qw_mem {ru : Nat → Nat → Nat} {u : Nat → Nat} {i : Nat} : ∀ (d c : Nat) (w : Option Nat), c ≤ i → i < c + d → 0 < u i → 0 < ru i 6 → (∀ j, c ≤ j → j < c + d → 0 < u j → 0 < ru j 6 → j = i) → qw ru u w c d = some i := by
  intro d
  induction d with
  | zero => intro c w h1 h2; exact absurd h1 (by omega)
  | succ d ih =>
    intro c w h1 h2 h3 h4 h
    have qe : qw ru u w c (d + 1) = qw ru u (if u c = 0 then w else if 0 < ru c 6 then some c else w) (c + 1) d := rfl
    rw [qe]
    by_cases ic : i = c
    · subst ic
      rw [if_neg (by omega), if_pos h4]
      exact qw_keep d (i + 1) (fun j h1 h2 => h j (by omega) (by omega))
    · exact ih (c + 1) _ (by omega) (by omega) h3 h4 (fun j h1 h2 => h j (by omega) (by omega))
theorem qos_oo {lab : Nat → Int32} {par : Nat → Nat} {am : Nat → Nat → Nat} {cnt : Nat} {ru us : Nat → Nat → Nat} (hu : UL cnt ru) (hch : ∀ m, m < 6 → qchosen lab par am cnt ru m (us m)) : qoo cnt ru us lab (qos ru cnt us) ∧ qou cnt ru us (qos ru cnt us) := by
  have op : ∀ m, m < 6 → ∀ i, 0 < us m i → i ∈ qol (qopl lab par ru m) 0 cnt := fun m hm i hi => Classical.byContradiction fun w => by have := (hch m hm).2 i w; omega
  refine ⟨fun m hm i hi => ?_, fun m hm i hi hp ho => ?_⟩
  · rcases qw_some cnt 0 none hi with x | ⟨x1, x2, x3, x4⟩
    · cases x
    · have i1 : i < cnt := by omega
      refine ⟨i1, x3, x4, fun z => ?_, ((qchosen_good hu (hch m hm)).1.1 i i1 x3).1⟩
      have o := (qol_mem _ _ _ (op m hm i x3)).2.2
      unfold qopl qop at o
      rw [decide_eq_true x4, decide_eq_true z] at o
      simp at o
  · refine qw_mem cnt 0 none (Nat.zero_le _) (by omega) hp ho (fun j _ _ h3 h4 => ?_)
    exact ((hch m hm).1.2.2 i (op m hm i hp) ho hp).2.2 j (op m hm j h3) h4 h3

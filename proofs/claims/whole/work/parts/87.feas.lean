def qfea (ru : Nat → Nat → Nat) (l : List Nat) (rest : Nat → Nat) (s : Bool) (u : Nat → Nat) : Prop :=
  (∀ i, i ∈ l → u i ≤ 12) ∧ (∀ k, k < 5 → qsum (fun i => u i * qf (ru i 1) k) l ≤ rest k) ∧ ∀ i, i ∈ l → 0 < ru i 6 → 0 < u i → s = false ∧ u i = 1 ∧ ∀ j, j ∈ l → 0 < ru j 6 → 0 < u j → j = i
theorem qT_once {ru : Nat → Nat → Nat} {rest : Nat → Nat} {s : Bool} {i t : Nat} (h : t ≤ qT ru rest s i) (ho : 0 < ru i 6) (hp : 0 < t) : t = 1 ∧ s = false := by
  have a := (qt_iff.mp h).1
  rw [decide_eq_true ho] at a
  cases s with
  | true => exact absurd (Nat.le_trans hp a) (by decide)
  | false =>
    have : t ≤ 1 := a
    exact ⟨by omega, rfl⟩
theorem qfea_cons {ru : Nat → Nat → Nat} {l : List Nat} {rest : Nat → Nat} {s : Bool} {u : Nat → Nat} {i t : Nat} (hT : t ≤ qT ru rest s i) (hi : u i = t) (h : qfea ru l (qR ru rest t i) (qS ru s t i) u) : qfea ru (i :: l) rest s u := by
  have tl := qT_le (ru := ru) (rest := rest) (s := s) (i := i)
  have fit := qT_fits hT
  refine ⟨fun j hj => ?_, fun k hk => ?_, fun j hj ho hp => ?_⟩
  · cases hj with
    | head => omega
    | tail _ hj => exact h.1 j hj
  · have a := h.2.1 k hk
    have b := fit k hk
    show u i * qf (ru i 1) k + qsum (fun i => u i * qf (ru i 1) k) l ≤ rest k
    rw [hi]
    unfold qR at a
    omega
  · have sf : ∀ x, qS ru s t i = false → x ∈ i :: l → 0 < ru x 6 → 0 < u x → x ∈ l := by
      intro x hs hx ox px
      cases hx with
      | head =>
        unfold qS at hs
        rw [decide_eq_true ox, decide_eq_true (show 0 < t by omega)] at hs
        cases s <;> cases hs
      | tail _ hx => exact hx
    cases hj with
    | head =>
      obtain ⟨t1, s1⟩ := qT_once hT ho (by omega)
      refine ⟨s1, by omega, fun x hx ox px => ?_⟩
      cases hx with
      | head => rfl
      | tail _ hx =>
        have w := (h.2.2 x hx ox px).1
        unfold qS at w
        rw [decide_eq_true ho, decide_eq_true (show 0 < t by omega)] at w
        cases s <;> cases w
    | tail _ hj =>
      obtain ⟨w1, w2, w3⟩ := h.2.2 j hj ho hp
      refine ⟨?_, w2, fun x hx ox px => w3 x (sf x w1 hx ox px) ox px⟩
      cases s with
      | false => rfl
      | true => cases w1
theorem qdn_mem {α : Type} {f : Nat → List α} {x : α} : ∀ (T : Nat), x ∈ qdn f T → ∃ t, t ≤ T ∧ x ∈ f t := by
  intro T
  induction T with
  | zero => intro h; exact ⟨0, Nat.le_refl _, h⟩
  | succ T ih =>
    intro h
    unfold qdn at h
    rcases List.mem_append.mp h with h | h
    · exact ⟨T + 1, Nat.le_refl _, h⟩
    · obtain ⟨t, h1, h2⟩ := ih h
      exact ⟨t, by omega, h2⟩
theorem qen_mem {ru : Nat → Nat → Nat} {ol : List Nat} : ∀ (l : List Nat) (rest : Nat → Nat) (s : Bool) (u0 u : Nat → Nat), l.Pairwise (· < ·) → u ∈ qen ru ol l rest s u0 → qfea ru l rest s u ∧ ∀ i, i ∉ l → u i = u0 i := by
  intro l
  induction l with
  | nil =>
    intro rest s u0 u _ h
    unfold qen at h
    split at h
    · have : u = u0 := by simpa using h
      subst this
      exact ⟨⟨fun i hi => absurd hi List.not_mem_nil, fun k hk => Nat.zero_le _, fun i hi => absurd hi List.not_mem_nil⟩, fun _ _ => rfl⟩
    · cases h
  | cons i l ih =>
    intro rest s u0 u hp h
    unfold qen at h
    obtain ⟨t, h1, h2⟩ := qdn_mem _ h
    obtain ⟨g1, g2⟩ := ih _ _ _ _ (List.Pairwise.of_cons hp) h2
    have nin : i ∉ l := fun w => Nat.lt_irrefl _ (List.rel_of_pairwise_cons hp w)
    have ui : u i = t := by rw [g2 i nin, q_up]
    refine ⟨qfea_cons h1 ui g1, fun j hj => ?_⟩
    have jl : j ∉ l := fun w => hj (List.mem_cons_of_mem _ w)
    have ji : ¬ j = i := fun w => hj (by rw [w]; exact List.mem_cons_self ..)
    rw [g2 j jl, q_un ji]
theorem qgr_fea {ru : Nat → Nat → Nat} : ∀ (l : List Nat) (rest : Nat → Nat) (s : Bool) (u0 : Nat → Nat), l.Pairwise (· < ·) → qfea ru l rest s (qgr ru l rest s u0) := by
  intro l
  induction l with
  | nil =>
    intro rest s u0 _
    exact ⟨fun i hi => absurd hi List.not_mem_nil, fun k hk => Nat.zero_le _, fun i hi => absurd hi List.not_mem_nil⟩
  | cons i l ih =>
    intro rest s u0 hp
    have nin : i ∉ l := fun w => Nat.lt_irrefl _ (List.rel_of_pairwise_cons hp w)
    have w := ih (qR ru rest (qT ru rest s i) i) (qS ru s (qT ru rest s i) i) (eUp u0 i (qT ru rest s i)) (List.Pairwise.of_cons hp)
    refine qfea_cons (t := qT ru rest s i) (Nat.le_refl _) ?_ w
    show qgr ru l _ _ _ i = _
    rw [qgr_out l _ _ _ i nin, q_up]
def qchosen (lab : Nat → Int32) (par : Nat → Nat) (am : Nat → Nat → Nat) (cnt : Nat) (ru : Nat → Nat → Nat) (m : Nat) (u : Nat → Nat) : Prop :=
  qfea ru (qol (qopl lab par ru m) 0 cnt) (am m) false u ∧ ∀ i, i ∉ qol (qopl lab par ru m) 0 cnt → u i = 0
theorem qch_chosen {lab : Nat → Int32} {par : Nat → Nat} {am : Nat → Nat → Nat} {cnt : Nat} {ru : Nat → Nat → Nat} {m : Nat} {u : Nat → Nat} (h : u ∈ qch lab par am cnt ru m) : qchosen lab par am cnt ru m u := qen_mem _ _ _ _ _ (qol_sorted _ _) h
theorem qgr_chosen {lab : Nat → Int32} {par : Nat → Nat} {am : Nat → Nat → Nat} {cnt : Nat} {ru : Nat → Nat → Nat} {m : Nat} : qchosen lab par am cnt ru m (qgr ru (qol (qopl lab par ru m) 0 cnt) (am m) false fun _ => 0) := ⟨qgr_fea _ _ _ _ (qol_sorted _ _), fun i hi => qgr_out _ _ _ _ i hi⟩
theorem qchosen_good {lab : Nat → Int32} {par : Nat → Nat} {am : Nat → Nat → Nat} {cnt : Nat} {ru : Nat → Nat → Nat} {m : Nat} {u : Nat → Nat} (hu : UL cnt ru) (h : qchosen lab par am cnt ru m u) : qgood lab par ru cnt m u ∧ ∀ k, k < 5 → qrs (fun i => u i * qf (ru i 1) k) 0 cnt ≤ am m k := by
  have op : ∀ i, 0 < u i → i ∈ qol (qopl lab par ru m) 0 cnt := fun i hi => Classical.byContradiction fun w => by have := h.2 i w; omega
  refine ⟨⟨fun i hi hp => ?_, fun i hi => ?_⟩, fun k hk => ?_⟩
  · have o := (qol_mem _ _ _ (op i hp)).2.2
    unfold qopl qop at o
    rw [Bool.and_eq_true, decide_eq_true_iff, Bool.and_eq_true, Bool.and_eq_true, Bool.or_eq_true, decide_eq_true_iff] at o
    refine ⟨fun w => ?_, fun w => ?_⟩
    · rw [w] at o
      have b := (hu.2 i hi).1
      exact q_m1' (by omega) o.1
    · rcases o.2.2.2 with x | x
      · exact absurd x w
      · exact x
  · by_cases z : 0 < u i
    · exact h.1.1 i (op i z)
    · omega
  · have e : (fun i => u i * qf (ru i 1) k) = fun i => (if qopl lab par ru m i = true then u i else 0) * qf (ru i 1) k := by
      funext i
      by_cases o : qopl lab par ru m i = true
      · rw [if_pos o]
      · rw [if_neg o, h.2 i (fun w => o (qol_mem _ _ _ w).2.2)]
    rw [e, qrs_qol]
    exact h.1.2.1 k hk

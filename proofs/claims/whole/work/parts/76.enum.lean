def qsum (f : Nat → Nat) : List Nat → Nat
  | [] => 0
  | j :: l => f j + qsum f l
def qdn {α : Type} (f : Nat → List α) : Nat → List α
  | 0 => f 0
  | t + 1 => f (t + 1) ++ qdn f t
def qmax (ru : Nat → Nat → Nat) (ol : List Nat) (rest : Nat → Nat) (s : Bool) : Bool := ol.all fun i => decide (qT ru rest s i = 0)
def qen (ru : Nat → Nat → Nat) (ol : List Nat) : List Nat → (Nat → Nat) → Bool → (Nat → Nat) → List (Nat → Nat)
  | [], rest, s, u => if qmax ru ol rest s then [u] else []
  | i :: l, rest, s, u => qdn (fun t => qen ru ol l (qR ru rest t i) (qS ru s t i) (eUp u i t)) (qT ru rest s i)
theorem qsum_mono {f g : Nat → Nat} : ∀ (l : List Nat), (∀ j, j ∈ l → f j ≤ g j) → qsum f l ≤ qsum g l := by
  intro l
  induction l with
  | nil => intro _; exact Nat.le_refl _
  | cons j l ih =>
    intro h
    have a := h j (List.mem_cons_self ..)
    have b := ih fun i hi => h i (List.mem_cons_of_mem _ hi)
    unfold qsum; omega
theorem qdn_nil {α : Type} {f : Nat → List α} : ∀ (T : Nat), (∀ t, t ≤ T → f t = []) → qdn f T = [] := by
  intro T
  induction T with
  | zero => intro h; exact h 0 (Nat.le_refl _)
  | succ T ih =>
    intro h
    unfold qdn
    rw [h (T + 1) (Nat.le_refl _), ih fun t ht => h t (by omega)]; rfl
theorem qcap_mono {o s s' : Bool} (h : s = true → s' = true) : qcap o s' ≤ qcap o s := by
  cases o <;> cases s <;> cases s' <;> first | decide | exact absurd (h rfl) (by decide)
theorem qT_mono {ru : Nat → Nat → Nat} {rest rest' : Nat → Nat} {s s' : Bool} {i : Nat} (hr : ∀ k, k < 5 → rest' k ≤ rest k) (hs : s = true → s' = true) : qT ru rest' s' i ≤ qT ru rest s i := by
  unfold qT
  have a := qt_iff.mp (Nat.le_refl (qt rest' (qf (ru i 1)) (qcap (decide (0 < ru i 6)) s')))
  exact qt_iff.mpr ⟨Nat.le_trans a.1 (qcap_mono hs), fun k hk => Nat.le_trans (a.2 k hk) (hr k hk)⟩
theorem qT_pos {ru : Nat → Nat → Nat} {rest : Nat → Nat} {s : Bool} {i : Nat} : 0 < qT ru rest s i ↔ qle (qf (ru i 1)) rest ∧ (0 < ru i 6 → s = false) := by
  have e : 0 < qT ru rest s i ↔ 1 ≤ qcap (decide (0 < ru i 6)) s ∧ qle (qs 1 (qf (ru i 1))) rest := qt_iff (u := 1)
  rw [e]
  have e2 : qs 1 (qf (ru i 1)) = qf (ru i 1) := funext fun k => Nat.one_mul _
  rw [e2]
  by_cases x : 0 < ru i 6
  · rw [decide_eq_true x]
    cases s with
    | true => exact ⟨fun h => absurd h.1 (by decide), fun h => absurd (h.2 x) (by decide)⟩
    | false => exact ⟨fun h => ⟨h.2, fun _ => rfl⟩, fun h => ⟨by decide, h.1⟩⟩
  · rw [decide_eq_false x]
    exact ⟨fun h => ⟨h.2, fun w => absurd w x⟩, fun h => ⟨by unfold qcap; simp, h.1⟩⟩
def qcert (ru : Nat → Nat → Nat) (i : Nat) (l : List Nat) (rest : Nat → Nat) (s : Bool) (k : Nat) : Prop :=
  (qf (ru i 1) k + qsum (fun j => qT ru rest s j * qf (ru j 1) k) l ≤ rest k) ∨ ∃ j r, j < 5 ∧ (∀ p, p ∈ l → 0 < qT ru rest s p → 6 * qf (ru p 1) k ≤ r * qf (ru p 1) j) ∧ qf (ru i 1) k + rest j * r / 6 ≤ rest k
def qonc (ru : Nat → Nat → Nat) (i : Nat) (l : List Nat) (rest : Nat → Nat) (s : Bool) : Prop :=
  0 < ru i 6 → s = false ∧ ∀ p, p ∈ l → 0 < qT ru rest s p → ¬ 0 < ru p 6
theorem qS_mono {ru : Nat → Nat → Nat} {s : Bool} {t i : Nat} : s = true → qS ru s t i = true := by
  intro h
  rw [h]; rfl
theorem q_prune {ru : Nat → Nat → Nat} {ol : List Nat} {i : Nat} (hi : i ∈ ol) : ∀ (l : List Nat) (rest : Nat → Nat) (s : Bool) (u : Nat → Nat), (∀ k, k < 5 → 0 < qf (ru i 1) k → qcert ru i l rest s k) → qonc ru i l rest s → qen ru ol l rest s u = [] := by
  intro l
  induction l with
  | nil =>
    intro rest s u hc ho
    have p : 0 < qT ru rest s i := by
      refine qT_pos.mpr ⟨fun k hk => ?_, fun x => (ho x).1⟩
      by_cases z : 0 < qf (ru i 1) k
      · rcases hc k hk z with a | ⟨j, r, _, _, a⟩
        · exact Nat.le_trans (Nat.le_add_right _ _) a
        · exact Nat.le_trans (Nat.le_add_right _ _) a
      · omega
    have m : qmax ru ol rest s = false := by
      apply Bool.eq_false_iff.mpr
      intro w
      have := List.all_eq_true.mp w i hi
      rw [decide_eq_true_iff] at this
      omega
    unfold qen
    rw [m, if_neg Bool.false_ne_true]
  | cons j l ih =>
    intro rest s u hc ho
    unfold qen
    refine qdn_nil _ fun t ht => ?_
    have mono : ∀ p, qT ru (qR ru rest t j) (qS ru s t j) p ≤ qT ru rest s p := fun p => qT_mono (fun k _ => qR_le) qS_mono
    have fit := qT_fits ht
    refine ih _ _ _ (fun k hk z => ?_) (fun x => ?_)
    · have tk : t * qf (ru j 1) k ≤ qT ru rest s j * qf (ru j 1) k := Nat.mul_le_mul_right _ ht
      have fk := fit k hk
      rcases hc k hk z with a | ⟨j', r, hj', b, a⟩
      · left
        have sm : qsum (fun p => qT ru (qR ru rest t j) (qS ru s t j) p * qf (ru p 1) k) l ≤ qsum (fun p => qT ru rest s p * qf (ru p 1) k) l := qsum_mono l fun p _ => Nat.mul_le_mul_right _ (mono p)
        unfold qsum at a
        unfold qR at sm ⊢
        omega
      · right
        refine ⟨j', r, hj', fun p hp hT => b p (List.mem_cons_of_mem _ hp) (Nat.lt_of_lt_of_le hT (mono p)), ?_⟩
        have e6 : 6 * (t * qf (ru j 1) k) ≤ t * qf (ru j 1) j' * r := by
          by_cases t0 : t = 0
          · subst t0; simp
          · have w := b j (List.mem_cons_self ..) (by omega)
            have w2 := Nat.mul_le_mul_left t w
            have e1 : t * (6 * qf (ru j 1) k) = 6 * (t * qf (ru j 1) k) := Nat.mul_left_comm _ _ _
            have e2 : t * (r * qf (ru j 1) j') = t * qf (ru j 1) j' * r := by rw [Nat.mul_comm r, Nat.mul_assoc]
            omega
        have fj := fit j' hj'
        have Y := Nat.mul_le_mul_right r fj
        unfold qR
        rw [Nat.sub_mul]
        omega
    · obtain ⟨o1, o2⟩ := ho x
      constructor
      · unfold qS
        rw [o1]
        by_cases t0 : 0 < t
        · have := o2 j (List.mem_cons_self ..) (by omega)
          rw [decide_eq_false this]; simp
        · rw [decide_eq_false t0]; rfl
      · intro p hp hT
        exact o2 p (List.mem_cons_of_mem _ hp) (Nat.lt_of_lt_of_le hT (mono p))
theorem qmax_iff {ru : Nat → Nat → Nat} {ol : List Nat} {rest : Nat → Nat} {s : Bool} : qmax ru ol rest s = true ↔ ∀ i, i ∈ ol → qT ru rest s i = 0 := by
  unfold qmax
  rw [List.all_eq_true]
  exact ⟨fun h i hi => decide_eq_true_iff.mp (h i hi), fun h i hi => decide_eq_true (h i hi)⟩

def qsmb (a b : qC) : Bool := qallb 6 (fun m => decide (a.1 m = b.1 m)) && (qallb 6 (fun m => decide (qpC a.1 a.2.1 m = qpC b.1 b.2.1 m)) && qallb 7 (fun m => qallb 5 fun k => decide (a.2.2 m k = b.2.2 m k)))
theorem qsmb_iff {a b : qC} : qsmb a b = true ↔ (∀ m, m < 6 → a.1 m = b.1 m) ∧ (∀ m, m < 6 → qpC a.1 a.2.1 m = qpC b.1 b.2.1 m) ∧ ∀ m, m < 7 → ∀ k, k < 5 → a.2.2 m k = b.2.2 m k := by
  unfold qsmb
  rw [Bool.and_eq_true, Bool.and_eq_true, qallb_iff, qallb_iff, qallb_iff]
  refine ⟨fun h => ⟨fun m hm => decide_eq_true_iff.mp (h.1 m hm), fun m hm => decide_eq_true_iff.mp (h.2.1 m hm), fun m hm k hk => decide_eq_true_iff.mp (qallb_iff.mp (h.2.2 m hm) k hk)⟩, fun h => ⟨fun m hm => decide_eq_true (h.1 m hm), fun m hm => decide_eq_true (h.2.1 m hm), fun m hm => qallb_iff.mpr fun k hk => decide_eq_true (h.2.2 m hm k hk)⟩⟩
def qkeep (acc : List qC) (s : qC) : Option (List qC) := if acc.any (fun a => qsmb a s) = true then some acc else if 40 ≤ acc.length then none else some (acc ++ [s])
def qwl (st : qC) (cnt : Nat) (ru : Nat → Nat → Nat) : Nat → (Nat → Nat) → List qC → Option (List qC)
  | 0, _, acc => some acc
  | r + 1, dg, acc => match qstep st cnt ru (qus st cnt ru dg) with
    | none => qwl st cnt ru r (qinc (qln st cnt ru) 6 dg).1 acc
    | some s => match qkeep acc s with
      | none => none
      | some acc' => qwl st cnt ru r (qinc (qln st cnt ru) 6 dg).1 acc'
def qspr (st : qC) (cnt : Nat) (ru : Nat → Nat → Nat) (acc : List qC) : Option (List qC) := if qpr (qln st cnt ru) 6 ≤ 1000 then qwl st cnt ru (qpr (qln st cnt ru) 6) (fun _ => 0) acc else none
def qgo (cnt : Nat) (ru : Nat → Nat → Nat) : List qC → List qC → Option (List qC)
  | [], acc => some acc
  | s :: l, acc => match qspr s cnt ru acc with
    | none => none
    | some acc' => qgo cnt ru l acc'
def qouts (cnt : Nat) (ru : Nat → Nat → Nat) : Nat → List qC → Option (List qC)
  | 0, l => some l
  | r + 1, l => match qgo cnt ru l [] with
    | none => none
    | some l' => qouts cnt ru r l'
def KMs (cells : Nat → Int32) (base : Nat) (l : List qC) : Prop := ∀ i s, l[i]? = some s → KM s.1 s.2.1 s.2.2 cells (base + i)
theorem qok_lt {am : Nat → Nat → Nat} (h : qok am) : ∀ m, m < 7 → ∀ k, k < 5 → am m k ≤ 999 := by
  intro m hm k hk
  by_cases h6 : m < 6
  · have := h.1 m h6 k hk
    omega
  · have : m = 6 := by omega
    rw [this]; exact h.2 k hk
theorem q_pMC {lab lab' : Nat → Int32} {par par' : Nat → Nat} {m : Nat} (h : lab m = lab' m) : qpM lab par m = qpM lab' par' m ↔ qpC lab par m = qpC lab' par' m := by
  unfold qpM qpC
  by_cases z : m = 0
  · rw [if_pos z, if_pos z, if_pos z, if_pos z]; exact ⟨fun _ => rfl, fun _ => rfl⟩
  · rw [if_neg z, if_neg z, if_neg z, if_neg z, h]
    by_cases y : lab' m = -1
    · rw [if_pos y, if_pos y, if_pos y, if_pos y]; exact ⟨fun _ => rfl, fun _ => rfl⟩
    · rw [if_neg y, if_neg y, if_neg y, if_neg y]
theorem q_sameR {a s : qC} {cells : Nat → Int32} {r1 r2 : Nat} (h1 : KM a.1 a.2.1 a.2.2 cells r1) (h2 : KM s.1 s.2.1 s.2.2 cells r2) (k1 : qok a.2.2) (k2 : qok s.2.2) : (∀ x, x < 47 → cells (47 * r1 + x) = cells (47 * r2 + x)) ↔ qsmb a s = true := by
  rw [qsmb_iff]
  constructor
  · intro w
    have lb : ∀ m, m < 6 → a.1 m = s.1 m := fun m hm => by
      have e := w (7 * m + 5) (by omega)
      rw [← Nat.add_assoc, ← Nat.add_assoc, h1.1 m hm, h2.1 m hm] at e
      exact e
    refine ⟨lb, fun m hm => ?_, fun m hm k hk => ?_⟩
    · have e := w (7 * m + 6) (by omega)
      rw [← Nat.add_assoc, ← Nat.add_assoc, h1.2.1 m hm, h2.2.1 m hm] at e
      exact (q_pMC (lb m hm)).mp e
    · have e := w (7 * m + k) (by omega)
      rw [← Nat.add_assoc, ← Nat.add_assoc, h1.2.2 m hm k hk, h2.2.2 m hm k hk] at e
      have b1 := qok_lt k1 m hm k hk
      have b2 := qok_lt k2 m hm k hk
      exact (nI_eq (by omega) (by omega)).mp e
  · rintro ⟨w1, w2, w3⟩ x hx
    obtain ⟨m, k, rfl, hk⟩ : ∃ m k, x = 7 * m + k ∧ k < 7 := ⟨x / 7, x % 7, by omega, by omega⟩
    rw [← Nat.add_assoc, ← Nat.add_assoc]
    by_cases k5 : k < 5
    · rw [h1.2.2 m (by omega) k k5, h2.2.2 m (by omega) k k5, w3 m (by omega) k k5]
    · by_cases e5 : k = 5
      · subst e5; rw [h1.1 m (by omega), h2.1 m (by omega), w1 m (by omega)]
      · have e6 : k = 6 := by omega
        subst e6
        rw [h1.2.1 m (by omega), h2.2.1 m (by omega)]
        exact (q_pMC (w1 m (by omega))).mpr (w2 m (by omega))
theorem q_addM {acc : List qC} {s : qC} {cells : Nat → Int32} (hA : KMs cells 41 acc) (hs : KM s.1 s.2.1 s.2.2 cells 81) (hI : ∀ a, a ∈ acc → KI a) (hIs : KI s) (h40 : acc.length ≤ 40) {n : Nat} (hn : 100 ≤ n) : (qkeep acc s = none → M_add n cells (nI acc.length) = some (0, cells, nI acc.length)) ∧ ∀ acc', qkeep acc s = some acc' → ∃ cells', M_add n cells (nI acc.length) = some (1, cells', nI acc'.length) ∧ KMs cells' 41 acc' ∧ (∀ j, j < 47 * 41 → cells' j = cells j) ∧ acc'.length ≤ 40 ∧ ∀ a, a ∈ acc' → KI a := by
  have key : ∀ (d i n : Nat), i + d = acc.length → d + 50 ≤ n → ((∃ j a, i ≤ j ∧ acc[j]? = some a ∧ qsmb a s = true) → M_add_2 n (nI i) cells (nI acc.length) = some (1, cells, nI acc.length)) ∧ ((∀ j a, i ≤ j → acc[j]? = some a → ¬ qsmb a s = true) → M_add_2 n (nI i) cells (nI acc.length) = if nI acc.length = (40 : Int32) then some (0, cells, nI acc.length) else (M_copy (n - d - 1) 81 (nI (41 + acc.length)) cells).bind fun v1 => some (1, v1, nI (acc.length + 1))) := by
    intro d
    induction d with
    | zero =>
      intro i n e hn
      obtain ⟨n, rfl⟩ : ∃ m, n = m + 1 := ⟨n - 1, by omega⟩
      refine ⟨fun ⟨j, a, h1, h2, h3⟩ => ?_, fun _ => ?_⟩
      · have := (List.getElem?_eq_some_iff.mp h2).1
        exact absurd this (by omega)
      · have e1 : (41 : Int32) + nI acc.length = nI (41 + acc.length) := nI_add 41 _
        rw [M_add_2, if_pos (nI_le (by omega) (by omega)), e1, nI_1]
        rfl
    | succ d ih =>
      intro i n e hn
      obtain ⟨n, rfl⟩ : ∃ m, n = m + 1 := ⟨n - 1, by omega⟩
      have il : i < acc.length := by omega
      have gi : acc[i]? = some acc[i] := List.getElem?_eq_getElem il
      have e1 : (41 : Int32) + nI i = nI (41 + i) := nI_add 41 _
      obtain ⟨r, f1, f2⟩ := q_sameM (a := 41 + i) (b := 81) (by omega) (by omega) cells (n := n) (by omega)
      have f1' : M_same n (nI (41 + i)) 81 cells = some (qb r) := f1
      have f3 := f2.trans (q_sameR (hA i _ gi) hs (hI _ (List.getElem_mem il)).2.2.1 hIs.2.2.1)
      obtain ⟨r1, r2⟩ := ih (i + 1) n (by omega) (by omega)
      rw [M_add_2, if_neg (nI_ge il (by omega)), e1, f1', Option.bind_some, nI_1]
      cases r with
      | true =>
        rw [if_neg qb_t]
        have w := f3.mp rfl
        exact ⟨fun _ => rfl, fun h => absurd w (h i _ (Nat.le_refl _) gi)⟩
      | false =>
        rw [if_pos qb_f]
        have w : ¬ qsmb acc[i] s = true := fun z => absurd (f3.mpr z) (by decide)
        refine ⟨fun ⟨j, a, h1, h2, h3⟩ => r1 ⟨j, a, ?_, h2, h3⟩, fun h => ?_⟩
        · by_cases ji : j = i
          · subst ji
            rw [gi] at h2
            cases h2
            exact absurd h3 w
          · omega
        · rw [r2 (fun j a h1 h2 => h j a (by omega) h2), show n + 1 - (d + 1) - 1 = n - d - 1 by omega]
  have len31 : acc.length < 2 ^ 31 := by omega
  obtain ⟨k1, k2⟩ := key acc.length 0 n (by omega) (by omega)
  unfold qkeep
  have st0 : M_add n cells (nI acc.length) = M_add_2 n (nI 0) cells (nI acc.length) := rfl
  rw [st0]
  by_cases x : acc.any (fun a => qsmb a s) = true
  · rw [if_pos x]
    obtain ⟨a, a1, a2⟩ := List.any_eq_true.mp x
    obtain ⟨j, hj⟩ := List.getElem?_of_mem a1
    refine ⟨fun z => (by cases z), fun acc' z => ?_⟩
    cases z
    exact ⟨cells, k1 ⟨j, a, Nat.zero_le _, hj, a2⟩, hA, fun _ _ => rfl, h40, hI⟩
  · rw [if_neg x]
    have no : ∀ j a, 0 ≤ j → acc[j]? = some a → ¬ qsmb a s = true := fun j a _ h2 h3 => x (List.any_eq_true.mpr ⟨a, List.mem_of_getElem? h2, h3⟩)
    rw [k2 no]
    by_cases y : 40 ≤ acc.length
    · have e40 : acc.length = 40 := by omega
      rw [if_pos y, if_pos (show nI acc.length = (40 : Int32) by rw [e40]; rfl)]
      exact ⟨fun _ => rfl, fun acc' z => (by cases z)⟩
    · rw [if_neg y, if_neg (fun z => y (by have := (nI_eq (b := 40) (by omega) (by decide)).mp z; omega))]
      refine ⟨fun z => (by cases z), fun acc' z => ?_⟩
      cases z
      obtain ⟨c1, f1, f2, f3⟩ := q_copyM (fr := 81) (to := 41 + acc.length) (by omega) (by omega) (by omega) cells (n := n - acc.length - 1) (by omega)
      have f1' : M_copy (n - acc.length - 1) 81 (nI (41 + acc.length)) cells = some c1 := f1
      rw [f1', Option.bind_some]
      refine ⟨c1, by rw [List.length_append]; rfl, fun i t ht => ?_, fun j hj => f3 j (by omega), by rw [List.length_append]; show acc.length + 1 ≤ 40; omega, fun a ha => ?_⟩
      · by_cases il : i < acc.length
        · rw [List.getElem?_append_left il] at ht
          exact KM_fr (hA i t ht) (fun j hj => f3 j hj) (by omega)
        · have ie : i = acc.length := by
            have := (List.getElem?_eq_some_iff.mp ht).1
            rw [List.length_append] at this
            have : i < acc.length + 1 := this
            omega
          subst ie
          rw [List.getElem?_append_right (Nat.le_refl _), Nat.sub_self] at ht
          cases ht
          exact KM_copy hs f2
      · rcases List.mem_append.mp ha with w | w
        · exact hI a w
        · cases w with
          | head => exact hIs
          | tail _ w => cases w

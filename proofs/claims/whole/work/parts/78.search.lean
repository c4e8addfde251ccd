def qput (f : (Nat → Nat) → Nat) (row : Nat → Int32) : Nat → List (Nat → Nat) → (Nat → Int32)
  | _, [] => row
  | en, u :: L => qput f (eUp row en (nI (f u))) (en + 1) L
theorem qput_append {f : (Nat → Nat) → Nat} : ∀ (A B : List (Nat → Nat)) (row : Nat → Int32) (en : Nat), qput f row en (A ++ B) = qput f (qput f row en A) (en + A.length) B := by
  intro A
  induction A with
  | nil => intro B row en; rfl
  | cons u A ih =>
    intro B row en
    show qput f _ (en + 1) (A ++ B) = _
    rw [ih]
    have : en + 1 + A.length = en + (u :: A).length := by rw [List.length_cons]; omega
    rw [this]; rfl
theorem qput_lo {f : (Nat → Nat) → Nat} : ∀ (A : List (Nat → Nat)) (row : Nat → Int32) (en j : Nat), j < en → qput f row en A j = row j := by
  intro A
  induction A with
  | nil => intro row en j _; rfl
  | cons u A ih =>
    intro row en j h
    unfold qput
    rw [ih _ _ _ (by omega), q_un (by omega)]
theorem qput_at {f : (Nat → Nat) → Nat} : ∀ (A : List (Nat → Nat)) (row : Nat → Int32) (en j : Nat) (v : Nat → Nat), A[j]? = some v → qput f row en A (en + j) = nI (f v) := by
  intro A
  induction A with
  | nil => intro row en j v h; simp at h
  | cons u A ih =>
    intro row en j v h
    unfold qput
    cases j with
    | zero =>
      have : u = v := by simpa using h
      subst this
      exact (qput_lo A (eUp row en (nI (f u))) (en + 1) en (by omega)).trans (q_up ..)
    | succ j =>
      have h' : A[j]? = some v := by simpa using h
      rw [show en + (j + 1) = en + 1 + j by omega]
      exact ih _ _ _ _ h'
theorem q_take_app {α : Type} (A B : List α) (c : Nat) : (A ++ B).take c = A.take c ++ B.take (c - (A.take c).length) := by
  rw [List.take_append, List.length_take]
  congr 2
  omega
theorem q_search {cnt : Nat} {ru : Nat → Nat → Nat} {ul : Nat → Int32} {ue uk uh uo ui : Nat → Int64} {ut ud uv : Nat → Int32} {ux : Nat → Int64} (hu : UL cnt ru) (hc : UC cnt ru ul ue uk uh uo ui ut ud uv ux) {ol : List Nat} {g : Nat → Option Nat} (hg : ∀ j, j < ol.length → g j = ol[j]?) (h6 : ol.length ≤ 6) (ho : ∀ i, i ∈ ol → i < cnt) {st n : Nat} (hst : st ≤ 1005) (hn : 100 ≤ n) : ∀ (l : List Nat) (p r en : Nat) (rest : Nat → Nat) (s : Bool) (u : Nat → Nat) (row : Nat → Int32), ol.drop p = l → p + l.length = ol.length → l.length + 1 ≤ r → st ≤ en → en ≤ st + 1001 → (∀ k, k < 5 → rest k ≤ 12) → (∀ k, k < 6 → u k < 16) → (∀ i, i ∈ l → u i = 0) → l.Pairwise (· < ·) → (l = [] → qmax ru ol rest s = true) → O_search n r (nI p) (qh rest) (nI (c4p u)) (qb s) (nI ol.length) (nI st) (nI en) g row ue uk ud uv = some (nI (en + ((qen ru ol l rest s u).take (1001 - (en - st))).length), qput c4p row en ((qen ru ol l rest s u).take (1001 - (en - st)))) := by
  intro l
  induction l with
  | nil =>
    intro p r en rest s u row e el hr h1 h2 hR h16 h0 hp hx
    obtain ⟨r, rfl⟩ : ∃ m, r = m + 1 := ⟨r - 1, by omega⟩
    have pe : p = ol.length := el
    have q : qen ru ol [] rest s u = [u] := by unfold qen; rw [hx rfl, if_pos rfl]
    rw [O_search, pk_sub h1, q]
    by_cases c : 1000 < en - st
    · have g1 : (1000 : Int32) < nI (en - st) := nI_lt (a := 1000) c (by omega)
      rw [if_pos g1, show 1001 - (en - st) = 0 by omega]; rfl
    · have g1 : ¬ (1000 : Int32) < nI (en - st) := nI_nlt (b := en - st) (a := 1000) (by omega) (by decide)
      have g2 : nI en < (2012 : Int32) := nI_lt (b := 2012) (by omega) (by decide)
      rw [if_neg g1, if_pos g2, if_neg (nI_nlt (by omega) (by omega)), nI_clamp (by omega), if_neg (q_in (by omega) (by omega)), List.take_of_length_le (by simp; omega), nI_1]; rfl
  | cons i l ih =>
    intro p r en rest s u row e el hr h1 h2 hR h16 h0 hp hx
    obtain ⟨r, rfl⟩ : ∃ m, r = m + 1 := ⟨r - 1, by omega⟩
    rw [List.length_cons] at el hr
    have hj : p < ol.length := by omega
    obtain ⟨gj, im, ed⟩ := q_get hg hj e
    have hi : i < cnt := ho i im
    have i6 : i < 6 := by have := hu.1; omega
    obtain ⟨c1, c2, c3, c4, c5, c6, c7, c8, c9, c10⟩ := hc i hi
    have tl := qT_le (ru := ru) (rest := rest) (s := s) (i := i)
    have hr2 : ∀ k, k < 5 → rest k < 2048 := fun k hk => by have := hR k hk; omega
    have em : R_mostUses n (qh rest) (qb s) (ue i) (ud i) (uv i) = some (nI (qT ru rest s i)) := by
      rw [c2, c8, c9, q_most hr2 (fun k _ => qf_lt _ k) s _ _ (by omega), q_act hu hi]; rfl
    have t1 : qb true = 1 := rfl
    have t0 : qb false = 0 := rfl
    have loop : ∀ (t f en : Nat) (row : Nat → Int32), t ≤ qT ru rest s i → t + 62 ≤ f → st ≤ en → en ≤ st + 1001 → O_search_74 (nI p) (qh rest) (nI (c4p u)) (qb s) (nI ol.length) (nI st) g ue uk ud uv (O_search n r) f i (nI t) (nI en) row = some (nI (en + ((qdn (fun t => qen ru ol l (qR ru rest t i) (qS ru s t i) (eUp u i t)) t).take (1001 - (en - st))).length), qput c4p row en ((qdn (fun t => qen ru ol l (qR ru rest t i) (qS ru s t i) (eUp u i t)) t).take (1001 - (en - st)))) := by
      have one : ∀ (t f en : Nat) (row : Nat → Int32) (X : Int32), t ≤ qT ru rest s i → 60 ≤ f → st ≤ en → en ≤ st + 1001 → nI t + (-1) = X → O_search_74 (nI p) (qh rest) (nI (c4p u)) (qb s) (nI ol.length) (nI st) g ue uk ud uv (O_search n r) (f + 1) i (nI t) (nI en) row = O_search_74 (nI p) (qh rest) (nI (c4p u)) (qb s) (nI ol.length) (nI st) g ue uk ud uv (O_search n r) f i X (nI (en + ((qen ru ol l (qR ru rest t i) (qS ru s t i) (eUp u i t)).take (1001 - (en - st))).length)) (qput c4p row en ((qen ru ol l (qR ru rest t i) (qS ru s t i) (eUp u i t)).take (1001 - (en - st)))) := by
        intro t f en row X ht hf h1 h2 hX
        have er : qh rest - (nI t).toInt64 * ue i = qh (qR ru rest t i) := by
          rw [c2, nI_l (by omega), qR_sub ht]
        have hR' : ∀ k, k < 5 → qR ru rest t i k ≤ 12 := fun k hk => Nat.le_trans qR_le (hR k hk)
        have e115 : O_search_115 (nI p) (nI (c4p u)) (nI ol.length) (nI st) g ue uk ud uv (O_search n r) (O_search_74 (nI p) (qh rest) (nI (c4p u)) (qb s) (nI ol.length) (nI st) g ue uk ud uv (O_search n r) f) f i (nI t) (qh (qR ru rest t i)) (qb (qS ru s t i)) (nI en) row = O_search_74 (nI p) (qh rest) (nI (c4p u)) (qb s) (nI ol.length) (nI st) g ue uk ud uv (O_search n r) f i X (nI (en + ((qen ru ol l (qR ru rest t i) (qS ru s t i) (eUp u i t)).take (1001 - (en - st))).length)) (qput c4p row en ((qen ru ol l (qR ru rest t i) (qS ru s t i) (eUp u i t)).take (1001 - (en - st)))) := by
          unfold O_search_115
          rw [nI_1, q_cbm hu hc hg h6 ho (by omega) hR' (by omega), Option.bind_some, hX]
          by_cases b : qcbm ru ol (p + 1) (qR ru rest t i) (qS ru s t i) = true
          · have ihh := ih (p + 1) r en (qR ru rest t i) (qS ru s t i) (eUp u i t) row ed (by omega) (by omega) h1 h2 hR' (fun k hk => by
              have := h16 k hk
              unfold eUp; split <;> omega) (fun k hk => by
              have := List.rel_of_pairwise_cons hp hk
              rw [q_un (by omega)]
              exact h0 k (List.mem_cons_of_mem _ hk)) (List.Pairwise.of_cons hp) (fun z => by
              rw [z] at el
              rw [← q_cbm_all (p := p + 1) (by simp at el; omega)]
              exact b)
            rw [b, if_neg qb_t, q_with h16 i6 (by omega) (h0 i (List.mem_cons_self ..)), Option.bind_some, ihh, Option.bind_some]
          · have b' := Bool.eq_false_iff.mpr b
            have z := q_cbm_f b' (eUp u i t)
            rw [ed] at z
            rw [b', if_pos qb_f, z, List.take_nil]; rfl
        rw [O_search_74, if_neg (nI_pos (by omega)), er]
        unfold O_search_114 O_search_110
        cases s with
        | true =>
          rw [if_neg qb_t]
          exact e115
        | false =>
          rw [if_pos qb_f]
          by_cases z : t = 0
          · have : qS ru false t i = false := by unfold qS; rw [z]; rfl
            rw [this] at e115 ⊢
            rw [if_pos (show nI t ≤ 0 by rw [z]; decide)]
            exact e115
          · rw [if_neg (nI_nle (by omega) (by omega)), c8, c9, q_once, Option.bind_some, q_act hu hi]
            have y : qS ru false t i = decide (0 < ru i 6) := by unfold qS; rw [decide_eq_true (show 0 < t by omega)]; rfl
            rw [y] at e115 ⊢
            by_cases x : 0 < ru i 6
            · rw [decide_eq_true x] at e115 ⊢
              rw [if_neg qb_t]
              exact e115
            · rw [decide_eq_false x] at e115 ⊢
              rw [if_pos qb_f]
              exact e115
      intro t
      induction t with
      | zero =>
        intro f en row ht hf h1 h2
        obtain ⟨f, rfl⟩ : ∃ m, f = m + 1 := ⟨f - 1, by omega⟩
        obtain ⟨f, rfl⟩ : ∃ m, f = m + 1 := ⟨f - 1, by omega⟩
        rw [one 0 (f + 1) en row (-1) ht (by omega) h1 h2 rfl, O_search_74, if_pos (by decide)]; rfl
      | succ t iht =>
        intro f en row ht hf h1 h2
        obtain ⟨f, rfl⟩ : ∃ m, f = m + 1 := ⟨f - 1, by omega⟩
        have lt := List.length_take_le (1001 - (en - st)) (qen ru ol l (qR ru rest (t + 1) i) (qS ru s (t + 1) i) (eUp u i (t + 1)))
        rw [one (t + 1) f en row (nI t) ht (by omega) h1 h2 (pk_m1 t), iht f _ _ (by omega) (by omega) (by omega) (by omega)]
        have dn : ∀ (F : Nat → List (Nat → Nat)), qdn F (t + 1) = F (t + 1) ++ qdn F t := fun _ => rfl
        rw [dn, q_take_app, qput_append, List.length_append]
        have e1 : 1001 - (en + ((qen ru ol l (qR ru rest (t + 1) i) (qS ru s (t + 1) i) (eUp u i (t + 1))).take (1001 - (en - st))).length - st) = 1001 - (en - st) - ((qen ru ol l (qR ru rest (t + 1) i) (qS ru s (t + 1) i) (eUp u i (t + 1))).take (1001 - (en - st))).length := by omega
        rw [e1]
        simp only [Nat.add_assoc]
    rw [O_search, pk_sub h1]
    by_cases c : 1000 < en - st
    · have g1 : (1000 : Int32) < nI (en - st) := nI_lt (a := 1000) c (by omega)
      rw [if_pos g1, show 1001 - (en - st) = 0 by omega]; rfl
    · have g1 : ¬ (1000 : Int32) < nI (en - st) := nI_nlt (b := en - st) (a := 1000) (by omega) (by decide)
      have g2 : nI en < (2012 : Int32) := nI_lt (b := 2012) (by omega) (by decide)
      rw [if_neg g1, if_pos g2, if_pos (nI_lt hj (by omega)), nI_clamp (by omega), if_neg (q_in (by omega) (by omega)), gj]
      show (if 6 ≤ i then none else _) = _
      rw [if_neg (by omega), em, Option.bind_some, loop (qT ru rest s i) n en row (Nat.le_refl _) (by omega) h1 h2]; rfl

def s_dissolve (A : qA) (r : Int32) : Nat × Int32 × qA :=
  if qrb A r = true then (if A.2.2.1 r.toNatClampNeg 6 = 0 then (0, 0, (A.1, A.2.1, eUp A.2.2.1 r.toNatClampNeg (eUp (A.2.2.1 r.toNatClampNeg) 6 1), A.2.2.2)) else (2, 0, A)) else (1, 0, A)
theorem UM_set {cnt : Nat} {ru : Nat → Nat → Nat} {ml me mh mo mi mt ma mx ma' mx' : Nat → Int32} (h : UM cnt ru ml me mh mo mi mt ma mx) {i : Nat} {g : Nat → Nat} (h0 : ∀ f, f < 6 → g f = ru i f) (h6 : ma' i = nI (g 6)) (h7 : g 6 = 2 → mx' i = nI (g 7)) (hm : ∀ j, ¬ j = i → ma' j = ma j) (hx : ∀ j, ¬ j = i → mx' j = mx j) : UM cnt (eUp ru i g) ml me mh mo mi mt ma' mx' := by
  intro j hj
  obtain ⟨c1, c2, c3, c4, c5, cc6, c7, c8⟩ := h j hj
  by_cases ji : j = i
  · subst ji
    have e : eUp ru j g j = g := q_up ..
    rw [e, h0 0 (by omega), h0 1 (by omega), h0 2 (by omega), h0 3 (by omega), h0 4 (by omega), h0 5 (by omega)]
    exact ⟨c1, c2, c3, c4, c5, cc6, h6, h7⟩
  · have e : eUp ru i g j = ru j := q_un ji
    rw [e, hm j ji, hx j ji]
    exact ⟨c1, c2, c3, c4, c5, cc6, c7, c8⟩
theorem r_dissolve {A : qA} (hA : AI A) {rules : Int32} {ml me mh mo mi mt ma mx cells : Nat → Int32} {found : Int32} (h : RM A rules ml me mh mo mi mt ma mx cells found) (r code : Int32) (n : Nat) : ∃ ma', M_dissolve n r code rules ma = some (nI (s_dissolve A r).1, ma') ∧ RM (s_dissolve A r).2.2 rules ml me mh mo mi mt ma' mx cells found := by
  have same := h
  obtain ⟨h1, h2, h3, h4, h5⟩ := h
  obtain ⟨_, hu, _⟩ := hA
  have c6 := hu.1
  have bad : ∀ c : Int32, ¬ c = 0 → M_dissolve_27 r n c code ma = some (c, ma) := fun c hc => by
    unfold M_dissolve_27
    rw [if_neg hc]
  unfold M_dissolve s_dissolve
  rw [h1, q_noRule A r n, Option.bind_some]
  rw [h1] at same
  by_cases pr : qrb A r = true
  · rw [if_pos pr, pr, if_pos (show qb (!true) = 0 by decide)]
    obtain ⟨i, hi, rfl⟩ := qrb_t hu pr
    have b7 := (hu.2 i hi).2.2.2.2.2.2.2.1
    have c7 := (h2 i hi).2.2.2.2.2.2.1
    rw [nI_clamp (by omega), if_neg (q_in (by omega) (by omega)), c7]
    by_cases z : A.2.2.1 i 6 = 0
    · rw [if_pos z, if_pos (show nI (A.2.2.1 i 6) ≤ 0 by rw [z]; decide)]
      unfold M_dissolve_27
      rw [if_pos rfl, nI_clamp (by omega), if_neg (q_in (by omega) (by omega))]
      exact ⟨_, rfl, rfl, UM_set h2 (fun f hf => q_un (by omega)) (by rw [q_up, q_up]; rfl) (fun w => by rw [q_up] at w; cases w) (fun j hj => q_un hj) (fun _ _ => rfl), h3, h4, h5⟩
    · rw [if_neg z, if_neg (nI_nle (by omega) (by omega)), bad 2 (by decide)]
      exact ⟨ma, rfl, same⟩
  · rw [if_neg pr, Bool.eq_false_iff.mpr pr, if_neg (show ¬ qb (!false) = 0 by decide), bad 1 (by decide)]
    exact ⟨ma, rfl, same⟩
def s_divide (A : qA) (r o : Int32) : Nat × Int32 × qA :=
  if qrb A r = true then (if qhb o = true then (if A.2.2.1 r.toNatClampNeg 6 = 0 then (0, 0, (A.1, A.2.1, eUp A.2.2.1 r.toNatClampNeg (eUp (eUp (A.2.2.1 r.toNatClampNeg) 6 2) 7 o.toNatClampNeg), A.2.2.2)) else (3, 0, A)) else (2, 0, A)) else (1, 0, A)
theorem r_divide {A : qA} (hA : AI A) {rules : Int32} {ml me mh mo mi mt ma mx cells : Nat → Int32} {found : Int32} (h : RM A rules ml me mh mo mi mt ma mx cells found) (r o code : Int32) (n : Nat) : ∃ ma' mx', M_divide n r o code rules ma mx = some (nI (s_divide A r o).1, ma', mx') ∧ RM (s_divide A r o).2.2 rules ml me mh mo mi mt ma' mx' cells found := by
  have same := h
  obtain ⟨h1, h2, h3, h4, h5⟩ := h
  obtain ⟨_, hu, _⟩ := hA
  have c6 := hu.1
  have bad : ∀ c : Int32, ¬ c ≤ 0 → M_divide_38 r o n c code ma mx = some (c, ma, mx) := fun c hc => by
    unfold M_divide_38
    rw [if_neg hc]
  unfold M_divide s_divide
  rw [h1, q_noRule A r n, Option.bind_some]
  rw [h1] at same
  by_cases pr : qrb A r = true
  · rw [if_pos pr, pr, if_pos (show qb (!true) = 0 by decide), q_noHandful, Option.bind_some]
    by_cases ho : qhb o = true
    · rw [if_pos ho, ho, if_pos (show qb (!true) = 0 by decide)]
      obtain ⟨i, hi, rfl⟩ := qrb_t hu pr
      obtain ⟨x, hx, rfl⟩ := qhb_t ho
      have b7 := (hu.2 i hi).2.2.2.2.2.2.2.1
      have c7 := (h2 i hi).2.2.2.2.2.2.1
      rw [nI_clamp (by omega), if_neg (q_in (by omega) (by omega)), c7]
      by_cases z : A.2.2.1 i 6 = 0
      · rw [if_pos z, if_pos (show nI (A.2.2.1 i 6) ≤ 0 by rw [z]; decide)]
        unfold M_divide_38
        rw [if_pos (by decide), nI_clamp (by omega), if_neg (q_in (by omega) (by omega)), if_neg (q_in (by omega) (by omega)), nI_clamp (by omega)]
        exact ⟨_, _, rfl, rfl, UM_set h2 (fun f hf => by rw [q_un (by omega), q_un (by omega)]) (by rw [q_up, q_un (by decide), q_up]; rfl) (fun _ => by rw [q_up, q_up]) (fun j hj => q_un hj) (fun j hj => q_un hj), h3, h4, h5⟩
      · rw [if_neg z, if_neg (nI_nle (by omega) (by omega)), bad 3 (by decide)]
        exact ⟨ma, mx, rfl, same⟩
    · rw [if_neg ho, Bool.eq_false_iff.mpr ho, if_neg (show ¬ qb (!false) = 0 by decide), bad 2 (by decide)]
      exact ⟨ma, mx, rfl, same⟩
  · rw [if_neg pr, Bool.eq_false_iff.mpr pr, if_neg (show ¬ qb (!false) = 0 by decide), bad 1 (by decide)]
    exact ⟨ma, mx, rfl, same⟩

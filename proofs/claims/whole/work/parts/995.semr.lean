theorem sU_set {H H' : eH} {ul : Nat → Int32} {ue uk uh uo ui : Nat → Int64} {ut ud uv : Nat → Int32} {ux : Nat → Int64} (h : sU H ul ue uk uh uo ui ut ud uv ux) {idx : Nat} {rl : Int32} {re rk rh ro ri : Int64} {rt rd rv : Int32} {rx : Int64} (hc : H'.1 (4 + idx) = some (.inr (5, [.int (nI idx), .int rl, .long re, .long rk, .long rh, .long ro, .long ri, .int rt, .int rd, .int rv, .long rx]))) (ho : ∀ i, i < 6 → ¬ i = idx → H'.1 (4 + i) = H.1 (4 + i)) : sU H' (eUp ul idx rl) (eUp ue idx re) (eUp uk idx rk) (eUp uh idx rh) (eUp uo idx ro) (eUp ui idx ri) (eUp ut idx rt) (eUp ud idx rd) (eUp uv idx rv) (eUp ux idx rx) := by
  intro i hi
  by_cases e : i = idx
  · subst e
    rw [q_up, q_up, q_up, q_up, q_up, q_up, q_up, q_up, q_up, q_up]
    exact hc
  · rw [q_un e, q_un e, q_un e, q_un e, q_un e, q_un e, q_un e, q_un e, q_un e, q_un e, ho i hi e]
    exact h i hi
theorem UC_set {cnt cnt' : Nat} {ru ru' : Nat → Nat → Nat} {ul : Nat → Int32} {ue uk uh uo ui : Nat → Int64} {ut ud uv : Nat → Int32} {ux : Nat → Int64} (h : UC cnt ru ul ue uk uh uo ui ut ud uv ux) {idx : Nat} {rl : Int32} {re rk rh ro ri : Int64} {rt rd rv : Int32} {rx : Int64} (hi : ∀ i, i < cnt' → ¬ i = idx → i < cnt ∧ ru' i = ru i) (hr : idx < cnt' → cRow ru' idx rl re rk rh ro ri rt rd rv rx) : UC cnt' ru' (eUp ul idx rl) (eUp ue idx re) (eUp uk idx rk) (eUp uh idx rh) (eUp uo idx ro) (eUp ui idx ri) (eUp ut idx rt) (eUp ud idx rd) (eUp uv idx rv) (eUp ux idx rx) := by
  intro i h1
  by_cases e : i = idx
  · subst e
    rw [q_up, q_up, q_up, q_up, q_up, q_up, q_up, q_up, q_up, q_up]
    exact hr h1
  · obtain ⟨g1, g2⟩ := hi i h1 e
    rw [q_un e, q_un e, q_un e, q_un e, q_un e, q_un e, q_un e, q_un e, q_un e, q_un e, g2]
    exact h i g1
theorem UC_row {cnt : Nat} {ru : Nat → Nat → Nat} {ul : Nat → Int32} {ue uk uh uo ui : Nat → Int64} {ut ud uv : Nat → Int32} {ux : Nat → Int64} (h : UC cnt ru ul ue uk uh uo ui ut ud uv ux) {i : Nat} (hi : i < cnt) : cRow ru i (ul i) (ue i) (uk i) (uh i) (uo i) (ui i) (ut i) (ud i) (uv i) (ux i) := h i hi
theorem x_idx (r : Int32) : ∃ idx, idx < 6 ∧ ((r < 0 ∨ 6 ≤ r.toNatClampNeg) ∨ 4 + idx = 4 + r.toNatClampNeg) := by
  by_cases z : r < 0 ∨ 6 ≤ r.toNatClampNeg
  · exact ⟨0, by omega, Or.inl z⟩
  · exact ⟨r.toNatClampNeg, by omega, Or.inr rfl⟩
theorem x_idx_eq {A : qA} (hu : UL A.2.1 A.2.2.1) {r : Int32} {idx : Nat} (h : (r < 0 ∨ 6 ≤ r.toNatClampNeg) ∨ 4 + idx = 4 + r.toNatClampNeg) (w : qrb A r = true) : idx < A.2.1 ∧ r.toNatClampNeg = idx := by
  obtain ⟨i, hi, rfl⟩ := qrb_t hu w
  have c6 := hu.1
  rw [nI_clamp (by omega)] at h ⊢
  rcases h with (z | z) | z
  · exact absurd z (nI_pos (by omega))
  · omega
  · omega
theorem x_rule {X : Nat × (Nat → Int32)} {H : eH} {A : qA} {nw tr fa ga pf pg : Nat} (h : SC H A nw tr fa ga pf pg) (hA : AI A) (hz : 356 ≤ H.2.1) (l a b c : Int32) : xOK X 4 [.ref 1, .int l, .int a, .int b, .int c] H (tc [0, 9, 11] (s_rule A l a b c).1) (some (.int (s_rule A l a b c).2.1)) (s_rule A l a b c).2.2 := by
  have h' := h
  obtain ⟨x, ⟨b1, b2, ul, ue, uk, uh, uo, ui, ut, ud, uv, ux, b3, b4⟩, _⟩ := h
  have hn := x.2
  have h40 := hA.2.2.2
  have hu := hA.2.1
  have c6 := hu.1
  obtain ⟨idx, i6, hidx⟩ := x_idx (nI A.2.1)
  have ie : ¬ A.2.1 = 6 → idx = A.2.1 := fun z => by
    rw [nI_clamp (by omega)] at hidx
    rcases hidx with (y | y) | y
    · exact absurd y (nI_pos (by omega))
    · omega
    · omega
  obtain ⟨rl', re', rk', rh', ro', ri', rt', rd', rv', rx', e1, e2, e3⟩ := c_rule hA l a b c (nI idx) (ul idx) (ue idx) (uk idx) (uh idx) (uo idx) (ui idx) (ut idx) (ud idx) (uv idx) (ux idx) (fun z => by rw [ie z]) (n := 20) (by omega)
  have ev := T_P_rule (X := X) (r := 4 + idx) (hc_r := b3 idx i6) (hc_b := b1) (hc_ba := b2) (hc_x := x.1) (hok_c := nw_ok hn) (hz_r := by omega) (hr9 := hidx) (hr4 := by omega) (hnz := by omega) e1
  dsimp only at ev
  generalize hL : [(4 + idx, (.inr (5, [.int (nI idx), .int rl', .long re', .long rk', .long rh', .long ro', .long ri', .int rt', .int rd', .int rv', .long rx']) : eE)), (2, .inr (6, [.ref 3, .int (nI (s_rule A l a b c).2.2.2.1)]))] = L at ev
  have hLm : L.map Prod.fst = [4 + idx, 2] := by rw [← hL]; rfl
  have hN : ([4 + idx, 2] : List Nat).Nodup := by simp; omega
  have hx : ∀ (lo hi : Nat), ¬ (lo ≤ 2 ∧ 2 < hi) → ¬ (lo ≤ 4 + idx ∧ 4 + idx < hi) → ag H (eW2 H L) lo hi := fun lo hi h1 h2 => ag_w2 hLm (fun a ha => by
    simp only [List.mem_cons, List.not_mem_nil, or_false] at ha
    omega)
  have gt : ∀ (i : Nat) {a : Nat} {c : eE}, L[i]? = some (a, c) → (eW2 H L).1 a = some c := fun i a c hi => eW2_getA hN i hi hLm
  have g0 : (eW2 H L).1 (4 + idx) = some (.inr (5, [.int (nI idx), .int rl', .long re', .long rk', .long rh', .long ro', .long ri', .int rt', .int rd', .int rv', .long rx'])) := gt 0 (by rw [← hL]; rfl)
  have s1 : (s_rule A l a b c).2.2.1 = A.1 ∧ (s_rule A l a b c).2.2.2.2.2 = A.2.2.2 := by
    unfold s_rule
    split
    · split <;> exact ⟨rfl, rfl⟩
    · exact ⟨rfl, rfl⟩
  have e : (s_rule A l a b c).2.2 = (A.1, (s_rule A l a b c).2.2.2.1, (s_rule A l a b c).2.2.2.2.1, A.2.2.2) := by rw [← s1.1, ← s1.2]
  rw [e]
  refine ⟨eW2 H L, nw, tr, fa, ga, pf, pg, ev.mono (by decide), SC_b h' h40 (hx _ _ (by omega) (by omega)) (hx _ _ (by omega) (by omega)) ⟨gt 1 (by rw [← hL]; rfl), (hx 3 4 (by omega) (by omega) 3 (by omega) (by omega)).trans b2, _, _, _, _, _, _, _, _, _, _, sU_set b3 g0 (fun i hi hne => hx (4 + i) (4 + i + 1) (by omega) (by omega) (4 + i) (by omega) (by omega)), UC_set b4 ?_ ?_⟩, rfl, hx _ _ (by omega) (by omega)⟩
  · intro i hi hne
    by_cases z : (s_rule A l a b c).1 = 0
    · obtain ⟨g1, g2, g3⟩ := e2 z
      have := ie g1
      rw [g2] at hi
      refine ⟨by omega, ?_⟩
      unfold s_rule at z ⊢
      split at z
      · rename_i ok
        rw [if_pos ok, if_neg g1]
        exact q_un (by omega)
      · cases z
    · have s2 : (s_rule A l a b c).2.2 = A := by
        unfold s_rule at z ⊢
        split
        · rename_i ok
          rw [if_pos ok] at z
          split
          · rfl
          · rename_i f
            rw [if_neg f] at z
            exact absurd rfl z
        · rfl
      rw [s2] at hi ⊢
      exact ⟨hi, rfl⟩
  · intro hi
    by_cases z : (s_rule A l a b c).1 = 0
    · obtain ⟨g1, g2, g3⟩ := e2 z
      rw [ie g1]
      exact g3
    · have s2 : (s_rule A l a b c).2.2 = A := by
        unfold s_rule at z ⊢
        split
        · rename_i ok
          rw [if_pos ok] at z
          split
          · rfl
          · rename_i f
            rw [if_neg f] at z
            exact absurd rfl z
        · rfl
      rw [s2] at hi ⊢
      obtain ⟨a1, a2, a3, a4, a5, a6, a7, a8, a9, a10⟩ := e3 z
      rw [a1, a2, a3, a4, a5, a6, a7, a8, a9, a10]
      exact UC_row b4 hi
theorem x_into {X : Nat × (Nat → Int32)} {H : eH} {A : qA} {nw tr fa ga pf pg : Nat} (h : SC H A nw tr fa ga pf pg) (hA : AI A) (hz : 356 ≤ H.2.1) (r l hh : Int32) : xOK X 5 [.ref 1, .int r, .int l, .int hh] H (tc [0, 10, 9] (s_into A r l hh).1) none (s_into A r l hh).2.2 := by
  have h' := h
  obtain ⟨x, ⟨b1, b2, ul, ue, uk, uh, uo, ui, ut, ud, uv, ux, b3, b4⟩, _⟩ := h
  have hn := x.2
  have h40 := hA.2.2.2
  have hu := hA.2.1
  have c6 := hu.1
  obtain ⟨idx, i6, hidx⟩ := x_idx r
  obtain ⟨ri', rt', e1, e2, e3⟩ := c_into hA r l hh (ui idx) (ut idx) (n := 20) (by omega)
  have ev := T_P_into (X := X) (r := 4 + idx) (hc_r := b3 idx i6) (hc_b := b1) (hc_ba := b2) (hc_x := x.1) (hok_c := nw_ok hn) (hz_r := by omega) (hr9 := hidx) (hr4 := by omega) (hnz := by omega) e1
  dsimp only at ev
  have hx : ∀ (lo hi : Nat), ¬ (lo ≤ 4 + idx ∧ 4 + idx < hi) → ag H (eW2 H [(4 + idx, .inr (5, [.int (nI idx), .int (ul idx), .long (ue idx), .long (uk idx), .long (uh idx), .long (uo idx), .long ri', .int rt', .int (ud idx), .int (uv idx), .long (ux idx)]))]) lo hi := fun lo hi h2 => ag_w2 (A := [4 + idx]) rfl (fun a ha => by
    simp only [List.mem_cons, List.not_mem_nil, or_false] at ha
    omega)
  have hN : ([4 + idx] : List Nat).Nodup := by simp
  have e : (s_into A r l hh).2.2 = (A.1, A.2.1, (s_into A r l hh).2.2.2.2.1, A.2.2.2) := by
    unfold s_into
    split
    · split <;> rfl
    · rfl
  rw [e]
  refine ⟨_, nw, tr, fa, ga, pf, pg, ev.mono (by decide), SC_b h' h40 (hx _ _ (by omega)) (hx _ _ (by omega)) ⟨(hx 2 3 (by omega) 2 (by omega) (by omega)).trans b1, (hx 3 4 (by omega) 3 (by omega) (by omega)).trans b2, _, _, _, _, _, _, _, _, _, _, sU_set b3 (eW2_getA hN 0 rfl rfl) (fun i hi hne => hx (4 + i) (4 + i + 1) (by omega) (4 + i) (by omega) (by omega)), UC_set b4 ?_ ?_⟩, rfl, hx _ _ (by omega)⟩
  · intro i hi hne
    refine ⟨hi, ?_⟩
    unfold s_into
    by_cases pr : qrb A r = true
    · obtain ⟨j1, j2⟩ := x_idx_eq hu hidx pr
      rw [if_pos pr, j2]
      split
      · exact q_un hne
      · rfl
    · rw [if_neg pr]
  · intro hi
    by_cases z : (s_into A r l hh).1 = 0
    · obtain ⟨a1, a2⟩ := e2 z
      unfold s_into at z ⊢
      by_cases pr : qrb A r = true
      · obtain ⟨j1, j2⟩ := x_idx_eq hu hidx pr
        rw [if_pos pr] at z ⊢
        split at z
        · rename_i ok
          rw [if_pos ok, j2]
          obtain ⟨c1, c2, c3, c4, c5, cc6, c7, c8, c9, c10⟩ := b4 idx j1
          show cRow (eUp A.2.2.1 idx _) idx _ _ _ _ _ _ _ _ _ _
          unfold cRow
          rw [q_up]
          exact ⟨c1, c2, c3, c4, c5, a1, fun _ => a2, c8, c9, c10⟩
        · cases z
      · rw [if_neg pr] at z; cases z
    · obtain ⟨a1, a2⟩ := e3 z
      have s2 : (s_into A r l hh).2.2.2.2.1 = A.2.2.1 := by
        unfold s_into at z ⊢
        split
        · rename_i pr
          rw [if_pos pr] at z
          split
          · rename_i ok
            rw [if_pos ok] at z
            exact absurd rfl z
          · rfl
        · rfl
      rw [s2, a1, a2]
      exact UC_row b4 hi
theorem x_dissolve {X : Nat × (Nat → Int32)} {H : eH} {A : qA} {nw tr fa ga pf pg : Nat} (h : SC H A nw tr fa ga pf pg) (hA : AI A) (hz : 356 ≤ H.2.1) (r : Int32) : xOK X 6 [.ref 1, .int r] H (tc [0, 10, 11] (s_dissolve A r).1) none (s_dissolve A r).2.2 := by
  have h' := h
  obtain ⟨x, ⟨b1, b2, ul, ue, uk, uh, uo, ui, ut, ud, uv, ux, b3, b4⟩, _⟩ := h
  have hn := x.2
  have h40 := hA.2.2.2
  have hu := hA.2.1
  have c6 := hu.1
  obtain ⟨idx, i6, hidx⟩ := x_idx r
  obtain ⟨rd', e1, e2, e3⟩ := c_dissolve hA r (ud idx) (uv idx) (fun pr => by
    obtain ⟨j1, j2⟩ := x_idx_eq hu hidx pr
    rw [j2]
    exact ⟨(b4 idx j1).2.2.2.2.2.2.2.1, (b4 idx j1).2.2.2.2.2.2.2.2.1⟩) 20
  have ev := T_P_dissolve (X := X) (r := 4 + idx) (hc_r := b3 idx i6) (hc_b := b1) (hc_ba := b2) (hc_x := x.1) (hok_c := nw_ok hn) (hz_r := by omega) (hr9 := hidx) (hr4 := by omega) (hnz := by omega) e1
  dsimp only at ev
  have hx : ∀ (lo hi : Nat), ¬ (lo ≤ 4 + idx ∧ 4 + idx < hi) → ag H (eW2 H [(4 + idx, .inr (5, [.int (nI idx), .int (ul idx), .long (ue idx), .long (uk idx), .long (uh idx), .long (uo idx), .long (ui idx), .int (ut idx), .int rd', .int (uv idx), .long (ux idx)]))]) lo hi := fun lo hi h2 => ag_w2 (A := [4 + idx]) rfl (fun a ha => by
    simp only [List.mem_cons, List.not_mem_nil, or_false] at ha
    omega)
  have hN : ([4 + idx] : List Nat).Nodup := by simp
  have e : (s_dissolve A r).2.2 = (A.1, A.2.1, (s_dissolve A r).2.2.2.2.1, A.2.2.2) := by
    unfold s_dissolve
    split
    · split <;> rfl
    · rfl
  rw [e]
  refine ⟨_, nw, tr, fa, ga, pf, pg, ev.mono (by decide), SC_b h' h40 (hx _ _ (by omega)) (hx _ _ (by omega)) ⟨(hx 2 3 (by omega) 2 (by omega) (by omega)).trans b1, (hx 3 4 (by omega) 3 (by omega) (by omega)).trans b2, _, _, _, _, _, _, _, _, _, _, sU_set b3 (eW2_getA hN 0 rfl rfl) (fun i hi hne => hx (4 + i) (4 + i + 1) (by omega) (4 + i) (by omega) (by omega)), UC_set b4 ?_ ?_⟩, rfl, hx _ _ (by omega)⟩
  · intro i hi hne
    refine ⟨hi, ?_⟩
    unfold s_dissolve
    by_cases pr : qrb A r = true
    · obtain ⟨j1, j2⟩ := x_idx_eq hu hidx pr
      rw [if_pos pr, j2]
      split
      · exact q_un hne
      · rfl
    · rw [if_neg pr]
  · intro hi
    by_cases z : (s_dissolve A r).1 = 0
    · have a1 := e2 z
      unfold s_dissolve at z ⊢
      by_cases pr : qrb A r = true
      · obtain ⟨j1, j2⟩ := x_idx_eq hu hidx pr
        rw [if_pos pr] at z ⊢
        split at z
        · rename_i ok
          rw [if_pos ok, j2]
          rw [j2] at ok
          obtain ⟨c1, c2, c3, c4, c5, cc6, c7, c8, c9, c10⟩ := b4 idx j1
          show cRow (eUp A.2.2.1 idx _) idx _ _ _ _ _ _ _ _ _ _
          unfold cRow
          rw [q_up]
          refine ⟨c1, c2, c3, c4, c5, cc6, c7, a1, ?_, fun w => absurd w (show ¬ 1 = 2 by decide)⟩
          rw [c9, ok]
          rfl
        · cases z
      · rw [if_neg pr] at z; cases z
    · have a1 := e3 z
      have s2 : (s_dissolve A r).2.2.2.2.1 = A.2.2.1 := by
        unfold s_dissolve at z ⊢
        split
        · rename_i pr
          rw [if_pos pr] at z
          split
          · rename_i ok
            rw [if_pos ok] at z
            exact absurd rfl z
          · rfl
        · rfl
      rw [s2, a1]
      exact UC_row b4 hi
theorem x_divide {X : Nat × (Nat → Int32)} {H : eH} {A : qA} {nw tr fa ga pf pg : Nat} (h : SC H A nw tr fa ga pf pg) (hA : AI A) (hz : 356 ≤ H.2.1) (r o : Int32) : xOK X 7 [.ref 1, .int r, .int o] H (tc [0, 10, 9, 11] (s_divide A r o).1) none (s_divide A r o).2.2 := by
  have h' := h
  obtain ⟨x, ⟨b1, b2, ul, ue, uk, uh, uo, ui, ut, ud, uv, ux, b3, b4⟩, _⟩ := h
  have hn := x.2
  have h40 := hA.2.2.2
  have hu := hA.2.1
  have c6 := hu.1
  obtain ⟨idx, i6, hidx⟩ := x_idx r
  obtain ⟨rv', rx', e1, e2, e3⟩ := c_divide hA r o (ud idx) (uv idx) (ux idx) (fun pr => by
    obtain ⟨j1, j2⟩ := x_idx_eq hu hidx pr
    rw [j2]
    exact ⟨(b4 idx j1).2.2.2.2.2.2.2.1, (b4 idx j1).2.2.2.2.2.2.2.2.1⟩) (n := 20) (by omega)
  have ev := T_P_divide (X := X) (r := 4 + idx) (hc_r := b3 idx i6) (hc_b := b1) (hc_ba := b2) (hc_x := x.1) (hok_c := nw_ok hn) (hz_r := by omega) (hr9 := hidx) (hr4 := by omega) (hnz := by omega) e1
  dsimp only at ev
  have hx : ∀ (lo hi : Nat), ¬ (lo ≤ 4 + idx ∧ 4 + idx < hi) → ag H (eW2 H [(4 + idx, .inr (5, [.int (nI idx), .int (ul idx), .long (ue idx), .long (uk idx), .long (uh idx), .long (uo idx), .long (ui idx), .int (ut idx), .int (ud idx), .int rv', .long rx']))]) lo hi := fun lo hi h2 => ag_w2 (A := [4 + idx]) rfl (fun a ha => by
    simp only [List.mem_cons, List.not_mem_nil, or_false] at ha
    omega)
  have hN : ([4 + idx] : List Nat).Nodup := by simp
  have e : (s_divide A r o).2.2 = (A.1, A.2.1, (s_divide A r o).2.2.2.2.1, A.2.2.2) := by
    unfold s_divide
    split
    · split
      · split <;> rfl
      · rfl
    · rfl
  have bad : ¬ (s_divide A r o).1 = 0 → (s_divide A r o).2.2.2.2.1 = A.2.2.1 := fun z => by
    unfold s_divide at z ⊢
    split
    · rename_i pr
      rw [if_pos pr] at z
      split
      · rename_i ho
        rw [if_pos ho] at z
        split
        · rename_i ok
          rw [if_pos ok] at z
          exact absurd rfl z
        · rfl
      · rfl
    · rfl
  have good : (s_divide A r o).1 = 0 → idx < A.2.1 ∧ A.2.2.1 idx 6 = 0 ∧ (s_divide A r o).2.2.2.2.1 = eUp A.2.2.1 idx (eUp (eUp (A.2.2.1 idx) 6 2) 7 o.toNatClampNeg) := fun z => by
    unfold s_divide at z ⊢
    by_cases pr : qrb A r = true
    · obtain ⟨j1, j2⟩ := x_idx_eq hu hidx pr
      rw [if_pos pr] at z ⊢
      by_cases ho : qhb o = true
      · rw [if_pos ho, j2] at z
        rw [if_pos ho, j2]
        by_cases ok : A.2.2.1 idx 6 = 0
        · rw [if_pos ok]
          exact ⟨j1, ok, rfl⟩
        · rw [if_neg ok] at z; cases z
      · rw [if_neg ho] at z; cases z
    · rw [if_neg pr] at z; cases z
  rw [e]
  refine ⟨_, nw, tr, fa, ga, pf, pg, ev.mono (by decide), SC_b h' h40 (hx _ _ (by omega)) (hx _ _ (by omega)) ⟨(hx 2 3 (by omega) 2 (by omega) (by omega)).trans b1, (hx 3 4 (by omega) 3 (by omega) (by omega)).trans b2, _, _, _, _, _, _, _, _, _, _, sU_set b3 (eW2_getA hN 0 rfl rfl) (fun i hi hne => hx (4 + i) (4 + i + 1) (by omega) (4 + i) (by omega) (by omega)), UC_set b4 ?_ ?_⟩, rfl, hx _ _ (by omega)⟩
  · intro i hi hne
    refine ⟨hi, ?_⟩
    by_cases z : (s_divide A r o).1 = 0
    · rw [(good z).2.2]
      exact q_un hne
    · rw [bad z]
  · intro hi
    by_cases z : (s_divide A r o).1 = 0
    · obtain ⟨a1, a2⟩ := e2 z
      obtain ⟨j1, ok, j3⟩ := good z
      rw [j3]
      obtain ⟨c1, c2, c3, c4, c5, cc6, c7, c8, c9, c10⟩ := b4 idx j1
      unfold cRow
      rw [q_up]
      refine ⟨c1, c2, c3, c4, c5, cc6, c7, ?_, a1, fun _ => a2⟩
      rw [c8, ok]
      rfl
    · obtain ⟨a1, a2⟩ := e3 z
      rw [bad z, a1, a2]
      exact UC_row b4 hi

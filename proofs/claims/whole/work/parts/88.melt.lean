def qmp (par : Nat → Nat) (m c : Nat) : Nat := if par c = m then par m else par c
def qma (par : Nat → Nat) (am : Nat → Nat → Nat) (m : Nat) : Nat → Nat → Nat := eUp (eUp am (par m) fun k => am (par m) k + am m k) m fun _ => 0
theorem qmp_kid {lab : Nat → Int32} {par : Nat → Nat} {m c : Nat} (h : qkid lab par m c = true) : qpC lab (qmp par m) c = nI (par m) := by
  unfold qkid at h
  rw [decide_eq_true_iff] at h
  unfold qpC qmp
  rw [if_neg h.1, if_neg h.2.1, if_pos h.2.2]
theorem qmp_non {lab : Nat → Int32} {par : Nat → Nat} {m c : Nat} (h : ¬ qkid lab par m c = true) : qpC lab (qmp par m) c = qpC lab par c := by
  unfold qkid at h
  rw [decide_eq_true_iff] at h
  unfold qpC qmp
  by_cases z : c = 0
  · rw [if_pos z, if_pos z]
  · rw [if_neg z, if_neg z]
    by_cases y : lab c = -1
    · rw [if_pos y, if_pos y]
    · rw [if_neg y, if_neg y, if_neg (fun w => h ⟨z, y, w⟩)]
theorem q_meltC {lab : Nat → Int32} {par : Nat → Nat} {am : Nat → Nat → Nat} {cl cp : Nat → Int32} {ch : Nat → Int64} (hl : KL lab par) (h : KC lab par am cl cp ch) {m : Nat} (hm : m < 6) (h0 : ¬ m = 0) (hpr : ¬ lab m = -1) (hne : ¬ par m = m) {n : Nat} (hn : 7 ≤ n) : ∃ cl' cp' ch', W_melt n (nI m) cl cp ch = some (cl', cp', ch') ∧ KC (eUp lab m (-1)) (qmp par m) (qma par am m) cl' cp' ch' := by
  have pm := (hl.2.2 m hm h0 hpr).1
  have cpm : cp m = nI (par m) := by
    rw [h.2.1 m hm]
    unfold qpC
    rw [if_neg h0, if_neg hpr]
  have key : ∀ (d c n : Nat) (c0 : Nat → Int32) (x0 : Nat → Int64), c + d = 6 → d + 1 ≤ n → (∀ j, j < c → c0 j = qpC lab (qmp par m) j) → (∀ j, c ≤ j → j < 6 → c0 j = qpC lab par j) → ∃ cp', W_melt_24 (nI m) n (nI (par m)) (nI c) cl c0 x0 = some (eUp cl m (-1), eUp cp' m (-1), eUp x0 m 0) ∧ ∀ j, j < 6 → cp' j = qpC lab (qmp par m) j := by
    intro d
    induction d with
    | zero =>
      intro c n c0 x0 e hn g1 g2
      obtain ⟨n, rfl⟩ : ∃ m, n = m + 1 := ⟨n - 1, by omega⟩
      have : c = 6 := by omega
      subst this
      refine ⟨c0, ?_, g1⟩
      rw [W_melt_24, if_pos q_y6]
      unfold K_close K_open
      rw [nI_clamp (by omega), if_neg (q_in hm (by omega)), if_neg (q_in hm (by omega)), if_neg (q_in (by omega) (by omega))]; rfl
    | succ d ih =>
      intro c n c0 x0 e hn g1 g2
      obtain ⟨n, rfl⟩ : ∃ m, n = m + 1 := ⟨n - 1, by omega⟩
      have hc : c < 6 := by omega
      rw [W_melt_24, if_neg (q_n6 hc), nI_clamp (by omega), if_neg (q_in hc (by omega)), if_neg (q_in hc (by omega)), g2 c (Nat.le_refl _) hc, nI_1]
      by_cases k : qkid lab par m c = true
      · rw [if_pos ((qpC_iff hl hm hc).mpr k)]
        refine ih (c + 1) n _ x0 (by omega) (by omega) (fun j hj => ?_) (fun j h1 h2 => by rw [q_un (by omega)]; exact g2 j (by omega) h2)
        by_cases jc : j = c
        · subst jc; rw [q_up, qmp_kid k]
        · rw [q_un jc]; exact g1 j (by omega)
      · rw [if_neg (fun z => k ((qpC_iff hl hm hc).mp z))]
        refine ih (c + 1) n c0 x0 (by omega) (by omega) (fun j hj => ?_) (fun j h1 h2 => g2 j (by omega) h2)
        by_cases jc : j = c
        · subst jc; rw [g2 j (Nat.le_refl _) hc, qmp_non k]
        · exact g1 j (by omega)
  obtain ⟨cp', e1, e2⟩ := key 6 0 n cp (eUp ch (par m) (ch (par m) + ch m)) (by omega) (by omega) (fun j hj => absurd hj (by omega)) (fun j _ hj => h.2.1 j hj)
  refine ⟨eUp cl m (-1), eUp cp' m (-1), eUp (eUp ch (par m) (ch (par m) + ch m)) m 0, ?_, ⟨fun j hj => ?_, fun j hj => ?_, fun j hj => ?_⟩⟩
  · unfold W_melt
    rw [nI_clamp (by omega), if_neg (q_in hm (by omega)), cpm, nI_clamp (by omega), if_neg (q_in (by omega) (by omega)), if_neg (q_in (by omega) (by omega)), if_neg (q_in (by omega) (by omega))]
    exact e1
  · by_cases jm : j = m
    · subst jm; rw [q_up, q_up]
    · rw [q_un jm, q_un jm]; exact h.1 j hj
  · by_cases jm : j = m
    · subst jm
      rw [q_up]
      unfold qpC
      rw [if_neg h0, q_up, if_pos rfl]
    · rw [q_un jm, e2 j hj]
      unfold qpC
      rw [q_un jm]
  · unfold qma
    by_cases jm : j = m
    · subst jm; rw [q_up, q_up]; rfl
    · rw [q_un jm, q_un jm]
      by_cases jp : j = par m
      · subst jp
        rw [q_up, q_up, h.2.2 _ hj, h.2.2 m (by omega), qh_add]
      · rw [q_un jp, q_un jp]; exact h.2.2 j hj

def qsa (ru : Nat → Nat → Nat) (am : Nat → Nat → Nat) (m f i : Nat) : Nat → Nat → Nat := eUp (eUp am f fun k => am m k + qf (ru i 7) k) m fun k => am m k + qf (ru i 2) k
theorem qfree_lab {lab : Nat → Int32} {f : Nat} (h : qfind (qfree lab) 1 5 = some f) : lab f = -1 ∧ ¬ f = 0 ∧ f < 6 := by
  obtain ⟨a, b, c, _⟩ := qfind_some 5 1 h
  unfold qfree at a
  rw [decide_eq_true_iff] at a
  exact ⟨a, by omega, by omega⟩
theorem q_splitC {lab : Nat → Int32} {par : Nat → Nat} {am : Nat → Nat → Nat} {cl cp : Nat → Int32} {ch : Nat → Int64} (hl : KL lab par) (h : KC lab par am cl cp ch) {cnt : Nat} {ru : Nat → Nat → Nat} {ul : Nat → Int32} {ue uk uh uo ui : Nat → Int64} {ut ud uv : Nat → Int32} {ux : Nat → Int64} (hu : UL cnt ru) (hc : UC cnt ru ul ue uk uh uo ui ut ud uv ux) {m i : Nat} (hm : m < 6) (h0 : ¬ m = 0) (hpr : ¬ lab m = -1) (hi : i < cnt) (ha : ru i 6 = 2) {w : Nat → Option Nat} (hw : w m = some i) {n : Nat} (hn : 7 ≤ n) : (qfind (qfree lab) 1 5 = none → W_splitAll_2 w uh uv ux (n + 1) (nI m) cl cp ch = some (0, cl, cp, ch)) ∧ ∀ f, qfind (qfree lab) 1 5 = some f → ∃ cl' cp' ch', W_splitAll_2 w uh uv ux (n + 1) (nI m) cl cp ch = W_splitAll_2 w uh uv ux n (nI (m + 1)) cl' cp' ch' ∧ KC (eUp lab f (lab m)) (eUp par f (par m)) (qsa ru am m f i) cl' cp' ch' := by
  have cn6 := hu.1
  obtain ⟨c1, c2, c3, c4, c5, c6, c7, c8, c9, c10⟩ := hc i hi
  have e : W_splitAll_2 w uh uv ux (n + 1) (nI m) cl cp ch = (K_leastFree n cl).bind fun v3 => (if v3 = (-1 : Int32) then (some (((0 : Int32) &&& 1), cl, cp, ch)) else ((K_open n v3 (cp m) (cl m) ((ch m) + (ux i)) cl cp ch).bind fun v7 => (W_splitAll_2 w uh uv ux n (nI (m + 1)) v7.1 v7.2.1 (eUp v7.2.2 m ((v7.2.2 m) + (uh i)))))) := by
    rw [W_splitAll_2, if_neg (q_n6 hm), nI_clamp (by omega), if_neg (q_in hm (by omega)), hw]
    show (if 6 ≤ i then none else _) = _
    have v : ¬ uv i = 0 := by rw [c9, decide_eq_true ha]; exact qb_t
    rw [if_neg (by omega), if_neg v, nI_1]
    congr 1
    funext v3
    rw [if_neg (q_in hm (by omega)), if_neg (q_in hm (by omega)), if_neg (q_in (by omega) (by omega))]
    by_cases z : v3 = -1
    · rw [if_pos z, if_pos z]
    · rw [if_neg z, if_neg z]
      congr 1
      funext v7
      rw [if_neg (q_in (by omega) (by omega)), if_neg (q_in (by omega) (by omega))]
  rw [e, q_least hl h hn, Option.bind_some]
  refine ⟨fun q => ?_, fun f q => ?_⟩
  · rw [q, if_pos (show qoI none = -1 from rfl)]; rfl
  · obtain ⟨fl, f0, f6⟩ := qfree_lab q
    have fm : ¬ f = m := fun z => hpr (z ▸ fl)
    rw [q, show qoI (some f) = nI f from rfl, if_neg (q_m1' (by omega))]
    unfold K_open
    rw [nI_clamp (by omega), if_neg (q_in f6 (by omega)), if_neg (q_in f6 (by omega)), if_neg (q_in (by omega) (by omega)), Option.bind_some]
    refine ⟨_, _, _, rfl, fun j hj => ?_, fun j hj => ?_, fun j hj => ?_⟩
    · show eUp cl f (cl m) j = _
      by_cases jf : j = f
      · subst jf; rw [q_up, q_up, h.1 m hm]
      · rw [q_un jf, q_un jf]; exact h.1 j hj
    · show eUp cp f (cp m) j = _
      by_cases jf : j = f
      · subst jf
        rw [q_up, h.2.1 m hm]
        unfold qpC
        rw [if_neg h0, if_neg hpr, if_neg f0, q_up, if_neg hpr, q_up]
      · rw [q_un jf, h.2.1 j hj]
        unfold qpC
        rw [q_un jf, q_un jf]
    · show eUp (eUp ch f (ch m + ux i)) m (eUp ch f (ch m + ux i) m + uh i) j = _
      unfold qsa
      by_cases jm : j = m
      · subst jm
        rw [q_up, q_up, q_un (fun z => fm z.symm), h.2.2 j (by omega), c4, qh_add]
      · rw [q_un jm, q_un jm]
        by_cases jf : j = f
        · subst jf; rw [q_up, q_up, h.2.2 m (by omega), c10 ha, qh_add]
        · rw [q_un jf, q_un jf]; exact h.2.2 j hj
theorem q_skipC {cl cp : Nat → Int32} {ch : Nat → Int64} {uh ux : Nat → Int64} {uv : Nat → Int32} {m : Nat} (hm : m < 6) {w : Nat → Option Nat} (hw : ∀ i, w m = some i → i < 6 ∧ uv i = 0) (n : Nat) : W_splitAll_2 w uh uv ux (n + 1) (nI m) cl cp ch = W_splitAll_2 w uh uv ux n (nI (m + 1)) cl cp ch := by
  rw [W_splitAll_2, if_neg (q_n6 hm), nI_clamp (by omega), if_neg (q_in hm (by omega)), nI_1]
  cases o : w m with
  | none => rfl
  | some i =>
    obtain ⟨i6, v⟩ := hw i o
    show (if 6 ≤ i then none else _) = _
    rw [if_neg (by omega), if_pos v]
theorem KL_split {lab : Nat → Int32} {par : Nat → Nat} (hl : KL lab par) {m f : Nat} (hm : m < 6) (h0 : ¬ m = 0) (hpr : ¬ lab m = -1) (hf : lab f = -1) (f0 : ¬ f = 0) : KL (eUp lab f (lab m)) (eUp par f (par m)) := by
  have pm := hl.2.2 m hm h0 hpr
  refine ⟨?_, fun j hj => ?_, fun j hj j0 jp => ?_⟩
  · rw [q_un (fun z => f0 z.symm)]; exact hl.1
  · by_cases jf : j = f
    · subst jf; rw [q_up]; exact hl.2.1 m hm
    · rw [q_un jf]; exact hl.2.1 j hj
  · by_cases jf : j = f
    · subst jf
      rw [q_up]
      refine ⟨pm.1, ?_⟩
      by_cases z : par m = j
      · rw [z, q_up]; exact hpr
      · rw [q_un z]; exact pm.2
    · rw [q_un jf] at jp ⊢
      have w := hl.2.2 j hj j0 jp
      refine ⟨w.1, ?_⟩
      by_cases z : par j = f
      · exact absurd (z ▸ hf) w.2
      · rw [q_un z]; exact w.2
theorem KL_melt {lab : Nat → Int32} {par : Nat → Nat} (hl : KL lab par) {m : Nat} (hm : m < 6) (h0 : ¬ m = 0) (hpr : ¬ lab m = -1) (hne : ¬ par m = m) : KL (eUp lab m (-1)) (qmp par m) := by
  have pm := hl.2.2 m hm h0 hpr
  refine ⟨?_, fun j hj => ?_, fun j hj j0 jp => ?_⟩
  · rw [q_un (fun z => h0 z.symm)]; exact hl.1
  · by_cases jf : j = m
    · subst jf; rw [q_up]; exact Or.inl rfl
    · rw [q_un jf]; exact hl.2.1 j hj
  · by_cases jm : j = m
    · subst jm; rw [q_up] at jp; exact absurd rfl jp
    · rw [q_un jm] at jp
      have w := hl.2.2 j hj j0 jp
      unfold qmp
      by_cases z : par j = m
      · rw [if_pos z]; exact ⟨pm.1, by rw [q_un hne]; exact pm.2⟩
      · rw [if_neg z]; exact ⟨w.1, by rw [q_un z]; exact w.2⟩

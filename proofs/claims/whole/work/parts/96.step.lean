def qallb (n : Nat) (p : Nat → Bool) : Bool := (List.range n).all p
theorem qallb_iff {n : Nat} {p : Nat → Bool} : qallb n p = true ↔ ∀ i, i < n → p i = true := by
  unfold qallb
  rw [List.all_eq_true]
  exact ⟨fun h i hi => h i (List.mem_range.mpr hi), fun h i hi => h i (List.mem_range.mp hi)⟩
def qokb (am : Nat → Nat → Nat) : Bool := qallb 6 (fun m => qallb 5 fun k => decide (am m k ≤ 12)) && qallb 5 fun k => decide (am 6 k ≤ 999)
theorem qokb_iff {am : Nat → Nat → Nat} : qokb am = true ↔ qok am := by
  unfold qokb qok
  rw [Bool.and_eq_true, qallb_iff, qallb_iff]
  refine ⟨fun h => ⟨fun m hm k hk => ?_, fun k hk => decide_eq_true_iff.mp (h.2 k hk)⟩, fun h => ⟨fun m hm => qallb_iff.mpr fun k hk => decide_eq_true (h.1 m hm k hk), fun k hk => decide_eq_true (h.2 k hk)⟩⟩
  exact decide_eq_true_iff.mp (qallb_iff.mp (h.1 m hm) k hk)
def qstep (st : qC) (cnt : Nat) (ru us : Nat → Nat → Nat) : Option qC :=
  match qsp ru (qos ru cnt us) (st.1, st.2.1, qall st.1 st.2.1 ru cnt us st.2.2 0 6) 0 6 with
  | none => none
  | some s2 => if qokb (qml ru (qos ru cnt us) s2 0 6).2.2 = true then some (qml ru (qos ru cnt us) s2 0 6) else none
def KI (st : qC) : Prop := KL st.1 st.2.1 ∧ KT st.1 st.2.1 ∧ qok st.2.2 ∧ KA st.1 st.2.2
def qcs (st : qC) (cnt : Nat) (ru us : Nat → Nat → Nat) : Prop := ∀ m, m < 6 → qchosen st.1 st.2.1 st.2.2 cnt ru m (us m)
theorem qtot_each {am : Nat → Nat → Nat} {m k : Nat} (hm : m < 6) : am m k ≤ qtot am k := by
  unfold qtot
  rcases q_lt6 hm with rfl | rfl | rfl | rfl | rfl | rfl <;> omega
theorem q_mid {st : qC} {cnt : Nat} {ru us : Nat → Nat → Nat} (hI : KI st) (hu : UL cnt ru) (hch : qcs st cnt ru us) {s2 : qC} (hs : qsp ru (qos ru cnt us) (st.1, st.2.1, qall st.1 st.2.1 ru cnt us st.2.2 0 6) 0 6 = some s2) : qoo cnt ru us s2.1 (qos ru cnt us) ∧ KL s2.1 s2.2.1 ∧ KT s2.1 s2.2.1 ∧ KL (qml ru (qos ru cnt us) s2 0 6).1 (qml ru (qos ru cnt us) s2 0 6).2.1 ∧ KT (qml ru (qos ru cnt us) s2 0 6).1 (qml ru (qos ru cnt us) s2 0 6).2.1 ∧ KA (qml ru (qos ru cnt us) s2 0 6).1 (qml ru (qos ru cnt us) s2 0 6).2.2 ∧ ∀ m, m < 7 → ∀ k, k < 5 → (qml ru (qos ru cnt us) s2 0 6).2.2 m k < 4096 := by
  obtain ⟨hl, ht, hk, ha⟩ := hI
  obtain ⟨oo, ou⟩ := qos_oo hu hch
  have ka : KA st.1 (qall st.1 st.2.1 ru cnt us st.2.2 0 6) := fun q hq hx k hk5 => by
    rw [(qall_bnd hl ht (ru := ru) (cnt := cnt) (us := us) (fun m hm i hi hp => ((qchosen_good hu (hch m hm)).1.1 i hi hp).1) k 6 0 st.2.2 (by omega)).2.2 q hq hx]
    exact ha q hq hx k hk5
  obtain ⟨r1, r2, r3, r4, r5, r6⟩ := qsp_inv (cnt := cnt) (us := us) (M := 12 + 180 * (6 - qfc st.1)) (B := 4095) 6 0 _ s2 (by omega) hs oo hl ht ka (fun k hk5 => (q_bnd1 hl ht hk ha hu hch hk5).1) (fun j _ hj i _ k hk5 => (q_bnd1 hl ht hk ha hu hch hk5).2.1 j hj)
  obtain ⟨s1, s2', s3, s4, s5⟩ := qml_inv (cnt := cnt) (us := us) (ru := ru) (o := qos ru cnt us) (B := 4095) 6 0 s2 (by omega) (fun j _ hj => r1 j hj) r2 r3 r4 r5
  refine ⟨r1, r2, r3, s1, s2', s3, fun m hm k hk5 => ?_⟩
  by_cases h6 : m < 6
  · have a := qtot_each (am := (qml ru (qos ru cnt us) s2 0 6).2.2) (k := k) h6
    have b := s4 k hk5
    omega
  · have e6 : m = 6 := by omega
    have b := (q_bnd1 hl ht hk ha hu hch hk5).2.2
    rw [e6, s5, r6]
    exact Nat.lt_of_le_of_lt b (by decide)
theorem qstep_KI {st st' : qC} {cnt : Nat} {ru us : Nat → Nat → Nat} (hI : KI st) (hu : UL cnt ru) (hch : qcs st cnt ru us) (h : qstep st cnt ru us = some st') : KI st' := by
  unfold qstep at h
  cases q : qsp ru (qos ru cnt us) (st.1, st.2.1, qall st.1 st.2.1 ru cnt us st.2.2 0 6) 0 6 with
  | none => rw [q] at h; cases h
  | some s2 =>
    rw [q] at h
    dsimp only at h
    obtain ⟨_, _, _, g1, g2, g3, _⟩ := q_mid hI hu hch q
    by_cases x : qokb (qml ru (qos ru cnt us) s2 0 6).2.2 = true
    · rw [if_pos x] at h
      cases h
      exact ⟨g1, g2, qokb_iff.mp x, g3⟩
    · rw [if_neg x] at h; cases h
theorem q_carryC {st : qC} {cl cp : Nat → Int32} {ch : Nat → Int64} (hI : KI st) (h : KC st.1 st.2.1 st.2.2 cl cp ch) {cnt : Nat} {ru : Nat → Nat → Nat} {ul : Nat → Int32} {ue uk uh uo ui : Nat → Int64} {ut ud uv : Nat → Int32} {ux : Nat → Int64} (hu : UL cnt ru) (hc : UC cnt ru ul ue uk uh uo ui ut ud uv ux) {us : Nat → Nat → Nat} (hch : qcs st cnt ru us) {qa : Nat → Int32} (hqa : ∀ m, m < 6 → qa m = nI (c4p (us m))) (w : Nat → Option Nat) {n : Nat} (hn : 60 ≤ n) : (qstep st cnt ru us = none → ∃ w' cl' cp' ch', W_carryOut n w ue uh uo ui ut ud uv ux cl cp ch (nI cnt) qa = some (0, w', cl', cp', ch') ∧ ∀ j, j < 6 → ∀ i, w' j = some i → i < 6) ∧ ∀ st', qstep st cnt ru us = some st' → ∃ w' cl' cp' ch', W_carryOut n w ue uh uo ui ut ud uv ux cl cp ch (nI cnt) qa = some (1, w', cl', cp', ch') ∧ (∀ j, j < 6 → ∀ i, w' j = some i → i < 6) ∧ KC st'.1 st'.2.1 st'.2.2 cl' cp' ch' := by
  obtain ⟨p, rfl⟩ : ∃ p, n = p + 1 + 6 := ⟨n - 7, by omega⟩
  have c6 := hu.1
  obtain ⟨hl, ht, hk, ha⟩ := hI
  obtain ⟨oo, ou⟩ := qos_oo hu hch
  obtain ⟨w1, ch1, f1, f2, f3⟩ := q_p1C (cl := cl) (cp := cp) hl hu hc hch hqa (n := p + 1) (by omega) 6 0 st.2.2 w ch (by omega) (fun j _ _ k _ => Nat.le_refl _) h (fun j hj => absurd hj (by omega))
  have hw1 : ∀ j, j < 6 → ∀ i, w1 j = some i → i < 6 := fun j hj i hi => by
    rw [f3 j hj] at hi
    have := (oo j hj i hi).1
    omega
  have e0 : W_carryOut (p + 1 + 6) w ue uh uo ui ut ud uv ux cl cp ch (nI cnt) qa = W_carryOut_3 ue uh uo ui ut ud uv ux (nI cnt) qa (p + 1) (nI 6) w1 cl cp ch1 := f1
  rw [e0, W_carryOut_3, if_pos q_y6]
  obtain ⟨s1, s2⟩ := q_spC hu hc f3 6 0 p (st.1, st.2.1, qall st.1 st.2.1 ru cnt us st.2.2 0 6) cl cp ch1 (by omega) (by omega) oo hl ht f2
  have e1 : W_splitAll p w1 uh uv ux cl cp ch1 = W_splitAll_2 w1 uh uv ux p (nI 0) cl cp ch1 := rfl
  rw [e1]
  unfold qstep
  cases q : qsp ru (qos ru cnt us) (st.1, st.2.1, qall st.1 st.2.1 ru cnt us st.2.2 0 6) 0 6 with
  | none =>
    obtain ⟨cl2, cp2, ch2, t1⟩ := s1 q
    rw [t1, Option.bind_some, if_pos rfl]
    exact ⟨fun _ => ⟨w1, cl2, cp2, ch2, rfl, hw1⟩, fun st' z => (by cases z)⟩
  | some s =>
    obtain ⟨cl2, cp2, ch2, t1, t2, t3, t4, t5⟩ := s2 s q
    rw [t1, Option.bind_some, if_neg (show ¬ (1 : Int32) = 0 by decide)]
    obtain ⟨m1, m2, m3, m4, m5, m6, m7⟩ := q_mid ⟨hl, ht, hk, ha⟩ hu hch q
    obtain ⟨cl3, cp3, ch3, x1, x2, x3, x4⟩ := q_mlC hu hc f3 (us := us) 6 0 p s cl2 cp2 ch2 (by omega) (by omega) (fun j _ hj => t5 j hj) t3 t4 t2
    have e2 : W_meltAll p w1 ud cl2 cp2 ch2 = W_meltAll_2 w1 ud p (nI 0) cl2 cp2 ch2 := rfl
    dsimp only
    rw [e2, x1, Option.bind_some]
    obtain ⟨r, y1, y2⟩ := q_much x2 m7 (n := p) (by omega)
    rw [y1, Option.bind_some]
    cases r with
    | true =>
      rw [if_neg qb_t]
      have nk : ¬ qokb (qml ru (qos ru cnt us) s 0 6).2.2 = true := fun z => absurd (y2.mpr (qokb_iff.mp z)) (by decide)
      rw [if_neg nk]
      exact ⟨fun _ => ⟨w1, cl3, cp3, ch3, rfl, hw1⟩, fun st' z => (by cases z)⟩
    | false =>
      rw [if_pos qb_f]
      have yk : qokb (qml ru (qos ru cnt us) s 0 6).2.2 = true := qokb_iff.mpr (y2.mp rfl)
      rw [if_pos yk]
      refine ⟨fun z => (by cases z), fun st' z => ?_⟩
      cases z
      exact ⟨w1, cl3, cp3, ch3, rfl, hw1, x2⟩
theorem KM_copy {lab : Nat → Int32} {par : Nat → Nat} {am : Nat → Nat → Nat} {cells cells' : Nat → Int32} {fr to : Nat} (h : KM lab par am cells fr) (hc : ∀ x, x < 47 → cells' (47 * to + x) = cells (47 * fr + x)) : KM lab par am cells' to := by
  refine ⟨fun m hm => ?_, fun m hm => ?_, fun m hm k hk => ?_⟩
  · rw [Nat.add_assoc, hc _ (by omega), ← Nat.add_assoc]; exact h.1 m hm
  · rw [Nat.add_assoc, hc _ (by omega), ← Nat.add_assoc]; exact h.2.1 m hm
  · rw [Nat.add_assoc, hc _ (by omega), ← Nat.add_assoc]; exact h.2.2 m hm k hk
theorem q_stepM {st : qC} {cells : Nat → Int32} {row : Nat} (hI : KI st) (h : KM st.1 st.2.1 st.2.2 cells row) (hr : row < 81) {cnt : Nat} {ru : Nat → Nat → Nat} {ml me mh mo mi mt ma mx : Nat → Int32} (hu : UL cnt ru) (hM : UM cnt ru ml me mh mo mi mt ma mx) {us : Nat → Nat → Nat} (hch : qcs st cnt ru us) {mc : Nat → Int32} (hmc : ∀ m, m < 6 → mc m = nI (c5p (us m))) {n : Nat} (hn : 80 ≤ n) : (qstep st cnt ru us = none → ∃ cells', M_step n (nI row) (nI cnt) me mh mo mi mt ma mx cells mc = some (0, cells') ∧ qfr 81 cells cells') ∧ ∀ st', qstep st cnt ru us = some st' → ∃ cells', M_step n (nI row) (nI cnt) me mh mo mi mt ma mx cells mc = some (1, cells') ∧ KM st'.1 st'.2.1 st'.2.2 cells' 81 ∧ qfr 81 cells cells' := by
  obtain ⟨p, rfl⟩ : ∃ p, n = p + 5 + 1 + 5 + 1 + 6 + 1 := ⟨n - 19, by omega⟩
  have c6 := hu.1
  obtain ⟨hl, ht, hk, ha⟩ := hI
  obtain ⟨oo, ou⟩ := qos_oo hu hch
  have o0 : qos ru cnt us 0 = none := by
    cases q : qos ru cnt us 0 with
    | none => rfl
    | some i => exact absurd rfl (oo 0 (by omega) i q).2.2.2.1
  have u12 : ∀ m, m < 6 → ∀ i, i < 6 → us m i ≤ 12 := fun m hm => (qchosen_good hu (hch m hm)).1.2
  obtain ⟨c1, e1, e2, e3⟩ := q_copyM (fr := row) (to := 81) (by omega) (by omega) (by omega) cells (n := p + 5 + 1 + 5 + 1 + 6 + 1) (by omega)
  have k1 : KM st.1 st.2.1 st.2.2 c1 81 := KM_copy h e2
  have f1 : qfr 81 cells c1 := e3
  have k0 : KM st.1 st.2.1 st.2.2 c1 row := KM_fr h f1 (by omega)
  have e1' : M_copy (p + 5 + 1 + 5 + 1 + 6 + 1) (nI row) 81 cells = some c1 := e1
  obtain ⟨c2, g1, g2, g3⟩ := q_p1M hl hr hu hM hch hmc (n := p + 5 + 1 + 5 + 1) (by omega) 6 0 st.2.2 c1 (by omega) (fun j _ _ k _ => Nat.le_refl _) k0 k1
  have g1' : M_step_9 (nI row) (nI cnt) me mh mo mi mt ma mx mc (p + 5 + 1 + 5 + 1 + 6 + 1) 0 c1 = M_step_154 (nI cnt) mh ma mx mc (p + 5 + 1 + 5 + 1) (nI 1) c2 := g1
  have st0 : M_step (p + 5 + 1 + 5 + 1 + 6 + 1) (nI row) (nI cnt) me mh mo mi mt ma mx cells mc = M_step_154 (nI cnt) mh ma mx mc (p + 5 + 1 + 5 + 1) (nI 1) c2 := by
    unfold M_step
    rw [e1', Option.bind_some, g1']
  rw [st0]
  have qs0 : qsp ru (qos ru cnt us) (st.1, st.2.1, qall st.1 st.2.1 ru cnt us st.2.2 0 6) 0 6 = qsp ru (qos ru cnt us) (st.1, st.2.1, qall st.1 st.2.1 ru cnt us st.2.2 0 6) 1 5 := by
    have qe : ∀ S : qC, qsp ru (qos ru cnt us) S 0 6 = (match qos ru cnt us 0 with
      | none => qsp ru (qos ru cnt us) S (0 + 1) 5
      | some i => if ru i 6 = 2 then
          (match qfind (qfree S.1) 1 5 with
          | none => none
          | some f => qsp ru (qos ru cnt us) (eUp S.1 f (S.1 0), eUp S.2.1 f (S.2.1 0), qsa ru S.2.2 0 f i) (0 + 1) 5)
        else qsp ru (qos ru cnt us) S (0 + 1) 5) := fun _ => rfl
    rw [qe, o0]
  have qm0 : ∀ S : qC, qml ru (qos ru cnt us) S 0 6 = qml ru (qos ru cnt us) S 1 5 := by
    intro S
    have qe : qml ru (qos ru cnt us) S 0 6 = (match qos ru cnt us 0 with
      | none => qml ru (qos ru cnt us) S (0 + 1) 5
      | some i => if ru i 6 = 1 then qml ru (qos ru cnt us) (eUp S.1 0 (-1), qmp S.2.1 0, qma S.2.1 S.2.2 0) (0 + 1) 5 else qml ru (qos ru cnt us) S (0 + 1) 5) := rfl
    rw [qe, o0]
  obtain ⟨s1, s2⟩ := q_spM hu hM u12 hmc ou (n := p + 5 + 1) (by omega) 5 1 (st.1, st.2.1, qall st.1 st.2.1 ru cnt us st.2.2 0 6) c2 (by omega) oo hl ht g2
  rw [← qs0] at s1 s2
  unfold qstep
  cases q : qsp ru (qos ru cnt us) (st.1, st.2.1, qall st.1 st.2.1 ru cnt us st.2.2 0 6) 0 6 with
  | none =>
    obtain ⟨c3, t1, t2⟩ := s1 q
    exact ⟨fun _ => ⟨c3, t1, qfr_trans f1 (qfr_trans g3 t2)⟩, fun st' z => (by cases z)⟩
  | some s =>
    obtain ⟨c3, t1, t2, t3⟩ := s2 s q
    obtain ⟨m1, m2, m3, m4, m5, m6, m7⟩ := q_mid ⟨hl, ht, hk, ha⟩ hu hch q
    obtain ⟨c4, x1, x2, x3⟩ := q_mlM hu hM u12 hmc ou (n := p) (by omega) 5 1 s c3 (by omega) (fun j _ hj => m1 j hj) m2 m3 t2
    rw [← qm0] at x2
    have x1' : M_step_286 (nI cnt) ma mc (p + 5 + 1) 1 c3 = M_step_344 p 0 c4 := x1
    obtain ⟨r, y1, y2⟩ := q_muchM x2 m7 (n := p) (by omega)
    rw [t1, x1', y1]
    have fr : qfr 81 cells c4 := qfr_trans f1 (qfr_trans g3 (qfr_trans t3 x3))
    dsimp only
    cases r with
    | false =>
      have nk : ¬ qokb (qml ru (qos ru cnt us) s 0 6).2.2 = true := fun z => absurd (y2.mpr (qokb_iff.mp z)) (by decide)
      rw [if_neg nk]
      exact ⟨fun _ => ⟨c4, rfl, fr⟩, fun st' z => (by cases z)⟩
    | true =>
      have yk : qokb (qml ru (qos ru cnt us) s 0 6).2.2 = true := qokb_iff.mpr (y2.mp rfl)
      rw [if_pos yk]
      refine ⟨fun z => (by cases z), fun st' z => ?_⟩
      cases z
      exact ⟨c4, rfl, x2, fr⟩

def KT (lab : Nat → Int32) (par : Nat → Nat) : Prop := ∃ rk : Nat → Nat, ∀ m, m < 6 → ¬ m = 0 → ¬ lab m = -1 → rk (par m) < rk m
theorem KT_ne {lab : Nat → Int32} {par : Nat → Nat} (h : KT lab par) {m : Nat} (hm : m < 6) (h0 : ¬ m = 0) (hp : ¬ lab m = -1) : ¬ par m = m := by
  obtain ⟨rk, hr⟩ := h
  intro e
  have := hr m hm h0 hp
  rw [e] at this
  exact Nat.lt_irrefl _ this
theorem KT_split {lab : Nat → Int32} {par : Nat → Nat} (hl : KL lab par) (h : KT lab par) {m f : Nat} (hm : m < 6) (h0 : ¬ m = 0) (hpr : ¬ lab m = -1) (hf : lab f = -1) : KT (eUp lab f (lab m)) (eUp par f (par m)) := by
  obtain ⟨rk, hr⟩ := h
  refine ⟨eUp rk f (rk m), fun j hj j0 jp => ?_⟩
  by_cases jf : j = f
  · subst jf
    have pm := (hl.2.2 m hm h0 hpr).2
    have ne : ¬ par m = j := fun z => pm (by rw [z]; exact hf)
    rw [q_up, q_up, q_un ne]
    exact hr m hm h0 hpr
  · rw [q_un jf] at jp
    have pj := (hl.2.2 j hj j0 jp).2
    have ne : ¬ par j = f := fun z => pj (by rw [z]; exact hf)
    rw [q_un jf, q_un jf, q_un ne]
    exact hr j hj j0 jp
theorem KT_melt {lab : Nat → Int32} {par : Nat → Nat} (h : KT lab par) {m : Nat} (hm : m < 6) (h0 : ¬ m = 0) (hpr : ¬ lab m = -1) : KT (eUp lab m (-1)) (qmp par m) := by
  obtain ⟨rk, hr⟩ := h
  refine ⟨rk, fun j hj j0 jp => ?_⟩
  by_cases jm : j = m
  · subst jm; rw [q_up] at jp; exact absurd rfl jp
  · rw [q_un jm] at jp
    have w := hr j hj j0 jp
    unfold qmp
    by_cases z : par j = m
    · rw [if_pos z]
      rw [z] at w
      have := hr m hm h0 hpr
      omega
    · rw [if_neg z]; exact w
abbrev qC := (Nat → Int32) × (Nat → Nat) × (Nat → Nat → Nat)
def qsp (ru : Nat → Nat → Nat) (o : Nat → Option Nat) : qC → Nat → Nat → Option qC
  | st, _, 0 => some st
  | st, m, d + 1 =>
    match o m with
    | none => qsp ru o st (m + 1) d
    | some i => if ru i 6 = 2 then
        (match qfind (qfree st.1) 1 5 with
        | none => none
        | some f => qsp ru o (eUp st.1 f (st.1 m), eUp st.2.1 f (st.2.1 m), qsa ru st.2.2 m f i) (m + 1) d)
      else qsp ru o st (m + 1) d
def qml (ru : Nat → Nat → Nat) (o : Nat → Option Nat) : qC → Nat → Nat → qC
  | st, _, 0 => st
  | st, m, d + 1 =>
    match o m with
    | none => qml ru o st (m + 1) d
    | some i => if ru i 6 = 1 then qml ru o (eUp st.1 m (-1), qmp st.2.1 m, qma st.2.1 st.2.2 m) (m + 1) d else qml ru o st (m + 1) d
def qoo (cnt : Nat) (ru : Nat → Nat → Nat) (us : Nat → Nat → Nat) (lab : Nat → Int32) (o : Nat → Option Nat) : Prop :=
  ∀ m, m < 6 → ∀ i, o m = some i → i < cnt ∧ 0 < us m i ∧ 0 < ru i 6 ∧ ¬ m = 0 ∧ ¬ lab m = -1
def qou (cnt : Nat) (ru : Nat → Nat → Nat) (us : Nat → Nat → Nat) (o : Nat → Option Nat) : Prop :=
  ∀ m, m < 6 → ∀ i, i < cnt → 0 < us m i → 0 < ru i 6 → o m = some i
theorem q_spC {cnt : Nat} {ru : Nat → Nat → Nat} {ul : Nat → Int32} {ue uk uh uo ui : Nat → Int64} {ut ud uv : Nat → Int32} {ux : Nat → Int64} (hu : UL cnt ru) (hc : UC cnt ru ul ue uk uh uo ui ut ud uv ux) {us : Nat → Nat → Nat} {o w : Nat → Option Nat} (hw : ∀ m, m < 6 → w m = o m) : ∀ (d m n : Nat) (st : qC) (cl cp : Nat → Int32) (ch : Nat → Int64), m + d = 6 → d + 8 ≤ n → qoo cnt ru us st.1 o → KL st.1 st.2.1 → KT st.1 st.2.1 → KC st.1 st.2.1 st.2.2 cl cp ch → (qsp ru o st m d = none → ∃ cl' cp' ch', W_splitAll_2 w uh uv ux n (nI m) cl cp ch = some (0, cl', cp', ch')) ∧ ∀ st', qsp ru o st m d = some st' → ∃ cl' cp' ch', W_splitAll_2 w uh uv ux n (nI m) cl cp ch = some (1, cl', cp', ch') ∧ KC st'.1 st'.2.1 st'.2.2 cl' cp' ch' ∧ KL st'.1 st'.2.1 ∧ KT st'.1 st'.2.1 ∧ qoo cnt ru us st'.1 o := by
  intro d
  induction d with
  | zero =>
    intro m n st cl cp ch e hn ho hl ht h
    obtain ⟨n, rfl⟩ : ∃ m, n = m + 1 := ⟨n - 1, by omega⟩
    have : m = 6 := by omega
    subst this
    refine ⟨fun z => (by cases z), fun st' z => ?_⟩
    cases z
    exact ⟨cl, cp, ch, by rw [W_splitAll_2, if_pos q_y6]; rfl, h, hl, ht, ho⟩
  | succ d ih =>
    intro m n st cl cp ch e hn ho hl ht h
    obtain ⟨n, rfl⟩ : ∃ m, n = m + 1 := ⟨n - 1, by omega⟩
    have hm : m < 6 := by omega
    unfold qsp
    cases om : o m with
    | none =>
      rw [q_skipC hm (fun i hi => by rw [hw m hm, om] at hi; cases hi)]
      exact ih (m + 1) n st cl cp ch (by omega) (by omega) ho hl ht h
    | some i =>
      obtain ⟨o1, o2, o3, o4, o5⟩ := ho m hm i om
      have c6 := hu.1
      dsimp only
      by_cases x : ru i 6 = 2
      · rw [if_pos x]
        obtain ⟨s1, s2⟩ := q_splitC hl h hu hc hm o4 o5 o1 x ((hw m hm).trans om) (n := n) (by omega)
        cases q : qfind (qfree st.1) 1 5 with
        | none =>
          refine ⟨fun _ => ⟨cl, cp, ch, s1 q⟩, fun st' z => (by cases z)⟩
        | some f =>
          obtain ⟨cl1, cp1, ch1, t1, t2⟩ := s2 f q
          obtain ⟨fl, f0, f6⟩ := qfree_lab q
          rw [t1]
          exact ih (m + 1) n (eUp st.1 f (st.1 m), eUp st.2.1 f (st.2.1 m), qsa ru st.2.2 m f i) cl1 cp1 ch1 (by omega) (by omega) (fun j hj i' hi' => by
            obtain ⟨p1, p2, p3, p4, p5⟩ := ho j hj i' hi'
            refine ⟨p1, p2, p3, p4, ?_⟩
            show ¬ eUp st.1 f (st.1 m) j = -1
            by_cases jf : j = f
            · subst jf; rw [q_up]; exact o5
            · rw [q_un jf]; exact p5) (KL_split hl hm o4 o5 fl f0) (KT_split hl ht hm o4 o5 fl) t2
      · rw [if_neg x, q_skipC hm (fun i' hi' => by
          rw [hw m hm, om] at hi'
          cases hi'
          refine ⟨by omega, ?_⟩
          rw [(hc i o1).2.2.2.2.2.2.2.2.1, decide_eq_false x]; rfl)]
        exact ih (m + 1) n st cl cp ch (by omega) (by omega) ho hl ht h

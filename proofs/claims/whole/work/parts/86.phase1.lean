theorem qadd_ge {am : Nat → Nat → Nat} {p q k : Nat} {v : Nat → Nat} : am q k ≤ qadd am p v q k := by
  unfold qadd
  by_cases e : q = p
  · subst e; rw [q_up]; exact Nat.le_add_right _ _
  · rw [q_un e]; exact Nat.le_refl _
theorem quse_ge {lab : Nat → Int32} {par : Nat → Nat} {ru : Nat → Nat → Nat} {am : Nat → Nat → Nat} {m i t : Nat} (q k : Nat) : qsubv am m (qs t (qf (ru i 1))) q k ≤ quse lab par ru am m i t q k := by
  unfold quse
  have a2 : qsubv am m (qs t (qf (ru i 1))) q k ≤ (if ru i 6 = 2 then qsubv am m (qs t (qf (ru i 1))) else qadd (qsubv am m (qs t (qf (ru i 1)))) m (qs t (qf (ru i 2)))) q k := by
    split
    · exact Nat.le_refl _
    · exact qadd_ge
  refine Nat.le_trans a2 ?_
  by_cases z4 : ru i 4 = 0
  · simp only [if_pos z4]
    exact qadd_ge
  simp only [if_neg z4]
  cases qfind (qkl lab par m (nI (ru i 5))) 1 5 with
  | none => exact qadd_ge
  | some c => exact Nat.le_trans qadd_ge qadd_ge
theorem quse_m {lab : Nat → Int32} {par : Nat → Nat} {ru : Nat → Nat → Nat} {am : Nat → Nat → Nat} {m i t : Nat} (k : Nat) : am m k - t * qf (ru i 1) k ≤ quse lab par ru am m i t m k := by
  refine Nat.le_trans ?_ (quse_ge m k)
  unfold qsubv
  rw [q_up]; exact Nat.le_refl _
theorem quse_o {lab : Nat → Int32} {par : Nat → Nat} {ru : Nat → Nat → Nat} {am : Nat → Nat → Nat} {m i t q : Nat} (h : ¬ q = m) (k : Nat) : am q k ≤ quse lab par ru am m i t q k := by
  refine Nat.le_trans ?_ (quse_ge q k)
  unfold qsubv
  rw [q_un h]; exact Nat.le_refl _
def qin (lab : Nat → Int32) (par : Nat → Nat) (ru : Nat → Nat → Nat) (m : Nat) (u : Nat → Nat) : (Nat → Nat → Nat) → Nat → Nat → (Nat → Nat → Nat)
  | am, _, 0 => am
  | am, c, d + 1 => qin lab par ru m u (if u c = 0 then am else quse lab par ru am m c (u c)) (c + 1) d
def qw (ru : Nat → Nat → Nat) (u : Nat → Nat) : Option Nat → Nat → Nat → Option Nat
  | w, _, 0 => w
  | w, c, d + 1 => qw ru u (if u c = 0 then w else if 0 < ru c 6 then some c else w) (c + 1) d
def qgood (lab : Nat → Int32) (par : Nat → Nat) (ru : Nat → Nat → Nat) (cnt m : Nat) (u : Nat → Nat) : Prop :=
  (∀ i, i < cnt → 0 < u i → ¬ lab m = -1 ∧ (¬ ru i 4 = 0 → (qfind (qkl lab par m (nI (ru i 5))) 1 5).isSome = true)) ∧ ∀ i, i < 6 → u i ≤ 12
theorem q_phC {lab : Nat → Int32} {par : Nat → Nat} {cl cp : Nat → Int32} (hl : KL lab par) {cnt : Nat} {ru : Nat → Nat → Nat} {ul : Nat → Int32} {ue uk uh uo ui : Nat → Int64} {ut ud uv : Nat → Int32} {ux : Nat → Int64} (hu : UL cnt ru) (hc : UC cnt ru ul ue uk uh uo ui ut ud uv ux) {m : Nat} (hm : m < 6) {u : Nat → Nat} (hg : qgood lab par ru cnt m u) {qa : Nat → Int32} (hqa : qa m = nI (c4p u)) (k3 : Int32 → (Nat → Option Nat) → (Nat → Int32) → (Nat → Int32) → (Nat → Int64) → Option (Int32 × (Nat → Option Nat) × (Nat → Int32) × (Nat → Int32) × (Nat → Int64))) : ∀ (d c n : Nat) (am : Nat → Nat → Nat) (w : Nat → Option Nat) (ch : Nat → Int64), c + d = cnt → d + 8 ≤ n → KC lab par am cl cp ch → (∀ k, k < 5 → qrs (fun i => u i * qf (ru i 1) k) c d ≤ am m k) → ∃ ch', W_carryOut_21 ue uh uo ui ut ud uv (nI cnt) qa k3 n (nI m) (nI c) w cl cp ch = k3 (nI (m + 1)) (eUp w m (qw ru u (w m) c d)) cl cp ch' ∧ KC lab par (qin lab par ru m u am c d) cl cp ch' := by
  have c6 := hu.1
  have u16 : ∀ k, k < 6 → u k < 16 := fun k hk => by have := hg.2 k hk; omega
  have ups : ∀ (w : Nat → Option Nat), eUp w m (w m) = w := by
    intro w
    funext j
    by_cases e : j = m
    · subst e; rw [q_up]
    · rw [q_un e]
  intro d
  induction d with
  | zero =>
    intro c n am w ch e hn h hf
    obtain ⟨n, rfl⟩ : ∃ m, n = m + 1 := ⟨n - 1, by omega⟩
    refine ⟨ch, ?_, h⟩
    rw [W_carryOut_21, if_pos (nI_le (by omega) (by omega)), nI_1]
    unfold qw
    rw [ups]
  | succ d ih =>
    intro c n am w ch e hn h hf
    obtain ⟨n, rfl⟩ : ∃ m, n = m + 1 := ⟨n - 1, by omega⟩
    have hcc : c < cnt := by omega
    have u12 := hg.2 c (by omega)
    have qe : ∀ k, qrs (fun i => u i * qf (ru i 1) k) c (d + 1) = u c * qf (ru c 1) k + qrs (fun i => u i * qf (ru i 1) k) (c + 1) d := fun _ => rfl
    rw [W_carryOut_21, if_neg (nI_ge hcc (by omega)), nI_clamp (by omega), if_neg (q_in hm (by omega)), hqa, q_usesOf u16 (by omega), Option.bind_some, nI_1]
    have qi : qin lab par ru m u am c (d + 1) = qin lab par ru m u (if u c = 0 then am else quse lab par ru am m c (u c)) (c + 1) d := rfl
    have qw' : qw ru u (w m) c (d + 1) = qw ru u (if u c = 0 then w m else if 0 < ru c 6 then some c else w m) (c + 1) d := rfl
    rw [qi, qw']
    by_cases z : u c = 0
    · rw [if_pos (show nI (u c) ≤ 0 by rw [z]; decide), if_pos z, if_pos z]
      exact ih (c + 1) n am w ch (by omega) (by omega) h (fun k hk => by have := hf k hk; rw [qe] at this; omega)
    · have fit : ∀ k, k < 5 → u c * qf (ru c 1) k ≤ am m k := fun k hk => by have := hf k hk; rw [qe] at this; omega
      obtain ⟨ch', f1, f2⟩ := q_takeMake hl h hu hc hm (hg.1 c hcc (by omega)).1 hcc u12 fit w (n := n) (by omega)
      rw [if_neg (nI_nle (by omega) (by omega)), nI_clamp (by omega), if_neg (q_in (by omega) (by omega)), f1, Option.bind_some, if_neg z, if_neg z]
      obtain ⟨ch2, g1, g2⟩ := ih (c + 1) n (quse lab par ru am m c (u c)) (if 0 < ru c 6 then eUp w m (some c) else w) ch' (by omega) (by omega) f2 (fun k hk => by
        have a := hf k hk
        rw [qe] at a
        have b := quse_m (lab := lab) (par := par) (ru := ru) (am := am) (m := m) (i := c) (t := u c) k
        omega)
      refine ⟨ch2, ?_, g2⟩
      show W_carryOut_21 ue uh uo ui ut ud uv (nI cnt) qa k3 n (nI m) (nI (c + 1)) (if 0 < ru c 6 then eUp w m (some c) else w) cl cp ch' = _
      rw [g1]
      by_cases x : 0 < ru c 6
      · rw [if_pos x, if_pos x, q_up]
        congr 1
        funext j
        by_cases e : j = m
        · subst e; rw [q_up, q_up]
        · rw [q_un e, q_un e, q_un e]
      · rw [if_neg x, if_neg x]
theorem q_phM {lab : Nat → Int32} {par : Nat → Nat} {am0 : Nat → Nat → Nat} {row : Nat} (hl : KL lab par) (hr : row < 81) {cnt : Nat} {ru : Nat → Nat → Nat} {ml me mh mo mi mt ma mx : Nat → Int32} (hu : UL cnt ru) (hM : UM cnt ru ml me mh mo mi mt ma mx) {m : Nat} (hm : m < 6) {u : Nat → Nat} (hg : qgood lab par ru cnt m u) {mc : Nat → Int32} (hmc : mc m = nI (c5p u)) (k9 : Int32 → (Nat → Int32) → Option (Int32 × (Nat → Int32))) : ∀ (d c n : Nat) (am : Nat → Nat → Nat) (cells : Nat → Int32), c + d = cnt → d + 8 ≤ n → KM lab par am0 cells row → KM lab par am cells 81 → (∀ k, k < 5 → qrs (fun i => u i * qf (ru i 1) k) c d ≤ am m k) → ∃ cells', M_step_17 (nI row) (nI cnt) me mh mo mi mt ma mc k9 n (nI m) (nI c) cells = k9 (nI (m + 1)) cells' ∧ KM lab par (qin lab par ru m u am c d) cells' 81 ∧ qfr 81 cells cells' := by
  have c6 := hu.1
  have u32 : ∀ k, k < 6 → u k < 32 := fun k hk => by have := hg.2 k hk; omega
  intro d
  induction d with
  | zero =>
    intro c n am cells e hn h0 h hf
    obtain ⟨n, rfl⟩ : ∃ m, n = m + 1 := ⟨n - 1, by omega⟩
    exact ⟨cells, by rw [M_step_17, if_pos (nI_le (by omega) (by omega)), nI_1], h, fun _ _ => rfl⟩
  | succ d ih =>
    intro c n am cells e hn h0 h hf
    obtain ⟨n, rfl⟩ : ∃ m, n = m + 1 := ⟨n - 1, by omega⟩
    have hcc : c < cnt := by omega
    have u12 := hg.2 c (by omega)
    have qe : ∀ k, qrs (fun i => u i * qf (ru i 1) k) c (d + 1) = u c * qf (ru c 1) k + qrs (fun i => u i * qf (ru i 1) k) (c + 1) d := fun _ => rfl
    have qi : qin lab par ru m u am c (d + 1) = qin lab par ru m u (if u c = 0 then am else quse lab par ru am m c (u c)) (c + 1) d := rfl
    rw [qi]
    by_cases z : u c = 0
    · rw [M_step_17, if_neg (nI_ge hcc (by omega)), nI_clamp (by omega), if_neg (q_in hm (by omega)), hmc, q_used u32 (by omega), Option.bind_some, nI_1, if_pos (show nI (u c) ≤ 0 by rw [z]; decide), if_pos z]
      exact ih (c + 1) n am cells (by omega) (by omega) h0 h (fun k hk => by have := hf k hk; rw [qe] at this; omega)
    · have fit : ∀ k, k < 5 → u c * qf (ru c 1) k ≤ am m k := fun k hk => by have := hf k hk; rw [qe] at this; omega
      have gc := hg.1 c hcc (by omega)
      obtain ⟨d1, f1, f2, f3⟩ := q_useM hl h0 h hr hu hM hm gc.1 hcc u12 (by omega) fit gc.2 u32 hmc rfl k9 (n := n) (by omega)
      rw [f1, if_neg z]
      obtain ⟨d2, g1, g2, g3⟩ := ih (c + 1) n (quse lab par ru am m c (u c)) d1 (by omega) (by omega) (KM_fr h0 f3 (by omega)) f2 (fun k hk => by
        have a := hf k hk
        rw [qe] at a
        have b := quse_m (lab := lab) (par := par) (ru := ru) (am := am) (m := m) (i := c) (t := u c) k
        omega)
      exact ⟨d2, g1, g2, qfr_trans f3 g3⟩

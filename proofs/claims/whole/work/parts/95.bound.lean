def qtot (am : Nat → Nat → Nat) (k : Nat) : Nat := am 0 k + am 1 k + am 2 k + am 3 k + am 4 k + am 5 k
theorem q_lt6 {p : Nat} (h : p < 6) : p = 0 ∨ p = 1 ∨ p = 2 ∨ p = 3 ∨ p = 4 ∨ p = 5 := by omega
theorem qtot_up {am : Nat → Nat → Nat} {p : Nat} (hp : p < 6) (v : Nat → Nat) (k : Nat) : qtot (eUp am p v) k + am p k = qtot am k + v k := by
  unfold qtot
  rcases q_lt6 hp with rfl | rfl | rfl | rfl | rfl | rfl
  · rw [q_up, q_un (by decide), q_un (by decide), q_un (by decide), q_un (by decide), q_un (by decide)]; omega
  · rw [q_up, q_un (by decide), q_un (by decide), q_un (by decide), q_un (by decide), q_un (by decide)]; omega
  · rw [q_up, q_un (by decide), q_un (by decide), q_un (by decide), q_un (by decide), q_un (by decide)]; omega
  · rw [q_up, q_un (by decide), q_un (by decide), q_un (by decide), q_un (by decide), q_un (by decide)]; omega
  · rw [q_up, q_un (by decide), q_un (by decide), q_un (by decide), q_un (by decide), q_un (by decide)]; omega
  · rw [q_up, q_un (by decide), q_un (by decide), q_un (by decide), q_un (by decide), q_un (by decide)]; omega
theorem qtot_up6 {am : Nat → Nat → Nat} (v : Nat → Nat) (k : Nat) : qtot (eUp am 6 v) k = qtot am k := by
  unfold qtot
  rw [q_un (by decide), q_un (by decide), q_un (by decide), q_un (by decide), q_un (by decide), q_un (by decide)]
theorem qtot_add {am : Nat → Nat → Nat} {p : Nat} (hp : p < 7) (v : Nat → Nat) (k : Nat) : qtot (qadd am p v) k ≤ qtot am k + v k := by
  unfold qadd
  by_cases h : p < 6
  · have := qtot_up (am := am) h (fun k => am p k + v k) k
    omega
  · have : p = 6 := by omega
    subst this
    rw [qtot_up6]; exact Nat.le_add_right _ _
theorem qtot_sub {am : Nat → Nat → Nat} {p : Nat} (hp : p < 6) (v : Nat → Nat) (k : Nat) : qtot (qsubv am p v) k ≤ qtot am k := by
  unfold qsubv
  have := qtot_up (am := am) hp (fun k => am p k - v k) k
  omega
theorem qs3 (t h k : Nat) : qs t (qf h) k ≤ 3 * t := by
  have a : qf h k ≤ 3 := Nat.le_of_lt_succ (qf_lt h k)
  have b : t * qf h k ≤ t * 3 := Nat.mul_le_mul_left t a
  show t * qf h k ≤ 3 * t
  omega
theorem qkl_kid {lab : Nat → Int32} {par : Nat → Nat} {m c : Nat} {l : Int32} (h : qfind (qkl lab par m l) 1 5 = some c) : c < 6 ∧ ¬ c = 0 ∧ ¬ lab c = -1 ∧ par c = m := by
  obtain ⟨h1, h2, h3, _⟩ := qfind_some _ _ h
  unfold qkl qkid at h1
  rw [Bool.and_eq_true, decide_eq_true_iff] at h1
  exact ⟨by omega, h1.1⟩
theorem qpp_lt {lab : Nat → Int32} {par : Nat → Nat} (hl : KL lab par) {m : Nat} (hm : m < 6) (hp : ¬ lab m = -1) : qpp par m < 7 ∧ (qpp par m = 6 ∨ (¬ m = 0 ∧ qpp par m = par m ∧ par m < 6 ∧ ¬ lab (par m) = -1)) := by
  unfold qpp
  by_cases z : m = 0
  · rw [if_pos z]; exact ⟨by omega, Or.inl rfl⟩
  · rw [if_neg z]
    have w := hl.2.2 m hm z hp
    have w1 := w.1
    exact ⟨by omega, Or.inr ⟨z, rfl, w.1, w.2⟩⟩
theorem quse_tot {lab : Nat → Int32} {par : Nat → Nat} (hl : KL lab par) {ru am : Nat → Nat → Nat} {m i t : Nat} (hm : m < 6) (hp : ¬ lab m = -1) (k : Nat) : qtot (quse lab par ru am m i t) k ≤ qtot am k + 9 * t := by
  have pp := (qpp_lt hl hm hp).1
  have s0 := qtot_sub (am := am) hm (qs t (qf (ru i 1))) k
  have a2 : qtot (if ru i 6 = 2 then qsubv am m (qs t (qf (ru i 1))) else qadd (qsubv am m (qs t (qf (ru i 1)))) m (qs t (qf (ru i 2)))) k ≤ qtot am k + 3 * t := by
    by_cases x : ru i 6 = 2
    · rw [if_pos x]; omega
    · rw [if_neg x]
      have a := qtot_add (am := qsubv am m (qs t (qf (ru i 1)))) (show m < 7 by omega) (qs t (qf (ru i 2))) k
      have b := qs3 t (ru i 2) k
      omega
  unfold quse
  dsimp only
  generalize (if ru i 6 = 2 then qsubv am m (qs t (qf (ru i 1))) else qadd (qsubv am m (qs t (qf (ru i 1)))) m (qs t (qf (ru i 2)))) = a2f at a2 ⊢
  have a3 := qtot_add (am := a2f) pp (qs t (qf (ru i 3))) k
  have b3 := qs3 t (ru i 3) k
  by_cases z4 : ru i 4 = 0
  · rw [if_pos z4]; omega
  · rw [if_neg z4]
    cases o : qfind (qkl lab par m (nI (ru i 5))) 1 5 with
    | none => dsimp only; omega
    | some c =>
      have c6 := (qkl_kid o).1
      have a4 := qtot_add (am := qadd a2f (qpp par m) (qs t (qf (ru i 3)))) (show c < 7 by omega) (qs t (qf (ru i 4))) k
      have b4 := qs3 t (ru i 4) k
      dsimp only
      omega
theorem qadd_e {am : Nat → Nat → Nat} {p : Nat} {v : Nat → Nat} {k : Nat} : qadd am p v p k = am p k + v k := by
  unfold qadd; rw [q_up]
theorem qadd_n {am : Nat → Nat → Nat} {p q : Nat} {v : Nat → Nat} (h : ¬ q = p) : qadd am p v q = am q := by
  unfold qadd; rw [q_un h]
theorem quse_each {lab : Nat → Int32} {par : Nat → Nat} (hl : KL lab par) (ht : KT lab par) {ru am : Nat → Nat → Nat} {m i t : Nat} (hm : m < 6) (hp : ¬ lab m = -1) (q k : Nat) : quse lab par ru am m i t q k ≤ am q k + 3 * t := by
  have hmp : ¬ m = qpp par m := by
    rcases (qpp_lt hl hm hp).2 with w | ⟨w1, w2, w3, w4⟩
    · omega
    · rw [w2]; exact fun z => KT_ne ht hm w1 hp z.symm
  have hcc : ∀ c, qfind (qkl lab par m (nI (ru i 5))) 1 5 = some c → ¬ c = m ∧ ¬ c = qpp par m := by
    intro c o
    obtain ⟨c6, c0, cl, cp⟩ := qkl_kid o
    obtain ⟨rk, hr⟩ := ht
    have r1 := hr c c6 c0 cl
    rw [cp] at r1
    refine ⟨fun z => by rw [z] at r1; omega, fun z => ?_⟩
    rcases (qpp_lt hl hm hp).2 with w | ⟨w1, w2, w3, w4⟩
    · have : c = 6 := z.trans w
      omega
    · have r2 := hr m hm w1 hp
      rw [w2] at z
      rw [z] at r1
      omega
  have e1 : ∀ q, qsubv am m (qs t (qf (ru i 1))) q k ≤ am q k := by
    intro q
    unfold qsubv
    by_cases z : q = m
    · subst z; rw [q_up]; exact Nat.sub_le _ _
    · rw [q_un z]; exact Nat.le_refl _
  have e2 : ∀ q, (¬ q = m → (if ru i 6 = 2 then qsubv am m (qs t (qf (ru i 1))) else qadd (qsubv am m (qs t (qf (ru i 1)))) m (qs t (qf (ru i 2)))) q k ≤ am q k) ∧ (if ru i 6 = 2 then qsubv am m (qs t (qf (ru i 1))) else qadd (qsubv am m (qs t (qf (ru i 1)))) m (qs t (qf (ru i 2)))) q k ≤ am q k + 3 * t := by
    intro q
    have w := e1 q
    by_cases x : ru i 6 = 2
    · rw [if_pos x]; exact ⟨fun _ => w, by omega⟩
    · rw [if_neg x]
      by_cases z : q = m
      · subst z
        have b := qs3 t (ru i 2) k
        rw [qadd_e]
        exact ⟨fun y => absurd rfl y, by omega⟩
      · rw [qadd_n z]; exact ⟨fun _ => w, by omega⟩
  unfold quse
  generalize (if ru i 6 = 2 then qsubv am m (qs t (qf (ru i 1))) else qadd (qsubv am m (qs t (qf (ru i 1)))) m (qs t (qf (ru i 2)))) = a2f at e2 ⊢
  have e3 : ∀ q, (¬ q = m → ¬ q = qpp par m → qadd a2f (qpp par m) (qs t (qf (ru i 3))) q k ≤ am q k) ∧ qadd a2f (qpp par m) (qs t (qf (ru i 3))) q k ≤ am q k + 3 * t := by
    intro q
    obtain ⟨w1, w2⟩ := e2 q
    by_cases z : q = qpp par m
    · subst z
      have b := qs3 t (ru i 3) k
      have w3 := w1 (fun y => hmp y.symm)
      rw [qadd_e]
      exact ⟨fun _ y => absurd rfl y, by omega⟩
    · rw [qadd_n z]; exact ⟨fun y _ => w1 y, w2⟩
  by_cases z4 : ru i 4 = 0
  · rw [if_pos z4]; exact (e3 q).2
  · rw [if_neg z4]
    cases o : qfind (qkl lab par m (nI (ru i 5))) 1 5 with
    | none => exact (e3 q).2
    | some c =>
      dsimp only
      obtain ⟨x1, x2⟩ := hcc c o
      by_cases z : q = c
      · subst z
        have b := qs3 t (ru i 4) k
        have w3 := (e3 q).1 x1 x2
        rw [qadd_e]
        omega
      · rw [qadd_n z]; exact (e3 q).2
theorem quse_abs {lab : Nat → Int32} {par : Nat → Nat} (hl : KL lab par) {ru am : Nat → Nat → Nat} {m i t : Nat} (hm : m < 6) (hp : ¬ lab m = -1) {q : Nat} (hq : q < 6) (ha : lab q = -1) (k : Nat) : quse lab par ru am m i t q k = am q k := by
  have n1 : ¬ q = m := fun z => hp (z ▸ ha)
  have n2 : ¬ q = qpp par m := by
    rcases (qpp_lt hl hm hp).2 with w | ⟨w1, w2, w3, w4⟩
    · omega
    · rw [w2]; exact fun z => w4 (z ▸ ha)
  have n3 : ∀ c, qfind (qkl lab par m (nI (ru i 5))) 1 5 = some c → ¬ q = c := fun c o z => (qkl_kid o).2.2.1 (z ▸ ha)
  have e1 : qsubv am m (qs t (qf (ru i 1))) q = am q := by unfold qsubv; rw [q_un n1]
  have e2 : (if ru i 6 = 2 then qsubv am m (qs t (qf (ru i 1))) else qadd (qsubv am m (qs t (qf (ru i 1)))) m (qs t (qf (ru i 2)))) q = am q := by
    by_cases x : ru i 6 = 2
    · rw [if_pos x, e1]
    · rw [if_neg x, qadd_n n1, e1]
  unfold quse
  generalize (if ru i 6 = 2 then qsubv am m (qs t (qf (ru i 1))) else qadd (qsubv am m (qs t (qf (ru i 1)))) m (qs t (qf (ru i 2)))) = a2f at e2 ⊢
  by_cases z4 : ru i 4 = 0
  · rw [if_pos z4, qadd_n n2, e2]
  · rw [if_neg z4]
    cases o : qfind (qkl lab par m (nI (ru i 5))) 1 5 with
    | none => dsimp only; rw [qadd_n n2, e2]
    | some c => dsimp only; rw [qadd_n (n3 c o), qadd_n n2, e2]
theorem qin_bnd {lab : Nat → Int32} {par : Nat → Nat} (hl : KL lab par) (ht : KT lab par) {ru : Nat → Nat → Nat} {m : Nat} (hm : m < 6) {u : Nat → Nat} (k : Nat) : ∀ (d c : Nat) (am : Nat → Nat → Nat), (∀ i, c ≤ i → i < c + d → 0 < u i → ¬ lab m = -1) → qtot (qin lab par ru m u am c d) k ≤ qtot am k + 9 * qrs u c d ∧ (∀ q, qin lab par ru m u am c d q k ≤ am q k + 3 * qrs u c d) ∧ ∀ q, q < 6 → lab q = -1 → qin lab par ru m u am c d q k = am q k := by
  intro d
  induction d with
  | zero => intro c am _; exact ⟨Nat.le_add_right _ _, fun q => Nat.le_add_right _ _, fun _ _ _ => rfl⟩
  | succ d ih =>
    intro c am hp
    have qi : qin lab par ru m u am c (d + 1) = qin lab par ru m u (if u c = 0 then am else quse lab par ru am m c (u c)) (c + 1) d := rfl
    have qe : qrs u c (d + 1) = u c + qrs u (c + 1) d := rfl
    rw [qi, qe]
    obtain ⟨r1, r2, r3⟩ := ih (c + 1) (if u c = 0 then am else quse lab par ru am m c (u c)) (fun i h1 h2 => hp i (by omega) (by omega))
    by_cases z : u c = 0
    · rw [if_pos z] at r1 r2 r3 ⊢
      exact ⟨by omega, fun q => by have := r2 q; omega, r3⟩
    · rw [if_neg z] at r1 r2 r3 ⊢
      have pr := hp c (Nat.le_refl _) (by omega) (by omega)
      have t1 := quse_tot hl (ru := ru) (am := am) (i := c) (t := u c) hm pr k
      refine ⟨by omega, fun q => ?_, fun q hq hx => ?_⟩
      · have t2 := quse_each hl ht (ru := ru) (am := am) (i := c) (t := u c) hm pr q k
        have := r2 q
        omega
      · rw [r3 q hq hx]; exact quse_abs hl hm pr hq hx k
theorem qall_bnd {lab : Nat → Int32} {par : Nat → Nat} (hl : KL lab par) (ht : KT lab par) {ru : Nat → Nat → Nat} {cnt : Nat} {us : Nat → Nat → Nat} (hp : ∀ m, m < 6 → ∀ i, i < cnt → 0 < us m i → ¬ lab m = -1) (k : Nat) : ∀ (d m : Nat) (am : Nat → Nat → Nat), m + d = 6 → qtot (qall lab par ru cnt us am m d) k ≤ qtot am k + 9 * qrs (fun j => qrs (us j) 0 cnt) m d ∧ (∀ q, qall lab par ru cnt us am m d q k ≤ am q k + 3 * qrs (fun j => qrs (us j) 0 cnt) m d) ∧ ∀ q, q < 6 → lab q = -1 → qall lab par ru cnt us am m d q k = am q k := by
  intro d
  induction d with
  | zero => intro m am _; exact ⟨Nat.le_add_right _ _, fun q => Nat.le_add_right _ _, fun _ _ _ => rfl⟩
  | succ d ih =>
    intro m am e
    have hm : m < 6 := by omega
    have qi : qall lab par ru cnt us am m (d + 1) = qall lab par ru cnt us (qin lab par ru m (us m) am 0 cnt) (m + 1) d := rfl
    have qe : qrs (fun j => qrs (us j) 0 cnt) m (d + 1) = qrs (us m) 0 cnt + qrs (fun j => qrs (us j) 0 cnt) (m + 1) d := rfl
    rw [qi, qe]
    obtain ⟨r1, r2, r3⟩ := ih (m + 1) (qin lab par ru m (us m) am 0 cnt) (by omega)
    obtain ⟨s1, s2, s3⟩ := qin_bnd hl ht (ru := ru) hm (u := us m) k cnt 0 am (fun i _ h2 => hp m hm i (by omega))
    refine ⟨by omega, fun q => ?_, fun q hq hx => ?_⟩
    · have a := r2 q
      have b := s2 q
      omega
    · rw [r3 q hq hx]; exact s3 q hq hx
theorem q_usum {ru : Nat → Nat → Nat} {u : Nat → Nat} : ∀ (d c : Nat), (∀ i, c ≤ i → i < c + d → 0 < ru i 1 ∧ ru i 1 < 1024) → qrs u c d ≤ qrs (fun i => u i * qf (ru i 1) 0) c d + qrs (fun i => u i * qf (ru i 1) 1) c d + qrs (fun i => u i * qf (ru i 1) 2) c d + qrs (fun i => u i * qf (ru i 1) 3) c d + qrs (fun i => u i * qf (ru i 1) 4) c d := by
  intro d
  induction d with
  | zero => intro c _; exact Nat.zero_le _
  | succ d ih =>
    intro c h
    have qe : ∀ F : Nat → Nat, qrs F c (d + 1) = F c + qrs F (c + 1) d := fun _ => rfl
    have r := ih (c + 1) (fun i h1 h2 => h i (by omega) (by omega))
    rw [qe, qe, qe, qe, qe, qe]
    obtain ⟨h1, h2⟩ := h c (Nat.le_refl _) (by omega)
    obtain ⟨k, hk, hp⟩ := qf_pos h1 h2
    have w : u c ≤ u c * qf (ru c 1) k := Nat.le_mul_of_pos_right _ hp
    have kk : k = 0 ∨ k = 1 ∨ k = 2 ∨ k = 3 ∨ k = 4 := by omega
    rcases kk with rfl | rfl | rfl | rfl | rfl <;> omega
def qfc (lab : Nat → Int32) : Nat := (if lab 0 = -1 then 1 else 0) + (if lab 1 = -1 then 1 else 0) + (if lab 2 = -1 then 1 else 0) + (if lab 3 = -1 then 1 else 0) + (if lab 4 = -1 then 1 else 0) + (if lab 5 = -1 then 1 else 0)
def KA (lab : Nat → Int32) (am : Nat → Nat → Nat) : Prop := ∀ m, m < 6 → lab m = -1 → ∀ k, k < 5 → am m k = 0
theorem q_bnd1 {lab : Nat → Int32} {par : Nat → Nat} (hl : KL lab par) (ht : KT lab par) {am : Nat → Nat → Nat} (hk : qok am) (ha : KA lab am) {cnt : Nat} {ru : Nat → Nat → Nat} (hu : UL cnt ru) {us : Nat → Nat → Nat} (hch : ∀ m, m < 6 → qchosen lab par am cnt ru m (us m)) {k : Nat} (k5 : k < 5) : qtot (qall lab par ru cnt us am 0 6) k + qfc lab * (12 + 180 * (6 - qfc lab) + 6) ≤ 4095 ∧ (∀ q, q < 6 → qall lab par ru cnt us am 0 6 q k ≤ 12 + 180 * (6 - qfc lab)) ∧ qall lab par ru cnt us am 0 6 6 k ≤ 2079 := by
  obtain ⟨b1, b2, _⟩ := qall_bnd hl ht (ru := ru) (cnt := cnt) (us := us) (fun m hm i hi hp => ((qchosen_good hu (hch m hm)).1.1 i hi hp).1) k 6 0 am (by omega)
  have e : ∀ j, j < 6 → ∃ x, (if lab j = -1 then 1 else 0) = x ∧ x ≤ 1 ∧ qrs (us j) 0 cnt ≤ 60 * (1 - x) ∧ am j k ≤ 12 * (1 - x) := by
    intro j hj
    have g := (qchosen_good hu (hch j hj)).2
    have s := q_usum (ru := ru) (u := us j) cnt 0 (fun i _ h2 => by have := hu.2 i (by omega); exact ⟨this.2.1, this.2.2.1⟩)
    have g0 := g 0 (by omega)
    have g1 := g 1 (by omega)
    have g2 := g 2 (by omega)
    have g3 := g 3 (by omega)
    have g4 := g 4 (by omega)
    by_cases z : lab j = -1
    · have a := ha j hj z
      have a0 := a 0 (by omega)
      have a1 := a 1 (by omega)
      have a2 := a 2 (by omega)
      have a3 := a 3 (by omega)
      have a4 := a 4 (by omega)
      have ak := a k k5
      exact ⟨1, if_pos z, by omega, by omega, by omega⟩
    · have a := hk.1 j hj
      have a0 := a 0 (by omega)
      have a1 := a 1 (by omega)
      have a2 := a 2 (by omega)
      have a3 := a 3 (by omega)
      have a4 := a 4 (by omega)
      have ak := a k k5
      exact ⟨0, if_neg z, by omega, by omega, by omega⟩
  have a6 := hk.2 k k5
  have qe : qrs (fun j => qrs (us j) 0 cnt) 0 6 = qrs (us 0) 0 cnt + (qrs (us 1) 0 cnt + (qrs (us 2) 0 cnt + (qrs (us 3) 0 cnt + (qrs (us 4) 0 cnt + (qrs (us 5) 0 cnt + 0))))) := rfl
  obtain ⟨x0, p0, l0, v0, w0⟩ := e 0 (by omega)
  obtain ⟨x1, p1, l1, v1, w1⟩ := e 1 (by omega)
  obtain ⟨x2, p2, l2, v2, w2⟩ := e 2 (by omega)
  obtain ⟨x3, p3, l3, v3, w3⟩ := e 3 (by omega)
  obtain ⟨x4, p4, l4, v4, w4⟩ := e 4 (by omega)
  obtain ⟨x5, p5, l5, v5, w5⟩ := e 5 (by omega)
  have fc : qfc lab = x0 + x1 + x2 + x3 + x4 + x5 := by unfold qfc; rw [p0, p1, p2, p3, p4, p5]
  have t0 : qtot am k = am 0 k + am 1 k + am 2 k + am 3 k + am 4 k + am 5 k := rfl
  rw [qe] at b1 b2
  clear e qe hch ha hk hu ht hl p0 p1 p2 p3 p4 p5
  generalize qfc lab = F at fc ⊢
  generalize qrs (us 0) 0 cnt = U0 at *
  generalize qrs (us 1) 0 cnt = U1 at *
  generalize qrs (us 2) 0 cnt = U2 at *
  generalize qrs (us 3) 0 cnt = U3 at *
  generalize qrs (us 4) 0 cnt = U4 at *
  generalize qrs (us 5) 0 cnt = U5 at *
  have hU : U0 + (U1 + (U2 + (U3 + (U4 + (U5 + 0))))) ≤ 60 * (6 - F) := by omega
  have hT : qtot am k ≤ 12 * (6 - F) := by omega
  refine ⟨?_, fun q hq => ?_, ?_⟩
  · have f6 : F = 0 ∨ F = 1 ∨ F = 2 ∨ F = 3 ∨ F = 4 ∨ F = 5 ∨ F = 6 := by omega
    rcases f6 with f | f | f | f | f | f | f <;> rw [f] at hU hT ⊢ <;> omega
  · have b := b2 q
    have aq : am q k ≤ 12 := by
      rcases q_lt6 hq with f | f | f | f | f | f <;> rw [f] <;> omega
    omega
  · have b := b2 6
    omega
theorem qfc_up {lab : Nat → Int32} {f : Nat} {x : Int32} (hf : f < 6) (h : lab f = -1) (hx : ¬ x = -1) : qfc (eUp lab f x) + 1 = qfc lab := by
  unfold qfc
  rcases q_lt6 hf with rfl | rfl | rfl | rfl | rfl | rfl
  · rw [q_up, q_un (by decide), q_un (by decide), q_un (by decide), q_un (by decide), q_un (by decide), if_neg hx, if_pos h]; first | done | omega
  · rw [q_up, q_un (by decide), q_un (by decide), q_un (by decide), q_un (by decide), q_un (by decide), if_neg hx, if_pos h]; first | done | omega
  · rw [q_up, q_un (by decide), q_un (by decide), q_un (by decide), q_un (by decide), q_un (by decide), if_neg hx, if_pos h]; first | done | omega
  · rw [q_up, q_un (by decide), q_un (by decide), q_un (by decide), q_un (by decide), q_un (by decide), if_neg hx, if_pos h]; first | done | omega
  · rw [q_up, q_un (by decide), q_un (by decide), q_un (by decide), q_un (by decide), q_un (by decide), if_neg hx, if_pos h]; first | done | omega
  · rw [q_up, q_un (by decide), q_un (by decide), q_un (by decide), q_un (by decide), q_un (by decide), if_neg hx, if_pos h]
theorem qsp_inv {cnt : Nat} {ru us : Nat → Nat → Nat} {o : Nat → Option Nat} {M B : Nat} : ∀ (d m : Nat) (st st' : qC), m + d = 6 → qsp ru o st m d = some st' → qoo cnt ru us st.1 o → KL st.1 st.2.1 → KT st.1 st.2.1 → KA st.1 st.2.2 → (∀ k, k < 5 → qtot st.2.2 k + qfc st.1 * (M + 6) ≤ B) → (∀ j, m ≤ j → j < 6 → ∀ i, o j = some i → ∀ k, k < 5 → st.2.2 j k ≤ M) → qoo cnt ru us st'.1 o ∧ KL st'.1 st'.2.1 ∧ KT st'.1 st'.2.1 ∧ KA st'.1 st'.2.2 ∧ (∀ k, k < 5 → qtot st'.2.2 k ≤ B) ∧ st'.2.2 6 = st.2.2 6 := by
  intro d
  induction d with
  | zero =>
    intro m st st' e q ho hl ht ha hb hM
    cases q
    exact ⟨ho, hl, ht, ha, fun k hk => Nat.le_trans (Nat.le_add_right _ _) (hb k hk), rfl⟩
  | succ d ih =>
    intro m st st' e q ho hl ht ha hb hM
    have hm : m < 6 := by omega
    have hM' : ∀ j, m + 1 ≤ j → j < 6 → ∀ i, o j = some i → ∀ k, k < 5 → st.2.2 j k ≤ M := fun j h1 h2 => hM j (by omega) h2
    have qe : qsp ru o st m (d + 1) = (match o m with
      | none => qsp ru o st (m + 1) d
      | some i => if ru i 6 = 2 then
          (match qfind (qfree st.1) 1 5 with
          | none => none
          | some f => qsp ru o (eUp st.1 f (st.1 m), eUp st.2.1 f (st.2.1 m), qsa ru st.2.2 m f i) (m + 1) d)
        else qsp ru o st (m + 1) d) := rfl
    rw [qe] at q
    cases om : o m with
    | none =>
      rw [om] at q
      exact ih (m + 1) st st' (by omega) q ho hl ht ha hb hM'
    | some i =>
      rw [om] at q
      dsimp only at q
      obtain ⟨o1, o2, o3, o4, o5⟩ := ho m hm i om
      by_cases x : ru i 6 = 2
      · rw [if_pos x] at q
        cases qq : qfind (qfree st.1) 1 5 with
        | none => rw [qq] at q; cases q
        | some f =>
          rw [qq] at q
          dsimp only at q
          obtain ⟨fl, f0, f6⟩ := qfree_lab qq
          have fm : ¬ f = m := fun z => o5 (z ▸ fl)
          have qm : ∀ j, ¬ j = f → ¬ j = m → qsa ru st.2.2 m f i j = st.2.2 j := fun j j1 j2 => by unfold qsa; rw [q_un j2, q_un j1]
          have r := ih (m + 1) (eUp st.1 f (st.1 m), eUp st.2.1 f (st.2.1 m), qsa ru st.2.2 m f i) st' (by omega) q (fun j hj i' hi' => by
            obtain ⟨p1, p2, p3, p4, p5⟩ := ho j hj i' hi'
            refine ⟨p1, p2, p3, p4, ?_⟩
            show ¬ eUp st.1 f (st.1 m) j = -1
            by_cases jf : j = f
            · subst jf; rw [q_up]; exact o5
            · rw [q_un jf]; exact p5) (KL_split hl hm o4 o5 fl f0) (KT_split hl ht hm o4 o5 fl) (fun j hj jx k hk => by
              have jx' : eUp st.1 f (st.1 m) j = -1 := jx
              have jf : ¬ j = f := fun z => by subst z; rw [q_up] at jx'; exact o5 jx'
              rw [q_un jf] at jx'
              have jm : ¬ j = m := fun z => o5 (z ▸ jx')
              show qsa ru st.2.2 m f i j k = 0
              rw [qm j jf jm]
              exact ha j hj jx' k hk) (fun k hk => by
              have fc := qfc_up (x := st.1 m) f6 fl o5
              have t1 := qtot_up (am := st.2.2) f6 (fun k => st.2.2 m k + qf (ru i 7) k) k
              have t2 := qtot_up (am := eUp st.2.2 f fun k => st.2.2 m k + qf (ru i 7) k) hm (fun k => st.2.2 m k + qf (ru i 2) k) k
              rw [q_un (fun z => fm z.symm)] at t2
              have l7 := qf_lt (ru i 7) k
              have l2 := qf_lt (ru i 2) k
              have b := hb k hk
              have mm := hM m (Nat.le_refl _) hm i om k hk
              show qtot (qsa ru st.2.2 m f i) k + qfc (eUp st.1 f (st.1 m)) * (M + 6) ≤ B
              have nm : qfc st.1 * (M + 6) = qfc (eUp st.1 f (st.1 m)) * (M + 6) + (M + 6) := by rw [← fc, Nat.succ_mul]
              have tt : qtot (qsa ru st.2.2 m f i) k ≤ qtot st.2.2 k + (M + 6) := by
                unfold qsa
                omega
              omega) (fun j h1 h2 i' hi' k hk => by
              have p5 := (ho j h2 i' hi').2.2.2.2
              have jf : ¬ j = f := fun z => p5 (z ▸ fl)
              show qsa ru st.2.2 m f i j k ≤ M
              rw [qm j jf (by omega)]
              exact hM j (by omega) h2 i' hi' k hk)
          obtain ⟨r1, r2, r3, r4, r5, r6⟩ := r
          refine ⟨r1, r2, r3, r4, r5, r6.trans ?_⟩
          exact qm 6 (by omega) (by omega)
      · rw [if_neg x] at q
        exact ih (m + 1) st st' (by omega) q ho hl ht ha hb hM'
theorem qml_inv {cnt : Nat} {ru us : Nat → Nat → Nat} {o : Nat → Option Nat} {B : Nat} : ∀ (d m : Nat) (st : qC), m + d = 6 → (∀ j, m ≤ j → j < 6 → ∀ i, o j = some i → i < cnt ∧ 0 < us j i ∧ 0 < ru i 6 ∧ ¬ j = 0 ∧ ¬ st.1 j = -1) → KL st.1 st.2.1 → KT st.1 st.2.1 → KA st.1 st.2.2 → (∀ k, k < 5 → qtot st.2.2 k ≤ B) → KL (qml ru o st m d).1 (qml ru o st m d).2.1 ∧ KT (qml ru o st m d).1 (qml ru o st m d).2.1 ∧ KA (qml ru o st m d).1 (qml ru o st m d).2.2 ∧ (∀ k, k < 5 → qtot (qml ru o st m d).2.2 k ≤ B) ∧ (qml ru o st m d).2.2 6 = st.2.2 6 := by
  intro d
  induction d with
  | zero => intro m st e ho hl ht ha hb; exact ⟨hl, ht, ha, hb, rfl⟩
  | succ d ih =>
    intro m st e ho hl ht ha hb
    have hm : m < 6 := by omega
    have ho' : ∀ j, m + 1 ≤ j → j < 6 → ∀ i, o j = some i → i < cnt ∧ 0 < us j i ∧ 0 < ru i 6 ∧ ¬ j = 0 ∧ ¬ st.1 j = -1 := fun j h1 h2 => ho j (by omega) h2
    have qe : qml ru o st m (d + 1) = (match o m with
      | none => qml ru o st (m + 1) d
      | some i => if ru i 6 = 1 then qml ru o (eUp st.1 m (-1), qmp st.2.1 m, qma st.2.1 st.2.2 m) (m + 1) d else qml ru o st (m + 1) d) := rfl
    rw [qe]
    cases om : o m with
    | none => exact ih (m + 1) st (by omega) ho' hl ht ha hb
    | some i =>
      dsimp only
      obtain ⟨o1, o2, o3, o4, o5⟩ := ho m (Nat.le_refl _) hm i om
      by_cases x : ru i 6 = 1
      · rw [if_pos x]
        have ne := KT_ne ht hm o4 o5
        have pm := hl.2.2 m hm o4 o5
        have pm1 := pm.1
        obtain ⟨r1, r2, r3, r4, r5⟩ := ih (m + 1) (eUp st.1 m (-1), qmp st.2.1 m, qma st.2.1 st.2.2 m) (by omega) (fun j h1 h2 i' hi' => by
          obtain ⟨p1, p2, p3, p4, p5⟩ := ho j (by omega) h2 i' hi'
          refine ⟨p1, p2, p3, p4, ?_⟩
          show ¬ eUp st.1 m (-1) j = -1
          rw [q_un (by omega)]; exact p5) (KL_melt hl hm o4 o5 ne) (KT_melt ht hm o4 o5) (fun j hj jx k hk => by
            have jx' : eUp st.1 m (-1) j = -1 := jx
            show qma st.2.1 st.2.2 m j k = 0
            unfold qma
            by_cases jm : j = m
            · rw [jm, q_up]
            · rw [q_un jm] at jx'
              have jp : ¬ j = st.2.1 m := fun z => pm.2 (z ▸ jx')
              rw [q_un jm, q_un jp]
              exact ha j hj jx' k hk) (fun k hk => by
            have t1 := qtot_up (am := st.2.2) pm1 (fun k => st.2.2 (st.2.1 m) k + st.2.2 m k) k
            have t2 := qtot_up (am := eUp st.2.2 (st.2.1 m) fun k => st.2.2 (st.2.1 m) k + st.2.2 m k) hm (fun _ => 0) k
            rw [q_un (fun z => ne z.symm)] at t2
            have b := hb k hk
            show qtot (qma st.2.1 st.2.2 m) k ≤ B
            unfold qma
            omega)
        refine ⟨r1, r2, r3, r4, r5.trans ?_⟩
        show qma st.2.1 st.2.2 m 6 = _
        unfold qma
        rw [q_un (by omega), q_un (by omega)]
      · rw [if_neg x]
        exact ih (m + 1) st (by omega) ho' hl ht ha hb

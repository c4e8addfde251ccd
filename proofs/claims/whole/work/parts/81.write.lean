theorem q_per (a b : Nat) : nI (a + 4294967296 * b) = nI a := by
  apply Int32.toBitVec_inj.mp
  apply BitVec.eq_of_toNat_eq
  show (BitVec.ofNat 32 _).toNat = (BitVec.ofNat 32 _).toNat
  rw [BitVec.toNat_ofNat, BitVec.toNat_ofNat]
  show (a + 4294967296 * b) % 4294967296 = a % 4294967296
  omega
theorem q_back (a b : Nat) : nI a - (-1) * nI b = nI (a + b) := by
  have e : (-1 : Int32) * nI b = nI (4294967295 * b) := pk_mul 4294967295 b
  rw [e, ← q_per a b, pk_sub (by omega)]
  congr 1
  omega
def qrel (rest u : Nat → Nat) (R U : Nat → Int32) : Prop := (∀ k, k < 5 → R k = nI (rest k)) ∧ (∀ k, k < 6 → U k = nI (u k))
theorem q_wfull {W : Nat → Int32 → Int32 → (Nat → Int32) → (Nat → Int32) → Int32 → (Nat → Int32) → Int32 → Option (Int32 × (Nat → Int32) × (Nat → Int32) × Int32 × (Nat → Int32) × Int32)} {row m most cnt : Nat} {ml me mi mt ma cells : Nat → Int32} (hW : ∀ n, W n = M_write_12 (nI row) (nI m) (nI most) (nI cnt) ml me mi mt ma cells n) {ru : Nat → Nat → Nat} (hu : UL cnt ru) {mh mo mx : Nat → Int32} (hM : UM cnt ru ml me mh mo mi mt ma mx) (hmo : most < 2000) {n1 : Nat} (h1 : 1 ≤ n1) {U : Nat → Int32} (li : Nat → Int32) (ld : Int32) (R : Nat → Int32) (s : Bool) : ∀ (x n2 : Nat), x ≤ cnt → x + 10 ≤ n2 → ∃ R' U' A', M_write_109 me ma (W n1) n2 (nI most) (nI x + (-1)) R U (qb s) li ld = some (nI most, R', U', A', li, ld) := by
  have c6 := hu.1
  obtain ⟨n1, rfl⟩ : ∃ m, n1 = m + 1 := ⟨n1 - 1, by omega⟩
  intro x
  induction x with
  | zero =>
    intro n2 hx hn
    obtain ⟨n2, rfl⟩ : ∃ m, n2 = m + 1 := ⟨n2 - 1, by omega⟩
    refine ⟨R, U, qb s, ?_⟩
    rw [M_write_109, if_pos (by decide)]
    unfold M_write_130
    rw [if_pos (by decide), hW, M_write_12, if_pos (by decide)]
  | succ x ih =>
    intro n2 hx hn
    obtain ⟨n2, rfl⟩ : ∃ m, n2 = m + 1 := ⟨n2 - 1, by omega⟩
    obtain ⟨b0, b1, b2, b3, b4, b5, b6, b7, b8⟩ := hu.2 x (by omega)
    obtain ⟨c1, c2, c3, c4, c5, cc6, c7, c8⟩ := hM x (by omega)
    rw [pk_m1, M_write_109, if_neg (nI_pos (by omega)), nI_clamp (by omega), if_neg (q_in (by omega) (by omega))]
    by_cases z : U x = 0
    · rw [if_pos z]
      exact ih n2 (by omega) (by omega)
    · rw [if_neg z]
      unfold M_write_130
      obtain ⟨R', e1, e2⟩ := q_take (R := R) (U := U) (nn := -1) (s := s) (show x < 6 by omega) c2 b2 c7 b7 (n := n2) (by omega)
      rw [if_neg (nI_pos (by omega)), e1, Option.bind_some, nI_1, hW, M_write_12, if_neg (nI_pos (by omega)), if_pos (nI_le (Nat.le_refl _) (by omega))]
      exact ⟨_, _, _, rfl⟩
theorem q_wnode {ι : Type} {W : ι → Nat → Int32 → Int32 → (Nat → Int32) → (Nat → Int32) → Int32 → (Nat → Int32) → Int32 → Option (Int32 × (Nat → Int32) × (Nat → Int32) × Int32 × (Nat → Int32) × Int32)} {m most cnt : Nat} {row : ι → Nat} {ml me mi mt ma cells : ι → Nat → Int32} (hW : ∀ ee n, W ee n = M_write_12 (nI (row ee)) (nI m) (nI most) (nI cnt) (ml ee) (me ee) (mi ee) (mt ee) (ma ee) (cells ee) n) {lab : Nat → Int32} {par : Nat → Nat} {am : Nat → Nat → Nat} (hl : KL lab par) (h : ∀ ee, KM lab par am (cells ee) (row ee)) (hrw : ∀ ee, row ee < 82) {ru : Nat → Nat → Nat} {mh mo mx : ι → Nat → Int32} (hu : UL cnt ru) (hM : ∀ ee, UM cnt ru (ml ee) (me ee) (mh ee) (mo ee) (mi ee) (mt ee) (ma ee) (mx ee)) (hm : m < 6) (hmo : most < 2000) : ∀ (d r : Nat), r + d = cnt → ∀ (rest : Nat → Nat) (s : Bool) (u : Nat → Nat) (c : Nat), (∀ k, k < 5 → rest k ≤ 12) → (∀ k, k < 6 → u k < 16) → (∀ k, r ≤ k → k < 6 → u k = 0) → c < most → ∀ M, ∃ K, ∀ (ee : ι) (n : Nat), K ≤ n → ∀ (R U li : Nat → Int32) (ld : Nat), qrel rest u R U → ld + (most - c) ≤ 1100 →
    (c + (qen ru (qol (qopl lab par ru m) 0 cnt) (qol (qopl lab par ru m) r d) rest s u).length < most → ∃ n1 n2 R' U', M ≤ n1 ∧ M ≤ n2 ∧ qrel rest u R' U' ∧ W ee n (nI c) (nI r) R U (qb s) li (nI ld) = M_write_109 (me ee) (ma ee) (W ee n1) n2 (nI (c + (qen ru (qol (qopl lab par ru m) 0 cnt) (qol (qopl lab par ru m) r d) rest s u).length)) (nI r + (-1)) R' U' (qb s) (qput c5p li ld (qen ru (qol (qopl lab par ru m) 0 cnt) (qol (qopl lab par ru m) r d) rest s u)) (nI (ld + (qen ru (qol (qopl lab par ru m) 0 cnt) (qol (qopl lab par ru m) r d) rest s u).length)))
    ∧ (most ≤ c + (qen ru (qol (qopl lab par ru m) 0 cnt) (qol (qopl lab par ru m) r d) rest s u).length → ∃ R' U' A', W ee n (nI c) (nI r) R U (qb s) li (nI ld) = some (nI most, R', U', A', qput c5p li ld ((qen ru (qol (qopl lab par ru m) 0 cnt) (qol (qopl lab par ru m) r d) rest s u).take (most - c)), nI (ld + (most - c)))) := by
  have c6 := hu.1
  have stepS : ∀ (ee : ι) (n c r : Nat) (R U li : Nat → Int32) (ld : Nat) (s b : Bool), c < most → r ≤ cnt → M_stuck n (nI (row ee)) (nI m) (nI r) (nI cnt) (ml ee) (me ee) (mi ee) (mt ee) (ma ee) (cells ee) R (qb s) = some (qb b) → W ee (n + 1) (nI c) (nI r) R U (qb s) li (nI ld) = M_write_39 (nI (row ee)) (nI m) (nI cnt) (ml ee) (me ee) (mi ee) (mt ee) (ma ee) (cells ee) (W ee n) n (nI c) (nI r) (qb (!b)) R U (qb s) li (nI ld) := by
    intro ee n c r R U li ld s b hc hr hs
    rw [hW, hW, M_write_12, if_neg (nI_pos (by omega)), if_neg (nI_ge hc (by omega)), hs, Option.bind_some]
    cases b <;> rfl
  have stuckS : ∀ (ee : ι) (n c r : Nat) (R U li : Nat → Int32) (ld : Nat) (s : Bool), c < most → r ≤ cnt → M_stuck n (nI (row ee)) (nI m) (nI r) (nI cnt) (ml ee) (me ee) (mi ee) (mt ee) (ma ee) (cells ee) R (qb s) = some (qb true) → W ee (n + 1) (nI c) (nI r) R U (qb s) li (nI ld) = M_write_109 (me ee) (ma ee) (W ee n) n (nI c) (nI r + (-1)) R U (qb s) li (nI ld) := by
    intro ee n c r R U li ld s hc hr hs
    rw [stepS ee n c r R U li ld s true hc hr hs]
    unfold M_write_39 M_write_75
    rw [if_pos (by decide), if_pos (by decide)]
  intro d
  induction d with
  | zero =>
    intro r e rest s u c hR12 h16 h0 hc M
    refine ⟨M + 101, fun ee n hn R U li ld hrel hld => ?_⟩
    obtain ⟨n, rfl⟩ : ∃ m, n = m + 1 := ⟨n - 1, by omega⟩
    have rc : r = cnt := by omega
    obtain ⟨b, e1, e2, e3⟩ := q_stuck hl (h ee) (hrw ee) hu (hM ee) hrel.1 hR12 s hm (show r ≤ cnt by omega) (n := n) (by omega)
    have q0 : cnt - r = 0 := by omega
    rw [q0] at e2
    cases b with
    | true =>
      rw [e2 rfl u]
      refine ⟨fun _ => ⟨n, n, R, U, by omega, by omega, hrel, ?_⟩, fun w => absurd w (by simp; omega)⟩
      exact stuckS ee n c r R U li ld s hc (by omega) e1
    | false =>
      have L : qen ru (qol (qopl lab par ru m) 0 cnt) (qol (qopl lab par ru m) r 0) rest s u = [u] := by
        show (if qmax ru _ rest s = true then [u] else []) = [u]
        rw [e3 rfl rc, if_pos rfl]
      rw [L]
      have st : W ee (n + 1) (nI c) (nI r) R U (qb s) li (nI ld) = M_write_109 (me ee) (ma ee) (W ee n) n (nI (c + 1)) (nI r + (-1)) R U (qb s) (qput c5p li ld [u]) (nI (ld + 1)) := by
        rw [stepS ee n c r R U li ld s false hc (by omega) e1]
        unfold M_write_39 M_write_75
        rw [if_neg (by decide), if_pos (nI_le (by omega) (by omega)), if_neg (by decide), q_pack (fun k hk => Nat.lt_trans (h16 k hk) (by omega)) hrel.2 c6 (fun k h1 h2 => h0 k (by omega) h2) (by omega), Option.bind_some, nI_clamp (by omega), if_neg (q_in (by omega) (by omega)), nI_1, nI_1]; rfl
      refine ⟨fun _ => ⟨n, n, R, U, by omega, by omega, hrel, st⟩, fun w => ?_⟩
      have w1 : most = c + 1 := by simp at w; omega
      obtain ⟨R', U', A', f⟩ := q_wfull (hW ee) hu (hM ee) hmo (show 1 ≤ n by omega) (U := U) (qput c5p li ld [u]) (nI (ld + 1)) R s r n (by omega) (by omega)
      refine ⟨R', U', A', ?_⟩
      rw [st, ← w1, f, show most - c = 1 by omega]; rfl
  | succ d ih =>
    intro r e rest s u c hR12 h16 h0 hc M
    have hr : r < cnt := by omega
    obtain ⟨b0, b1, b2, b3, b4, b5, b6, b7, b8⟩ := hu.2 r hr
    have c2' := fun ee => (hM ee r hr).2.1
    have c7' := fun ee => (hM ee r hr).2.2.2.2.2.2.1
    have inner : ∀ (t : Nat), t ≤ qal lab par ru m rest s r → (∀ k, k < 5 → t * qf (ru r 1) k ≤ rest k) → t ≤ 12 → (0 < ru r 6 → t ≤ 1 ∧ (0 < t → s = false)) → ∀ c, c < most → ∀ M, ∃ K, ∀ (ee : ι) (n : Nat), K ≤ n → ∀ (R U li : Nat → Int32) (ld : Nat), qrel (qR ru rest t r) (eUp u r t) R U → ld + (most - c) ≤ 1100 →
        (c + (qdn (fun t => qen ru (qol (qopl lab par ru m) 0 cnt) (qol (qopl lab par ru m) (r + 1) d) (qR ru rest t r) (qS ru s t r) (eUp u r t)) t).length < most → ∃ n1 n2 R' U', M ≤ n1 ∧ M ≤ n2 ∧ qrel rest u R' U' ∧ W ee n (nI c) (nI (r + 1)) R U (qb (qS ru s t r)) li (nI ld) = M_write_109 (me ee) (ma ee) (W ee n1) n2 (nI (c + (qdn (fun t => qen ru (qol (qopl lab par ru m) 0 cnt) (qol (qopl lab par ru m) (r + 1) d) (qR ru rest t r) (qS ru s t r) (eUp u r t)) t).length)) (nI r + (-1)) R' U' (qb s) (qput c5p li ld (qdn (fun t => qen ru (qol (qopl lab par ru m) 0 cnt) (qol (qopl lab par ru m) (r + 1) d) (qR ru rest t r) (qS ru s t r) (eUp u r t)) t)) (nI (ld + (qdn (fun t => qen ru (qol (qopl lab par ru m) 0 cnt) (qol (qopl lab par ru m) (r + 1) d) (qR ru rest t r) (qS ru s t r) (eUp u r t)) t).length)))
        ∧ (most ≤ c + (qdn (fun t => qen ru (qol (qopl lab par ru m) 0 cnt) (qol (qopl lab par ru m) (r + 1) d) (qR ru rest t r) (qS ru s t r) (eUp u r t)) t).length → ∃ R' U' A', W ee n (nI c) (nI (r + 1)) R U (qb (qS ru s t r)) li (nI ld) = some (nI most, R', U', A', qput c5p li ld ((qdn (fun t => qen ru (qol (qopl lab par ru m) 0 cnt) (qol (qopl lab par ru m) (r + 1) d) (qR ru rest t r) (qS ru s t r) (eUp u r t)) t).take (most - c)), nI (ld + (most - c)))) := by
      have nodes : ∀ t, t ≤ 12 → ∀ c, c < most → ∀ M, _ := fun t ht c hc M => ih (r + 1) (by omega) (qR ru rest t r) (qS ru s t r) (eUp u r t) c (fun k hk => Nat.le_trans qR_le (hR12 k hk)) (fun k hk => by have := h16 k hk; unfold eUp; split <;> omega) (fun k h1 h2 => by rw [q_un (by omega)]; exact h0 k (by omega) h2) hc M
      intro t
      induction t with
      | zero =>
        intro _ _ _ _ c hc M
        obtain ⟨K, hK⟩ := nodes 0 (by omega) c hc (M + 10)
        refine ⟨K, fun ee n hn R U li ld hrel hld => ?_⟩
        obtain ⟨k1, k2⟩ := hK ee n hn R U li ld hrel hld
        refine ⟨fun w => ?_, k2⟩
        obtain ⟨n1, n2, R', U', m1, m2, m3, m4⟩ := k1 w
        obtain ⟨n2, rfl⟩ : ∃ m, n2 = m + 1 := ⟨n2 - 1, by omega⟩
        have s0 : qb (qS ru s 0 r) = qb s := by unfold qS; simp
        have u0 : U' r = 0 := by rw [m3.2 r (by omega), q_up]; rfl
        refine ⟨n1, n2, R', U', by omega, by omega, ⟨fun k hk => ?_, fun k hk => ?_⟩, ?_⟩
        · rw [m3.1 k hk]; unfold qR; rw [Nat.zero_mul, Nat.sub_zero]
        · rw [m3.2 k hk]
          by_cases kr : k = r
          · subst kr; rw [q_up, h0 k (Nat.le_refl _) hk]
          · rw [q_un kr]
        · rw [m4, pk_m1, M_write_109, if_neg (nI_pos (by omega)), nI_clamp (by omega), if_neg (q_in (by omega) (by omega)), if_pos u0, s0]; rfl
      | succ t iht =>
        intro h1 h2 h3 h4 c hc M
        have h2' : ∀ k, k < 5 → t * qf (ru r 1) k ≤ rest k := fun k hk => Nat.le_trans (Nat.mul_le_mul_right _ (by omega)) (h2 k hk)
        have h4' : 0 < ru r 6 → t ≤ 1 ∧ (0 < t → s = false) := fun x => ⟨by have := (h4 x).1; omega, fun _ => (h4 x).2 (by omega)⟩
        generalize hA : qen ru (qol (qopl lab par ru m) 0 cnt) (qol (qopl lab par ru m) (r + 1) d) (qR ru rest (t + 1) r) (qS ru s (t + 1) r) (eUp u r (t + 1)) = A
        have dn : ∀ (F : Nat → List (Nat → Nat)), qdn F (t + 1) = F (t + 1) ++ qdn F t := fun _ => rfl
        rw [dn, hA]
        by_cases full : c + A.length < most
        · have ar1 : ∀ ld, ld + (most - c) ≤ 1100 → ld + A.length + (most - (c + A.length)) ≤ 1100 := fun ld h => by omega
          have ar2 : most - c - A.length = most - (c + A.length) := by omega
          have ar3 : ∀ ld, ld + A.length + (most - (c + A.length)) = ld + (most - c) := fun ld => by omega
          have ar4 : A.length ≤ most - c := by omega
          obtain ⟨K2, hK2⟩ := iht (by omega) h2' (by omega) h4' (c + A.length) full M
          obtain ⟨K, hK⟩ := nodes (t + 1) h3 c hc (M + K2 + 20)
          refine ⟨K, fun ee n hn R U li ld hrel hld => ?_⟩
          obtain ⟨k1, _⟩ := hK ee n hn R U li ld hrel hld
          rw [hA] at k1
          obtain ⟨n1, n2, R', U', m1, m2, m3, m4⟩ := k1 full
          obtain ⟨n2, rfl⟩ : ∃ m, n2 = m + 1 := ⟨n2 - 1, by omega⟩
          have ur : U' r = nI (t + 1) := by rw [m3.2 r (by omega), q_up]
          obtain ⟨R2, f1, f2⟩ := q_take (R := R') (U := U') (nn := -1) (s := qS ru s (t + 1) r) (show r < 6 by omega) (c2' ee) b2 (c7' ee) b7 (n := n2) (by omega)
          have ea : (if 0 < ru r 6 ∧ ¬ (-1 : Int32) = 0 then (if (-1 : Int32) ≤ 0 then (0 : Int32) else 1) else qb (qS ru s (t + 1) r)) = qb (qS ru s t r) := by
            by_cases x : 0 < ru r 6
            · have t0 : t = 0 := by have := (h4 x).1; omega
              have sf : s = false := (h4 x).2 (by omega)
              rw [if_pos ⟨x, by decide⟩, if_pos (by decide), t0, sf]; rfl
            · rw [if_neg (fun w => x w.1)]
              unfold qS
              rw [decide_eq_false x]; simp
          have go : W ee n (nI c) (nI (r + 1)) R U (qb (qS ru s (t + 1) r)) li (nI ld) = W ee n1 (nI (c + A.length)) (nI (r + 1)) R2 (eUp U' r (U' r + (-1))) (qb (qS ru s t r)) (qput c5p li ld A) (nI (ld + A.length)) := by
            rw [m4, pk_m1, M_write_109, if_neg (nI_pos (by omega)), nI_clamp (by omega), if_neg (q_in (by omega) (by omega)), if_neg (by rw [ur]; exact nI_ne0 (by omega) (by omega))]
            unfold M_write_130
            rw [if_neg (nI_pos (by omega)), f1, Option.bind_some, nI_1, ea]
          have rel2 : qrel (qR ru rest t r) (eUp u r t) R2 (eUp U' r (U' r + (-1))) := by
            refine ⟨fun k hk => ?_, fun k hk => ?_⟩
            · rw [f2 k hk, m3.1 k hk, q_back]
              congr 1
              unfold qR
              have := h2 k hk
              have e3 : (t + 1) * qf (ru r 1) k = t * qf (ru r 1) k + qf (ru r 1) k := Nat.succ_mul _ _
              omega
            · by_cases kr : k = r
              · subst kr; rw [q_up, q_up, ur, pk_m1]
              · rw [q_un kr, q_un kr, m3.2 k hk, q_un kr]
          obtain ⟨k3, k4⟩ := hK2 ee n1 (Nat.le_trans (Nat.le_trans (Nat.le_add_left _ _) (Nat.le_add_right _ _)) m1) R2 _ (qput c5p li ld A) (ld + A.length) rel2 (ar1 ld hld)
          rw [go, List.length_append, qput_append]
          refine ⟨fun w => ?_, fun w => ?_⟩
          · obtain ⟨n3, n4, R3, U3, g1, g2, g3, g4⟩ := k3 (by omega)
            refine ⟨n3, n4, R3, U3, g1, g2, g3, ?_⟩
            rw [g4, Nat.add_assoc, Nat.add_assoc]
          · obtain ⟨R3, U3, A3, g4⟩ := k4 (by omega)
            refine ⟨R3, U3, A3, ?_⟩
            rw [g4, List.take_append, List.take_of_length_le ar4, qput_append, ar2, ar3]
        · obtain ⟨K, hK⟩ := nodes (t + 1) h3 c hc M
          refine ⟨K, fun ee n hn R U li ld hrel hld => ?_⟩
          obtain ⟨_, k2⟩ := hK ee n hn R U li ld hrel hld
          rw [hA] at k2
          rw [List.length_append]
          refine ⟨fun w => absurd w (by omega), fun _ => ?_⟩
          obtain ⟨R3, U3, A3, g4⟩ := k2 (by omega)
          refine ⟨R3, U3, A3, ?_⟩
          rw [g4, List.take_append, show most - c - A.length = 0 by omega, List.take_zero, List.append_nil]
    have tl : qal lab par ru m rest s r ≤ 12 := by
      have := qT_le (ru := ru) (rest := rest) (s := s) (i := r)
      unfold qT at this
      unfold qal
      split <;> omega
    have fits : ∀ k, k < 5 → qal lab par ru m rest s r * qf (ru r 1) k ≤ rest k := by
      intro k hk
      unfold qal
      split
      · exact qT_fits (ru := ru) (rest := rest) (s := s) (i := r) (Nat.le_refl _) k hk
      · rw [Nat.zero_mul]; omega
    have one : 0 < ru r 6 → qal lab par ru m rest s r ≤ 1 ∧ (0 < qal lab par ru m rest s r → s = false) := by
      intro x
      unfold qal
      split
      · have w := qt_le (rest := rest) (left := qf (ru r 1)) (m := qcap (decide (0 < ru r 6)) s)
        rw [decide_eq_true x] at w ⊢
        cases s with
        | true => exact ⟨Nat.le_trans w (by decide), fun z => absurd (Nat.le_trans z w) (by decide)⟩
        | false => exact ⟨Nat.le_trans w (by decide), fun _ => rfl⟩
      · exact ⟨by omega, fun z => absurd z (by omega)⟩
    have LL : qen ru (qol (qopl lab par ru m) 0 cnt) (qol (qopl lab par ru m) r (d + 1)) rest s u = qdn (fun t => qen ru (qol (qopl lab par ru m) 0 cnt) (qol (qopl lab par ru m) (r + 1) d) (qR ru rest t r) (qS ru s t r) (eUp u r t)) (qal lab par ru m rest s r) := by
      have qe : qol (qopl lab par ru m) r (d + 1) = if qopl lab par ru m r = true then r :: qol (qopl lab par ru m) (r + 1) d else qol (qopl lab par ru m) (r + 1) d := rfl
      rw [qe]
      unfold qal
      by_cases o : qopl lab par ru m r = true
      · rw [if_pos o, if_pos o]; rfl
      · rw [if_neg o, if_neg o]
        show _ = qen ru _ _ (qR ru rest 0 r) (qS ru s 0 r) (eUp u r 0)
        have r0 : qR ru rest 0 r = rest := by funext k; unfold qR; rw [Nat.zero_mul, Nat.sub_zero]
        have s0 : qS ru s 0 r = s := by unfold qS; simp
        have u0 : eUp u r 0 = u := by
          funext k
          by_cases kr : k = r
          · subst kr; rw [q_up, h0 k (Nat.le_refl _) (by omega)]
          · rw [q_un kr]
        rw [r0, s0, u0]
    obtain ⟨K, hK⟩ := inner (qal lab par ru m rest s r) (Nat.le_refl _) fits tl one c hc M
    refine ⟨K + M + 101, fun ee n hn R U li ld hrel hld => ?_⟩
    obtain ⟨n, rfl⟩ : ∃ m, n = m + 1 := ⟨n - 1, by omega⟩
    obtain ⟨b, e1, e2, e3⟩ := q_stuck hl (h ee) (hrw ee) hu (hM ee) hrel.1 hR12 s hm (show r ≤ cnt by omega) (n := n) (by omega)
    cases b with
    | true =>
      have w := e2 rfl u
      rw [show cnt - r = d + 1 by omega] at w
      rw [w]
      refine ⟨fun _ => ⟨n, n, R, U, by omega, by omega, hrel, ?_⟩, fun w => absurd w (by simp; omega)⟩
      exact stuckS ee n c r R U li ld s hc (by omega) e1
    | false =>
      obtain ⟨R2, f1, f2⟩ := q_take (R := R) (U := U) (nn := nI (qal lab par ru m rest s r)) (s := s) (show r < 6 by omega) (c2' ee) b2 (c7' ee) b7 (n := n) (by omega)
      have ea : (if 0 < ru r 6 ∧ ¬ nI (qal lab par ru m rest s r) = 0 then (if nI (qal lab par ru m rest s r) ≤ 0 then (0 : Int32) else 1) else qb s) = qb (qS ru s (qal lab par ru m rest s r) r) := by
        unfold qS
        by_cases x : 0 < ru r 6
        · by_cases y : qal lab par ru m rest s r = 0
          · rw [if_neg (fun w => w.2 (by rw [y]; rfl)), y]; simp
          · rw [if_pos ⟨x, nI_ne0 (by omega) (by omega)⟩, if_neg (nI_nle (by omega) (by omega)), decide_eq_true x, decide_eq_true (show 0 < qal lab par ru m rest s r by omega)]
            cases s <;> rfl
        · rw [if_neg (fun w => x w.1), decide_eq_false x]; simp
      have go : W ee (n + 1) (nI c) (nI r) R U (qb s) li (nI ld) = W ee n (nI c) (nI (r + 1)) R2 (eUp U r (U r + nI (qal lab par ru m rest s r))) (qb (qS ru s (qal lab par ru m rest s r) r)) li (nI ld) := by
        rw [stepS ee n c r R U li ld s false hc (by omega) e1]
        unfold M_write_39
        rw [if_neg (by decide), if_neg (nI_ge hr (by omega)), q_allowed hl (h ee) (hrw ee) hu (hM ee) hrel.1 hR12 s hm hr (by omega), Option.bind_some, f1, Option.bind_some, nI_1, ea]
      have rel2 : qrel (qR ru rest (qal lab par ru m rest s r) r) (eUp u r (qal lab par ru m rest s r)) R2 (eUp U r (U r + nI (qal lab par ru m rest s r))) := by
        refine ⟨fun k hk => ?_, fun k hk => ?_⟩
        · rw [f2 k hk, hrel.1 k hk, pk_mul, pk_sub (fits k hk)]; rfl
        · by_cases kr : k = r
          · subst kr; rw [q_up, q_up, hrel.2 k hk, h0 k (Nat.le_refl _) hk, nI_add, Nat.zero_add]
          · rw [q_un kr, q_un kr, hrel.2 k hk]
      rw [LL, go]
      exact hK ee n (by omega) R2 _ li ld rel2 hld

def qov (s : qC) (m : Nat) (w : Int32) : Int32 := if w ≤ 5 then (if s.1 m = -1 then -1 else if w = 5 then s.1 m else nI (s.2.2 m w.toNatClampNeg)) else nI (s.2.2 6 (w.toNatClampNeg - 6))
def s_outcome (A : qA) (i p w : Int32) : Nat × Int32 × qA := if qob A i = true ∧ 0 ≤ p ∧ p < 6 then (if 0 ≤ w ∧ w < 11 then (match A.2.2.2[i.toNatClampNeg]? with
  | none => (1, 0, A)
  | some s => (0, qov s p.toNatClampNeg w, A)) else (2, 0, A)) else (1, 0, A)
theorem r_outcome {A : qA} (hA : AI A) {rules : Int32} {ml me mh mo mi mt ma mx cells : Nat → Int32} {found : Int32} (h : RM A rules ml me mh mo mi mt ma mx cells found) (i p w code : Int32) (n : Nat) : M_outcome n i p w code cells found = some ((s_outcome A i p w).2.1, nI (s_outcome A i p w).1) := by
  obtain ⟨h1, h2, h3, h4, h5⟩ := h
  have h40 := hA.2.2.2
  have bad1 : ¬ (qob A i = true ∧ 0 ≤ p ∧ p < 6) → M_outcome_22 i p w cells n code = some ((s_outcome A i p w).2.1, nI (s_outcome A i p w).1) := fun z => by
    have e : s_outcome A i p w = (1, 0, A) := if_neg z
    unfold M_outcome_22 M_outcome_41
    rw [if_neg (by decide), e]
    rfl
  have e11 : w ≤ (10 : Int32) ↔ w < (11 : Int32) := q_lt_le rfl
  have e6 : p ≤ (5 : Int32) ↔ p < (6 : Int32) := q_lt_le rfl
  unfold M_outcome
  rw [h4]
  by_cases z : i < 0
  · rw [if_pos z]
    exact bad1 fun v => q_nn (decide_eq_true_iff.mp v.1).1 z
  · rw [if_neg z]
    by_cases y : nI A.2.2.2.length ≤ i
    · rw [if_pos y]
      exact bad1 fun v => q_ng y (decide_eq_true_iff.mp v.1).2
    · rw [if_neg y]
      have ob : qob A i = true := decide_eq_true ⟨q_neg z, q_lt y⟩
      by_cases p0 : p < 0
      · rw [if_pos p0]
        exact bad1 fun v => q_nn v.2.1 p0
      · rw [if_neg p0]
        by_cases p5 : p ≤ (5 : Int32)
        · rw [if_pos p5]
          have ok : qob A i = true ∧ 0 ≤ p ∧ p < 6 := ⟨ob, q_neg p0, e6.mp p5⟩
          have e : s_outcome A i p w = if 0 ≤ w ∧ w < 11 then (match A.2.2.2[i.toNatClampNeg]? with
            | none => (1, 0, A)
            | some s => (0, qov s p.toNatClampNeg w, A)) else (2, 0, A) := if_pos ok
          have bad2 : ¬ (0 ≤ w ∧ w < 11) → M_outcome_36 i p w cells n code = some ((s_outcome A i p w).2.1, nI (s_outcome A i p w).1) := fun v => by
            unfold M_outcome_36 M_outcome_41
            rw [if_neg (by decide), e, if_neg v]
            rfl
          by_cases w0 : w < 0
          · rw [if_pos w0]
            exact bad2 fun v => q_nn v.1 w0
          · rw [if_neg w0]
            by_cases w10 : w ≤ (10 : Int32)
            · have wk : 0 ≤ w ∧ w < 11 := ⟨q_neg w0, e11.mp w10⟩
              rw [if_pos w10, e, if_pos wk]
              obtain ⟨j, s, hj, rfl, gs⟩ := qob_t h40 ob
              obtain ⟨m, hm, rfl⟩ := q_i6 ok.2.1 ok.2.2
              obtain ⟨x, hx, rfl⟩ := q_inN (N := 11) (by decide) wk.1 wk.2
              have km := h5 j s gs
              have kl := (hA.2.2.1 s (List.mem_of_getElem? gs)).1
              have e1 : (1 : Int32) + nI j = nI (1 + j) := nI_add 1 j
              unfold M_outcome_41
              rw [if_pos (by decide), nI_clamp (by omega), gs, e1, nI_clamp (by omega)]
              dsimp only
              unfold qov
              by_cases x5 : x ≤ 5
              · have l5 : nI x ≤ (5 : Int32) := nI_le (b := 5) x5 (by decide)
                rw [if_pos l5, if_pos l5, q_Mhas kl km (by omega) hm, Option.bind_some]
                by_cases ab : s.1 m = -1
                · rw [decide_eq_false (fun v => v ab), if_pos qb_f, if_pos ab]
                  rfl
                · rw [decide_eq_true ab, if_neg qb_t, if_neg ab, q_cell (by omega), Option.bind_some]
                  by_cases xe : x = 5
                  · subst xe
                    have y5 : nI 5 = (5 : Int32) := rfl
                    rw [if_pos y5, km.1 m hm]
                    rfl
                  · have n5 : ¬ nI x = (5 : Int32) := fun v => xe ((nI_eq (b := 5) (by omega) (by decide)).mp v)
                    rw [if_neg n5, km.2.2 m (by omega) x (by omega), nI_clamp (by omega)]
                    rfl
              · have l5 : ¬ nI x ≤ (5 : Int32) := nI_ge (a := 5) (by omega) (by omega)
                have ix : ((47 : Int32) * nI (1 + j) + (36 : Int32)) + nI x = nI (47 * (1 + j) + 36 + x) := by
                  have a : (47 : Int32) * nI (1 + j) = nI (47 * (1 + j)) := pk_mul 47 _
                  have b : nI (47 * (1 + j)) + (36 : Int32) = nI (47 * (1 + j) + 36) := nI_add _ 36
                  rw [a, b, nI_add]
                have c := km.2.2 6 (by omega) (x - 6) (by omega)
                rw [show 47 * (1 + j) + 7 * 6 + (x - 6) = 47 * (1 + j) + 36 + x by omega] at c
                rw [if_neg l5, if_neg l5, ix, nI_clamp (by omega), if_neg (q_in (by omega) (by omega)), c, nI_clamp (by omega)]
                rfl
            · rw [if_neg w10]
              exact bad2 fun v => w10 (e11.mpr v.2)
        · rw [if_neg p5]
          exact bad1 fun v => p5 (e6.mpr v.2.2)
def s_outcomes (A : qA) (r : Int32) : Nat × Int32 × qA := if 0 ≤ r ∧ r < 4 then (match qouts A.2.1 A.2.2.1 r.toNatClampNeg [A.1] with
  | none => (0, -2, (A.1, A.2.1, A.2.2.1, []))
  | some l => (0, nI l.length, (A.1, A.2.1, A.2.2.1, l))) else (1, 0, A)
theorem r_outcomes {A : qA} (hA : AI A) (r : Int32) : ∃ K, ∀ (rules : Int32) (ml me mh mo mi mt ma mx cells : Nat → Int32) (found : Int32), RM A rules ml me mh mo mi mt ma mx cells found → ∀ n, K ≤ n → ∀ (code more : Int32) (R U : Nat → Int32) (a : Int32) (li : Nat → Int32) (ld : Int32) (be mn dg chs : Nat → Int32), ∃ res, M_outcomes n r code rules ml me mh mo mi mt ma mx cells found more R U a li ld be mn dg chs = some res ∧ res.1 = (s_outcomes A r).2.1 ∧ res.2.1 = nI (s_outcomes A r).1 ∧ RM (s_outcomes A r).2.2 rules ml me mh mo mi mt ma mx res.2.2.1 res.2.2.2.1 := by
  have hu := hA.2.1
  unfold s_outcomes
  by_cases ok : 0 ≤ r ∧ r < 4
  · rw [if_pos ok]
    obtain ⟨x, hx, rfl⟩ := q_inN (N := 4) (by decide) ok.1 ok.2
    rw [nI_clamp (by omega)]
    obtain ⟨K, hK⟩ := q_40 hu (r := x) (by omega) x 0 [A.1] (by omega) (fun s hs => by
      cases hs with
      | head => exact hA.1
      | tail _ w => cases w) (show 1 ≤ 40 by decide)
    refine ⟨K + 60, fun rules ml me mh mo mi mt ma mx cells found h n hn code more R U a li ld be mn dg chs => ?_⟩
    obtain ⟨h1, h2, h3, h4, h5⟩ := h
    have x3 : nI x ≤ (3 : Int32) := nI_le (b := 3) (by omega) (by decide)
    obtain ⟨c1, f1, f2, f3⟩ := q_copyM (fr := 0) (to := 1) (by omega) (by omega) (by omega) cells (n := n) (by omega)
    have f1' : M_copy n 0 1 cells = some c1 := f1
    have k1 : KMs c1 1 [A.1] := fun i s hs => by
      cases i with
      | zero =>
        cases hs
        exact KM_copy h3 f2
      | succ i => cases hs
    obtain ⟨w1, w2⟩ := hK ml me mh mo mi mt ma mx h2 n (by omega) 0 c1 more R U a li ld be mn dg chs k1
    have st0 : M_outcomes n (nI x) code rules ml me mh mo mi mt ma mx cells found more R U a li ld be mn dg chs = M_outcomes_40 (nI x) (nI A.2.1) ml me mh mo mi mt ma mx n (nI 0) 0 c1 (nI ([A.1] : List qC).length) more R U a li ld be mn dg chs := by
      unfold M_outcomes
      rw [if_neg (q_nn ok.1), if_pos x3]
      unfold M_outcomes_15
      rw [if_pos (by decide), f1', Option.bind_some, h1]
      rfl
    rw [st0]
    have low : ∀ c : Nat → Int32, (∀ j, j < 47 → c j = c1 j) → KM A.1.1 A.1.2.1 A.1.2.2 c 0 := fun c hc => by
      obtain ⟨a1, a2, a3⟩ := KM_0.mp h3
      have cc : ∀ j, j < 47 → c j = cells j := fun j hj => (hc j hj).trans (f3 j (by omega))
      refine KM_0.mpr ⟨fun m hm => ?_, fun m hm => ?_, fun m hm k hk => ?_⟩
      · rw [cc _ (by omega)]; exact a1 m hm
      · rw [cc _ (by omega)]; exact a2 m hm
      · rw [cc _ (by omega)]; exact a3 m hm k hk
    cases q : qouts A.2.1 A.2.2.1 x [A.1] with
    | none =>
      obtain ⟨res, x1, x2, x3, x4, x5⟩ := w1 q
      exact ⟨res, x1, x2, x3, h1, h2, low _ x4, x5, fun i s hs => by cases hs⟩
    | some l =>
      obtain ⟨res, x1, x2, x3, x4, x5, x6⟩ := w2 l q
      exact ⟨res, x1, x2, x3, h1, h2, low _ x4, x5, x6⟩
  · rw [if_neg ok]
    refine ⟨0, fun rules ml me mh mo mi mt ma mx cells found h n hn code more R U a li ld be mn dg chs => ?_⟩
    have bad : M_outcomes_10 r rules ml me mh mo mi mt ma mx n code cells found more R U a li ld be mn dg chs = some (0, 1, cells, found, more, R, U, a, li, ld, be, mn, dg, chs) := by
      unfold M_outcomes_10 M_outcomes_15
      rw [if_neg (by decide)]
    unfold M_outcomes
    by_cases z : r < 0
    · rw [if_pos z, bad]
      exact ⟨_, rfl, rfl, rfl, h⟩
    · have y : ¬ r ≤ (3 : Int32) := fun v => ok ⟨q_neg z, q_lab3.mp v⟩
      rw [if_neg z, if_neg y, bad]
      exact ⟨_, rfl, rfl, rfl, h⟩
theorem AI_clear {A : qA} (hA : AI A) (l : Int32) : AI (s_clear A l).2.2 := by
  unfold s_clear
  by_cases ok : 0 ≤ l ∧ l < 4
  · rw [if_pos ok]
    obtain ⟨x, hx, rfl⟩ := q_inN (N := 4) (by decide) ok.1 ok.2
    have ab : ∀ m, ¬ m = 0 → (eUp (fun _ => (-1 : Int32)) 0 (nI x)) m = -1 := fun m hm => q_un hm
    refine ⟨⟨⟨?_, fun m hm => ?_, fun m hm h0 hp => absurd (ab m h0) hp⟩, ⟨fun _ => 0, fun m hm h0 hp => absurd (ab m h0) hp⟩, ⟨fun m hm k hk => Nat.zero_le _, fun k hk => Nat.zero_le _⟩, fun m hm h k hk => rfl⟩, ⟨Nat.zero_le _, fun i hi => absurd hi (Nat.not_lt_zero _)⟩, fun a ha => absurd ha List.not_mem_nil, Nat.zero_le _⟩
    · show ¬ eUp (fun _ => (-1 : Int32)) 0 (nI x) 0 = -1
      rw [q_up]; exact q_m1' (by omega)
    · show eUp (fun _ => (-1 : Int32)) 0 (nI x) m = -1 ∨ _
      by_cases m0 : m = 0
      · subst m0; rw [q_up]; exact Or.inr ⟨x, hx, rfl⟩
      · exact Or.inl (ab m m0)
  · rw [if_neg ok]; exact hA
theorem AI_membrane {A : qA} (hA : AI A) (p l : Int32) : AI (s_membrane A p l).2.2 := by
  unfold s_membrane
  by_cases pr : qpb A.1 p = true
  · rw [if_pos pr]
    by_cases ok : 0 ≤ l ∧ l < 4
    · rw [if_pos ok]
      cases q : qfind (qfree A.1.1) 1 5 with
      | none => exact hA
      | some f =>
        obtain ⟨fl, f0, f6⟩ := qfree_lab q
        obtain ⟨m, hm, rfl, hp⟩ := qpb_t pr
        obtain ⟨x, hx, rfl⟩ := q_inN (N := 4) (by decide) ok.1 ok.2
        obtain ⟨⟨hl, ⟨rk, hr⟩, hk, ha⟩, hrest⟩ := hA
        have mf : ¬ m = f := fun z => hp (z ▸ fl)
        dsimp only
        rw [nI_clamp (by omega)]
        refine ⟨⟨⟨?_, fun j hj => ?_, fun j hj j0 jp => ?_⟩, ⟨eUp rk f (rk m + 1), fun j hj j0 jp => ?_⟩, ⟨fun j hj k hk5 => ?_, fun k hk5 => ?_⟩, fun j hj jx k hk5 => ?_⟩, hrest⟩
        · show ¬ eUp A.1.1 f (nI x) 0 = -1
          rw [q_un (fun z => f0 z.symm)]; exact hl.1
        · show eUp A.1.1 f (nI x) j = -1 ∨ ∃ i, i < 4 ∧ eUp A.1.1 f (nI x) j = nI i
          by_cases jf : j = f
          · subst jf; rw [q_up]; exact Or.inr ⟨x, hx, rfl⟩
          · rw [q_un jf]; exact hl.2.1 j hj
        · show eUp A.1.2.1 f m j < 6 ∧ ¬ eUp A.1.1 f (nI x) (eUp A.1.2.1 f m j) = -1
          by_cases jf : j = f
          · subst jf; rw [q_up, q_un mf]; exact ⟨hm, hp⟩
          · have jp' : ¬ eUp A.1.1 f (nI x) j = -1 := jp
            rw [q_un jf] at jp'
            have w := hl.2.2 j hj j0 jp'
            rw [q_un jf]
            refine ⟨w.1, ?_⟩
            by_cases z : A.1.2.1 j = f
            · exact absurd (z ▸ fl) w.2
            · rw [q_un z]; exact w.2
        · show eUp rk f (rk m + 1) (eUp A.1.2.1 f m j) < eUp rk f (rk m + 1) j
          by_cases jf : j = f
          · subst jf; rw [q_up, q_up, q_un mf]; exact Nat.lt_succ_self _
          · have jp' : ¬ eUp A.1.1 f (nI x) j = -1 := jp
            rw [q_un jf] at jp'
            have w := hl.2.2 j hj j0 jp'
            have ne : ¬ A.1.2.1 j = f := fun z => w.2 (z ▸ fl)
            rw [q_un jf, q_un jf, q_un ne]
            exact hr j hj j0 jp'
        · show eUp A.1.2.2 f (fun _ => 0) j k ≤ 12
          by_cases jf : j = f
          · subst jf; rw [q_up]; exact Nat.zero_le _
          · rw [q_un jf]; exact hk.1 j hj k hk5
        · show eUp A.1.2.2 f (fun _ => 0) 6 k ≤ 999
          rw [q_un (by omega)]; exact hk.2 k hk5
        · show eUp A.1.2.2 f (fun _ => 0) j k = 0
          by_cases jf : j = f
          · subst jf; rw [q_up]
          · have jx' : eUp A.1.1 f (nI x) j = -1 := jx
            rw [q_un jf] at jx'
            rw [q_un jf]; exact ha j hj jx' k hk5
    · rw [if_neg ok]; exact hA
  · rw [if_neg pr]; exact hA
theorem AI_put {A : qA} (hA : AI A) (p h : Int32) : AI (s_put A p h).2.2 := by
  unfold s_put
  by_cases pr : qpb A.1 p = true
  · rw [if_pos pr]
    by_cases hb : qhb h = true
    · rw [if_pos hb]
      by_cases y : qfull (A.1.2.2 p.toNatClampNeg) h.toNatClampNeg = true
      · rw [if_pos y]
        obtain ⟨m, hm, rfl, hp⟩ := qpb_t pr
        obtain ⟨⟨hl, ht, hk, ha⟩, hrest⟩ := hA
        rw [nI_clamp (by omega)] at y ⊢
        have y' := qfull_iff.mp y
        refine ⟨⟨hl, ht, ⟨fun j hj k hk5 => ?_, fun k hk5 => ?_⟩, fun j hj jx k hk5 => ?_⟩, hrest⟩
        · show eUp A.1.2.2 m _ j k ≤ 12
          by_cases jm : j = m
          · subst jm; rw [q_up]; exact y' k hk5
          · rw [q_un jm]; exact hk.1 j hj k hk5
        · show eUp A.1.2.2 m _ 6 k ≤ 999
          rw [q_un (by omega)]; exact hk.2 k hk5
        · show eUp A.1.2.2 m _ j k = 0
          have jm : ¬ j = m := fun z => hp (z ▸ jx)
          rw [q_un jm]; exact ha j hj jx k hk5
      · rw [if_neg y]; exact hA
    · rw [if_neg hb]; exact hA
  · rw [if_neg pr]; exact hA
theorem AI_rule {A : qA} (hA : AI A) (l a b c : Int32) : AI (s_rule A l a b c).2.2 := by
  unfold s_rule
  by_cases ok : qlb l = true ∧ qhb a = true ∧ ¬ a = 0 ∧ qhb b = true ∧ qhb c = true
  · rw [if_pos ok]
    by_cases f : A.2.1 = 6
    · rw [if_pos f]; exact hA
    · rw [if_neg f]
      obtain ⟨l', hl', rfl⟩ := qlb_t ok.1
      obtain ⟨a', ha', rfl⟩ := qhb_t ok.2.1
      obtain ⟨b', hb', rfl⟩ := qhb_t ok.2.2.2.1
      obtain ⟨c', hc', rfl⟩ := qhb_t ok.2.2.2.2
      have a0 : 0 < a' := Nat.pos_of_ne_zero fun w => ok.2.2.1 (by rw [w]; rfl)
      obtain ⟨h1, h2, h3⟩ := hA
      have c6 := h2.1
      rw [nI_clamp (by omega), nI_clamp (by omega), nI_clamp (by omega), nI_clamp (by omega)]
      exact ⟨h1, UL_new h2 (by omega) hl' ha' a0 hb' hc', h3⟩
  · rw [if_neg ok]; exact hA
theorem UL_set {cnt : Nat} {ru : Nat → Nat → Nat} (hu : UL cnt ru) {i : Nat} {g : Nat → Nat} (h0 : g 0 = ru i 0) (h1 : g 1 = ru i 1) (h2 : g 2 = ru i 2) (h3 : g 3 = ru i 3) (h4 : g 4 < 1024) (h5 : g 5 < 4) (h6 : g 6 ≤ 2) (h7 : g 7 < 1024) : UL cnt (eUp ru i g) := by
  refine ⟨hu.1, fun j hj => ?_⟩
  by_cases ji : j = i
  · subst ji
    obtain ⟨b0, b1, b2, b3, b4, b5, b6, b7, b8⟩ := hu.2 j hj
    rw [q_up, h0, h1, h2, h3]
    exact ⟨b0, b1, b2, b3, b4, h4, h5, h6, h7⟩
  · rw [q_un ji]; exact hu.2 j hj
theorem AI_into {A : qA} (hA : AI A) (r l h : Int32) : AI (s_into A r l h).2.2 := by
  unfold s_into
  by_cases pr : qrb A r = true
  · rw [if_pos pr]
    by_cases ok : qlb l = true ∧ qhb h = true ∧ ¬ h = 0
    · rw [if_pos ok]
      obtain ⟨h1, h2, h3⟩ := hA
      have c6 := h2.1
      obtain ⟨i, hi, rfl⟩ := qrb_t h2 pr
      obtain ⟨l', hl', rfl⟩ := qlb_t ok.1
      obtain ⟨a', ha', rfl⟩ := qhb_t ok.2.1
      obtain ⟨b0, b1, b2, b3, b4, b5, b6, b7, b8⟩ := h2.2 i hi
      rw [nI_clamp (by omega), nI_clamp (by omega), nI_clamp (by omega)]
      exact ⟨h1, UL_set h2 rfl rfl rfl rfl ha' hl' b7 b8, h3⟩
    · rw [if_neg ok]; exact hA
  · rw [if_neg pr]; exact hA
theorem AI_dissolve {A : qA} (hA : AI A) (r : Int32) : AI (s_dissolve A r).2.2 := by
  unfold s_dissolve
  by_cases pr : qrb A r = true
  · rw [if_pos pr]
    by_cases ok : A.2.2.1 r.toNatClampNeg 6 = 0
    · rw [if_pos ok]
      obtain ⟨h1, h2, h3⟩ := hA
      have c6 := h2.1
      obtain ⟨i, hi, rfl⟩ := qrb_t h2 pr
      obtain ⟨b0, b1, b2, b3, b4, b5, b6, b7, b8⟩ := h2.2 i hi
      rw [nI_clamp (by omega)]
      exact ⟨h1, UL_set h2 rfl rfl rfl rfl b5 b6 (show 1 ≤ 2 by decide) b8, h3⟩
    · rw [if_neg ok]; exact hA
  · rw [if_neg pr]; exact hA
theorem AI_divide {A : qA} (hA : AI A) (r o : Int32) : AI (s_divide A r o).2.2 := by
  unfold s_divide
  by_cases pr : qrb A r = true
  · rw [if_pos pr]
    by_cases ho : qhb o = true
    · rw [if_pos ho]
      by_cases ok : A.2.2.1 r.toNatClampNeg 6 = 0
      · rw [if_pos ok]
        obtain ⟨h1, h2, h3⟩ := hA
        have c6 := h2.1
        obtain ⟨i, hi, rfl⟩ := qrb_t h2 pr
        obtain ⟨x, hx, rfl⟩ := qhb_t ho
        obtain ⟨b0, b1, b2, b3, b4, b5, b6, b7, b8⟩ := h2.2 i hi
        rw [nI_clamp (by omega), nI_clamp (by omega)]
        exact ⟨h1, UL_set h2 rfl rfl rfl rfl b5 b6 (show 2 ≤ 2 by decide) hx, h3⟩
      · rw [if_neg ok]; exact hA
    · rw [if_neg ho]; exact hA
  · rw [if_neg pr]; exact hA
theorem AI_round {A : qA} (hA : AI A) : AI (s_round A).2.2 := by
  unfold s_round
  cases q : qstep A.1 A.2.1 A.2.2.1 (qgm A) with
  | none => exact hA
  | some s => exact ⟨qstep_KI hA.1 hA.2.1 qgm_chosen q, hA.2⟩
theorem AI_outcomes {A : qA} (hA : AI A) (r : Int32) : AI (s_outcomes A r).2.2 := by
  unfold s_outcomes
  by_cases ok : 0 ≤ r ∧ r < 4
  · rw [if_pos ok]
    cases q : qouts A.2.1 A.2.2.1 r.toNatClampNeg [A.1] with
    | none => exact ⟨hA.1, hA.2.1, fun a ha => absurd ha List.not_mem_nil, Nat.zero_le _⟩
    | some l =>
      obtain ⟨k1, k2⟩ := qouts_inv hA.2.1 r.toNatClampNeg [A.1] l (fun s hs => by
        cases hs with
        | head => exact hA.1
        | tail _ w => cases w) (show 1 ≤ 40 by decide) q
      exact ⟨hA.1, hA.2.1, k1, k2⟩
  · rw [if_neg ok]; exact hA
theorem AI_adopt {A : qA} (hA : AI A) (i : Int32) : AI (s_adopt A i).2.2 := by
  unfold s_adopt
  by_cases ok : qob A i = true
  · rw [if_pos ok]
    cases q : A.2.2.2[i.toNatClampNeg]? with
    | none => exact hA
    | some s => exact ⟨hA.2.2.1 s (List.mem_of_getElem? q), hA.2⟩
  · rw [if_neg ok]; exact hA

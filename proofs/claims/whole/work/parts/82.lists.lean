def qch (lab : Nat → Int32) (par : Nat → Nat) (am : Nat → Nat → Nat) (cnt : Nat) (ru : Nat → Nat → Nat) (m : Nat) : List (Nat → Nat) :=
  qen ru (qol (qopl lab par ru m) 0 cnt) (qol (qopl lab par ru m) 0 cnt) (am m) false fun _ => 0
theorem q_write {m most cnt : Nat} {lab : Nat → Int32} {par : Nat → Nat} {am : Nat → Nat → Nat} (hl : KL lab par) {ru : Nat → Nat → Nat} (hu : UL cnt ru) (hm : m < 6) (hmo : most < 2000) (h0 : 0 < most) (h12 : ∀ k, k < 5 → am m k ≤ 12) : ∃ K, ∀ (row : Nat) (ml me mh mo mi mt ma mx cells : Nat → Int32), KM lab par am cells row → row < 82 → UM cnt ru ml me mh mo mi mt ma mx → ∀ n, K ≤ n → ∀ (R U : Nat → Int32) (A : Int32) (li : Nat → Int32) (ld : Nat), ld + most ≤ 1100 → ∃ R' U' A', M_write n (nI row) (nI m) (nI most) (nI cnt) ml me mi mt ma cells R U A li (nI ld) = some (nI ((qch lab par am cnt ru m).take most).length, R', U', A', qput c5p li ld ((qch lab par am cnt ru m).take most), nI (ld + ((qch lab par am cnt ru m).take most).length)) := by
  have c6 := hu.1
  obtain ⟨K, hK⟩ := q_wnode (ι := { x : Nat × (Nat → Int32) × (Nat → Int32) × (Nat → Int32) × (Nat → Int32) × (Nat → Int32) × (Nat → Int32) × (Nat → Int32) × (Nat → Int32) × (Nat → Int32) // KM lab par am x.2.2.2.2.2.2.2.2.2 x.1 ∧ x.1 < 82 ∧ UM cnt ru x.2.1 x.2.2.1 x.2.2.2.1 x.2.2.2.2.1 x.2.2.2.2.2.1 x.2.2.2.2.2.2.1 x.2.2.2.2.2.2.2.1 x.2.2.2.2.2.2.2.2.1 }) (W := fun x => M_write_12 (nI x.1.1) (nI m) (nI most) (nI cnt) x.1.2.1 x.1.2.2.1 x.1.2.2.2.2.2.1 x.1.2.2.2.2.2.2.1 x.1.2.2.2.2.2.2.2.1 x.1.2.2.2.2.2.2.2.2.2) (row := fun x => x.1.1) (ml := fun x => x.1.2.1) (me := fun x => x.1.2.2.1) (mi := fun x => x.1.2.2.2.2.2.1) (mt := fun x => x.1.2.2.2.2.2.2.1) (ma := fun x => x.1.2.2.2.2.2.2.2.1) (cells := fun x => x.1.2.2.2.2.2.2.2.2.2) (mh := fun x => x.1.2.2.2.1) (mo := fun x => x.1.2.2.2.2.1) (mx := fun x => x.1.2.2.2.2.2.2.2.2.1) (fun _ _ => rfl) hl (fun x => x.2.1) (fun x => x.2.2.1) hu (fun x => x.2.2.2) hm hmo cnt 0 (by omega) (am m) false (fun _ => 0) 0 h12 (fun _ _ => by omega) (fun _ _ _ => rfl) h0 50
  refine ⟨K + 50, fun row ml me mh mo mi mt ma mx cells h hrw hM n hn R U A li ld hld => ?_⟩
  obtain ⟨R1, U1, e1, e2, e3⟩ := q_begin h hrw hm R U A (n := n) (by omega)
  obtain ⟨k1, k2⟩ := hK ⟨(row, ml, me, mh, mo, mi, mt, ma, mx, cells), h, hrw, hM⟩ n (by omega) R1 U1 li ld ⟨e2, fun k hk => (e3 k hk).trans rfl⟩ (by omega)
  dsimp only at k1 k2
  have go : M_write n (nI row) (nI m) (nI most) (nI cnt) ml me mi mt ma cells R U A li (nI ld) = M_write_12 (nI row) (nI m) (nI most) (nI cnt) ml me mi mt ma cells n (nI 0) (nI 0) R1 U1 (qb false) li (nI ld) := by
    unfold M_write
    rw [e1, Option.bind_some]; rfl
  rw [go]
  have ll : ((qch lab par am cnt ru m).take most).length = if most ≤ (qch lab par am cnt ru m).length then most else (qch lab par am cnt ru m).length := by
    rw [List.length_take]
    split <;> omega
  by_cases f : most ≤ (qch lab par am cnt ru m).length
  · obtain ⟨R', U', A', g⟩ := k2 (by rw [Nat.zero_add]; exact f)
    refine ⟨R', U', A', ?_⟩
    rw [g, ll, if_pos f, Nat.sub_zero]; rfl
  · obtain ⟨n1, n2, R', U', g1, g2, g3, g4⟩ := k1 (by rw [Nat.zero_add]; exact Nat.lt_of_not_le f)
    refine ⟨R', U', qb false, ?_⟩
    obtain ⟨n1, rfl⟩ : ∃ m, n1 = m + 1 := ⟨n1 - 1, by omega⟩
    obtain ⟨n2, rfl⟩ : ∃ m, n2 = m + 1 := ⟨n2 - 1, by omega⟩
    have tk : (qch lab par am cnt ru m).take most = qch lab par am cnt ru m := List.take_of_length_le (by omega)
    rw [g4, M_write_109, if_pos (by decide)]
    unfold M_write_130
    rw [if_pos (by decide), M_write_12, if_pos (by decide), tk, Nat.zero_add]; rfl
theorem q_list {lab : Nat → Int32} {par : Nat → Nat} {am : Nat → Nat → Nat} {cl cp : Nat → Int32} {ch : Nat → Int64} (hl : KL lab par) (h : KC lab par am cl cp ch) {cnt : Nat} {ru : Nat → Nat → Nat} {ul : Nat → Int32} {ue uk uh uo ui : Nat → Int64} {ut ud uv : Nat → Int32} {ux : Nat → Int64} (hu : UL cnt ru) (hc : UC cnt ru ul ue uk uh uo ui ut ud uv ux) {m : Nat} (hm : m < 6) (h12 : ∀ k, k < 5 → am m k ≤ 12) (g0 : Nat → Option Nat) (row : Nat → Int32) {en : Nat} (he : en ≤ 1005) {n : Nat} (hn : 100 ≤ n) : ∃ g o, O_list n (nI m) (nI en) g0 row ul ue uk ui ut ud uv (nI cnt) cl cp ch = some (o, nI en, nI (en + ((qch lab par am cnt ru m).take 1001).length), g, qput c4p row en ((qch lab par am cnt ru m).take 1001)) := by
  obtain ⟨g, e1, e2⟩ := q_gather hl h hu hc hm g0 (n := n) (by omega)
  have l6 := qol_len (p := qopl lab par ru m) cnt 0
  have c6 := hu.1
  have s := q_search hu hc e2 (by omega) (fun i hi => by have := qol_mem _ _ _ hi; omega) (st := en) he hn (qol (qopl lab par ru m) 0 cnt) 0 8 en (am m) false (fun _ => 0) row rfl (by omega) (by omega) (Nat.le_refl _) (by omega) h12 (fun _ _ => by omega) (fun _ _ => rfl) (qol_sorted _ _) (fun z => by rw [z]; rfl)
  refine ⟨g, nI (qol (qopl lab par ru m) 0 cnt).length, ?_⟩
  unfold O_list
  rw [e1, Option.bind_some, nI_clamp (by omega), if_neg (q_in (by omega) (by omega)), h.2.2 m (by omega)]
  have s2 : O_search n 8 0 (qh (am m)) 0 0 (nI (qol (qopl lab par ru m) 0 cnt).length) (nI en) (nI en) g row ue uk ud uv = _ := s
  show ((O_search n 8 0 (qh (am m)) 0 0 (nI (qol (qopl lab par ru m) 0 cnt).length) (nI en) (nI en) g row ue uk ud uv).bind _) = _
  rw [s2, Option.bind_some, Nat.sub_self]; rfl
theorem q_machineC {lab : Nat → Int32} {par : Nat → Nat} {am : Nat → Nat → Nat} {cl cp : Nat → Int32} {ch : Nat → Int64} (hl : KL lab par) (h : KC lab par am cl cp ch) {cnt : Nat} {ru : Nat → Nat → Nat} {ul : Nat → Int32} {ue uk uh uo ui : Nat → Int64} {ut ud uv : Nat → Int32} {ux : Nat → Int64} (hu : UL cnt ru) (hc : UC cnt ru ul ue uk uh uo ui ut ud uv ux) {m : Nat} (hm : m < 6) (h12 : ∀ k, k < 5 → am m k ≤ 12) (g0 : Nat → Option Nat) {n : Nat} (hn : 100 ≤ n) : ∃ R', O_machineChoice n (nI m) g0 ul ue ui ut ud uv (nI cnt) cl cp ch = some (nI (c4p (qgr ru (qol (qopl lab par ru m) 0 cnt) (am m) false fun _ => 0)), R') := by
  obtain ⟨g, e1, e2⟩ := q_gather hl h hu hc hm g0 (n := n) (by omega)
  have l6 := qol_len (p := qopl lab par ru m) cnt 0
  have c6 := hu.1
  have s := q_machine hu hc e2 (by omega) (fun i hi => by have := qol_mem _ _ _ hi; omega) (qol (qopl lab par ru m) 0 cnt) 0 n (am m) false (fun _ => 0) rfl (by omega) (by omega) (fun k hk => by have := h12 k hk; omega) (fun _ _ => by omega) (fun _ _ => rfl) (qol_sorted _ _)
  refine ⟨(nI (qol (qopl lab par ru m) 0 cnt).length, g), ?_⟩
  unfold O_machineChoice
  rw [e1, Option.bind_some, nI_clamp (by omega), if_neg (q_in (by omega) (by omega)), h.2.2 m (by omega)]
  exact s
theorem q_greedyM {lab : Nat → Int32} {par : Nat → Nat} {am : Nat → Nat → Nat} {cells : Nat → Int32} {row : Nat} (hl : KL lab par) (h : KM lab par am cells row) (hr : row < 82) {cnt : Nat} {ru : Nat → Nat → Nat} {ml me mh mo mi mt ma mx : Nat → Int32} (hu : UL cnt ru) (hM : UM cnt ru ml me mh mo mi mt ma mx) {m : Nat} (hm : m < 6) (h12 : ∀ k, k < 5 → am m k ≤ 12) (R U : Nat → Int32) (A : Int32) {n : Nat} (hn : 40 ≤ n) : ∃ R' U' A', M_greedy n (nI row) (nI m) (nI cnt) ml me mi mt ma cells R U A = some (nI (c5p (qgr ru (qol (qopl lab par ru m) 0 cnt) (am m) false fun _ => 0)), R', U', qb A') := by
  have c6 := hu.1
  obtain ⟨R1, U1, e1, e2, e3⟩ := q_begin h hr hm R U A (n := n) (by omega)
  obtain ⟨R', U', A', e4⟩ := q_greedy hl h hr hu hM hm cnt 0 n (am m) false (fun _ => 0) R1 U1 (by omega) (by omega) e2 h12 (fun k hk => (e3 k hk).trans rfl) (fun _ _ => by omega) (fun _ _ _ => rfl)
  refine ⟨R', U', A', ?_⟩
  unfold M_greedy
  rw [e1, Option.bind_some]
  exact e4

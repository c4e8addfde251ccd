def sX (H : eH) (nw tr : Nat) : Prop := H.1 1 = some (.inr (0, [.ref 2, .ref 10, .ref 15, .ref 17, .ref 345, .ref 347, .ref nw, .ref tr])) ∧ ((nw = 348 ∧ tr = 352) ∨ (nw = 352 ∧ tr = 348))
def sKr (H : eH) (c : Nat) (cl cp : Nat → Int32) (ch : Nat → Int64) : Prop := H.1 c = some (.inr (3, [.ref (c + 1), .ref (c + 2), .ref (c + 3)])) ∧ H.1 (c + 1) = some (.inl (0, 6, .inl cl)) ∧ H.1 (c + 2) = some (.inl (0, 6, .inl cp)) ∧ H.1 (c + 3) = some (.inl (1, 7, .inr (.inl ch)))
def sK0 (H : eH) (c : Nat) : Prop := ∃ cl cp ch, sKr H c cl cp ch
def sK (H : eH) (c : Nat) (s : qC) : Prop := ∃ cl cp ch, sKr H c cl cp ch ∧ KC s.1 s.2.1 s.2.2 cl cp ch
def sU (H : eH) (ul : Nat → Int32) (ue uk uh uo ui : Nat → Int64) (ut ud uv : Nat → Int32) (ux : Nat → Int64) : Prop := ∀ i, i < 6 → H.1 (4 + i) = some (.inr (5, [.int (nI i), .int (ul i), .long (ue i), .long (uk i), .long (uh i), .long (uo i), .long (ui i), .int (ut i), .int (ud i), .int (uv i), .long (ux i)]))
def sB (H : eH) (cnt : Nat) (ru : Nat → Nat → Nat) : Prop := H.1 2 = some (.inr (6, [.ref 3, .int (nI cnt)])) ∧ H.1 3 = some (.inl (3, 6, .inr (.inr fun i => if i < 6 then some (4 + i) else none))) ∧ ∃ ul ue uk uh uo ui ut ud uv ux, sU H ul ue uk uh uo ui ut ud uv ux ∧ UC cnt ru ul ue uk uh uo ui ut ud uv ux
def sO (H : eH) : Prop := ∃ (op st en : Int32) (g : Nat → Option Nat) (row sts pls : Nat → Int32), H.1 10 = some (.inr (2, [.ref 11, .int op, .ref 12, .int st, .int en, .ref 13, .ref 14])) ∧ H.1 11 = some (.inl (3, 6, .inr (.inr fun i => (g i).map fun j => 4 + j))) ∧ H.1 12 = some (.inl (0, 2012, .inl row)) ∧ H.1 13 = some (.inl (0, 7, .inl sts)) ∧ H.1 14 = some (.inl (0, 6, .inl pls))
def sW (H : eH) : Prop := H.1 15 = some (.inr (8, [.ref 16])) ∧ ∃ w : Nat → Option Nat, H.1 16 = some (.inl (3, 6, .inr (.inr fun i => (w i).map fun j => 4 + j)))
def sS (H : eH) : Prop := ∃ (len : Int32) (row : Nat → Int32), H.1 345 = some (.inr (7, [.ref 346, .int len])) ∧ H.1 346 = some (.inl (2, 378, .inl row))
def sQ (H : eH) (q : Nat) : Prop := ∃ a : Nat → Int32, H.1 q = some (.inl (0, 6, .inl a))
def sP (H : eH) (fa pf : Nat) : Prop := H.1 fa = some (.inl (4, 40, .inr (.inr fun i => if i < 40 then some (pf + 8 * i) else none))) ∧ ∀ i, i < 40 → sK0 H (pf + 8 * i)
def sJ (H : eH) (fa ga pf pg : Nat) (l : List qC) : Prop := ((fa = 18 ∧ pf = 25 ∧ ga = 19 ∧ pg = 29) ∨ (fa = 19 ∧ pf = 29 ∧ ga = 18 ∧ pg = 25)) ∧ H.1 17 = some (.inr (4, [.ref fa, .int (nI l.length), .ref ga, .ref 20, .ref 24])) ∧ sP H fa pf ∧ sP H ga pg ∧ ∀ i s, l[i]? = some s → sK H (pf + 8 * i) s
def SC (H : eH) (A : qA) (nw tr fa ga pf pg : Nat) : Prop := sX H nw tr ∧ sB H A.2.1 A.2.2.1 ∧ sO H ∧ sW H ∧ sS H ∧ sQ H 347 ∧ sQ H 24 ∧ sK0 H 20 ∧ sK H nw A.1 ∧ sK0 H tr ∧ sJ H fa ga pf pg A.2.2.2
def ag (H H' : eH) (lo hi : Nat) : Prop := ∀ a, lo ≤ a → a < hi → H'.1 a = H.1 a
theorem sKr_fr {H H' : eH} {c : Nat} {cl cp : Nat → Int32} {ch : Nat → Int64} (h : sKr H c cl cp ch) (g : ag H H' c (c + 4)) : sKr H' c cl cp ch := by
  obtain ⟨a, b, d, e⟩ := h
  exact ⟨(g c (by omega) (by omega)).trans a, (g (c + 1) (by omega) (by omega)).trans b, (g (c + 2) (by omega) (by omega)).trans d, (g (c + 3) (by omega) (by omega)).trans e⟩
theorem sK0_fr {H H' : eH} {c : Nat} (h : sK0 H c) (g : ag H H' c (c + 4)) : sK0 H' c := by
  obtain ⟨cl, cp, ch, a⟩ := h
  exact ⟨cl, cp, ch, sKr_fr a g⟩
theorem sK_fr {H H' : eH} {c : Nat} {s : qC} (h : sK H c s) (g : ag H H' c (c + 4)) : sK H' c s := by
  obtain ⟨cl, cp, ch, a, b⟩ := h
  exact ⟨cl, cp, ch, sKr_fr a g, b⟩
theorem sK_0 {H : eH} {c : Nat} {s : qC} (h : sK H c s) : sK0 H c := by
  obtain ⟨cl, cp, ch, a, b⟩ := h
  exact ⟨cl, cp, ch, a⟩
theorem sX_fr {H H' : eH} {nw tr : Nat} (h : sX H nw tr) (g : ag H H' 1 2) : sX H' nw tr := ⟨(g 1 (by omega) (by omega)).trans h.1, h.2⟩
theorem sB_fr {H H' : eH} {cnt : Nat} {ru : Nat → Nat → Nat} (h : sB H cnt ru) (g : ag H H' 2 10) : sB H' cnt ru := by
  obtain ⟨a, b, ul, ue, uk, uh, uo, ui, ut, ud, uv, ux, c, d⟩ := h
  exact ⟨(g 2 (by omega) (by omega)).trans a, (g 3 (by omega) (by omega)).trans b, ul, ue, uk, uh, uo, ui, ut, ud, uv, ux, fun i hi => (g (4 + i) (by omega) (by omega)).trans (c i hi), d⟩
theorem sO_fr {H H' : eH} (h : sO H) (g : ag H H' 10 15) : sO H' := by
  obtain ⟨op, st, en, gg, row, sts, pls, a, b, c, d, e⟩ := h
  exact ⟨op, st, en, gg, row, sts, pls, (g 10 (by omega) (by omega)).trans a, (g 11 (by omega) (by omega)).trans b, (g 12 (by omega) (by omega)).trans c, (g 13 (by omega) (by omega)).trans d, (g 14 (by omega) (by omega)).trans e⟩
theorem sW_fr {H H' : eH} (h : sW H) (g : ag H H' 15 17) : sW H' := by
  obtain ⟨a, w, b⟩ := h
  exact ⟨(g 15 (by omega) (by omega)).trans a, w, (g 16 (by omega) (by omega)).trans b⟩
theorem sS_fr {H H' : eH} (h : sS H) (g : ag H H' 345 347) : sS H' := by
  obtain ⟨len, row, a, b⟩ := h
  exact ⟨len, row, (g 345 (by omega) (by omega)).trans a, (g 346 (by omega) (by omega)).trans b⟩
theorem sQ_fr {H H' : eH} {q : Nat} (h : sQ H q) (g : ag H H' q (q + 1)) : sQ H' q := by
  obtain ⟨a, b⟩ := h
  exact ⟨a, (g q (by omega) (by omega)).trans b⟩
theorem ag_sub {H H' : eH} {lo hi lo' hi' : Nat} (h : ag H H' lo hi) (h1 : lo ≤ lo') (h2 : hi' ≤ hi) : ag H H' lo' hi' := fun a a1 a2 => h a (by omega) (by omega)
theorem sP_fr {H H' : eH} {fa pf : Nat} (h : sP H fa pf) (hf : 17 ≤ fa ∧ fa < 20) (hp : 25 ≤ pf ∧ pf ≤ 29) (g : ag H H' 17 20) (g2 : ag H H' 25 345) : sP H' fa pf := ⟨(g fa (by omega) (by omega)).trans h.1, fun i hi => sK0_fr (h.2 i hi) (ag_sub g2 (by omega) (by omega))⟩
theorem sJ_fr {H H' : eH} {fa ga pf pg : Nat} {l : List qC} (h : sJ H fa ga pf pg l) (h40 : l.length ≤ 40) (g : ag H H' 17 20) (g2 : ag H H' 25 345) : sJ H' fa ga pf pg l := by
  obtain ⟨a, b, c, d, e⟩ := h
  refine ⟨a, (g 17 (by omega) (by omega)).trans b, sP_fr c (by omega) (by omega) g g2, sP_fr d (by omega) (by omega) g g2, fun i s hs => sK_fr (e i s hs) (ag_sub g2 (by omega) ?_)⟩
  have := (List.getElem?_eq_some_iff.mp hs).1
  omega
theorem SC_fr {H H' : eH} {A : qA} {nw tr fa ga pf pg : Nat} (h : SC H A nw tr fa ga pf pg) (hA : AI A) (g : ag H H' 1 356) : SC H' A nw tr fa ga pf pg := by
  obtain ⟨x, b, o, w, s, q1, q2, t, n, r, j⟩ := h
  have hn := x.2
  exact ⟨sX_fr x (ag_sub g (by omega) (by omega)), sB_fr b (ag_sub g (by omega) (by omega)), sO_fr o (ag_sub g (by omega) (by omega)), sW_fr w (ag_sub g (by omega) (by omega)), sS_fr s (ag_sub g (by omega) (by omega)), sQ_fr q1 (ag_sub g (by omega) (by omega)), sQ_fr q2 (ag_sub g (by omega) (by omega)), sK0_fr t (ag_sub g (by omega) (by omega)), sK_fr n (ag_sub g (by omega) (by omega)), sK0_fr r (ag_sub g (by omega) (by omega)), sJ_fr j hA.2.2.2 (ag_sub g (by omega) (by omega)) (ag_sub g (by omega) (by omega))⟩
theorem ag_w2 {H : eH} {L : List (Nat × eE)} {A : List Nat} {lo hi : Nat} (hA : L.map Prod.fst = A) (h : ∀ a, a ∈ A → ¬ (lo ≤ a ∧ a < hi)) : ag H (eW2 H L) lo hi := fun a h1 h2 => eW2_offA (fun m => h a m ⟨h1, h2⟩) hA
theorem ag_new {H : eH} {e : eE} {n lo hi : Nat} (h : hi ≤ H.2.1) : ag H (eNew H e n) lo hi := fun a _ h2 => eNew_off (by omega)
theorem ag_trans {H H1 H2 : eH} {lo hi : Nat} (h : ag H H1 lo hi) (g : ag H1 H2 lo hi) : ag H H2 lo hi := fun a h1 h2 => (g a h1 h2).trans (h a h1 h2)
theorem ag_id {H : eH} {lo hi : Nat} : ag H H lo hi := fun _ _ _ => rfl
theorem nw_ok {nw tr : Nat} (h : (nw = 348 ∧ tr = 352) ∨ (nw = 352 ∧ tr = 348)) : nw = 20 ∨ nw = 348 ∨ nw = 352 ∨ (25 ≤ nw ∧ nw ≤ 341 ∧ nw % 4 = 1) := by omega
def xOK (X : Nat × (Nat → Int32)) (k : Nat) (as : List Value) (H : eH) (th : Nat) (v : Option Value) (A' : qA) : Prop := ∃ H' nw tr fa ga pf pg, eEv pP X 40 k as H (eTw pP th v H') ∧ SC H' A' nw tr fa ga pf pg ∧ H'.2 = H.2 ∧ ag H H' 356 H.2.1
theorem SC_nw {H H' : eH} {A : qA} {nw tr fa ga pf pg : Nat} {s : qC} (h : SC H A nw tr fa ga pf pg) (h40 : A.2.2.2.length ≤ 40) (g1 : ag H H' 1 (nw + 1)) (g2 : ag H H' (nw + 4) 356) (k : sK H' nw s) : SC H' (s, A.2) nw tr fa ga pf pg := by
  obtain ⟨x, b, o, w, s, q1, q2, t, n, r, j⟩ := h
  have hn := x.2
  refine ⟨sX_fr x (ag_sub g1 (by omega) (by omega)), sB_fr b (ag_sub g1 (by omega) (by omega)), sO_fr o (ag_sub g1 (by omega) (by omega)), sW_fr w (ag_sub g1 (by omega) (by omega)), sS_fr s (ag_sub g1 (by omega) (by omega)), sQ_fr q1 (ag_sub g1 (by omega) (by omega)), sQ_fr q2 (ag_sub g1 (by omega) (by omega)), sK0_fr t (ag_sub g1 (by omega) (by omega)), k, ?_, sJ_fr j h40 (ag_sub g1 (by omega) (by omega)) (ag_sub g1 (by omega) (by omega))⟩
  rcases hn with ⟨rfl, rfl⟩ | ⟨rfl, rfl⟩
  · exact sK0_fr r (ag_sub g2 (by omega) (by omega))
  · exact sK0_fr r (ag_sub g1 (by omega) (by omega))
theorem SC_b {H H' : eH} {A : qA} {nw tr fa ga pf pg cnt : Nat} {ru : Nat → Nat → Nat} (h : SC H A nw tr fa ga pf pg) (h40 : A.2.2.2.length ≤ 40) (g1 : ag H H' 1 2) (g2 : ag H H' 10 356) (k : sB H' cnt ru) : SC H' (A.1, cnt, ru, A.2.2.2) nw tr fa ga pf pg := by
  obtain ⟨x, b, o, w, s, q1, q2, t, n, r, j⟩ := h
  have hn := x.2
  exact ⟨sX_fr x (ag_sub g1 (by omega) (by omega)), k, sO_fr o (ag_sub g2 (by omega) (by omega)), sW_fr w (ag_sub g2 (by omega) (by omega)), sS_fr s (ag_sub g2 (by omega) (by omega)), sQ_fr q1 (ag_sub g2 (by omega) (by omega)), sQ_fr q2 (ag_sub g2 (by omega) (by omega)), sK0_fr t (ag_sub g2 (by omega) (by omega)), sK_fr n (ag_sub g2 (by omega) (by omega)), sK0_fr r (ag_sub g2 (by omega) (by omega)), sJ_fr j h40 (ag_sub g2 (by omega) (by omega)) (ag_sub g2 (by omega) (by omega))⟩
theorem SC_o {H H' : eH} {A : qA} {nw tr fa ga pf pg : Nat} (h : SC H A nw tr fa ga pf pg) (h40 : A.2.2.2.length ≤ 40) (g1 : ag H H' 1 10) (g2 : ag H H' 15 356) (k : sO H') : SC H' A nw tr fa ga pf pg := by
  obtain ⟨x, b, o, w, s, q1, q2, t, n, r, j⟩ := h
  have hn := x.2
  exact ⟨sX_fr x (ag_sub g1 (by omega) (by omega)), sB_fr b (ag_sub g1 (by omega) (by omega)), k, sW_fr w (ag_sub g2 (by omega) (by omega)), sS_fr s (ag_sub g2 (by omega) (by omega)), sQ_fr q1 (ag_sub g2 (by omega) (by omega)), sQ_fr q2 (ag_sub g2 (by omega) (by omega)), sK0_fr t (ag_sub g2 (by omega) (by omega)), sK_fr n (ag_sub g2 (by omega) (by omega)), sK0_fr r (ag_sub g2 (by omega) (by omega)), sJ_fr j h40 (ag_sub g2 (by omega) (by omega)) (ag_sub g2 (by omega) (by omega))⟩
theorem SC_s {H H' : eH} {A : qA} {nw tr fa ga pf pg : Nat} (h : SC H A nw tr fa ga pf pg) (h40 : A.2.2.2.length ≤ 40) (g1 : ag H H' 1 345) (g2 : ag H H' 347 356) (k : sS H') : SC H' A nw tr fa ga pf pg := by
  obtain ⟨x, b, o, w, s, q1, q2, t, n, r, j⟩ := h
  have hn := x.2
  exact ⟨sX_fr x (ag_sub g1 (by omega) (by omega)), sB_fr b (ag_sub g1 (by omega) (by omega)), sO_fr o (ag_sub g1 (by omega) (by omega)), sW_fr w (ag_sub g1 (by omega) (by omega)), k, sQ_fr q1 (ag_sub g2 (by omega) (by omega)), sQ_fr q2 (ag_sub g1 (by omega) (by omega)), sK0_fr t (ag_sub g1 (by omega) (by omega)), sK_fr n (ag_sub g2 (by omega) (by omega)), sK0_fr r (ag_sub g2 (by omega) (by omega)), sJ_fr j h40 (ag_sub g1 (by omega) (by omega)) (ag_sub g1 (by omega) (by omega))⟩
theorem UC_mono {cnt cnt' : Nat} {ru : Nat → Nat → Nat} {ul : Nat → Int32} {ue uk uh uo ui : Nat → Int64} {ut ud uv : Nat → Int32} {ux : Nat → Int64} (h : UC cnt ru ul ue uk uh uo ui ut ud uv ux) (hc : cnt' ≤ cnt) : UC cnt' ru ul ue uk uh uo ui ut ud uv ux := fun i hi => h i (by omega)
theorem s_clear_le (A : qA) (l : Int32) : (s_clear A l).2.2.2.2.1 = A.2.2.1 ∧ (s_clear A l).2.2.2.1 ≤ A.2.1 ∧ ∀ (i : Nat) (s : qC), (s_clear A l).2.2.2.2.2[i]? = some s → A.2.2.2[i]? = some s := by
  unfold s_clear
  by_cases ok : 0 ≤ l ∧ l < 4
  · rw [if_pos ok]
    exact ⟨rfl, Nat.zero_le _, fun i s hs => by cases hs⟩
  · rw [if_neg ok]
    exact ⟨rfl, Nat.le_refl _, fun i s hs => hs⟩
theorem x_clear {X : Nat × (Nat → Int32)} {H : eH} {A : qA} {nw tr fa ga pf pg : Nat} (h : SC H A nw tr fa ga pf pg) (hA : AI A) (hz : 356 ≤ H.2.1) (l : Int32) : xOK X 1 [.ref 1, .int l] H (tc [0, 9] (s_clear A l).1) none (s_clear A l).2.2 := by
  obtain ⟨x, b, o, w, s, q1, q2, t, ⟨cl, cp, ch, n, kc⟩, r, j⟩ := h
  have hn := x.2
  have h40 := hA.2.2.2
  obtain ⟨cl', cp', ch', e1, e2⟩ := c_clear kc l (n := 10) (by omega)
  obtain ⟨m1, m2, m3⟩ := s_clear_le A l
  have ev := T_P_clear (X := X) (hc_c := n.1) (hc_cl := n.2.1) (hc_cp := n.2.2.1) (hc_ch := n.2.2.2) (hc_b := b.1) (hc_x := x.1) (hc_j := j.2.1) (hok_c := nw_ok hn) (hnz := by omega) e1
  dsimp only at ev
  generalize hL : [(nw + 1, (.inl (0, 6, .inl cl') : eE)), (nw + 2, .inl (0, 6, .inl cp')), (nw + 3, .inl (1, 7, .inr (.inl ch'))), (2, .inr (6, [.ref 3, .int (nI (s_clear A l).2.2.2.1)])), (17, .inr (4, [.ref fa, .int (nI (s_clear A l).2.2.2.2.2.length), .ref ga, .ref 20, .ref 24]))] = L at ev
  have hLm : L.map Prod.fst = [nw + 1, nw + 2, nw + 3, 2, 17] := by rw [← hL]; rfl
  have hN : ([nw + 1, nw + 2, nw + 3, 2, 17] : List Nat).Nodup := by simp; omega
  have hx : ∀ (lo hi : Nat), ¬ (lo ≤ 2 ∧ 2 < hi) → ¬ (lo ≤ 17 ∧ 17 < hi) → (hi ≤ nw + 1 ∨ nw + 4 ≤ lo) → ag H (eW2 H L) lo hi := fun lo hi h1 h2 h3 => ag_w2 hLm (fun a ha => by
    simp only [List.mem_cons, List.not_mem_nil, or_false] at ha
    omega)
  have gt : ∀ (i : Nat) {a : Nat} {c : eE}, L[i]? = some (a, c) → (eW2 H L).1 a = some c := fun i a c hi => eW2_getA hN i hi hLm
  refine ⟨eW2 H L, nw, tr, fa, ga, pf, pg, ev.mono (by decide), ⟨sX_fr x (hx _ _ (by omega) (by omega) (by omega)), ⟨gt 3 (by rw [← hL]; rfl), (hx 3 4 (by omega) (by omega) (by omega) 3 (by omega) (by omega)).trans b.2.1, ?_⟩, sO_fr o (hx _ _ (by omega) (by omega) (by omega)), sW_fr w (hx _ _ (by omega) (by omega) (by omega)), sS_fr s (hx _ _ (by omega) (by omega) (by omega)), sQ_fr q1 (hx _ _ (by omega) (by omega) (by omega)), sQ_fr q2 (hx _ _ (by omega) (by omega) (by omega)), sK0_fr t (hx _ _ (by omega) (by omega) (by omega)), ⟨cl', cp', ch', ⟨(hx nw (nw + 1) (by omega) (by omega) (by omega) nw (by omega) (by omega)).trans n.1, gt 0 (by rw [← hL]; rfl), gt 1 (by rw [← hL]; rfl), gt 2 (by rw [← hL]; rfl)⟩, e2⟩, ?_, ?_⟩, rfl, hx _ _ (by omega) (by omega) (by omega)⟩
  · obtain ⟨ul, ue, uk, uh, uo, ui, ut, ud, uv, ux, c, d⟩ := b.2.2
    rw [m1]
    exact ⟨ul, ue, uk, uh, uo, ui, ut, ud, uv, ux, fun i hi => (hx (4 + i) (4 + i + 1) (by omega) (by omega) (by omega) (4 + i) (by omega) (by omega)).trans (c i hi), UC_mono d m2⟩
  · rcases hn with ⟨rfl, rfl⟩ | ⟨rfl, rfl⟩
    · exact sK0_fr r (hx _ _ (by omega) (by omega) (by omega))
    · exact sK0_fr r (hx _ _ (by omega) (by omega) (by omega))
  · obtain ⟨ja, jb, jc, jd, je⟩ := j
    have g20 : ag H (eW2 H L) 18 20 := hx _ _ (by omega) (by omega) (by omega)
    have g25 : ag H (eW2 H L) 25 345 := hx _ _ (by omega) (by omega) (by omega)
    refine ⟨ja, gt 4 (by rw [← hL]; rfl), ⟨(g20 fa (by omega) (by omega)).trans jc.1, fun i hi => sK0_fr (jc.2 i hi) (ag_sub g25 (by omega) (by omega))⟩, ⟨(g20 ga (by omega) (by omega)).trans jd.1, fun i hi => sK0_fr (jd.2 i hi) (ag_sub g25 (by omega) (by omega))⟩, fun i s hs => ?_⟩
    have hs' := m3 i s hs
    have := (List.getElem?_eq_some_iff.mp hs').1
    exact sK_fr (je i s hs') (ag_sub g25 (by omega) (by omega))
theorem x_membrane {X : Nat × (Nat → Int32)} {H : eH} {A : qA} {nw tr fa ga pf pg : Nat} (h : SC H A nw tr fa ga pf pg) (hA : AI A) (hz : 356 ≤ H.2.1) (p l : Int32) : xOK X 2 [.ref 1, .int p, .int l] H (tc [0, 10, 9, 11] (s_membrane A p l).1) (some (.int (s_membrane A p l).2.1)) (s_membrane A p l).2.2 := by
  have h' := h
  obtain ⟨x, b, o, w, s, q1, q2, t, ⟨cl, cp, ch, n, kc⟩, r, j⟩ := h
  have hn := x.2
  have h40 := hA.2.2.2
  obtain ⟨cl', cp', ch', e1, e2⟩ := c_membrane hA kc p l (n := 10) (by omega)
  have ev := T_P_membrane (X := X) (hc_c := n.1) (hc_cl := n.2.1) (hc_cp := n.2.2.1) (hc_ch := n.2.2.2) (hc_x := x.1) (hok_c := nw_ok hn) (hnz := by omega) e1
  dsimp only at ev
  have hN : ([nw + 1, nw + 2, nw + 3] : List Nat).Nodup := by simp
  have hx : ∀ (lo hi : Nat), (hi ≤ nw + 1 ∨ nw + 4 ≤ lo) → ag H (eW2 H [(nw + 1, .inl (0, 6, .inl cl')), (nw + 2, .inl (0, 6, .inl cp')), (nw + 3, .inl (1, 7, .inr (.inl ch')))]) lo hi := fun lo hi h3 => ag_w2 (A := [nw + 1, nw + 2, nw + 3]) rfl (fun a ha => by
    simp only [List.mem_cons, List.not_mem_nil, or_false] at ha
    omega)
  have s1 : (s_membrane A p l).2.2.2 = A.2 := by
    unfold s_membrane
    split
    · split
      · split <;> rfl
      · rfl
    · rfl
  have e : (s_membrane A p l).2.2 = ((s_membrane A p l).2.2.1, A.2) := by rw [← s1]
  rw [e]
  exact ⟨_, nw, tr, fa, ga, pf, pg, ev.mono (by decide), SC_nw h' h40 (hx _ _ (by omega)) (hx _ _ (by omega)) ⟨cl', cp', ch', ⟨(hx nw (nw + 1) (by omega) nw (by omega) (by omega)).trans n.1, eW2_getA hN 0 rfl rfl, eW2_getA hN 1 rfl rfl, eW2_getA hN 2 rfl rfl⟩, e2⟩, rfl, hx _ _ (by omega)⟩
theorem x_put {X : Nat × (Nat → Int32)} {H : eH} {A : qA} {nw tr fa ga pf pg : Nat} (h : SC H A nw tr fa ga pf pg) (hA : AI A) (hz : 356 ≤ H.2.1) (p hh : Int32) : xOK X 3 [.ref 1, .int p, .int hh] H (tc [0, 10, 9, 11] (s_put A p hh).1) none (s_put A p hh).2.2 := by
  have h' := h
  obtain ⟨x, b, o, w, s, q1, q2, t, ⟨cl, cp, ch, n, kc⟩, r, j⟩ := h
  have hn := x.2
  have h40 := hA.2.2.2
  obtain ⟨ch', e1, e2⟩ := c_put hA kc p hh (n := 10) (by omega)
  have ev := T_P_put (X := X) (hc_c := n.1) (hc_cl := n.2.1) (hc_ch := n.2.2.2) (hc_x := x.1) (hok_c := nw_ok hn) (hnz := by omega) e1
  dsimp only at ev
  have hN : ([nw + 3] : List Nat).Nodup := by simp
  have hx : ∀ (lo hi : Nat), (hi ≤ nw + 3 ∨ nw + 4 ≤ lo) → ag H (eW2 H [(nw + 3, .inl (1, 7, .inr (.inl ch')))]) lo hi := fun lo hi h3 => ag_w2 (A := [nw + 3]) rfl (fun a ha => by
    simp only [List.mem_cons, List.not_mem_nil, or_false] at ha
    omega)
  have s1 : (s_put A p hh).2.2.2 = A.2 := by
    unfold s_put
    split
    · split
      · split <;> rfl
      · rfl
    · rfl
  have e : (s_put A p hh).2.2 = ((s_put A p hh).2.2.1, A.2) := by rw [← s1]
  rw [e]
  exact ⟨_, nw, tr, fa, ga, pf, pg, ev.mono (by decide), SC_nw h' h40 (hx _ _ (by omega)) (hx _ _ (by omega)) ⟨cl, cp, ch', ⟨(hx nw (nw + 1) (by omega) nw (by omega) (by omega)).trans n.1, (hx (nw + 1) (nw + 2) (by omega) (nw + 1) (by omega) (by omega)).trans n.2.1, (hx (nw + 2) (nw + 3) (by omega) (nw + 2) (by omega) (by omega)).trans n.2.2.1, eW2_getA hN 0 rfl rfl⟩, e2⟩, rfl, hx _ _ (by omega)⟩

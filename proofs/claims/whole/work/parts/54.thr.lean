def eTw (P : eP) (th : Nat) (v : Option Value) (h : eH) : eR × eH := match th with
  | 0 => (.inl v, h)
  | c + 1 => (.inr h.2.1, eNew h (.inr (c + 1, (P.bla (c + 1)).1)) (P.bla (c + 1)).2)
theorem eNew_self {h : eH} {e : eE} {n : Nat} : (eNew h e n).1 h.2.1 = some e := if_pos rfl
theorem eNew_off {h : eH} {e : eE} {n a : Nat} (ha : ¬ a = h.2.1) : (eNew h e n).1 a = h.1 a := if_neg ha
section GT
variable {P : eP} {X : Nat × (Nat → Int32)} {d0 k pc : Nat} {lo : eLo} {st : List Value} {h : eH}
theorem g_thrS {ix k' na len c : Nat} {as rs : List Value} {v v2 : Option Value} {h' : eH} (hi : P.ins k pc = some (.invokestatic ix, len)) (hm : P.mth (eOwn P k) ix = some (0, k', na)) (hst : (decide (st.length < na ∨ 8 < eCat (st.drop na))) = false) (ha : (st.take na).reverse = as) (hr : st.drop na = rs)
    (hc : eEv P X d0 k' as h (eTw P (c + 1) v h')) (h0 : ¬ h'.2.1 = 0) (hh' : eHs P k' = []) (hini : P.ini k' = false) (hh : eHs P k = []) : eGs P X d0 k (pc, lo, st, h) (eTw P (c + 1) v2 h') := by
  subst ha
  subst hr
  refine eGs.thr (a := h'.2.1) (c := c + 1) (as := (st.take na).reverse) (rs := st.drop na) (fs := (P.bla (c + 1)).1) (h' := eNew h' (.inr (c + 1, (P.bla (c + 1)).1)) (P.bla (c + 1)).2) hi rfl hm (by decide) (of_decide_eq_false hst) rfl hc ?_ eNew_self hh
  rintro (z | z | z)
  · exact h0 z
  · exact z hh'
  · rw [hini] at z; cases z
theorem g_thrV {ix k' na len a cl c : Nat} {as rs fs : List Value} {v v2 : Option Value} {h' : eH} (hi : P.ins k pc = some (.invokevirtual ix, len)) (hm : P.mth (eOwn P k) ix = some (1, k', na)) (hst : (decide (st.length < na ∨ 8 < eCat (st.drop na))) = false) (ha : (st.take na).reverse = .ref a :: as) (hr : st.drop na = rs) (h00 : ¬ a = 0) (hcell : h.1 a = some (.inr (cl, fs))) (hcc : cl = eOwn P k')
    (hc : eEv P X d0 k' (.ref a :: as) h (eTw P (c + 1) v h')) (h0 : ¬ h'.2.1 = 0) (hh' : eHs P k' = []) (hini : P.ini k' = false) (hh : eHs P k = []) : eGs P X d0 k (pc, lo, st, h) (eTw P (c + 1) v2 h') := by
  subst hr
  refine eGs.thr (a := h'.2.1) (c := c + 1) (as := .ref a :: as) (rs := st.drop na) (fs := (P.bla (c + 1)).1) (h' := eNew h' (.inr (c + 1, (P.bla (c + 1)).1)) (P.bla (c + 1)).2) hi rfl hm (by decide) (of_decide_eq_false hst) ?_ hc ?_ eNew_self hh
  · simp only [eArgs, ha, hcell]
    rw [if_neg (by decide), if_neg (by simp [h00, hcc])]
  · rintro (z | z | z)
    · exact h0 z
    · exact z hh'
    · rw [hini] at z; cases z
theorem g_tnew {c : Nat} {v : Option Value} {q : Nat × Nat × Nat × Nat} (hi : P.ins k pc = none) (ht : P.thr k pc = some q) (hq : q.1 = c + 1) (hh : eHs P k = []) (hc : decide (eCat st ≤ 8) = true) : eGs P X d0 k (pc, lo, st, h) (eTw P (c + 1) v h) := by
  have w := eGs.tnew (X := X) (d0 := d0) (lo := lo) (h := h) hi ht hh (of_decide_eq_true hc)
  rw [hq] at w
  exact w
end GT

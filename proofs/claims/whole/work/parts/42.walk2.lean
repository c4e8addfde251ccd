section GW
variable {P : eP} {X : Nat × (Nat → Int32)} {d0 k pc : Nat} {lo : eLo} {st : List Value} {h : eH} {r : eR × eH}
theorem g_putfW {h1 : eH} {ix c j a : Nat} {ty : FieldType} {fin : Bool} {fs : List Value} {v : Value} (hi : P.ins k pc = some (.putfield ix, 3)) (hf : P.fld (eOwn P k) ix = some (c, j, ty, fin)) (ha : ¬ a = 0) (hc : h.1 a = some (.inr (c, fs))) (hfit : eFit ty v = true) (hj : j < fs.length) (hfin : (fin && !(P.ini k && eOwn P k == c)) = false)
    (hw : eSetH h a (.inr (c, fs.set j v)) = h1) (q : eGs P X d0 k (pc + 3, lo, st, h1) r) : eGs P X d0 k (pc, lo, v :: .ref a :: st, h) r := by
  subst hw
  exact g_putf hi hf ha hc hfit hj hfin q
theorem g_iastW {h1 : eH} {a n : Nat} {f : Nat → Int32} {i x : Int32} (hi : P.ins k pc = some (.iastore, 1)) (ha : ¬ a = 0) (hc : h.1 a = some (.inl (0, n, .inl f))) (hin : ¬ (i < 0 ∨ n ≤ i.toNatClampNeg))
    (hw : eSetH h a (.inl (0, n, .inl (eUp f i.toNatClampNeg x))) = h1) (q : eGs P X d0 k (pc + 1, lo, st, h1) r) : eGs P X d0 k (pc, lo, .int x :: .int i :: .ref a :: st, h) r := by
  subst hw
  exact g_iast hi ha hc hin q
theorem g_castW {h1 : eH} {a n : Nat} {f : Nat → Int32} {i x : Int32} (hi : P.ins k pc = some (.castore, 1)) (ha : ¬ a = 0) (hc : h.1 a = some (.inl (2, n, .inl f))) (hin : ¬ (i < 0 ∨ n ≤ i.toNatClampNeg))
    (hw : eSetH h a (.inl (2, n, .inl (eUp f i.toNatClampNeg (vp_nar .char x)))) = h1) (q : eGs P X d0 k (pc + 1, lo, st, h1) r) : eGs P X d0 k (pc, lo, .int x :: .int i :: .ref a :: st, h) r := by
  subst hw
  exact g_cast hi ha hc hin q
theorem g_lastW {h1 : eH} {a n : Nat} {f : Nat → Int64} {i : Int32} {x : Int64} (hi : P.ins k pc = some (.lastore, 1)) (ha : ¬ a = 0) (hc : h.1 a = some (.inl (1, n, .inr (.inl f)))) (hin : ¬ (i < 0 ∨ n ≤ i.toNatClampNeg))
    (hw : eSetH h a (.inl (1, n, .inr (.inl (eUp f i.toNatClampNeg x)))) = h1) (q : eGs P X d0 k (pc + 1, lo, st, h1) r) : eGs P X d0 k (pc, lo, .long x :: .int i :: .ref a :: st, h) r := by
  subst hw
  exact g_last hi ha hc hin q
theorem g_aastW {h1 : eH} {a n t v c : Nat} {f : Nat → Option Nat} {i : Int32} {fs : List Value} (hi : P.ins k pc = some (.aastore, 1)) (ha : ¬ a = 0) (hv : ¬ v = 0) (hc : h.1 a = some (.inl (t, n, .inr (.inr f)))) (hcv : h.1 v = some (.inr (c, fs))) (ht : P.elt t = some c) (hin : ¬ (i < 0 ∨ n ≤ i.toNatClampNeg))
    (hw : eSetH h a (.inl (t, n, .inr (.inr (eUp f i.toNatClampNeg (some v))))) = h1) (q : eGs P X d0 k (pc + 1, lo, st, h1) r) : eGs P X d0 k (pc, lo, .ref v :: .int i :: .ref a :: st, h) r := by
  subst hw
  exact g_aast hi ha hv hc hcv ht hin q
theorem g_aastNW {h1 : eH} {a n t c : Nat} {f : Nat → Option Nat} {i : Int32} (hi : P.ins k pc = some (.aastore, 1)) (ha : ¬ a = 0) (hc : h.1 a = some (.inl (t, n, .inr (.inr f)))) (ht : P.elt t = some c) (hin : ¬ (i < 0 ∨ n ≤ i.toNatClampNeg))
    (hw : eSetH h a (.inl (t, n, .inr (.inr (eUp f i.toNatClampNeg none)))) = h1) (q : eGs P X d0 k (pc + 1, lo, st, h1) r) : eGs P X d0 k (pc, lo, .null :: .int i :: .ref a :: st, h) r := by
  subst hw
  exact g_aastN hi ha hc ht hin q
theorem eW2_off {h : eH} {L : List (Nat × eE)} {a : Nat} (ha : a ∉ L.map Prod.fst) : (eW2 h L).1 a = h.1 a := by
  show (match L.find? (fun z => z.1 == a) with
    | some z => some z.2
    | none => h.1 a) = h.1 a
  cases hf : L.find? (fun z => z.1 == a) with
  | none => rfl
  | some z =>
    have h1 := List.find?_some hf
    have h2 : z.1 = a := by simpa using h1
    exact absurd (List.mem_map.mpr ⟨z, List.mem_of_find?_eq_some hf, h2⟩) ha
theorem eW2_nil {h : eH} : eW2 h [] = h := eW2_self (fun z hz => absurd hz List.not_mem_nil)
theorem g_callS {ix k' na len : Nat} {as rs : List Value} {v : Option Value} {h' : eH} (hi : P.ins k pc = some (.invokestatic ix, len)) (hm : P.mth (eOwn P k) ix = some (0, k', na)) (hst : (decide (st.length < na ∨ 8 < eCat (st.drop na))) = false) (ha : (st.take na).reverse = as) (hr : st.drop na = rs)
    (hc : eEv P X d0 k' as h (.inl v, h')) (q : eGs P X d0 k (pc + 3, lo, v.toList ++ rs, h') r) : eGs P X d0 k (pc, lo, st, h) r := by
  subst ha
  subst hr
  exact eGs.call hi rfl hm (by decide) (of_decide_eq_false hst) rfl hc q
theorem g_callV {ix k' na len a c : Nat} {as rs fs : List Value} {v : Option Value} {h' : eH} (hi : P.ins k pc = some (.invokevirtual ix, len)) (hm : P.mth (eOwn P k) ix = some (1, k', na)) (hst : (decide (st.length < na ∨ 8 < eCat (st.drop na))) = false) (ha : (st.take na).reverse = .ref a :: as) (hr : st.drop na = rs) (h0 : ¬ a = 0) (hcell : h.1 a = some (.inr (c, fs))) (hcc : c = eOwn P k')
    (hc : eEv P X d0 k' (.ref a :: as) h (.inl v, h')) (q : eGs P X d0 k (pc + 3, lo, v.toList ++ rs, h') r) : eGs P X d0 k (pc, lo, st, h) r := by
  subst hr
  refine eGs.call hi rfl hm (by decide) (of_decide_eq_false hst) ?_ hc q
  simp only [eArgs, ha, hcell]
  rw [if_neg (by decide), if_neg (by simp [h0, hcc])]
theorem dg_none {α : Type} {c : Prop} {d : Decidable c} {x : Option α} {r : α} (h : (if c then none else x) = some r) : ¬ c ∧ x = some r := by
  split at h
  · cases h
  · rename_i hn
    exact ⟨hn, h⟩
theorem dg_bind {α β : Type} {x : Option α} {f : α → Option β} {r : β} (h : x.bind f = some r) : ∃ v, x = some v ∧ f v = some r := by
  cases x with
  | none => cases h
  | some v => exact ⟨v, rfl, h⟩
end GW

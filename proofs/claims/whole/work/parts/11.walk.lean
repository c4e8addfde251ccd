def eGs (P : eP) (X : Nat × (Nat → Int32)) (d0 k : Nat) (x : eS) (r : eR × eH) : Prop := ∃ n0, ∀ d, d0 ≤ d → ∀ n, n0 ≤ n → ∀ j, n0 ≤ j → eGo P X (eRun P X n d) k j x = some r
def eEv (P : eP) (X : Nat × (Nat → Int32)) (d0 k : Nat) (as : List Value) (h : eH) (r : eR × eH) : Prop := ∃ n0, ∀ d, d0 ≤ d → ∀ n, n0 ≤ n → eRun P X n d k as h = some r
section GS
variable {P : eP} {X : Nat × (Nat → Int32)} {d0 k pc len : Nat} {lo : eLo} {st : List Value} {h : eH} {r : eR × eH} {y : eS} {i : Instr}
theorem eEv.mono {d1 : Nat} {as : List Value} (q : eEv P X d0 k as h r) (hd : d0 ≤ d1) : eEv P X d1 k as h r := by
  obtain ⟨n0, q⟩ := q
  exact ⟨n0, fun d h1 n h2 => q d (Nat.le_trans hd h1) n h2⟩
theorem eEv.of {as : List Value} (ha : ¬ eNL P k < (eArg as).length) (q : eGs P X d0 k (0, eEntry (eNL P k) as, [], h) r) : eEv P X (d0 + 1) k as h r := by
  obtain ⟨n0, q⟩ := q
  refine ⟨n0, fun d hd n hn => ?_⟩
  cases d with
  | zero => omega
  | succ d =>
    show (if eNL P k < (eArg as).length then none else eGo P X (eRun P X n d) k n (0, eEntry (eNL P k) as, [], h)) = some r
    rw [if_neg ha]
    exact q d (by omega) n hn n hn
theorem eGs.step (hi : P.ins k pc = some (i, len)) (hk : (eKd i).1 = 0) (hs : eIns P X k i pc lo st h = some y) (q : eGs P X d0 k y r) : eGs P X d0 k (pc, lo, st, h) r := by
  obtain ⟨n0, q⟩ := q
  refine ⟨n0 + 1, fun d hd n hn j hj => ?_⟩
  cases j with
  | zero => omega
  | succ j =>
    have q' := q d hd n (by omega) j (by omega)
    simp only [eGo, hi]
    generalize hz : eKd i = z at hk
    obtain ⟨z1, z2, z3⟩ := z
    cases hk
    simp only [hs]
    exact q'
theorem eGs.fin (hi : P.ins k pc = some (i, len)) (hk : (eKd i).1 = 2) (hs : eRet P k i st h = some r) : eGs P X d0 k (pc, lo, st, h) r := by
  refine ⟨1, fun d hd n hn j hj => ?_⟩
  cases j with
  | zero => omega
  | succ j =>
    simp only [eGo, hi]
    generalize hz : eKd i = z at hk
    obtain ⟨z1, z2, z3⟩ := z
    cases hk
    exact hs
theorem eGs.call {kd ix kind k' na : Nat} {as rs : List Value} {v : Option Value} {h' : eH} (hi : P.ins k pc = some (i, len)) (hk : eKd i = (1, kd, ix)) (hm : P.mth (eOwn P k) ix = some (kind, k', na)) (h3 : kind < 3)
    (hst : ¬ (st.length < na ∨ 8 < eCat (st.drop na))) (ha : eArgs P kd kind k' na st h = some (as, rs)) (hc : eEv P X d0 k' as h (.inl v, h')) (q : eGs P X d0 k (pc + 3, lo, v.toList ++ rs, h') r) : eGs P X d0 k (pc, lo, st, h) r := by
  obtain ⟨n0, q⟩ := q
  obtain ⟨n1, hc⟩ := hc
  refine ⟨n0 + n1 + 1, fun d hd n hn j hj => ?_⟩
  cases j with
  | zero => omega
  | succ j =>
    simp only [eGo, hi, hk, hm, if_neg hst, if_neg (Nat.not_le.mpr h3), ha, hc d hd n (by omega)]
    exact q d hd n (by omega) j (by omega)
theorem eGs.own {kd ix kind k' na : Nat} (hi : P.ins k pc = some (i, len)) (hk : eKd i = (1, kd, ix)) (hm : P.mth (eOwn P k) ix = some (kind, k', na)) (h3 : 3 ≤ kind)
    (hst : ¬ (st.length < na ∨ 8 < eCat (st.drop na))) (ha : eOwnless kd kind pc lo st h = some y) (q : eGs P X d0 k y r) : eGs P X d0 k (pc, lo, st, h) r := by
  obtain ⟨n0, q⟩ := q
  refine ⟨n0 + 1, fun d hd n hn j hj => ?_⟩
  cases j with
  | zero => omega
  | succ j =>
    simp only [eGo, hi, hk, hm, if_neg hst, if_pos h3, ha]
    exact q d hd n (by omega) j (by omega)
theorem eGs.thr {kd ix kind k' na a c : Nat} {as rs fs : List Value} {h' : eH} (hi : P.ins k pc = some (i, len)) (hk : eKd i = (1, kd, ix)) (hm : P.mth (eOwn P k) ix = some (kind, k', na)) (h3 : kind < 3)
    (hst : ¬ (st.length < na ∨ 8 < eCat (st.drop na))) (ha : eArgs P kd kind k' na st h = some (as, rs)) (hc : eEv P X d0 k' as h (.inr a, h')) (hn : ¬ (a = 0 ∨ ¬ eHs P k' = [] ∨ P.ini k' = true)) (hcell : h'.1 a = some (.inr (c, fs))) (hh : eHs P k = []) : eGs P X d0 k (pc, lo, st, h) (.inr a, h') := by
  obtain ⟨n1, hc⟩ := hc
  refine ⟨n1 + 1, fun d hd n hn2 j hj => ?_⟩
  cases j with
  | zero => omega
  | succ j =>
    simp only [eGo, hi, hk, hm, if_neg hst, if_neg (Nat.not_le.mpr h3), ha, hc d hd n (by omega), if_neg hn, hcell, hh, eHan, if_true]
theorem eGs.cat {kd ix kind k' na a c t : Nat} {as rs fs : List Value} {h' : eH} (hi : P.ins k pc = some (i, len)) (hk : eKd i = (1, kd, ix)) (hm : P.mth (eOwn P k) ix = some (kind, k', na)) (h3 : kind < 3)
    (hst : ¬ (st.length < na ∨ 8 < eCat (st.drop na))) (ha : eArgs P kd kind k' na st h = some (as, rs)) (hc : eEv P X d0 k' as h (.inr a, h')) (hn : ¬ (a = 0 ∨ ¬ eHs P k' = [] ∨ P.ini k' = true)) (hcell : h'.1 a = some (.inr (c, fs))) (hh : eHan (eHs P k) pc c = some t)
    (q : eGs P X d0 k (t, lo, [.ref a], h') r) : eGs P X d0 k (pc, lo, st, h) r := by
  obtain ⟨n0, q⟩ := q
  obtain ⟨n1, hc⟩ := hc
  refine ⟨n0 + n1 + 1, fun d hd n hn2 j hj => ?_⟩
  cases j with
  | zero => omega
  | succ j =>
    simp only [eGo, hi, hk, hm, if_neg hst, if_neg (Nat.not_le.mpr h3), ha, hc d hd n (by omega), if_neg hn, hcell, hh]
    exact q d hd n (by omega) j (by omega)
def eStN (P : eP) (X : Nat × (Nat → Int32)) (k : Nat) : Nat → eS → Option eS
  | 0, x => some x
  | n + 1, (pc, lo, st, h) => match P.ins k pc with
    | none => none
    | some (i, _) => match (eKd i).1 with
      | 0 => match eIns P X k i pc lo st h with
        | none => none
        | some y => eStN P X k n y
      | _ => none
theorem eGs.steps (n : Nat) {x : eS} (hs : eStN P X k n x = some y) (q : eGs P X d0 k y r) : eGs P X d0 k x r := by
  induction n generalizing x with
  | zero => cases hs; exact q
  | succ n ih =>
    obtain ⟨pc, lo, st, h⟩ := x
    simp only [eStN] at hs
    split at hs
    · cases hs
    · rename_i i len hi
      split at hs
      · rename_i hk
        split at hs
        · cases hs
        · rename_i z hz
          exact eGs.step hi hk hz (ih hs)
      · cases hs
theorem eGs.tnew {q : Nat × Nat × Nat × Nat} (hi : P.ins k pc = none) (ht : P.thr k pc = some q) (hh : eHs P k = []) (hc : eCat st ≤ 8) : eGs P X d0 k (pc, lo, st, h) (.inr h.2.1, eNew h (.inr (q.1, (P.bla q.1).1)) (P.bla q.1).2) := by
  refine ⟨1, fun d hd n hn j hj => ?_⟩
  cases j with
  | zero => omega
  | succ j =>
    simp only [eGo, hi, ht]
    rw [if_pos ⟨hh, hc⟩]
end GS
def eW2 (h : eH) (L : List (Nat × eE)) : eH := (fun q => match L.find? (fun z => z.1 == q) with
  | some z => some z.2
  | none => h.1 q, h.2.1, h.2.2)
theorem eW2_find {L : List (Nat × eE)} {i a : Nat} {c : eE} (hN : (L.map Prod.fst).Nodup) (hi : L[i]? = some (a, c)) : L.find? (fun z => z.1 == a) = some (a, c) := by
  induction L generalizing i with
  | nil => cases hi
  | cons z L ih =>
    obtain ⟨h1, h2⟩ := List.nodup_cons.mp hN
    cases i with
    | zero =>
      cases hi
      simp
    | succ i =>
      have hi' : L[i]? = some (a, c) := by simpa using hi
      have hne : z.1 ≠ a := fun e => h1 (by
        rw [e]
        exact List.mem_map.mpr ⟨(a, c), List.mem_of_getElem? hi', rfl⟩)
      have hb : (z.1 == a) = false := by simpa using hne
      rw [List.find?_cons, hb]
      exact ih h2 hi'
theorem eW2_get {h : eH} {L : List (Nat × eE)} (hN : (L.map Prod.fst).Nodup) (i : Nat) {a : Nat} {c : eE} (hi : L[i]? = some (a, c)) : (eW2 h L).1 a = some c := by
  show (match L.find? (fun z => z.1 == a) with
    | some z => some z.2
    | none => h.1 a) = some c
  rw [eW2_find hN hi]
theorem eW2_findset {L : List (Nat × eE)} {i a : Nat} {c0 c : eE} (hN : (L.map Prod.fst).Nodup) (hi : L[i]? = some (a, c0)) (q : Nat) : (L.set i (a, c)).find? (fun z => z.1 == q) = if q = a then some (a, c) else L.find? (fun z => z.1 == q) := by
  induction L generalizing i with
  | nil => cases hi
  | cons z L ih =>
    obtain ⟨h1, h2⟩ := List.nodup_cons.mp hN
    cases i with
    | zero =>
      cases hi
      by_cases hq : q = a
      · subst hq
        simp
      · have hb : (a == q) = false := by simpa using fun e => hq e.symm
        simp only [List.set_cons_zero, List.find?_cons, hb, if_neg hq]
    | succ i =>
      have hi' : L[i]? = some (a, c0) := by simpa using hi
      have hne : z.1 ≠ a := fun e => h1 (by
        rw [e]
        exact List.mem_map.mpr ⟨(a, c0), List.mem_of_getElem? hi', rfl⟩)
      simp only [List.set_cons_succ, List.find?_cons]
      by_cases hz : z.1 = q
      · have hb : (z.1 == q) = true := by simpa using hz
        have hq : ¬ q = a := fun e => hne (hz.trans e)
        simp only [hb, if_neg hq]
      · have hb : (z.1 == q) = false := by simpa using hz
        simp only [hb]
        exact ih h2 hi'
theorem eW2_set {h : eH} {L : List (Nat × eE)} (hN : (L.map Prod.fst).Nodup) (i : Nat) {a : Nat} {c0 c : eE} (hi : L[i]? = some (a, c0)) : eSetH (eW2 h L) a c = eW2 h (L.set i (a, c)) := by
  unfold eSetH eW2
  refine Prod.ext (funext fun q => ?_) rfl
  show (if q = a then some c else (match L.find? (fun z => z.1 == q) with
    | some z => some z.2
    | none => h.1 q)) = (match (L.set i (a, c)).find? (fun z => z.1 == q) with
    | some z => some z.2
    | none => h.1 q)
  rw [eW2_findset hN hi]
  by_cases hq : q = a
  · rw [if_pos hq, if_pos hq]
  · rw [if_neg hq, if_neg hq]
theorem eW2_self {h : eH} {L : List (Nat × eE)} (hL : ∀ z ∈ L, h.1 z.1 = some z.2) : eW2 h L = h := by
  unfold eW2
  refine Prod.ext (funext fun q => ?_) rfl
  show (match L.find? (fun z => z.1 == q) with
    | some z => some z.2
    | none => h.1 q) = h.1 q
  cases hf : L.find? (fun z => z.1 == q) with
  | none => rfl
  | some z =>
    have h1 : (z.1 == q) = true := by
      have := List.find?_some hf
      simpa using this
    have h2 : z.1 = q := by simpa using h1
    subst h2
    exact (hL z (List.mem_of_find?_eq_some hf)).symm
def eSub (L : List (Nat × eE)) (is : List Nat) : List (Nat × eE) := is.filterMap fun i => L[i]?
def ePut (L : List (Nat × eE)) : List Nat → List (Nat × eE) → List (Nat × eE)
  | i :: is, z :: zs => ePut (L.set i z) is zs
  | _, _ => L
theorem eW2_sub {h : eH} {L : List (Nat × eE)} (hN : (L.map Prod.fst).Nodup) (is : List Nat) : eW2 (eW2 h L) (eSub L is) = eW2 h L := by
  refine eW2_self fun z hz => ?_
  obtain ⟨i, -, hi⟩ := List.mem_filterMap.mp hz
  exact eW2_get hN i hi
theorem eW2_cons {h : eH} {a : Nat} {c : eE} {L : List (Nat × eE)} : eW2 h ((a, c) :: L) = eSetH (eW2 h L) a c := by
  unfold eSetH eW2
  refine Prod.ext (funext fun q => ?_) rfl
  show (match ((a, c) :: L).find? (fun z => z.1 == q) with
    | some z => some z.2
    | none => h.1 q) = if q = a then some c else _
  by_cases hq : q = a
  · subst hq
    simp
  · have hb : (a == q) = false := by simpa using fun e => hq e.symm
    simp only [List.find?_cons, hb, if_neg hq]
theorem eW2_put {h : eH} : ∀ (is : List Nat) (zs L : List (Nat × eE)), (L.map Prod.fst).Nodup → (zs.map Prod.fst).Nodup → is.length = zs.length → (∀ (j i : Nat) (z : Nat × eE), is[j]? = some i → zs[j]? = some z → ∃ c0, L[i]? = some (z.1, c0)) → eW2 (eW2 h L) zs = eW2 h (ePut L is zs) := by
  intro is
  induction is with
  | nil =>
    intro zs L hN hZ hl hp
    cases zs with
    | nil => exact eW2_self (fun z hz => absurd hz List.not_mem_nil)
    | cons z zs => cases hl
  | cons i is ih =>
    intro zs L hN hZ hl hp
    cases zs with
    | nil => cases hl
    | cons z zs =>
      obtain ⟨a, c⟩ := z
      obtain ⟨c0, h0⟩ := hp 0 i (a, c) rfl rfl
      obtain ⟨hz1, hz2⟩ := List.nodup_cons.mp hZ
      have hset : (L.set i (a, c)).map Prod.fst = L.map Prod.fst := by
        rw [List.map_set]
        apply List.ext_getElem?
        intro j
        rw [List.getElem?_set]
        split
        · rename_i e
          subst e
          split
          · simp [h0]
          · rename_i hlt
            have := (List.getElem?_eq_some_iff.mp h0).1
            simp at hlt
            omega
        · rfl
      have key := ih zs (L.set i (a, c)) (by rw [hset]; exact hN) hz2 (by simpa using hl) (fun j i' z h1 h2 => by
        obtain ⟨c1, h3⟩ := hp (j + 1) i' z (by simpa using h1) (by simpa using h2)
        by_cases e : i = i'
        · subst e
          have hlt := (List.getElem?_eq_some_iff.mp h0).1
          rw [h0] at h3
          cases h3
          exact ⟨c, by rw [List.getElem?_set]; simp [hlt]⟩
        · exact ⟨c1, by rw [List.getElem?_set, if_neg e]; exact h3⟩)
      rw [show ePut L (i :: is) ((a, c) :: zs) = ePut (L.set i (a, c)) is zs from rfl, ← key, ← eW2_set hN i h0]
      -- laying (a, c) first or last is the same, a is not among zs
      unfold eW2 eSetH eUp
      refine Prod.ext (funext fun q => ?_) rfl
      simp only [List.find?_cons]
      by_cases hq : a = q
      · subst hq
        have hno : zs.find? (fun z => z.1 == a) = none := by
          refine List.find?_eq_none.mpr fun z hz => ?_
          intro hh
          exact hz1 (List.mem_map.mpr ⟨z, hz, by simpa using hh⟩)
        simp [hno]
      · have hb : (a == q) = false := by simpa using hq
        have hq' : ¬ q = a := fun e => hq e.symm
        simp only [hb, if_neg hq']
section GH
variable {P : eP} {X : Nat × (Nat → Int32)} {d0 k pc : Nat} {lo : eLo} {st : List Value} {h : eH} {r : eR × eH}
theorem g_getf {ix c j a : Nat} {ty : FieldType} {fin : Bool} {fs : List Value} {v : Value} (hi : P.ins k pc = some (.getfield ix, 3)) (hf : P.fld (eOwn P k) ix = some (c, j, ty, fin)) (ha : ¬ a = 0) (hc : h.1 a = some (.inr (c, fs))) (hv : fs[j]? = some v)
    (q : eGs P X d0 k (pc + 3, lo, v :: st, h) r) : eGs P X d0 k (pc, lo, .ref a :: st, h) r := by
  refine eGs.step hi rfl ?_ q
  simp only [eIns, eGf, eR1, hf, hc, hv, eN]
  rw [if_neg (by simp [ha])]
theorem g_putf {ix c j a : Nat} {ty : FieldType} {fin : Bool} {fs : List Value} {v : Value} (hi : P.ins k pc = some (.putfield ix, 3)) (hf : P.fld (eOwn P k) ix = some (c, j, ty, fin)) (ha : ¬ a = 0) (hc : h.1 a = some (.inr (c, fs))) (hfit : eFit ty v = true) (hj : j < fs.length) (hfin : (fin && !(P.ini k && eOwn P k == c)) = false)
    (q : eGs P X d0 k (pc + 3, lo, st, eSetH h a (.inr (c, fs.set j v))) r) : eGs P X d0 k (pc, lo, v :: .ref a :: st, h) r := by
  refine eGs.step hi rfl ?_ q
  simp only [eIns, ePf, hf, hc, eN]
  rw [if_neg]
  rintro (h1 | h1 | h1 | h1 | h1)
  · exact ha h1
  · exact h1 trivial
  · rw [hfit] at h1; cases h1
  · omega
  · rw [hfin] at h1; cases h1
theorem g_iald {a n : Nat} {f : Nat → Int32} {i : Int32} (hi : P.ins k pc = some (.iaload, 1)) (ha : ¬ a = 0) (hc : h.1 a = some (.inl (0, n, .inl f))) (hin : ¬ (i < 0 ∨ n ≤ i.toNatClampNeg))
    (q : eGs P X d0 k (pc + 1, lo, .int (f i.toNatClampNeg) :: st, h) r) : eGs P X d0 k (pc, lo, .int i :: .ref a :: st, h) r := by
  refine eGs.step hi rfl ?_ q
  cases a with
  | zero => exact absurd rfl ha
  | succ a => simp only [eIns, eLdI, eIA, hc, eN, eIn, if_neg hin, if_true]
theorem g_cald {a n : Nat} {f : Nat → Int32} {i : Int32} (hi : P.ins k pc = some (.caload, 1)) (ha : ¬ a = 0) (hc : h.1 a = some (.inl (2, n, .inl f))) (hin : ¬ (i < 0 ∨ n ≤ i.toNatClampNeg))
    (q : eGs P X d0 k (pc + 1, lo, .int (f i.toNatClampNeg) :: st, h) r) : eGs P X d0 k (pc, lo, .int i :: .ref a :: st, h) r := by
  refine eGs.step hi rfl ?_ q
  cases a with
  | zero => exact absurd rfl ha
  | succ a => simp only [eIns, eLdI, eIA, hc, eN, eIn, if_neg hin, if_true]
theorem g_lald {a n : Nat} {f : Nat → Int64} {i : Int32} (hi : P.ins k pc = some (.laload, 1)) (ha : ¬ a = 0) (hc : h.1 a = some (.inl (1, n, .inr (.inl f)))) (hin : ¬ (i < 0 ∨ n ≤ i.toNatClampNeg))
    (q : eGs P X d0 k (pc + 1, lo, .long (f i.toNatClampNeg) :: st, h) r) : eGs P X d0 k (pc, lo, .int i :: .ref a :: st, h) r := by
  refine eGs.step hi rfl ?_ q
  simp only [eIns, eLdJ, eIA, hc, eN, eIn, if_neg hin, if_neg ha]
theorem g_aald {a n t c : Nat} {f : Nat → Option Nat} {i : Int32} (hi : P.ins k pc = some (.aaload, 1)) (ha : ¬ a = 0) (hc : h.1 a = some (.inl (t, n, .inr (.inr f)))) (ht : P.elt t = some c) (hin : ¬ (i < 0 ∨ n ≤ i.toNatClampNeg))
    (q : eGs P X d0 k (pc + 1, lo, eRf (f i.toNatClampNeg) :: st, h) r) : eGs P X d0 k (pc, lo, .int i :: .ref a :: st, h) r := by
  refine eGs.step hi rfl ?_ q
  simp only [eIns, eLdA, eIA, hc, eN, eIn, if_neg hin]
  rw [if_neg (by simp [ha, ht])]
theorem g_iast {a n : Nat} {f : Nat → Int32} {i x : Int32} (hi : P.ins k pc = some (.iastore, 1)) (ha : ¬ a = 0) (hc : h.1 a = some (.inl (0, n, .inl f))) (hin : ¬ (i < 0 ∨ n ≤ i.toNatClampNeg))
    (q : eGs P X d0 k (pc + 1, lo, st, eSetH h a (.inl (0, n, .inl (eUp f i.toNatClampNeg x)))) r) : eGs P X d0 k (pc, lo, .int x :: .int i :: .ref a :: st, h) r := by
  refine eGs.step hi rfl ?_ q
  simp only [eIns, eStI, hc, eN, eIn, if_neg hin]
  rw [if_neg (by simp [ha])]
theorem g_cast {a n : Nat} {f : Nat → Int32} {i x : Int32} (hi : P.ins k pc = some (.castore, 1)) (ha : ¬ a = 0) (hc : h.1 a = some (.inl (2, n, .inl f))) (hin : ¬ (i < 0 ∨ n ≤ i.toNatClampNeg))
    (q : eGs P X d0 k (pc + 1, lo, st, eSetH h a (.inl (2, n, .inl (eUp f i.toNatClampNeg (vp_nar .char x))))) r) : eGs P X d0 k (pc, lo, .int x :: .int i :: .ref a :: st, h) r := by
  refine eGs.step hi rfl ?_ q
  simp only [eIns, eStI, hc, eN, eIn, if_neg hin]
  rw [if_neg (by simp [ha])]
theorem g_last {a n : Nat} {f : Nat → Int64} {i : Int32} {x : Int64} (hi : P.ins k pc = some (.lastore, 1)) (ha : ¬ a = 0) (hc : h.1 a = some (.inl (1, n, .inr (.inl f)))) (hin : ¬ (i < 0 ∨ n ≤ i.toNatClampNeg))
    (q : eGs P X d0 k (pc + 1, lo, st, eSetH h a (.inl (1, n, .inr (.inl (eUp f i.toNatClampNeg x))))) r) : eGs P X d0 k (pc, lo, .long x :: .int i :: .ref a :: st, h) r := by
  refine eGs.step hi rfl ?_ q
  simp only [eIns, eStJ, hc, eN, eIn, if_neg hin, if_neg ha]
theorem g_aast {a n t v c : Nat} {f : Nat → Option Nat} {i : Int32} {fs : List Value} (hi : P.ins k pc = some (.aastore, 1)) (ha : ¬ a = 0) (hv : ¬ v = 0) (hc : h.1 a = some (.inl (t, n, .inr (.inr f)))) (hcv : h.1 v = some (.inr (c, fs))) (ht : P.elt t = some c) (hin : ¬ (i < 0 ∨ n ≤ i.toNatClampNeg))
    (q : eGs P X d0 k (pc + 1, lo, st, eSetH h a (.inl (t, n, .inr (.inr (eUp f i.toNatClampNeg (some v)))))) r) : eGs P X d0 k (pc, lo, .ref v :: .int i :: .ref a :: st, h) r := by
  refine eGs.step hi rfl ?_ q
  simp only [eIns, eStA, hc, hcv, eN, eIn, if_neg hin]
  rw [if_neg (by simp [ha, hv, ht])]
theorem g_aastN {a n t c : Nat} {f : Nat → Option Nat} {i : Int32} (hi : P.ins k pc = some (.aastore, 1)) (ha : ¬ a = 0) (hc : h.1 a = some (.inl (t, n, .inr (.inr f)))) (ht : P.elt t = some c) (hin : ¬ (i < 0 ∨ n ≤ i.toNatClampNeg))
    (q : eGs P X d0 k (pc + 1, lo, st, eSetH h a (.inl (t, n, .inr (.inr (eUp f i.toNatClampNeg none))))) r) : eGs P X d0 k (pc, lo, .null :: .int i :: .ref a :: st, h) r := by
  refine eGs.step hi rfl ?_ q
  simp only [eIns, eStA, hc, eN, eIn, if_neg hin]
  rw [if_neg (by simp [ha, ht])]
def eCd (cd : ClassFile.Cond) (x y : Int32) : Bool := match cd with
  | .eq => decide (x = y)
  | .ne => decide (¬ x = y)
  | .lt => decide (x < y)
  | .ge => decide (y ≤ x)
  | .gt => decide (y < x)
  | .le => decide (x ≤ y)
theorem eIf_cd (cd : ClassFile.Cond) (x y : Int32) (pc : Nat) (off : Int) (lo : eLo) (rs : List Value) (h : eH) : eIf cd x y pc off lo rs h = eBr (eCd cd x y) pc off lo rs h := by
  cases cd <;> rfl
theorem g_icmp {cd : ClassFile.Cond} {off : Int} {t : Nat} {x y : Int32} (b : Bool) (hi : P.ins k pc = some (.if_icmp cd off, 3)) (hb : eCd cd x y = b) (ht : (pc : Int) + off = Int.ofNat t) (q : eGs P X d0 k (cond b t (pc + 3), lo, st, h) r) : eGs P X d0 k (pc, lo, .int y :: .int x :: st, h) r := by
  refine eGs.step hi rfl ?_ q
  simp only [eIns, eI2, eIf_cd, eBr, eTo, ht, hb]
  cases b <;> rfl
theorem g_if {cd : ClassFile.Cond} {off : Int} {t : Nat} {x : Int32} (b : Bool) (hi : P.ins k pc = some (.ifCond cd off, 3)) (hb : eCd cd x 0 = b) (ht : (pc : Int) + off = Int.ofNat t) (q : eGs P X d0 k (cond b t (pc + 3), lo, st, h) r) : eGs P X d0 k (pc, lo, .int x :: st, h) r := by
  refine eGs.step hi rfl ?_ q
  simp only [eIns, eI1, eIf_cd, eBr, eTo, ht, hb]
  cases b <;> rfl
end GH
def eLocal (i : Instr) : Bool := match i with
  | .iload _ => true
  | .iload_n _ => true
  | .lload _ => true
  | .lload_n _ => true
  | .aload _ => true
  | .aload_n _ => true
  | .istore _ => true
  | .istore_n _ => true
  | .lstore _ => true
  | .lstore_n _ => true
  | .astore _ => true
  | .astore_n _ => true
  | .iinc _ _ => true
  | _ => false
def eMv (lo : eLo) (x : Option eS) : Option eS := x.map fun x => (x.1, lo, x.2.2.1, x.2.2.2)
theorem eMv_n {lo : eLo} {pc : Nat} {st : List Value} {h : eH} : eMv lo (eN pc [] st h) = eN pc lo st h := rfl
theorem eIns_mv {P : eP} {X : Nat × (Nat → Int32)} {k pc : Nat} {i : Instr} {lo : eLo} {st : List Value} {h : eH} (hi : eLocal i = false) : eIns P X k i pc lo st h = eMv lo (eIns P X k i pc [] st h) := by
  cases i
  all_goals first
    | rfl
    | (cases hi; done)
    | (simp only [eIns, eI1, eI2, eJ1, eJ2, eJI, eR1, eQ1, eIA, eTo, eBr, eIf_cd, eIn, eLdI, eLdJ, eLdA, eStI, eStJ, eStA, eLen, eNwA, eGf, ePf]
       repeat' split
       all_goals first | rfl | (simp_all [eMv, eN]; done))
theorem eKill_len (lo : eLo) (i : Nat) : (eKill lo i).length = lo.length := by
  cases i with
  | zero => rfl
  | succ n =>
    simp only [eKill]
    split
    · split <;> simp
    · rfl
theorem eKill_at {lo : eLo} {i j : Nat} {u : Value} (h : (eKill lo i)[j]? = some (some u)) : lo[j]? = some (some u) ∧ ¬ (j + 1 = i ∧ u.category = 2) := by
  cases i with
  | zero => exact ⟨h, by omega⟩
  | succ n =>
    simp only [eKill] at h
    split at h
    · rename_i w hw
      split at h
      · rw [List.getElem?_set] at h
        split at h
        · split at h <;> cases h
        · rename_i hne
          exact ⟨h, by omega⟩
      · rename_i hc
        refine ⟨h, fun hz => ?_⟩
        have : j = n := by omega
        subst this
        rw [hw] at h
        cases h
        exact hc hz.2
    · rename_i hno
      refine ⟨h, fun hz => ?_⟩
      have : j = n := by omega
      subst this
      exact hno u h
theorem eKill_get {lo : eLo} {i j : Nat} {u : Value} (h : lo[j]? = some (some u)) (hn : ¬ (j + 1 = i ∧ u.category = 2)) : (eKill lo i)[j]? = some (some u) := by
  cases i with
  | zero => exact h
  | succ n =>
    simp only [eKill]
    split
    · rename_i w hw
      split
      · rename_i hc
        rw [List.getElem?_set]
        split
        · rename_i e
          subst e
          rw [hw] at h
          cases h
          exact absurd ⟨rfl, hc⟩ hn
        · exact h
      · exact h
    · exact h
def eSubP (lo' lo : eLo) : Prop := lo'.length = lo.length ∧ ∀ (i : Nat) (v : Value), lo'[i]? = some (some v) → lo[i]? = some (some v)
def eSubL : eLo → eLo → Prop
  | [], [] => True
  | none :: a, _ :: b => eSubL a b
  | some v :: a, w :: b => w = some v ∧ eSubL a b
  | _, _ => False
theorem eSubL.p : ∀ {a b : eLo}, eSubL a b → eSubP a b := by
  intro a
  induction a with
  | nil =>
    intro b h
    cases b with
    | nil => exact ⟨rfl, fun i v h => h⟩
    | cons w b => exact h.elim
  | cons x a ih =>
    intro b h
    cases b with
    | nil => cases x <;> exact h.elim
    | cons w b =>
      cases x with
      | none =>
        obtain ⟨h1, h2⟩ := ih (show eSubL a b from h)
        refine ⟨by simp [h1], fun i v hv => ?_⟩
        cases i with
        | zero => simp at hv
        | succ i => simpa using h2 i v (by simpa using hv)
      | some u =>
        obtain ⟨he, h'⟩ := (show w = some u ∧ eSubL a b from h)
        obtain ⟨h1, h2⟩ := ih h'
        refine ⟨by simp [h1], fun i v hv => ?_⟩
        cases i with
        | zero =>
          simp at hv
          subst hv
          simp [he]
        | succ i => simpa using h2 i v (by simpa using hv)
theorem eSubP.st1 {lo' lo : eLo} {i : Nat} {v : Value} (h : eSubP lo' lo) : eSubP (eSt1 lo' i v) (eSt1 lo i v) := by
  refine ⟨by simp [eSt1, eKill_len, h.1], fun j u hu => ?_⟩
  unfold eSt1 at hu ⊢
  rw [List.getElem?_set] at hu ⊢
  split at hu
  · rename_i e
    rw [if_pos e]
    rw [eKill_len] at hu ⊢
    rw [← h.1]
    exact hu
  · rename_i e
    rw [if_neg e]
    obtain ⟨h1, h2⟩ := eKill_at hu
    exact eKill_get (h.2 j u h1) h2
theorem eSubP.st2 {lo' lo : eLo} {i : Nat} {v : Value} (h : eSubP lo' lo) : eSubP (eSt2 lo' i v) (eSt2 lo i v) := by
  have h1 := h.st1 (i := i) (v := v)
  refine ⟨by simp [eSt2, eKill_len, h.1], fun j u hu => ?_⟩
  have hu' : ((eSt1 lo' i v).set (i + 1) none)[j]? = some (some u) := hu
  show ((eSt1 lo i v).set (i + 1) none)[j]? = some (some u)
  rw [List.getElem?_set] at hu' ⊢
  split at hu'
  · split at hu' <;> cases hu'
  · rename_i e
    rw [if_neg e]
    exact h1.2 j u hu'
theorem eLoI_sub {lo' lo : eLo} {i : Nat} {f g : Int32 → Option eS} {x : eS} {p : eS → Prop} (h : eSubP lo' lo) (hx : eLoI lo' i f = some x) (hf : ∀ v, f v = some x → ∃ y, g v = some y ∧ p y) : ∃ y, eLoI lo i g = some y ∧ p y := by
  unfold eLoI eGet at hx ⊢
  split at hx
  · rename_i v hv
    have h1 : lo'[i]? = some (some (.int v)) := by
      cases hq : lo'[i]? with
      | none => rw [hq] at hv; cases hv
      | some o => rw [hq] at hv; cases o with
        | none => cases hv
        | some u => cases hv; rfl
    rw [h.2 i _ h1]
    exact hf v hx
  · cases hx
theorem eLoJ_sub {lo' lo : eLo} {i : Nat} {f g : Int64 → Option eS} {x : eS} {p : eS → Prop} (h : eSubP lo' lo) (hx : eLoJ lo' i f = some x) (hf : ∀ v, f v = some x → ∃ y, g v = some y ∧ p y) : ∃ y, eLoJ lo i g = some y ∧ p y := by
  unfold eLoJ eGet at hx ⊢
  split at hx
  · rename_i v hv
    have h1 : lo'[i]? = some (some (.long v)) := by
      cases hq : lo'[i]? with
      | none => rw [hq] at hv; cases hv
      | some o => rw [hq] at hv; cases o with
        | none => cases hv
        | some u => cases hv; rfl
    rw [h.2 i _ h1]
    exact hf v hx
  · cases hx
theorem eLoA_sub {lo' lo : eLo} {i : Nat} {f g : Option Nat → Option eS} {x : eS} {p : eS → Prop} (h : eSubP lo' lo) (hx : eLoA lo' i f = some x) (hf : ∀ v, f v = some x → ∃ y, g v = some y ∧ p y) : ∃ y, eLoA lo i g = some y ∧ p y := by
  unfold eLoA eGet at hx ⊢
  have key : ∀ w, lo'[i]?.join = some w → lo[i]? = some (some w) := fun w hw => h.2 i w (by
    cases hq : lo'[i]? with
    | none => rw [hq] at hw; cases hw
    | some o => rw [hq] at hw; cases o with
      | none => cases hw
      | some u => cases hw; rfl)
  split at hx
  · rename_i v hv
    rw [key _ hv]
    exact hf _ hx
  · rename_i hv
    rw [key _ hv]
    exact hf _ hx
  · cases hx
theorem eIns_sub {P : eP} {X : Nat × (Nat → Int32)} {k pc : Nat} {i : Instr} {lo' lo : eLo} {st : List Value} {h : eH} {x : eS} (hs : eSubP lo' lo) (hx : eIns P X k i pc lo' st h = some x) :
    ∃ y, eIns P X k i pc lo st h = some y ∧ y.1 = x.1 ∧ eSubP x.2.1 y.2.1 ∧ y.2.2 = x.2.2 := by
  cases hl : eLocal i with
  | false =>
    rw [eIns_mv hl] at hx ⊢
    cases hz : eIns P X k i pc [] st h with
    | none => rw [hz] at hx; cases hx
    | some z =>
      rw [hz] at hx
      cases hx
      exact ⟨_, rfl, rfl, hs, rfl⟩
  | true =>
    have hlen := hs.1
    cases i <;> first | (cases hl; done) | skip
    case aload j => exact eLoA_sub (f := fun x => eN (pc + 2) lo' (eRf x :: st) h) (g := fun x => eN (pc + 2) lo (eRf x :: st) h) (p := fun y => y.1 = x.1 ∧ eSubP x.2.1 y.2.1 ∧ y.2.2 = x.2.2) hs hx (fun v hv => by
      have hv' : (pc + 2, lo', eRf v :: st, h) = x := Option.some.inj hv
      subst hv'
      exact ⟨_, rfl, rfl, hs, rfl⟩)
    case aload_n j => exact eLoA_sub (f := fun x => eN (pc + 1) lo' (eRf x :: st) h) (g := fun x => eN (pc + 1) lo (eRf x :: st) h) (p := fun y => y.1 = x.1 ∧ eSubP x.2.1 y.2.1 ∧ y.2.2 = x.2.2) hs hx (fun v hv => by
      have hv' : (pc + 1, lo', eRf v :: st, h) = x := Option.some.inj hv
      subst hv'
      exact ⟨_, rfl, rfl, hs, rfl⟩)
    all_goals first
      | exact eLoI_sub hs hx (fun v hv => by cases hv; exact ⟨_, rfl, rfl, hs, rfl⟩)
      | exact eLoJ_sub hs hx (fun v hv => by cases hv; exact ⟨_, rfl, rfl, hs, rfl⟩)
      | exact eLoI_sub hs hx (fun v hv => by
          split at hv
          · rename_i hq
            cases hv
            rw [hlen] at hq
            rw [if_pos hq]
            exact ⟨_, rfl, rfl, hs.st1, rfl⟩
          · cases hv)
      | (simp only [eIns, eI1, eJ1, eQ1] at hx ⊢
         split at hx <;> first | (cases hx; done) | skip
         all_goals
           split at hx
           · rename_i hq
             cases hx
             rw [hlen] at hq
             rw [if_pos hq]
             first | exact ⟨_, rfl, rfl, hs.st1, rfl⟩ | exact ⟨_, rfl, rfl, hs.st2, rfl⟩
           · cases hx)
theorem eOwn_mv {kd kind pc : Nat} {lo : eLo} {st : List Value} {h : eH} : eOwnless kd kind pc lo st h = eMv lo (eOwnless kd kind pc [] st h) := by
  unfold eOwnless
  split
  all_goals
    try simp only [eR1, eI2, eCopy]
    repeat' split
    all_goals first | rfl | (simp_all [eMv, eN]; done)
theorem eGo_sub {P : eP} {X : Nat × (Nat → Int32)} {call : Nat → List Value → eH → Option (eR × eH)} {k : Nat} {r : eR × eH} : ∀ (n : Nat) {pc : Nat} {lo' lo : eLo} {st : List Value} {h : eH}, eSubP lo' lo → eGo P X call k n (pc, lo', st, h) = some r → eGo P X call k n (pc, lo, st, h) = some r := by
  intro n
  induction n with
  | zero => intro pc lo' lo st h hs hx; cases hx
  | succ n ih =>
    intro pc lo' lo st h hs hx
    simp only [eGo] at hx ⊢
    split at hx
    · exact hx
    · rename_i i len hi
      split at hx
      · split at hx
        · cases hx
        · rename_i x hz
          obtain ⟨y, h1, h2, h3, h4⟩ := eIns_sub hs hz
          obtain ⟨y1, y2, y3⟩ := y
          obtain ⟨x1, x2, x3⟩ := x
          cases h2
          cases h4
          simp only [h1]
          exact ih h3 hx
      · split at hx
        · cases hx
        · split at hx
          · cases hx
          · rename_i hq
            rw [if_neg hq]
            split at hx
            · rename_i h3
              rw [if_pos h3]
              split at hx
              · cases hx
              · rename_i x hz
                rw [eOwn_mv] at hz
                rw [eOwn_mv]
                cases hw : eOwnless _ _ pc [] st h with
                | none => rw [hw] at hz; cases hz
                | some w =>
                  rw [hw] at hz
                  cases hz
                  exact ih hs hx
            · rename_i h3
              rw [if_neg h3]
              split at hx
              · cases hx
              · rename_i as rs ha
                split at hx
                · cases hx
                · rename_i v h' hc
                  exact ih hs hx
                · rename_i a h' hc
                  split at hx
                  · cases hx
                  · rename_i hq2
                    rw [if_neg hq2]
                    split at hx
                    · rename_i c fs hcell
                      split at hx
                      · exact ih ⟨rfl, fun i v q => q⟩ (by
                          refine ih hs ?_
                          exact hx)
                      · exact hx
                    · cases hx
      · exact hx
theorem eGs.weak {P : eP} {X : Nat × (Nat → Int32)} {d0 k pc : Nat} {lo' lo : eLo} {st : List Value} {h : eH} {r : eR × eH} (hs : eSubL lo' lo) (q : eGs P X d0 k (pc, lo', st, h) r) : eGs P X d0 k (pc, lo, st, h) r := by
  obtain ⟨n0, q⟩ := q
  exact ⟨n0, fun d hd n hn j hj => eGo_sub j hs.p (q d hd n hn j hj)⟩

theorem eUp_mapS (f : Nat → Option Nat) (k j : Nat) : eUp (fun i => (f i).map fun j => 4 + j) k (some (4 + j)) = fun i => (eUp f k (some j) i).map fun j => 4 + j := by
  funext q
  by_cases h : q = k <;> simp [eUp, h]
theorem eUp_mapN (f : Nat → Option Nat) (k : Nat) : eUp (fun i => (f i).map fun j => 4 + j) k none = fun i => (eUp f k none i).map fun j => 4 + j := by
  funext q
  by_cases h : q = k <;> simp [eUp, h]
theorem eFor2_ok {is : List Nat} {zs L : List (Nat × eE)} (h : is.map (fun i => (L[i]?).map Prod.fst) = zs.map (fun z => some z.1)) : ∀ (j i : Nat) (z : Nat × eE), is[j]? = some i → zs[j]? = some z → ∃ c0, L[i]? = some (z.1, c0) := fun j i z h1 h2 => by
  have h3 : (is.map (fun i => (L[i]?).map Prod.fst))[j]? = (zs.map (fun z => some z.1))[j]? := by rw [h]
  rw [List.getElem?_map, List.getElem?_map, h1, h2] at h3
  have h4 : (L[i]?).map Prod.fst = some z.1 := Option.some.inj h3
  cases hl : L[i]? with
  | none => rw [hl] at h4; cases h4
  | some q =>
    rw [hl] at h4
    have h5 : q.1 = z.1 := Option.some.inj h4
    exact ⟨q.2, by rw [← h5]⟩
theorem eEv_put {P : eP} {X : Nat × (Nat → Int32)} {d k : Nat} {as : List Value} {h : eH} {L zs : List (Nat × eE)} {v : eR} (hE : eEv P X d k as (eW2 h L) (v, eW2 (eW2 h L) zs)) (is : List Nat) (hN : (L.map Prod.fst).Nodup) (hZ : (zs.map Prod.fst).Nodup) (hl : is.length = zs.length) (hp : ∀ (j i : Nat) (z : Nat × eE), is[j]? = some i → zs[j]? = some z → ∃ c0, L[i]? = some (z.1, c0)) :
    eEv P X d k as (eW2 h L) (v, eW2 h (ePut L is zs)) := by
  rw [eW2_put is zs L hN hZ hl hp] at hE
  exact hE
theorem eW2_getA {h : eH} {L : List (Nat × eE)} {A : List Nat} (hN : A.Nodup) (i : Nat) {a : Nat} {c : eE} (hi : L[i]? = some (a, c)) (hA : L.map Prod.fst = A) : (eW2 h L).1 a = some c := by
  subst hA
  exact eW2_get hN i hi
theorem eW2_setA {h : eH} {L : List (Nat × eE)} {A : List Nat} (hN : A.Nodup) (i : Nat) {a : Nat} {c0 c : eE} (hi : L[i]? = some (a, c0)) (hA : L.map Prod.fst = A) : eSetH (eW2 h L) a c = eW2 h (L.set i (a, c)) := by
  subst hA
  exact eW2_set hN i hi
theorem eW2_offA {h : eH} {L : List (Nat × eE)} {A : List Nat} {a : Nat} (ha : a ∉ A) (hA : L.map Prod.fst = A) : (eW2 h L).1 a = h.1 a := by
  subst hA
  exact eW2_off ha
theorem eEv_putA {P : eP} {X : Nat × (Nat → Int32)} {d k : Nat} {as : List Value} {h : eH} {L zs : List (Nat × eE)} {v : eR} {A : List Nat} (hE : eEv P X d k as (eW2 h L) (v, eW2 (eW2 h L) zs)) (is : List Nat) (hN : A.Nodup) (hA : L.map Prod.fst = A) (hZ : (zs.map Prod.fst).Nodup) (hl : is.length = zs.length) (hp : ∀ (j i : Nat) (z : Nat × eE), is[j]? = some i → zs[j]? = some z → ∃ c0, L[i]? = some (z.1, c0)) :
    eEv P X d k as (eW2 h L) (v, eW2 h (ePut L is zs)) := by
  subst hA
  exact eEv_put hE is hN hZ hl hp
theorem g_idiv {P : eP} {X : Nat × (Nat → Int32)} {d0 k pc : Nat} {lo : eLo} {st : List Value} {h : eH} {r : eR × eH} {x y : Int32} (hi : P.ins k pc = some (.idiv, 1)) (hg : ¬ y = 0) (q : eGs P X d0 k (pc + 1, lo, .int (x / y) :: st, h) r) : eGs P X d0 k (pc, lo, .int y :: .int x :: st, h) r :=
  eGs.step hi rfl (by simp only [eIns, eI2, eN, if_neg hg]) q
theorem g_copyI {P : eP} {X : Nat × (Nat → Int32)} {d0 k pc : Nat} {lo : eLo} {rs : List Value} {h h1 : eH} {r : eR × eH} {ix k' len a b na nb : Nat} {f g : Nat → Int32} {sp dp n : Int32} (hi : P.ins k pc = some (.invokestatic ix, len)) (hm : P.mth (eOwn P k) ix = some (6, k', 5)) (hst : decide (8 < eCat rs) = false) (ha : ¬ a = 0) (hb : ¬ b = 0)
    (hca : h.1 a = some (.inl (0, na, .inl f))) (hcb : h.1 b = some (.inl (0, nb, .inl g))) (hc : ¬ (n < 0 ∨ dp < 0 ∨ sp < 0)) (hl : ¬ (na < sp.toNatClampNeg + n.toNatClampNeg ∨ nb < dp.toNatClampNeg + n.toNatClampNeg)) (hw : eSetH h b (.inl (0, nb, .inl (eCpy f g sp.toNatClampNeg dp.toNatClampNeg n.toNatClampNeg))) = h1)
    (q : eGs P X d0 k (pc + 3, lo, rs, h1) r) : eGs P X d0 k (pc, lo, .int n :: .int dp :: .ref b :: .int sp :: .ref a :: rs, h) r := by
  subst hw
  refine eGs.own hi rfl hm (by decide) ?_ ?_ q
  · rintro (z | z)
    · simp only [List.length_cons] at z
      omega
    · exact (of_decide_eq_false hst) z
  · simp only [eOwnless, eCopy, hca, hcb, eN]
    rw [if_pos trivial, if_neg (by rintro (z | z | z); exact ha z; exact hb z; exact hc z), if_neg hl]
theorem g_copyJ {P : eP} {X : Nat × (Nat → Int32)} {d0 k pc : Nat} {lo : eLo} {rs : List Value} {h h1 : eH} {r : eR × eH} {ix k' len a b na nb : Nat} {f g : Nat → Int64} {sp dp n : Int32} (hi : P.ins k pc = some (.invokestatic ix, len)) (hm : P.mth (eOwn P k) ix = some (6, k', 5)) (hst : decide (8 < eCat rs) = false) (ha : ¬ a = 0) (hb : ¬ b = 0)
    (hca : h.1 a = some (.inl (1, na, .inr (.inl f)))) (hcb : h.1 b = some (.inl (1, nb, .inr (.inl g)))) (hc : ¬ (n < 0 ∨ dp < 0 ∨ sp < 0)) (hl : ¬ (na < sp.toNatClampNeg + n.toNatClampNeg ∨ nb < dp.toNatClampNeg + n.toNatClampNeg)) (hw : eSetH h b (.inl (1, nb, .inr (.inl (eCpy f g sp.toNatClampNeg dp.toNatClampNeg n.toNatClampNeg)))) = h1)
    (q : eGs P X d0 k (pc + 3, lo, rs, h1) r) : eGs P X d0 k (pc, lo, .int n :: .int dp :: .ref b :: .int sp :: .ref a :: rs, h) r := by
  subst hw
  refine eGs.own hi rfl hm (by decide) ?_ ?_ q
  · rintro (z | z)
    · simp only [List.length_cons] at z
      omega
    · exact (of_decide_eq_false hst) z
  · simp only [eOwnless, eCopy, hca, hcb, eN]
    rw [if_pos trivial, if_neg (by rintro (z | z | z); exact ha z; exact hb z; exact hc z), if_neg hl]

theorem eUp_mapS (f : Nat → Option Nat) (k j : Nat) : eUp (fun i => (f i).map fun j => 4 + j) k (some (4 + j)) = fun i => (eUp f k (some j) i).map fun j => 4 + j := by
  funext q
  by_cases h : q = k <;> simp [eUp, h]
theorem eUp_mapN (f : Nat → Option Nat) (k : Nat) : eUp (fun i => (f i).map fun j => 4 + j) k none = fun i => (eUp f k none i).map fun j => 4 + j := by
  funext q
  by_cases h : q = k <;> simp [eUp, h]
theorem eFor2_ok {is : List Nat} {zs L : List (Nat × eE)} (h : is.map (fun i => (L[i]?).map Prod.fst) = zs.map (fun z => some z.1)) : ∀ (j i : Nat) (z : Nat × eE), is[j]? = some i → zs[j]? = some z → ∃ c0, L[i]? = some (z.1, c0) := fun j i z h1 h2 => by
  have h3 : (is.map (fun i => (L[i]?).map Prod.fst))[j]? = (zs.map (fun z => some z.1))[j]? := by rw [h]
  rw [List.getElem?_map, List.getElem?_map, h1, h2] at h3
  have h4 : (L[i]?).map Prod.fst = some z.1 := Option.some.inj h3
  cases hl : L[i]? with
  | none => rw [hl] at h4; cases h4
  | some q =>
    rw [hl] at h4
    have h5 : q.1 = z.1 := Option.some.inj h4
    exact ⟨q.2, by rw [← h5]⟩
theorem eEv_put {P : eP} {X : Nat × (Nat → Int32)} {d k : Nat} {as : List Value} {h : eH} {L zs : List (Nat × eE)} {v : eR} (hE : eEv P X d k as (eW2 h L) (v, eW2 (eW2 h L) zs)) (is : List Nat) (hN : (L.map Prod.fst).Nodup) (hZ : (zs.map Prod.fst).Nodup) (hl : is.length = zs.length) (hp : ∀ (j i : Nat) (z : Nat × eE), is[j]? = some i → zs[j]? = some z → ∃ c0, L[i]? = some (z.1, c0)) :
    eEv P X d k as (eW2 h L) (v, eW2 h (ePut L is zs)) := by
  rw [eW2_put is zs L hN hZ hl hp] at hE
  exact hE
theorem eW2_getA {h : eH} {L : List (Nat × eE)} {A : List Nat} (hN : A.Nodup) (i : Nat) {a : Nat} {c : eE} (hi : L[i]? = some (a, c)) (hA : L.map Prod.fst = A) : (eW2 h L).1 a = some c := by
  subst hA
  exact eW2_get hN i hi
theorem eW2_setA {h : eH} {L : List (Nat × eE)} {A : List Nat} (hN : A.Nodup) (i : Nat) {a : Nat} {c0 c : eE} (hi : L[i]? = some (a, c0)) (hA : L.map Prod.fst = A) : eSetH (eW2 h L) a c = eW2 h (L.set i (a, c)) := by
  subst hA
  exact eW2_set hN i hi
theorem eW2_offA {h : eH} {L : List (Nat × eE)} {A : List Nat} {a : Nat} (ha : a ∉ A) (hA : L.map Prod.fst = A) : (eW2 h L).1 a = h.1 a := by
  subst hA
  exact eW2_off ha
theorem eEv_putA {P : eP} {X : Nat × (Nat → Int32)} {d k : Nat} {as : List Value} {h : eH} {L zs : List (Nat × eE)} {v : eR} {A : List Nat} (hE : eEv P X d k as (eW2 h L) (v, eW2 (eW2 h L) zs)) (is : List Nat) (hN : A.Nodup) (hA : L.map Prod.fst = A) (hZ : (zs.map Prod.fst).Nodup) (hl : is.length = zs.length) (hp : ∀ (j i : Nat) (z : Nat × eE), is[j]? = some i → zs[j]? = some z → ∃ c0, L[i]? = some (z.1, c0)) :
    eEv P X d k as (eW2 h L) (v, eW2 h (ePut L is zs)) := by
  subst hA
  exact eEv_put hE is hN hZ hl hp

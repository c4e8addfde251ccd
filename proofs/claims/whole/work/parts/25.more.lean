theorem e_cpy_eq : @eCpy = @va_cpy := rfl
theorem eOn_some {kd kind pc : Nat} {lo : eLo} {st : List Value} {h : eH} {x : eS} (q : eOwnless kd kind pc lo st h = some x) :
    (kind = 3 ∧ kd = 2 ∧ ∃ a r, st = .ref a :: r ∧ (pc + 3, lo, r, h) = x) ∨
    (kind = 5 ∧ kd = 0 ∧ ∃ y z r, st = .int z :: .int y :: r ∧ (pc + 3, lo, .int (if z < y then z else y) :: r, h) = x) ∨
    (kind = 6 ∧ kd = 0 ∧ eCopy h st (fun h' r => eN (pc + 3) lo r h') = some x) := by
  unfold eOwnless at q
  split at q
  · obtain ⟨h1, h2⟩ := eIf_else q
    obtain ⟨a, r, rfl, h2⟩ := eR1_some h2
    exact Or.inl ⟨rfl, h1, a, r, rfl, eN_inj h2⟩
  · obtain ⟨h1, h2⟩ := eIf_else q
    obtain ⟨y, z, r, rfl, h2⟩ := eI2_some h2
    exact Or.inr (Or.inl ⟨rfl, h1, y, z, r, rfl, eN_inj h2⟩)
  · obtain ⟨h1, h2⟩ := eIf_else q
    exact Or.inr (Or.inr ⟨rfl, h1, h2⟩)
  · cases q
theorem eArgs_some {P : eP} {kd kind k n : Nat} {st : List Value} {h : eH} {as rs : List Value} (hn : ¬ (st.length < n)) (q : eArgs P kd kind k n st h = some (as, rs)) :
    st = as.reverse ++ rs ∧ rs = st.drop n ∧ as.length = n ∧ kd = kind ∧ (kind = 0 ∨ (kind = 1 ∧ ∃ a as' fs, as = .ref a :: as' ∧ ¬ a = 0 ∧ h.1 a = some (.inr (eOwn P k, fs))) ∨ (kind = 2 ∧ ∃ a as', as = .ref a :: as')) := by
  have key : ∀ {as rs : List Value}, (st.take n).reverse = as → st.drop n = rs → st = as.reverse ++ rs ∧ rs = st.drop n ∧ as.length = n := fun h1 h2 => by
    subst h1; subst h2
    exact ⟨by simp, rfl, by simp; omega⟩
  unfold eArgs at q
  split at q
  · cases q
  · rename_i hk
    have hk : kd = kind := Decidable.of_not_not hk
    split at q
    · cases q
      obtain ⟨h1, h2, h3⟩ := key rfl rfl
      exact ⟨h1, h2, h3, hk, Or.inl rfl⟩
    · split at q
      · rename_i a as' hz
        split at q
        · rename_i c fs hc
          split at q
          · cases q
          · rename_i hq
            cases q
            obtain ⟨h1, h2, h3⟩ := key rfl rfl
            have h4 : c = eOwn P k := Decidable.of_not_not fun z => hq (Or.inr z)
            subst h4
            exact ⟨h1, h2, h3, hk, Or.inr (Or.inl ⟨rfl, a, as', fs, hz, fun z => hq (Or.inl z), hc⟩)⟩
        · cases q
      · cases q
    · split at q
      · rename_i a as' hz
        cases q
        obtain ⟨h1, h2, h3⟩ := key rfl rfl
        exact ⟨h1, h2, h3, hk, Or.inr (Or.inr ⟨rfl, a, as', hz⟩)⟩
      · cases q
    · cases q
section ES6
variable {p : Program} {l : Launch} {e : Env} {R : Room} {s : State} {m : MethodId} {args : Array Value} {below : List Frame} {meth : Method} {c : Code} {H : Heap} {locs : List Loc} {cells slots : Nat} {Q : State → Prop}
variable {P : eP} {N : eW} {G : eG} {X : Nat × (Nat → Int32)} {k pc c0 s0 : Nat} {ls : Array Slot} {lo : eLo} {st : List Value} {h : eH} {x : eS}
theorem es_init {ix k0 na a : Nat} {rs : List Value} (cx : eCx P N G X p s m args meth c k) (gm : gMth P N) (hm : P.mth (eOwn P k) ix = some (3, k0, na)) (hd : decode (N.cd k) pc = .ok (.invokespecial ix, 3)) (hrs : eCat ((Value.ref a :: rs).drop na) ≤ 8) (b : eBa P G s k c0 s0 lo h H locs cells slots ls) (hfr : 12 ≤ R.frames ∧ 700 ≤ R.locals)
    (kk : eNext P G p l e R s m args below meth c Q k c0 s0 (pc + 3, lo, rs, h)) : W p l e R s m args below meth c H locs cells slots Q (F0 m pc ls (.ref (eAd G a) :: rs.map (eVal G))) := by
  obtain ⟨rfl, h1, h2, h3⟩ := (gm _ _ _ _ _ hm).2.2.2.2.2.1 rfl
  have hts := cx.2.2.2.2.1
  have hrs' : eCat rs ≤ 8 := hrs
  refine W.objInit cx.1 cx.2.1 cx.2.2.2.1 (hts _ h1) (hts _ h2) (hts _ h3) rfl (b.1.2.1.trans cx.2.2.1.symm) rfl hd (by omega) ?_ (kk _ _ _ _ _ b)
  have := e_cat (G := G) hrs'
  show 2 * 0 + _ + 12 ≤ _
  omega
theorem es_min {ix k0 na : Nat} {y z : Int32} {rs : List Value} (cx : eCx P N G X p s m args meth c k) (gm : gMth P N) (hm : P.mth (eOwn P k) ix = some (5, k0, na)) (hd : decode (N.cd k) pc = .ok (.invokestatic ix, 3)) (hrs : eCat ((Value.int z :: Value.int y :: rs).drop na) ≤ 8) (b : eBa P G s k c0 s0 lo h H locs cells slots ls) (hfr : 12 ≤ R.frames ∧ 700 ≤ R.locals) (hc : h.2.1 ≤ R.cells + c0) (hs : h.2.2 ≤ R.slots + s0)
    (kk : eNext P G p l e R s m args below meth c Q k c0 s0 (pc + 3, lo, .int (if z < y then z else y) :: rs, h)) : W p l e R s m args below meth c H locs cells slots Q (F0 m pc ls (.int z :: .int y :: rs.map (eVal G))) := by
  obtain ⟨rfl, h1, h2, h3, h4⟩ := (gm _ _ _ _ _ hm).2.2.2.2.2.2.1 rfl
  have hts := cx.2.2.2.2.1
  have b4 := b.2.2.2.1
  have b5 := b.2.2.2.2
  have hrs' : eCat rs ≤ 8 := hrs
  have := e_cat (G := G) hrs'
  exact va_mmin cx.1 cx.2.1 (cx.2.2.1.trans b.1.2.1.symm) cx.2.2.2.1 (hts _ h1) (hts _ h2) (hts _ h3) (hts _ h4) (by omega) (by omega) (by omega) (by omega) hd (kk _ _ _ _ _ b)
theorem e_copy_one {ix k0 na : Nat} {sp dp n : Int32} {a d : Nat} {rs : List Value} {t na0 nd : Nat} {α : Type} {mk : α → Value} {f g : Nat → α} {ty : FieldType} {wrap : (Nat → α) → (Nat → Int32) ⊕ ((Nat → Int64) ⊕ (Nat → Option Nat))}
    (hcell : ∀ j (f : Nat → α) (z : Nat) (H : Heap), va_at G.D G.cl (z, eCo G (.inl (t, j, wrap f))) H ↔ H[z]? = some (arrV (G.ca t) j fun i => mk (f i)))
    (cx : eCx P N G X p s m args meth c k) (gm : gMth P N) (hty : N.ty[t]? = some ty) (hprim : refKind ty = false) (hfit : ∀ z, fits ty (mk z) = true) (hmk : ∀ z w, mk z ≠ .ref w) (hm : P.mth (eOwn P k) ix = some (6, k0, na)) (hd : decode (N.cd k) pc = .ok (.invokestatic ix, 3)) (hrs : eCat rs ≤ 8)
    (b : eBa P G s k c0 s0 lo h H locs cells slots ls) (hfr : 12 ≤ R.frames ∧ 700 ≤ R.locals) (ha : ¬ a = 0) (hd0 : ¬ d = 0) (ca : h.1 a = some (.inl (t, na0, wrap f))) (cd : h.1 d = some (.inl (t, nd, wrap g))) (h1 : ¬ sp < 0) (h2 : ¬ dp < 0) (h3 : ¬ n < 0) (h4 : sp.toNatClampNeg + n.toNatClampNeg ≤ na0) (h5 : dp.toNatClampNeg + n.toNatClampNeg ≤ nd)
    (kk : eNext P G p l e R s m args below meth c Q k c0 s0 (pc + 3, lo, rs, eSetH h d (.inl (t, nd, wrap (eCpy f g sp.toNatClampNeg dp.toNatClampNeg n.toNatClampNeg))))) :
    W p l e R s m args below meth c H locs cells slots Q (F0 m pc ls (.int n :: .int dp :: .ref (eAd G d) :: .int sp :: .ref (eAd G a) :: rs.map (eVal G))) := by
  obtain ⟨-, w1, w2, w3, w4⟩ := (gm _ _ _ _ _ hm).2.2.2.2.2.2.2 rfl
  have hts := cx.2.2.2.2.1
  have hK := cx.2.2.2.2.2.1
  have nn : ∀ z : Int32, ¬ z < 0 → z.toInt = (z.toNatClampNeg : Int) := by
    intro z hz
    have hz0 : (0 : Int) ≤ z.toInt := by
      have := Int32.not_lt.mp hz
      simpa using Int32.le_iff_toInt_le.mp this
    show z.toInt = ((z.toInt.toNat : Nat) : Int)
    omega
  intro T hT X0
  have hc0 : H[eAd G a]? = some (arrV (G.ca t) na0 fun i => mk (f i)) := (hcell _ _ _ _).mp (b.2.1.at ha ca)
  have hc1 : H[eAd G d]? = some (arrV (G.ca t) nd fun i => mk (g i)) := (hcell _ _ _ _).mp (b.2.1.at hd0 cd)
  obtain ⟨-, kk0, hk0, cm0, hkk0⟩ := (hK.2 t _ (eTy_at hty)).1 na0 (fun i => mk (f i))
  obtain ⟨-, kk1, hk1, cm1, hkk1⟩ := (hK.2 t _ (eTy_at hty)).1 nd (fun i => mk (g i))
  obtain ⟨vm', X', step⟩ := X0.arraycopy cx.1 cx.2.2.2.1 (hts _ w1) (hts _ w2) (hts _ w3) (hts _ w4) (src := eAd G a) (dst := eAd G d) (cs := arrV (G.ca t) na0 fun i => mk (f i)) (cd := arrV (G.ca t) nd fun i => mk (g i)) (srcPos := sp) (destPos := dp) (n := n) (by rw [hT]; exact hc0) (by rw [hT]; exact hc1)
    (fun _ h => by cases h) (fun _ h => by cases h) (fun h => by cases h) (fun h => by cases h) hk0 hk1 hkk0 hkk1 (by simp [hprim]) h1 h2 h3
    (by rw [nn sp h1, nn n h3, arrV_size]; omega)
    (by rw [nn dp h2, nn n h3, arrV_size]; omega)
    (fun vm₁ _ i hi => by
      have e : (arrV (G.ca t) na0 fun i => mk (f i)).slots.getD (sp.toNatClampNeg + i) .null = mk (f (sp.toNatClampNeg + i)) := by
        rw [Array.getD_eq_getD_getElem?, arrV_read _ _ (by omega)]
        rfl
      rw [e]
      refine ⟨hfit _, ?_⟩
      cases hq : mk (f (sp.toNatClampNeg + i)) <;> first | exact trivial | exact absurd hq (hmk _ _))
    (g := F0 m pc ls (.int n :: .int dp :: .ref (eAd G d) :: .int sp :: .ref (eAd G a) :: rs.map (eVal G))) rfl (b.1.2.1.trans cx.2.2.1.symm) (rest := rs.map (eVal G)) rfl (by rw [cx.2.1]; exact hd) (by omega) (by
      have := e_cat (G := G) hrs
      have hw : nativeFrameWords "java/lang/System" "arraycopy" 5 ≤ 100 := by decide +kernel
      show 2 * 0 + _ + _ ≤ _
      omega)
  have e1 : copied (arrV (G.ca t) na0 fun i => mk (f i)) (arrV (G.ca t) nd fun i => mk (g i)) sp dp n = arrV (G.ca t) nd fun i => mk (va_cpy f g sp.toNatClampNeg dp.toNatClampNeg n.toNatClampNeg i) := va_copied mk (G.ca t) (G.ca t) f g h4
  rw [e1] at X' step
  have hl : eAd G d < H.size := (Array.getElem?_eq_some_iff.mp hc1).1
  have hz : ∀ locs1 : List Loc, (∀ q ∈ locs1, eA0 G q.base) → W p l e R s m args below meth c (H.setIfInBounds (eAd G d) (arrV (G.ca t) nd fun i => mk (va_cpy f g sp.toNatClampNeg dp.toNatClampNeg n.toNatClampNeg i))) locs1 cells slots Q (F0 m (pc + 3) ls (rs.map (eVal G))) := fun locs1 hl1 =>
    kk _ locs1 cells slots ls ⟨b.1, b.2.1.set hd0 cd (by simp) (fun q hq => by simp [Array.getElem?_setIfInBounds, Ne.symm hq]) ((hcell _ _ _ _).mpr (by simp [Array.getElem?_setIfInBounds, hl]; rfl)),
    ⟨by simp; exact b.2.2.1.1, fun q g1 g2 => by
      have hq : q ≠ eAd G d := fun z => g2 (by rw [z]; exact eA0_ad hd0)
      simp only [Array.getElem?_setIfInBounds, if_neg (Ne.symm hq)]
      exact b.2.2.1.2.1 q g1 g2, hl1⟩, b.2.2.2⟩
  obtain ⟨t2, a1, b1⟩ := hz _ (by
    intro q hq
    rcases List.mem_append.mp hq with h | h
    · exact b.2.2.1.2.2 q h
    · obtain ⟨z, -, hz⟩ := List.mem_map.mp h
      rw [← hz]
      exact eA0_ad hd0) _ (by rw [← hT]; rfl) X'
  exact ⟨t2, step t2 a1, b1⟩
end ES6

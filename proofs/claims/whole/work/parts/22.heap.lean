theorem eA0_ad {G : eG} {a : Nat} (ha : ¬ a = 0) : eA0 G (eAd G a) := by
  rw [eAd_pos ha]
  show G.B < G.B + a
  omega
theorem e_upd {α : Type} (g : α → Value) (f : Nat → α) (i : Nat) (x : α) : updV (fun j => g (f j)) i (g x) = fun j => g (eUp f i x j) := by
  funext q
  by_cases hq : q = i <;> simp [updV, eUp, hq]
theorem eFit_ok {G : eG} {ty : FieldType} {v : Value} (h : eFit ty v = true) : narrow ty (eVal G v) = eVal G v ∧ fits ty (eVal G v) = true := by
  unfold eFit at h
  split at h
  · exact ⟨rfl, rfl⟩
  · exact ⟨rfl, rfl⟩
  · rename_i y
    rcases Bool.or_eq_true_iff.mp h with q | q
    · have q' : y = 0 := by simpa using q
      subst q'
      exact ⟨rfl, rfl⟩
    · have q' : y = 1 := by simpa using q
      subst q'
      exact ⟨rfl, rfl⟩
  · exact ⟨rfl, rfl⟩
  · exact ⟨rfl, rfl⟩
  · exact ⟨rfl, rfl⟩
  · exact ⟨rfl, rfl⟩
  · cases h
def gTy (P : eP) (N : eW) : Prop := N.ty[0]? = some .int ∧ N.ty[1]? = some .long ∧ N.ty[2]? = some .char ∧ ∀ t c, P.elt t = some c → N.ty[t]? = some (.object (N.cn c))
def gCl (N : eW) (cl : List vw_C) : Prop := ∀ c r, cl[c]? = some r → r.1 = N.cn c
def gNew (P : eP) (N : eW) (cl : List vw_C) : Prop := (Cond.arrayClass .int ∈ lw_gd ∧ Cond.arrayClass .long ∈ lw_gd ∧ Cond.arrayClass .char ∈ lw_gd) ∧
  (∀ o ix t C, P.arr o ix = some t → N.ty[t]? = some (.object C) → Cond.classLink (N.cn o) ix C ∈ lw_gd) ∧
  ∀ o ix c, P.cls o ix = some c → ∃ (C : String) (T : u_T) (n : Nat) (ty0 : Nat → FieldType), cl[c]? = some (C, T, n) ∧ Cond.classLink (N.cn o) ix C ∈ lw_gd ∧ Cond.instantiable C (P.bla c).2 ∈ lw_gd ∧ Cond.initialized C ∈ lw_gd ∧
    (∀ w ∈ u_ws C T n, w ∈ lw_gd) ∧ (∀ k, k < n → parseFieldDescriptor (T k).2.2.1 = some (ty0 k)) ∧ (∀ k, k < n → defaultValue (ty0 k) = vp_V (P.bla c).1 k) ∧ ∀ v ∈ (P.bla c).1, v = .int 0 ∨ v = .long 0 ∨ v = .null
section ES3
variable {p : Program} {l : Launch} {e : Env} {R : Room} {s : State} {m : MethodId} {args : Array Value} {below : List Frame} {meth : Method} {c : Code} {H : Heap} {locs : List Loc} {cells slots : Nat} {Q : State → Prop}
variable {P : eP} {N : eW} {G : eG} {X : Nat × (Nat → Int32)} {k pc c0 s0 : Nat} {ls : Array Slot} {lo : eLo} {st : List Value} {h : eH} {x : eS}
theorem e_single {a : Nat} {y : eE} (b : eRel G h H) (ha : ¬ a = 0) (hc : h.1 a = some y) : va_P G.D G.cl [(eAd G a, eCo G y)] H := fun q z hz => by
  cases q with
  | zero => cases hz; exact b.at ha hc
  | succ q => cases hz
theorem e_in {i : Int32} {n : Nat} {cA : ClassId} {f : Nat → Value} (h : ¬ (i < 0 ∨ n ≤ i.toNatClampNeg)) : ¬ (i < 0 ∨ (arrV cA n f).slots.size ≤ i.toNatClampNeg) := by
  rw [arrV_size]
  exact h
theorem eBa.set {a : Nat} {y0 y : eE} {H1 : Heap} {i : Nat} (b : eBa P G s k c0 s0 lo h H locs cells slots ls) (ha : ¬ a = 0) (hx : h.1 a = some y0) (hz : H1.size = H.size) (ho : ∀ z, z ≠ eAd G a → H1[z]? = H[z]?) (hat : va_at G.D G.cl (eAd G a, eCo G y) H1) :
    eBa P G s k c0 s0 lo (eSetH h a y) H1 (locs ++ [⟨eAd G a, i⟩]) cells slots ls :=
  ⟨b.1, b.2.1.set ha hx hz ho hat, b.2.2.1.put hz ho (eA0_ad ha), b.2.2.2.1, b.2.2.2.2⟩
theorem eBa.new {y : eE} {H1 : Heap} {n : Nat} (b : eBa P G s k c0 s0 lo h H locs cells slots ls) (hz : H1.size = H.size + 1) (ho : ∀ z, z < H.size → H1[z]? = H[z]?) (hat : va_at G.D G.cl (H.size, eCo G y) H1) :
    eBa P G s k c0 s0 lo (eNew h y n) H1 locs (cells + 1) (slots + n) ls :=
  ⟨b.1, b.2.1.new y n hz ho hat, eS_new b.2.2.1 hz ho, by show cells + 1 + c0 = h.2.1 + 1; have := b.2.2.2.1; omega, by show slots + n + s0 = h.2.2 + n; have := b.2.2.2.2; omega⟩
theorem es_putfield {ix : Nat} (cx : eCx P N G X p s m args meth c k) (gf : gFld P N G.cl) (hd : decode (N.cd k) pc = .ok (.putfield ix, 3)) (hi : eIns P X k (.putfield ix) pc lo st h = some x) (b : eBa P G s k c0 s0 lo h H locs cells slots ls) :
    eGoal P G p l e R s m args below meth c H locs cells slots Q k c0 s0 pc ls st h x := by
  simp only [eIns] at hi
  unfold ePf at hi
  split at hi
  · rename_i v a r
    split at hi
    · rename_i c1 j ty fin hf
      obtain ⟨C, T, n, ty0, hcl, hj, hC, hT, hlk, hin, hfin, hpd, hty, hnm⟩ := gf _ _ _ _ _ _ hf
      split at hi
      · rename_i c2 fs hcell
        obtain ⟨hq, h2⟩ := eIf_then hi
        obtain rfl := eN_inj h2
        have h1 : ¬ a = 0 := fun z => hq (Or.inl z)
        have h3 : c2 = c1 := Decidable.of_not_not fun z => hq (Or.inr (Or.inl z))
        have h4 : eFit ty v = true := by
          cases hz : eFit ty v with
          | true => rfl
          | false => exact absurd (Or.inr (Or.inr (Or.inl hz))) hq
        have h5 : j < fs.length := Nat.not_le.mp fun z => hq (Or.inr (Or.inr (Or.inr (Or.inl z))))
        have h6 : (fin && !(P.ini k && eOwn P k == c1)) = false := by
          cases hz : (fin && !(P.ini k && eOwn P k == c1)) with
          | false => rfl
          | true => exact absurd (Or.inr (Or.inr (Or.inr (Or.inr hz)))) hq
        subst h3
        refine ⟨⟨Nat.le_refl _, Nat.le_refl _⟩, fun _ _ _ _ kk => ?_⟩
        have hts := cx.2.2.2.2.1
        have hK := cx.2.2.2.2.2.1
        have hown := cx.2.2.2.1
        have hap := va_apart (own := N.cn (eOwn P k)) hts hin ty0 hty hnm hK hcl
        obtain ⟨r', h1', cell, q1, q2, q3, q4⟩ := b.2.1.at h1 hcell
        have hr : r' = (C, T, n) := Option.some.inj (h1'.symm.trans hcl)
        subst hr
        obtain ⟨hS', hfc, kC, hkC, hkind⟩ := hK.1 c2 _ hcl
        obtain ⟨cf, kf, fi, f, hff, hsl⟩ := hS' j hj
        have hi' : s.fieldFound? C (T j).2.1 (T j).2.2.1 = some (cf, kf, fi, f) := by rw [hT] at hff; exact hff
        have hlay := hts _ (hin _ (u_in_lay hj))
        have hst := (u_facts hfc hkC (u_lays hts hin hj) hff).1
        obtain ⟨hn, hfit⟩ := eFit_ok (G := G) h4
        have hlast : ∀ H1 : Heap, H1[eAd G a]? = some (cell.setSlot (G.D.2 c2 j) (eVal G v)) → va_at G.D G.cl (eAd G a, eCo G (.inr (c2, fs.set j v))) H1 := fun H1 e1 =>
          ⟨_, hcl, t_OB.to (V := updV (vp_V (fs.map (eVal G))) j (eVal G v)) ⟨_, e1, q2, q3, t_set q4 hap hj (eVal G v)⟩ (fun i _ => by
            show _ = vp_V ((fs.set j v).map (eVal G)) i
            rw [List.map_set]
            exact vp_updV_set (by simpa using h5) (eVal G v) i)⟩
        unfold u_lay at hlay
        cases fin with
        | false =>
          rw [if_neg (by rw [hfin]; decide)] at hlay
          have h7 := u_store hfc hkC hkind hlay hff hpd hn hfit
          refine W.putK cx.1 cx.2.1 (f := f) ⟨hown, hts _ hlk, ⟨_, _, _, hi'⟩, hst⟩ (by rw [q2]; exact h7) q1 q3 (by rw [hsl]; exact k2_hasslot (q4 j hj)) rfl rfl hd fun H1 e1 e2 e3 => ?_
          rw [hsl] at e1 ⊢
          exact kk H1 _ cells slots ls (b.set h1 hcell e2 e3 (hlast H1 e1))
        | true =>
          rw [if_pos hfin] at hlay
          have h8 : P.ini k = true ∧ eOwn P k = c2 := by simpa using h6
          have hcf : m.cls = cf := by
            obtain ⟨_, _, c', _, _, _, -, -, hf', -, -, -, hown2, -⟩ := Cond.laysFinal_spec hlay
            have e1 : c' = cf := by have := hff.symm.trans hf'; simp at this; exact this.1.symm
            rw [hT, hC, ← h8.2] at hown2
            rw [← e1]
            exact Option.some.inj (hown.symm.trans hown2)
          have h7 := u_fits hfc hkC hkind (Or.inr hlay) hff hpd hn hfit
          refine W.putFinK cx.1 cx.2.1 hown (hts _ hlk) hi' hst hcf (cx.2.2.2.2.2.2.2.2.1 h8.1) (by rw [q2]; exact h7) q1 q3 (by rw [hsl]; exact k2_hasslot (q4 j hj)) rfl rfl hd fun H1 e1 e2 e3 => ?_
          rw [hsl] at e1 ⊢
          exact kk H1 _ cells slots ls (b.set h1 hcell e2 e3 (hlast H1 e1))
      · cases hi
    · cases hi
  · cases hi
theorem es_iaload (cx : eCx P N G X p s m args meth c k) (gt : gTy P N) (hd : decode (N.cd k) pc = .ok (.iaload, 1)) (hi : eIns P X k (.iaload) pc lo st h = some x) (b : eBa P G s k c0 s0 lo h H locs cells slots ls) :
    eGoal P G p l e R s m args below meth c H locs cells slots Q k c0 s0 pc ls st h x := by
  obtain ⟨a, i, r, rfl, h2⟩ := eIA_some hi
  cases a with
  | zero =>
    obtain ⟨hq, h2⟩ := eIf_else h2
    obtain ⟨h3, h2⟩ := eIn_some h2
    obtain rfl := eN_inj h2
    exact ⟨⟨Nat.le_refl _, Nat.le_refl _⟩, fun _ _ _ _ kk => va_sld cx.1 cx.2.1 cx.2.2.2.2.2.2.1.1 (Nat.lt_of_le_of_lt cx.2.2.2.2.2.2.1.2.1 cx.2.2.2.2.2.2.1.2.2) (Nat.not_lt.mpr cx.2.2.2.2.2.2.1.2.1) b.2.2.1 h3 hd (kk _ _ _ _ _ b)⟩
  | succ a =>
    simp only at h2
    split at h2
    · rename_i t' n f hcell
      obtain ⟨hq, h2⟩ := eIf_else h2
      obtain ⟨h3, h2⟩ := eIn_some h2
      obtain rfl := eN_inj h2
      subst hq
      have ha : ¬ a + 1 = 0 := by omega
      exact ⟨⟨Nat.le_refl _, Nat.le_refl _⟩, fun _ _ _ _ kk => va_iald cx.1 cx.2.1 cx.2.2.2.2.2.1 (e_single b.2.1 ha hcell) 0 0 rfl (eTy_at gt.1) h3 hd (kk _ _ _ _ _ b)⟩
    · cases h2
theorem es_caload (cx : eCx P N G X p s m args meth c k) (gt : gTy P N) (hd : decode (N.cd k) pc = .ok (.caload, 1)) (hi : eIns P X k (.caload) pc lo st h = some x) (b : eBa P G s k c0 s0 lo h H locs cells slots ls) :
    eGoal P G p l e R s m args below meth c H locs cells slots Q k c0 s0 pc ls st h x := by
  obtain ⟨a, i, r, rfl, h2⟩ := eIA_some hi
  cases a with
  | zero =>
    exact absurd (eIf_else h2).1 (by decide)
  | succ a =>
    simp only at h2
    split at h2
    · rename_i t' n f hcell
      obtain ⟨hq, h2⟩ := eIf_else h2
      obtain ⟨h3, h2⟩ := eIn_some h2
      obtain rfl := eN_inj h2
      subst hq
      have ha : ¬ a + 1 = 0 := by omega
      exact ⟨⟨Nat.le_refl _, Nat.le_refl _⟩, fun _ _ _ _ kk => va_cald cx.1 cx.2.1 cx.2.2.2.2.2.1 (e_single b.2.1 ha hcell) 0 2 rfl (eTy_at gt.2.2.1) h3 hd (kk _ _ _ _ _ b)⟩
    · cases h2
theorem es_laload (cx : eCx P N G X p s m args meth c k) (gt : gTy P N) (hd : decode (N.cd k) pc = .ok (.laload, 1)) (hi : eIns P X k (.laload) pc lo st h = some x) (b : eBa P G s k c0 s0 lo h H locs cells slots ls) :
    eGoal P G p l e R s m args below meth c H locs cells slots Q k c0 s0 pc ls st h x := by
  obtain ⟨a, i, r, rfl, h2⟩ := eIA_some hi
  simp only at h2
  split at h2
  · rename_i n f hcell
    obtain ⟨ha, h2⟩ := eIf_then h2
    obtain ⟨h3, h2⟩ := eIn_some h2
    obtain rfl := eN_inj h2
    exact ⟨⟨Nat.le_refl _, Nat.le_refl _⟩, fun _ _ _ _ kk => va_lald cx.1 cx.2.1 cx.2.2.2.2.2.1 (e_single b.2.1 ha hcell) 0 1 rfl (eTy_at gt.2.1) h3 hd (kk _ _ _ _ _ b)⟩
  · cases h2
theorem es_aaload (cx : eCx P N G X p s m args meth c k) (gt : gTy P N) (hd : decode (N.cd k) pc = .ok (.aaload, 1)) (hi : eIns P X k (.aaload) pc lo st h = some x) (b : eBa P G s k c0 s0 lo h H locs cells slots ls) :
    eGoal P G p l e R s m args below meth c H locs cells slots Q k c0 s0 pc ls st h x := by
  obtain ⟨a, i, r, rfl, h2⟩ := eIA_some hi
  simp only at h2
  split at h2
  · rename_i t n f hcell
    obtain ⟨hq, h2⟩ := eIf_then h2
    obtain ⟨h3, h2⟩ := eIn_some h2
    obtain rfl := eN_inj h2
    have ha : ¬ a = 0 := fun z => hq (Or.inl z)
    cases hel : P.elt t with
    | none => exact absurd (Or.inr hel) hq
    | some cc =>
      refine ⟨⟨Nat.le_refl _, Nat.le_refl _⟩, fun _ _ _ _ kk => ?_⟩
      have z : W p l e R s m args below meth c H locs cells slots Q (F0 m (pc + 1) ls (eVal G (eRf (f i.toNatClampNeg)) :: r.map (eVal G))) := kk _ _ _ _ _ b
      rw [eVal_rf] at z
      exact va_aldq cx.1 cx.2.1 cx.2.2.2.2.2.1 (e_single b.2.1 ha hcell) 0 t rfl (eTy_at (gt.2.2.2 t cc hel)) h3 hd z
  · cases h2
theorem es_iastore (cx : eCx P N G X p s m args meth c k) (gt : gTy P N) (hd : decode (N.cd k) pc = .ok (.iastore, 1)) (hi : eIns P X k (.iastore) pc lo st h = some x) (b : eBa P G s k c0 s0 lo h H locs cells slots ls) :
    eGoal P G p l e R s m args below meth c H locs cells slots Q k c0 s0 pc ls st h x := by
  simp only [eIns] at hi
  unfold eStI at hi
  split at hi
  · rename_i y i a r
    split at hi
    · rename_i t' n f hcell
      obtain ⟨hq, h2⟩ := eIf_then hi
      obtain ⟨h3, h2⟩ := eIn_some h2
      obtain rfl := eN_inj h2
      have ha : ¬ a = 0 := fun z => hq (Or.inl z)
      have ht : t' = 0 := Decidable.of_not_not fun z => hq (Or.inr z)
      subst ht
      refine ⟨⟨Nat.le_refl _, Nat.le_refl _⟩, fun _ _ _ _ kk => ?_⟩
      refine W.iast cx.1 cx.2.1 (b.2.1.at ha hcell) ((cx.2.2.2.2.2.1.2 0 _ (eTy_at gt.1)).1 n (fun j => .int (f j))) (fun q => by cases q) (e_in h3) rfl rfl hd fun H1 e1 e2 e3 => ?_
      refine kk H1 _ cells slots ls (b.set ha hcell e2 e3 ?_)
      show H1[_]? = some (arrV (G.ca 0) n fun j => .int (eUp f i.toNatClampNeg y j))
      rw [← e_upd (fun z => Value.int z), ← arrV_store]
      exact e1
    · cases hi
  · cases hi
theorem es_castore (cx : eCx P N G X p s m args meth c k) (gt : gTy P N) (hd : decode (N.cd k) pc = .ok (.castore, 1)) (hi : eIns P X k (.castore) pc lo st h = some x) (b : eBa P G s k c0 s0 lo h H locs cells slots ls) :
    eGoal P G p l e R s m args below meth c H locs cells slots Q k c0 s0 pc ls st h x := by
  simp only [eIns] at hi
  unfold eStI at hi
  split at hi
  · rename_i y i a r
    split at hi
    · rename_i t' n f hcell
      obtain ⟨hq, h2⟩ := eIf_then hi
      obtain ⟨h3, h2⟩ := eIn_some h2
      obtain rfl := eN_inj h2
      have ha : ¬ a = 0 := fun z => hq (Or.inl z)
      have ht : t' = 2 := Decidable.of_not_not fun z => hq (Or.inr z)
      subst ht
      refine ⟨⟨Nat.le_refl _, Nat.le_refl _⟩, fun _ _ _ _ kk => ?_⟩
      refine W.cast cx.1 cx.2.1 (b.2.1.at ha hcell) ((cx.2.2.2.2.2.1.2 2 _ (eTy_at gt.2.2.1)).1 n (fun j => .int (f j))) (fun q => by cases q) (e_in h3) rfl rfl hd fun H1 e1 e2 e3 => ?_
      refine kk H1 _ cells slots ls (b.set ha hcell e2 e3 ?_)
      show H1[_]? = some (arrV (G.ca 2) n fun j => .int (eUp f i.toNatClampNeg (vp_nar .char y) j))
      rw [← e_upd (fun z => Value.int z), ← arrV_store]
      exact e1
    · cases hi
  · cases hi
theorem es_lastore (cx : eCx P N G X p s m args meth c k) (gt : gTy P N) (hd : decode (N.cd k) pc = .ok (.lastore, 1)) (hi : eIns P X k (.lastore) pc lo st h = some x) (b : eBa P G s k c0 s0 lo h H locs cells slots ls) :
    eGoal P G p l e R s m args below meth c H locs cells slots Q k c0 s0 pc ls st h x := by
  simp only [eIns] at hi
  unfold eStJ at hi
  split at hi
  · rename_i y i a r
    split at hi
    · rename_i n f hcell
      obtain ⟨ha, h2⟩ := eIf_then hi
      obtain ⟨h3, h2⟩ := eIn_some h2
      obtain rfl := eN_inj h2
      refine ⟨⟨Nat.le_refl _, Nat.le_refl _⟩, fun _ _ _ _ kk => ?_⟩
      refine W.last cx.1 cx.2.1 (b.2.1.at ha hcell) ((cx.2.2.2.2.2.1.2 1 _ (eTy_at gt.2.1)).1 n (fun j => .long (f j))) (fun q => by cases q) (e_in h3) rfl rfl hd fun H1 e1 e2 e3 => ?_
      refine kk H1 _ cells slots ls (b.set ha hcell e2 e3 ?_)
      show H1[_]? = some (arrV (G.ca 1) n fun j => .long (eUp f i.toNatClampNeg y j))
      rw [← e_upd (fun z => Value.long z), ← arrV_store]
      exact e1
    · cases hi
  · cases hi
theorem es_aastore (cx : eCx P N G X p s m args meth c k) (gt : gTy P N) (gl : gCl N G.cl) (hd : decode (N.cd k) pc = .ok (.aastore, 1)) (hi : eIns P X k (.aastore) pc lo st h = some x) (b : eBa P G s k c0 s0 lo h H locs cells slots ls) :
    eGoal P G p l e R s m args below meth c H locs cells slots Q k c0 s0 pc ls st h x := by
  simp only [eIns] at hi
  unfold eStA at hi
  split at hi
  · rename_i v i a r
    split at hi
    · rename_i t n f hcell
      split at hi
      · rename_i cv fs hv
        obtain ⟨hq, h2⟩ := eIf_then hi
        obtain ⟨h3, h2⟩ := eIn_some h2
        obtain rfl := eN_inj h2
        have ha : ¬ a = 0 := fun z => hq (Or.inl z)
        have hv0 : ¬ v = 0 := fun z => hq (Or.inr (Or.inl z))
        have hel : P.elt t = some cv := Decidable.of_not_not fun z => hq (Or.inr (Or.inr z))
        refine ⟨⟨Nat.le_refl _, Nat.le_refl _⟩, fun _ _ _ _ kk => ?_⟩
        have hK := cx.2.2.2.2.2.1
        obtain ⟨r', hr', cellV, g1, g2, g3, -⟩ := b.2.1.at hv0 hv
        have hcls := (hK.1 cv r' hr').2
        rw [gl cv r' hr'] at hcls
        obtain ⟨kA, comp, k1, k2, k3, -⟩ := (hK.2 t _ (eTy_at (gt.2.2.2 t cv hel))).2
        have hcomp : comp = G.D.1 cv := Option.some.inj (k3.symm.trans hcls.1)
        subst hcomp
        obtain ⟨kC, hkC, -⟩ := hcls.2
        have hlt : i.toNatClampNeg < n := Nat.not_le.mp fun z => h3 (Or.inr z)
        refine W.aast cx.1 cx.2.1 (b.2.1.at ha hcell) (fun q h => by cases h) (fun h => by cases h) k1 k2 rfl hkC ⟨fun z => h3 (Or.inl z), by show _ < (arrV _ _ _).slots.size; rw [arrV_size]; exact hlt⟩ g1 (fun q h => by rw [g3] at h; cases h) (by rw [g2]; exact hkC) (by rw [g2]; exact va_assign hcls) rfl rfl hd fun H1 e1 e2 e3 => ?_
        refine kk H1 _ cells slots ls (b.set ha hcell e2 e3 ?_)
        show H1[_]? = some (arrV (G.ca t) n fun j => va_rf ((eUp f i.toNatClampNeg (some v) j).map (eAd G)))
        rw [← e_upd (fun z : Option Nat => va_rf (z.map (eAd G))), ← arrV_store]
        exact e1
      · cases hi
    · cases hi
  · rename_i i a r
    split at hi
    · rename_i t n f hcell
      obtain ⟨hq, h2⟩ := eIf_then hi
      obtain ⟨h3, h2⟩ := eIn_some h2
      obtain rfl := eN_inj h2
      have ha : ¬ a = 0 := fun z => hq (Or.inl z)
      cases hel : P.elt t with
      | none => exact absurd (Or.inr hel) hq
      | some cv =>
        refine ⟨⟨Nat.le_refl _, Nat.le_refl _⟩, fun _ _ _ _ kk => ?_⟩
        refine va_WaastN cx.1 cx.2.1 (b.2.1.at ha hcell) ((cx.2.2.2.2.2.1.2 t _ (eTy_at (gt.2.2.2 t cv hel))).1 n (fun j => va_rf ((f j).map (eAd G)))) (fun q => by cases q) (e_in h3) rfl rfl hd fun H1 e1 e2 e3 => ?_
        refine kk H1 _ cells slots ls (b.set ha hcell e2 e3 ?_)
        show H1[_]? = some (arrV (G.ca t) n fun j => va_rf ((eUp f i.toNatClampNeg none j).map (eAd G)))
        rw [← e_upd (fun z : Option Nat => va_rf (z.map (eAd G))), ← arrV_store]
        exact e1
    · cases hi
  · cases hi
theorem es_arraylength (cx : eCx P N G X p s m args meth c k) (hd : decode (N.cd k) pc = .ok (.arraylength, 1)) (hi : eIns P X k (.arraylength) pc lo st h = some x) (b : eBa P G s k c0 s0 lo h H locs cells slots ls) :
    eGoal P G p l e R s m args below meth c H locs cells slots Q k c0 s0 pc ls st h x := by
  obtain ⟨a, r, rfl, h2⟩ := eR1_some hi
  cases a with
  | zero =>
    obtain rfl := eN_inj h2
    exact ⟨⟨Nat.le_refl _, Nat.le_refl _⟩, fun _ _ _ _ kk => va_slen cx.1 cx.2.1 cx.2.2.2.2.2.2.1.1 (Nat.lt_of_le_of_lt cx.2.2.2.2.2.2.1.2.1 cx.2.2.2.2.2.2.1.2.2) (Nat.not_lt.mpr cx.2.2.2.2.2.2.1.2.1) b.2.2.1 hd (kk _ _ _ _ _ b)⟩
  | succ a => cases h2
theorem es_newarray_int (cx : eCx P N G X p s m args meth c k) (gt : gTy P N) (gn : gNew P N G.cl) (hd : decode (N.cd k) pc = .ok (.newarray .int, 2)) (hi : eIns P X k (.newarray .int) pc lo st h = some x) (b : eBa P G s k c0 s0 lo h H locs cells slots ls) :
    eGoal P G p l e R s m args below meth c H locs cells slots Q k c0 s0 pc ls st h x := by
  obtain ⟨n, r, rfl, h2⟩ := eI1_some hi
  obtain ⟨hq, h2⟩ := eIf_then h2
  obtain rfl := eN_inj h2
  refine ⟨⟨Nat.le_succ _, Nat.le_add_right _ _⟩, fun hc hs _ _ kk => ?_⟩
  have hc' : h.2.1 + 1 ≤ R.cells + c0 := hc
  have hs' : h.2.2 + n.toNatClampNeg ≤ R.slots + s0 := hs
  have b4 := b.2.2.2.1
  have b5 := b.2.2.2.2
  refine va_newaK (atype := .int) cx.1 cx.2.1 (cx.2.2.2.2.1 _ gn.1.1) rfl hd rfl (fun z => hq (Or.inl z)) rfl (Nat.not_lt.mp fun z => hq (Or.inr z)) (by omega) (by omega) rfl fun H1 cA e1 z1 o1 hAr hNm => ?_
  have hca : cA = G.ca 0 := Option.some.inj (hNm.symm.trans (cx.2.2.2.2.2.1.2 0 _ (eTy_at gt.1)).2)
  subst hca
  have z : W p l e R s m args below meth c H1 locs (cells + 1) (slots + n.toNatClampNeg) Q (F0 m (pc + 2) ls (.ref (eAd G h.2.1) :: r.map (eVal G))) := kk _ _ _ _ _ (b.new z1 o1 e1)
  rw [b.2.1.next] at z
  exact z
theorem es_newarray_long (cx : eCx P N G X p s m args meth c k) (gt : gTy P N) (gn : gNew P N G.cl) (hd : decode (N.cd k) pc = .ok (.newarray .long, 2)) (hi : eIns P X k (.newarray .long) pc lo st h = some x) (b : eBa P G s k c0 s0 lo h H locs cells slots ls) :
    eGoal P G p l e R s m args below meth c H locs cells slots Q k c0 s0 pc ls st h x := by
  obtain ⟨n, r, rfl, h2⟩ := eI1_some hi
  obtain ⟨hq, h2⟩ := eIf_then h2
  obtain rfl := eN_inj h2
  refine ⟨⟨Nat.le_succ _, Nat.le_add_right _ _⟩, fun hc hs _ _ kk => ?_⟩
  have hc' : h.2.1 + 1 ≤ R.cells + c0 := hc
  have hs' : h.2.2 + n.toNatClampNeg ≤ R.slots + s0 := hs
  have b4 := b.2.2.2.1
  have b5 := b.2.2.2.2
  refine va_newaK (atype := .long) cx.1 cx.2.1 (cx.2.2.2.2.1 _ gn.1.2.1) rfl hd rfl (fun z => hq (Or.inl z)) rfl (Nat.not_lt.mp fun z => hq (Or.inr z)) (by omega) (by omega) rfl fun H1 cA e1 z1 o1 hAr hNm => ?_
  have hca : cA = G.ca 1 := Option.some.inj (hNm.symm.trans (cx.2.2.2.2.2.1.2 1 _ (eTy_at gt.2.1)).2)
  subst hca
  have z : W p l e R s m args below meth c H1 locs (cells + 1) (slots + n.toNatClampNeg) Q (F0 m (pc + 2) ls (.ref (eAd G h.2.1) :: r.map (eVal G))) := kk _ _ _ _ _ (b.new z1 o1 e1)
  rw [b.2.1.next] at z
  exact z
theorem es_newarray_char (cx : eCx P N G X p s m args meth c k) (gt : gTy P N) (gn : gNew P N G.cl) (hd : decode (N.cd k) pc = .ok (.newarray .char, 2)) (hi : eIns P X k (.newarray .char) pc lo st h = some x) (b : eBa P G s k c0 s0 lo h H locs cells slots ls) :
    eGoal P G p l e R s m args below meth c H locs cells slots Q k c0 s0 pc ls st h x := by
  obtain ⟨n, r, rfl, h2⟩ := eI1_some hi
  obtain ⟨hq, h2⟩ := eIf_then h2
  obtain rfl := eN_inj h2
  refine ⟨⟨Nat.le_succ _, Nat.le_add_right _ _⟩, fun hc hs _ _ kk => ?_⟩
  have hc' : h.2.1 + 1 ≤ R.cells + c0 := hc
  have hs' : h.2.2 + n.toNatClampNeg ≤ R.slots + s0 := hs
  have b4 := b.2.2.2.1
  have b5 := b.2.2.2.2
  refine va_newaK (atype := .char) cx.1 cx.2.1 (cx.2.2.2.2.1 _ gn.1.2.2) rfl hd rfl (fun z => hq (Or.inl z)) rfl (Nat.not_lt.mp fun z => hq (Or.inr z)) (by omega) (by omega) rfl fun H1 cA e1 z1 o1 hAr hNm => ?_
  have hca : cA = G.ca 2 := Option.some.inj (hNm.symm.trans (cx.2.2.2.2.2.1.2 2 _ (eTy_at gt.2.2.1)).2)
  subst hca
  have z : W p l e R s m args below meth c H1 locs (cells + 1) (slots + n.toNatClampNeg) Q (F0 m (pc + 2) ls (.ref (eAd G h.2.1) :: r.map (eVal G))) := kk _ _ _ _ _ (b.new z1 o1 e1)
  rw [b.2.1.next] at z
  exact z
theorem es_anewarray {ix : Nat} (cx : eCx P N G X p s m args meth c k) (gn : gNew P N G.cl) (hd : decode (N.cd k) pc = .ok (.anewarray ix, 3)) (hi : eIns P X k (.anewarray ix) pc lo st h = some x) (b : eBa P G s k c0 s0 lo h H locs cells slots ls) :
    eGoal P G p l e R s m args below meth c H locs cells slots Q k c0 s0 pc ls st h x := by
  simp only [eIns] at hi
  split at hi
  · rename_i t ht
    obtain ⟨n, r, rfl, h2⟩ := eI1_some hi
    obtain ⟨hq, h2⟩ := eIf_then h2
    obtain rfl := eN_inj h2
    obtain ⟨C, hty, hw2⟩ := cx.2.2.2.2.2.2.2.1.2.1 _ _ _ ht
    have hw1 := gn.2.1 _ _ _ C ht hty
    refine ⟨⟨Nat.le_succ _, Nat.le_add_right _ _⟩, fun hc hs _ _ kk => ?_⟩
    have hc' : h.2.1 + 1 ≤ R.cells + c0 := hc
    have hs' : h.2.2 + n.toNatClampNeg ≤ R.slots + s0 := hs
    have b4 := b.2.2.2.1
    have b5 := b.2.2.2.2
    refine W.anew cx.1 cx.2.1 cx.2.2.2.1 (cx.2.2.2.2.1 _ hw1) (va_AO.use hw2) rfl hd rfl (fun z => hq (Or.inl z)) (Nat.not_lt.mp fun z => hq (Or.inr z)) (by omega) (by omega) fun cA kA comp f1 f2 f3 f4 => ?_
    generalize hH1 : H.push ({ cls := cA, slots := Array.replicate n.toNatClampNeg .null, vm := .none } : Cell) = H1
    have z1 : H1.size = H.size + 1 := by rw [← hH1, Array.size_push]
    have e1 : H1[H.size]? = some (arrV cA n.toNatClampNeg (fun _ => .null)) := by rw [← hH1, Array.getElem?_push_size, ← arrV_new]
    have o1 : ∀ q : Nat, q < H.size → H1[q]? = H[q]? := fun q hq => by rw [← hH1, Array.getElem?_push, if_neg (Nat.ne_of_lt hq)]
    obtain ⟨kA', comp', k1, k2, k3, k4⟩ := (cx.2.2.2.2.2.1.2 t _ (eTy_at hty)).2
    have hca : cA = G.ca t := Option.some.inj (f1.symm.trans k4)
    subst hca
    have z : W p l e R s m args below meth c H1 locs (cells + 1) (slots + n.toNatClampNeg) Q (F0 m (pc + 3) ls (.ref (eAd G h.2.1) :: r.map (eVal G))) := kk _ _ _ _ _ (b.new z1 o1 e1)
    rw [b.2.1.next] at z
    exact z
  · cases hi
theorem es_new {ix : Nat} (cx : eCx P N G X p s m args meth c k) (gn : gNew P N G.cl) (hd : decode (N.cd k) pc = .ok (.new ix, 3)) (hi : eIns P X k (.new ix) pc lo st h = some x) (b : eBa P G s k c0 s0 lo h H locs cells slots ls) :
    eGoal P G p l e R s m args below meth c H locs cells slots Q k c0 s0 pc ls st h x := by
  simp only [eIns] at hi
  split at hi
  · rename_i c1 hcl
    obtain rfl := eN_inj hi
    obtain ⟨C, T, n, ty0, hcl1, hw1, hw2, hw3, hin, hty, hdf, hbl⟩ := gn.2.2 _ _ _ hcl
    refine ⟨⟨Nat.le_succ _, Nat.le_add_right _ _⟩, fun hc hs _ _ kk => ?_⟩
    have hc' : h.2.1 + 1 ≤ R.cells + c0 := hc
    have hs' : h.2.2 + (P.bla c1).2 ≤ R.slots + s0 := hs
    have b4 := b.2.2.2.1
    have b5 := b.2.2.2.2
    have hKn := cx.2.2.2.2.2.1.1 c1 _ hcl1
    refine W.newcK cx.1 cx.2.1 cx.2.2.2.1 (cx.2.2.2.2.1 _ hw1) (cx.2.2.2.2.1 _ hw2) (cx.2.2.2.2.1 _ hw3) rfl hd (by omega) (by omega) hKn.2.1 rfl fun H1 kC hkC e1 z1 o1 => ?_
    have hmap : (P.bla c1).1.map (eVal G) = (P.bla c1).1 := by
      conv => rhs; rw [← List.map_id (P.bla c1).1]
      refine List.map_congr_left fun v hv => ?_
      rcases hbl v hv with rfl | rfl | rfl <;> rfl
    have hat : va_at G.D G.cl (H.size, eCo G (.inr (c1, (P.bla c1).1))) H1 := ⟨_, hcl1, by
      show t_OB H.size (G.D.1 c1) n (G.D.2 c1) H1 (vp_V ((P.bla c1).1.map (eVal G)))
      rw [hmap]
      exact (u_born ty0 cx.2.2.2.2.1 hin hKn hkC e1 hty).to hdf⟩
    have z : W p l e R s m args below meth c H1 locs (cells + 1) (slots + (P.bla c1).2) Q (F0 m (pc + 3) ls (.ref (eAd G h.2.1) :: st.map (eVal G))) := kk _ _ _ _ _ (b.new z1 o1 hat)
    rw [b.2.1.next] at z
    exact z
  · cases hi
end ES3

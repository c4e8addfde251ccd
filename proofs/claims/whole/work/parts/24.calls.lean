def eRm (d mc ms : Nat) : Room := { frames := d + 12, cells := mc, slots := ms, locals := (d + 12) * 64 }
def ePc (P : eP) (N : eW) (G : eG) (X : Nat × (Nat → Int32)) (as : List Value) (h : eH) : Array Value → State → Prop := fun v U =>
  v = (as.map (eVal G)).toArray ∧ va_K G.D G.cl (eTy G N) U ∧ eRel G h U.heap ∧ (va_X G.b X.1 X.2 U U.heap ∧ G.b ≤ G.B) ∧ eFx P N G U
def eQc (G : eG) (r : eR) (h : eH) : Array Value → State → Outcome → State → Prop := fun _ st o t => o = eO G r ∧ eRel G h t.heap ∧ va_F (eA0 G) st t
def eMet (l : Launch) (P : eP) (N : eW) (G : eG) (X : Nat × (Nat → Int32)) (d k : Nat) (as : List Value) (h : eH) (r : eR) (h' : eH) : Prop :=
  MetFree l (N.mn k) (headSpec lw_gd (eRm d (h'.2.1 - h.2.1) (h'.2.2 - h.2.2))) (ePc P N G X as h) (fun _ _ _ _ _ => True)
    (fun a st o t => eQc G r h' a st o t ∧ st.WarmedH t.vm ∧ ∃ L, st.sameButNew ({ t with vm := st.vm } : State) L (h'.2.1 - h.2.1) (h'.2.2 - h.2.2) ∧ ∀ q ∈ L, eA0 G q.base)
def gCode (P : eP) (N : eW) (k : Nat) : Prop := (eHs P k = [] ∧ Cond.code (N.mn k) (N.cd k) (eNL P k) (eRt P k) ∈ lw_gd) ∨ (¬ eHs P k = [] ∧ ∃ hs, Cond.codeWith (N.mn k) (N.cd k) (eNL P k) (eRt P k) hs ∈ lw_gd)
def gName (P : eP) (N : eW) (k : Nat) : Prop := plainName (N.mn k).cls = true ∧ ((N.mn k).cls ≠ "java/lang/invoke/MethodHandle" ∧ (N.mn k).cls ≠ "java/lang/invoke/VarHandle") ∧ (N.mn k).cls = N.cn (eOwn P k) ∧ Cond.initialized (N.mn k).cls ∈ lw_gd ∧ (P.ini k = true → (N.mn k).name = "<init>") ∧ eNL P k ≤ 40
def gMth (P : eP) (N : eW) : Prop := ∀ o ix kind k n, P.mth o ix = some (kind, k, n) →
  (kind < 3 → gCode P N k ∧ gName P N k) ∧ (kind < 2 → Cond.methodLink (N.cn o) ix (N.mn k) ∈ lw_gd) ∧
  (kind = 0 → Cond.static (N.mn k) ∈ lw_gd ∧ (parseMethodDescriptor (N.mn k).desc).map (fun d => d.parameters.length) = some n) ∧
  (kind = 1 → Cond.instanceMethod (N.mn k) ∈ lw_gd ∧ Cond.selects (N.mn k).cls (N.mn k) (N.mn k) ∈ lw_gd ∧ eHs P k = [] ∧ (parseMethodDescriptor (N.mn k).desc).map (fun d => d.parameters.length + 1) = some n) ∧
  (kind = 2 → Cond.instanceMethod (N.mn k) ∈ lw_gd ∧ (N.mn k).name = "<init>" ∧ P.ini k = true ∧ eHs P k = [] ∧ eRt P k = none ∧ (parseMethodDescriptor (N.mn k).desc).map (fun d => d.parameters.length + 1) = some n) ∧
  (kind = 3 → n = 1 ∧ Cond.methodLink (N.cn o) ix Lib.objectInit ∈ lw_gd ∧ Cond.instanceMethod Lib.objectInit ∈ lw_gd ∧ Cond.code Lib.objectInit ⟨#[0xb1]⟩ 1 none ∈ lw_gd) ∧
  (kind = 5 → n = 2 ∧ Cond.methodLink (N.cn o) ix Lib.Math.min.name ∈ lw_gd ∧ Cond.static Lib.Math.min.name ∈ lw_gd ∧ Cond.initialized "java/lang/Math" ∈ lw_gd ∧ Cond.code Lib.Math.min.name Lib.Math.min.code 2 (some .int) ∈ lw_gd) ∧
  (kind = 6 → n = 5 ∧ Cond.methodLink (N.cn o) ix arraycopyName ∈ lw_gd ∧ Cond.native arraycopyName ∈ lw_gd ∧ Cond.static arraycopyName ∈ lw_gd ∧ Cond.initialized "java/lang/System" ∈ lw_gd)
theorem ePc_blind {P : eP} {N : eW} {G : eG} {X : Nat × (Nat → Int32)} {as : List Value} {h : eH} : FrameBlind (ePc P N G X as h) := fun a U g mk q =>
  ⟨q.1, va_K.moved (u := U) (Vm.Alike.refl _) q.2.1, q.2.2.1, ⟨va_X.moved (u := U) (Vm.Alike.refl _) q.2.2.2.1.1, q.2.2.2.1.2⟩, eFx.warm (s := U) (State.WarmedH.refl _) (fun _ _ => rfl) q.2.2.2.2⟩
section ES5
variable {p : Program} {l : Launch} {e : Env} {R : Room} {s : State} {m : MethodId} {args : Array Value} {below : List Frame} {meth : Method} {c : Code} {H : Heap} {locs : List Loc} {cells slots : Nat} {Q : State → Prop}
variable {P : eP} {N : eW} {G : eG} {X : Nat × (Nat → Int32)} {k pc c0 s0 : Nat} {ls : Array Slot} {lo : eLo} {st : List Value} {h : eH}
theorem ePc_at {as : List Value} {U : State} (cx : eCx P N G X p s m args meth c k) (b : eBa P G s k c0 s0 lo h H locs cells slots ls) (hU : U.heap = H) (hW : s.WarmedH U.vm) : ePc P N G X as h (as.map (eVal G)).toArray U :=
  ⟨rfl, cx.2.2.2.2.2.1.moved hW.alike, by rw [hU]; exact b.2.1, ⟨by
    rw [hU]
    exact (va_X.moved hW.alike cx.2.2.2.2.2.2.1.1).kept (b.2.2.1.2.1 _ (Nat.lt_of_le_of_lt cx.2.2.2.2.2.2.1.2.1 cx.2.2.2.2.2.2.1.2.2) (Nat.not_lt.mpr cx.2.2.2.2.2.2.1.2.1)), cx.2.2.2.2.2.2.1.2.1⟩, cx.2.2.2.2.2.2.2.1.warm hW (fun q hq => by rw [hU]; exact b.2.2.1.2.1 q (Nat.lt_of_le_of_lt hq cx.2.2.2.2.2.2.1.2.2) (Nat.not_lt.mpr hq))⟩
theorem eMet.met {d : Nat} {as : List Value} {v : Option Value} {h' : eH} {k' : Nat} (hM : eMet l P N G X d k' as h (.inl v) h') :
    Met l (N.mn k') lw_gd (eRm d (h'.2.1 - h.2.1) (h'.2.2 - h.2.2)) (ePc P N G X as h) (eQc G (.inl v) h') (h'.2.1 - h.2.1) (h'.2.2 - h.2.2) (eA0 G) := by
  intro p e ha hc hk s m args below hf happ hP hK
  obtain ⟨n, o, h1, h2, h3, hq, hw, L, hL, hA⟩ := hM p e ha hc hk s m args below hf happ hP hK
  exact ⟨n, o, h1, h2, h3, hq, L, ⟨⟨_, hq.1⟩, hw, hL⟩, hA⟩
theorem e_back {v : Option Value} {h' : eH} {rs : List Value} {st0 : List Value} {a : Array Value} (b : eBa P G s k c0 s0 lo h H locs cells slots ls) (hm : h.2.1 ≤ h'.2.1 ∧ h.2.2 ≤ h'.2.2)
    (hr : CallRun p l e R s m args below meth c H locs cells slots (h'.2.1 - h.2.1) (h'.2.2 - h.2.2) (F0 m pc ls st0) (rs.map (eVal G)) (eQc G (.inl v) h' a) (eA0 G))
    (kk : eNext P G p l e R s m args below meth c Q k c0 s0 (pc + 3, lo, v.toList ++ rs, h')) : W p l e R s m args below meth c H locs cells slots Q (F0 m pc ls st0) := by
  intro T hT X
  obtain ⟨w, st₀, t, T', L, h0, X', hL, e1, ⟨hv, hR, hF⟩, stp⟩ := hr T hT X
  have hw : w = v.map (eVal G) := by
    have := hv
    simp only [eO, Outcome.returned.injEq] at this
    exact this
  subst hw
  have b4 := b.2.2.2.1
  have b5 := b.2.2.2.2
  rw [← e1] at hR
  have hF1 : H.size ≤ T'.heap.size := by rw [e1, ← h0]; exact hF.1
  have hF2 : ∀ q : Nat, q < H.size → ¬ eA0 G q → T'.heap[q]? = H[q]? := fun q h1 h2 => by rw [e1, ← h0]; exact hF.2 q (by rw [h0]; exact h1) h2
  have z := kk T'.heap (locs ++ L) (cells + (h'.2.1 - h.2.1)) (slots + (h'.2.2 - h.2.2)) ls ⟨b.1, hR, ⟨Nat.le_trans b.2.2.1.1 hF1, fun q h1 h2 => (hF2 q (Nat.lt_of_lt_of_le h1 b.2.2.1.1) h2).trans (b.2.2.1.2.1 q h1 h2), fun q hq => by
      rcases List.mem_append.mp hq with h | h
      · exact b.2.2.1.2.2 q h
      · exact hL q h⟩, by show cells + (h'.2.1 - h.2.1) + c0 = h'.2.1; omega, by show slots + (h'.2.2 - h.2.2) + s0 = h'.2.2; omega⟩
  obtain ⟨t2, a1, b1⟩ := z T' rfl X'
  refine ⟨t2, stp t2 ?_, b1⟩
  have hst : (v.map (eVal G)).toList ++ rs.map (eVal G) = (v.toList ++ rs).map (eVal G) := by cases v <;> simp
  rw [hst]
  exact a1
theorem e_len {y : MethodName} {n j : Nat} (hd : (parseMethodDescriptor y.desc).map (fun d => d.parameters.length + j) = some n) : ∀ sig, parseMethodDescriptor y.desc = some sig → n = sig.parameters.length + j := fun sig h => by
  rw [h] at hd
  exact (Option.some.inj hd).symm
theorem e_cat {rs : List Value} (hrs : eCat rs ≤ 8) : 2 * 0 + ((rs.map (eVal G)).map fun v => v.category).sum ≤ 8 := by
  rw [List.map_map]
  have : ((fun v : Value => v.category) ∘ eVal G) = fun v => v.category := funext (eVal_cat G)
  rw [this]
  unfold eCat at hrs
  omega
theorem e_runI {d k' ix : Nat} {as rs : List Value} {v : Option Value} {h' : eH} {a : Nat} (cx : eCx P N G X p s m args meth c k) (gg : GoodIn lw_gd lw_gd) (b : eBa P G s k c0 s0 lo h H locs cells slots ls)
    (hM : eMet l P N G X d k' (.ref a :: as) h (.inl v) h') (hcode : Cond.code (N.mn k') (N.cd k') (eNL P k') none ∈ lw_gd) (hn : gName P N k') (hlink : Cond.methodLink (N.cn (eOwn P k)) ix (N.mn k') ∈ lw_gd ∨ ∃ host, va_Nw (.methodLinkNest (N.cn (eOwn P k)) ix (N.mn k') host) s) (hin : Cond.instanceMethod (N.mn k') ∈ lw_gd) (hini : (N.mn k').name = "<init>")
    (hlen : (parseMethodDescriptor (N.mn k').desc).map (fun d => d.parameters.length + 1) = some (as.length + 1)) (hrs : eCat rs ≤ 8) (hd : decode (N.cd k) pc = .ok (.invokespecial ix, 3)) (hfr : d + 13 ≤ R.frames ∧ (d + 13) * 64 ≤ R.locals)
    (hc : h'.2.1 ≤ R.cells + c0) (hs : h'.2.2 ≤ R.slots + s0) (hm : h.2.1 ≤ h'.2.1 ∧ h.2.2 ≤ h'.2.2) {st0 : List Value} (hst : st0 = as.reverse ++ .ref a :: rs) :
    CallRun p l e R s m args below meth c H locs cells slots (h'.2.1 - h.2.1) (h'.2.2 - h.2.2) (F0 m pc ls (st0.map (eVal G))) (rs.map (eVal G)) (eQc G (.inl v) h' (Value.ref (eAd G a) :: as.map (eVal G)).toArray) (eA0 G) := by
  have hts := cx.2.2.2.2.1
  have b4 := b.2.2.2.1
  have b5 := b.2.2.2.2
  have hfr1 : d + 12 + 1 ≤ R.frames := by omega
  have hlo1 : 8 + (eNL P k' + 11) + (d + 12) * 64 ≤ R.locals := by
    have := hn.2.2.2.2.2
    omega
  have hst2 : (F0 m pc ls (st0.map (eVal G))).stack = (as.map (eVal G)).reverse ++ .ref (eAd G a) :: rs.map (eVal G) := by subst hst; simp; rfl
  rcases hlink with hlink | ⟨host, hlink⟩
  · exact W.runI (nL := eNL P k) (own := N.cn (eOwn P k)) (Ts := lw_gd) (n := as.length) (bytes := N.cd k') (maxL := eNL P k') (b := eAd G a) (As := as.map (eVal G)) ⟨cx.1, cx.2.1, cx.2.2.1, cx.2.2.2.1, hts⟩ hM.met
      ⟨⟨rfl, rfl, hfr1, hlo1, pay_in hts gg, hcode, hts _ hcode, hts _ hn.2.2.2.1, hn.2.1, fun sig hsig => by have := e_len hlen sig hsig; omega, hts _ hlink⟩, hini, hts _ hin⟩
      ⟨ePc_blind, fun U hU hW => ePc_at cx b hU hW⟩ rfl (by simp) b.1.2.1 hst2 (e_cat hrs) hd ⟨by omega, by omega⟩
  · have hr := va_runIN (l := l) (cells := cells) (slots := slots) (R := R) (below := below) (p := p) (e := e) (meth := meth) (locs := locs) (H := H) (g := F0 m pc ls (st0.map (eVal G))) (rest := rs.map (eVal G)) (nL := eNL P k) (own := N.cn (eOwn P k)) (host := host) (Ts := lw_gd) (n := as.length) (bytes := N.cd k') (maxL := eNL P k') (b := eAd G a) (As := as.map (eVal G)) ⟨cx.1, cx.2.1, cx.2.2.1, cx.2.2.2.1, hts⟩ hM.met
      ⟨⟨⟨rfl, rfl, hfr1, hlo1, pay_in hts gg, hcode⟩, hts _ hcode, hts _ hn.2.2.2.1, hn.2.1, fun sig hsig => by have := e_len hlen sig hsig; omega, va_Nw.use rfl hlink⟩, hini, hts _ hin⟩
      ⟨ePc_blind, fun U hU hW => ePc_at cx b hU hW⟩ rfl (by simp) b.1.2.1 hst2 (e_cat hrs) hd ⟨by omega, by omega⟩
    intro T hT X0
    obtain ⟨w, st₀, t, T', L, h0, X', hL, e1, -, hq, stp⟩ := hr T hT X0
    exact ⟨w, st₀, t, T', L, h0, X', hL, e1, hq, stp⟩
theorem e_recv {a c1 : Nat} {fs : List Value} (cx : eCx P N G X p s m args meth c k) (gl : gCl N G.cl) (b : eBa P G s k c0 s0 lo h H locs cells slots ls) (ha : ¬ a = 0) (hc : h.1 a = some (.inr (c1, fs))) :
    ∃ cellB : Cell, H[eAd G a]? = some cellB ∧ cellB.vm.isStatics = false ∧ s.vm.findClass (N.cn c1) = some cellB.cls := by
  obtain ⟨r, hr, cell, g1, g2, g3, -⟩ := b.2.1.at ha hc
  refine ⟨cell, g1, by rw [g3]; rfl, ?_⟩
  rw [g2, ← gl c1 r hr]
  exact (cx.2.2.2.2.2.1.1 c1 r hr).2.1
theorem e_runV {d k' ix : Nat} {as rs : List Value} {v : Option Value} {h' : eH} {a : Nat} {fs : List Value} (cx : eCx P N G X p s m args meth c k) (gg : GoodIn lw_gd lw_gd) (gl : gCl N G.cl) (b : eBa P G s k c0 s0 lo h H locs cells slots ls)
    (hM : eMet l P N G X d k' (.ref a :: as) h (.inl v) h') (hcode : Cond.code (N.mn k') (N.cd k') (eNL P k') (eRt P k') ∈ lw_gd) (hn : gName P N k') (hlink : Cond.methodLink (N.cn (eOwn P k)) ix (N.mn k') ∈ lw_gd) (hin : Cond.instanceMethod (N.mn k') ∈ lw_gd) (hse : Cond.selects (N.mn k').cls (N.mn k') (N.mn k') ∈ lw_gd)
    (ha : ¬ a = 0) (hcell : h.1 a = some (.inr (eOwn P k', fs)))
    (hlen : (parseMethodDescriptor (N.mn k').desc).map (fun d => d.parameters.length + 1) = some (as.length + 1)) (hrs : eCat rs ≤ 8) (hd : decode (N.cd k) pc = .ok (.invokevirtual ix, 3)) (hfr : d + 13 ≤ R.frames ∧ (d + 13) * 64 ≤ R.locals)
    (hc : h'.2.1 ≤ R.cells + c0) (hs : h'.2.2 ≤ R.slots + s0) (hm : h.2.1 ≤ h'.2.1 ∧ h.2.2 ≤ h'.2.2) {st0 : List Value} (hst : st0 = as.reverse ++ .ref a :: rs) :
    CallRun p l e R s m args below meth c H locs cells slots (h'.2.1 - h.2.1) (h'.2.2 - h.2.2) (F0 m pc ls (st0.map (eVal G))) (rs.map (eVal G)) (eQc G (.inl v) h' (Value.ref (eAd G a) :: as.map (eVal G)).toArray) (eA0 G) := by
  have hts := cx.2.2.2.2.1
  have b4 := b.2.2.2.1
  have b5 := b.2.2.2.2
  refine W.runV (nL := eNL P k) (own := N.cn (eOwn P k)) (C := (N.mn k').cls) (Ts := lw_gd) (n := as.length) (bytes := N.cd k') (maxL := eNL P k') (b := eAd G a) (As := as.map (eVal G)) ⟨cx.1, cx.2.1, cx.2.2.1, cx.2.2.2.1, hts⟩ hM.met
    ⟨⟨rfl, rfl, ?_, ?_, pay_in hts gg, hcode, hts _ hcode, hts _ hn.2.2.2.1, hn.2.1, fun sig hsig => by have := e_len hlen sig hsig; omega, hts _ hlink⟩, hts _ hin, hts _ hse⟩
    ⟨ePc_blind, by rw [hn.2.2.1]; exact e_recv cx gl b ha hcell, fun U hU hW => ePc_at cx b hU hW⟩ rfl (by simp) b.1.2.1 (by subst hst; simp; rfl) (e_cat hrs) hd ⟨by omega, by omega⟩
  · show d + 12 + 1 ≤ R.frames
    omega
  · show 8 + (eNL P k' + 11) + (d + 12) * 64 ≤ R.locals
    have := hn.2.2.2.2.2
    omega
theorem e_backOf {d k' : Nat} {as : List Value} {v : Option Value} {h' : eH} (hts : ∀ w ∈ lw_gd, w.before args s = true) (gg : GoodIn lw_gd lw_gd) (hM : eMet l P N G X d k' as h (.inl v) h') (hcode : gCode P N k') (hn : gName P N k') (hfr : d + 13 ≤ R.frames ∧ (d + 13) * 64 ≤ R.locals) :
    Back l R p e below s args (N.mn k') 3 8 (PreOf R (h'.2.1 - h.2.1) (h'.2.2 - h.2.2) (ePc P N G X as h)) (PostOf (eQc G (.inl v) h') (h'.2.1 - h.2.1) (h'.2.2 - h.2.2) (eA0 G)) := by
  have hws := pay_in hts gg
  have hlo : 8 + (eNL P k' + 11) + (d + 12) * 64 ≤ R.locals := by have := hn.2.2.2.2.2; omega
  rcases hcode with ⟨-, hcode⟩ | ⟨-, hs, hcode⟩
  · exact back_of (bytes := N.cd k') (maxL := eNL P k') (ret := eRt P k') hM.met ePc_blind rfl rfl (by show d + 12 + 1 ≤ _; omega) hlo hws hcode (fun a' U hW => hws _ hn.2.2.2.1 a' U hW)
  · refine Back.of_freeWith (handlers := hs) (S := headSpec lw_gd (eRm d (h'.2.1 - h.2.1) (h'.2.2 - h.2.2))) (P := ePc P N G X as h) (K := fun _ _ _ _ _ => True) (Q := fun a st o t => eQc G (.inl v) h' a st o t ∧ ∃ L, FrameEnd st o t L (h'.2.1 - h.2.1) (h'.2.2 - h.2.2) ∧ ∀ q ∈ L, eA0 G q.base) (bytes := N.cd k') (maxL := eNL P k') (ret := eRt P k')
      (E := fun a st o t L k n => k = (h'.2.1 - h.2.1) ∧ n = (h'.2.2 - h.2.2) ∧ ∀ q ∈ L, eA0 G q.base) hM.met (by show d + 12 + 1 ≤ _; omega) hlo ?_ ?_ (fun _ _ _ _ _ _ _ _ _ => trivial) ?_ ?_
    · intro m meth c A a X hp
      exact ⟨atoms_intro fun w hw => hws w hw _ _ X.warmed, hws _ hcode _ _ X.warmed, hws _ hn.2.2.2.1 _ _ X.warmed, hp.1, hp.2.1⟩
    · intro m meth c A a g mk X hp
      exact ePc_blind _ _ _ _ hp.2.2
    · intro a st o t ⟨hq, L, hF, hL⟩
      exact ⟨L, _, _, hF, rfl, rfl, hL⟩
    · intro m meth c A a g mk v t L k n X hp hq hF ⟨e1, e2, hL⟩
      subst e1; subst e2
      exact ⟨g, mk, t, L, rfl, rfl, hq.1, rfl, hL, rfl, rfl⟩
theorem e_named {k' : Nat} (hts : ∀ w ∈ lw_gd, w.before args s = true) (hcode : gCode P N k') : ∃ mk methM, s.methodNamed? (N.mn k') = some mk ∧ s.vm.method? mk = some methM ∧ parseMethodDescriptor (N.mn k').desc = some methM.sig := by
  rcases hcode with ⟨-, hcode⟩ | ⟨-, hs', hcode⟩
  · obtain ⟨mk, hnamed⟩ := Cond.code_named (hts _ hcode)
    obtain ⟨methM, cM, hmethM, -, -, -, -, -, -, hsigM⟩ := Cond.code_spec hnamed (hts _ hcode)
    exact ⟨mk, methM, hnamed, hmethM, hsigM⟩
  · obtain ⟨mk, methM, cM, hnamed, hmethM, -, -, -, -, -, -, hsigM⟩ := Cond.codeWith_spec (hts _ hcode)
    exact ⟨mk, methM, hnamed, hmethM, hsigM⟩
theorem e_runS {d k' ix : Nat} {as rs : List Value} {v : Option Value} {h' : eH} (cx : eCx P N G X p s m args meth c k) (gg : GoodIn lw_gd lw_gd) (b : eBa P G s k c0 s0 lo h H locs cells slots ls)
    (hM : eMet l P N G X d k' as h (.inl v) h') (hcode : gCode P N k') (hn : gName P N k') (hlink : Cond.methodLink (N.cn (eOwn P k)) ix (N.mn k') ∈ lw_gd) (hstat : Cond.static (N.mn k') ∈ lw_gd)
    (hlen : (parseMethodDescriptor (N.mn k').desc).map (fun d => d.parameters.length) = some as.length) (hrs : eCat rs ≤ 8) (hd : decode (N.cd k) pc = .ok (.invokestatic ix, 3)) (hfr : d + 13 ≤ R.frames ∧ (d + 13) * 64 ≤ R.locals)
    (hc : h'.2.1 ≤ R.cells + c0) (hs : h'.2.2 ≤ R.slots + s0) (hm : h.2.1 ≤ h'.2.1 ∧ h.2.2 ≤ h'.2.2) {st0 : List Value} (hst : st0 = as.reverse ++ rs) :
    CallRun p l e R s m args below meth c H locs cells slots (h'.2.1 - h.2.1) (h'.2.2 - h.2.2) (F0 m pc ls (st0.map (eVal G))) (rs.map (eVal G)) (eQc G (.inl v) h' (as.map (eVal G)).toArray) (eA0 G) := by
  have hts := cx.2.2.2.2.1
  have b4 := b.2.2.2.1
  have b5 := b.2.2.2.2
  have hK := e_backOf (p := p) (e := e) (below := below) hts gg hM hcode hn hfr
  have hsz : (F0 m pc ls (st0.map (eVal G))).locals.size = c.maxLocals := b.1.2.1.trans cx.2.2.1.symm
  have hl2 : ∀ sig, parseMethodDescriptor (N.mn k').desc = some sig → (as.map (eVal G)).length = sig.parameters.length := fun sig hsig => by
    rw [hsig] at hlen
    rw [List.length_map]
    exact (Option.some.inj hlen).symm
  have hst2 : (F0 m pc ls (st0.map (eVal G))).stack = (as.map (eVal G)).reverse ++ rs.map (eVal G) := by subst hst; simp
  obtain ⟨mk, methM, hnamed, hmethM, hsigM⟩ := e_named hts hcode
  have hstatic : methM.isStatic = true := Cond.static_spec hnamed hmethM (hts _ hstat)
  obtain ⟨kP, hkP, -⟩ := className_of_methodNamed hnamed
  have hinitP : kP.init = .initialized := Cond.initialized_spec (findClass_of_methodNamed hnamed) hkP (hts _ hn.2.2.2.1)
  intro T hT X0
  obtain ⟨vm₁, X₁, hstep₁⟩ := X0.invokestatic cx.1 cx.2.2.2.1 (hts _ hlink) hnamed hmethM hstatic hkP hinitP hn.2.1 (g := F0 m pc ls (st0.map (eVal G))) rfl (argsL := as.map (eVal G)) (rest := rs.map (eVal G)) (hl2 _ hsigM) hst2 (by rw [cx.2.1]; exact hd)
  obtain ⟨w, ⟨U', l2, c2, s2⟩, X', ⟨g', mk', t, L, e1, e2, hq, h1, hL, h2, h3⟩, hsteps⟩ := hK m meth c ⟨T.setVm vm₁, locs, cells, slots⟩ { (F0 m pc ls (st0.map (eVal G))) with stack := rs.map (eVal G) } (.invokestatic ix) mk (as.map (eVal G)).toArray X₁ rfl hsz (by rw [cx.2.1]; exact hd) (e_cat hrs) (X₁.named hnamed)
    ⟨by show cells + _ ≤ _; omega, by show slots + _ ≤ _; omega, ePc_at (U := T.setVm vm₁) cx b hT X₁.warmed⟩
  dsimp only [Pt.U, Pt.locs, Pt.cells, Pt.slots] at X' e1 e2 h1 h2 h3 hsteps
  subst h1; subst h2; subst h3
  exact ⟨w, (T.setVm vm₁).calling g' mk' (as.map (eVal G)).toArray, t, U', L, hT, X', hL, e1, hq, fun target h => hstep₁ _ fun acts => by rw [doInvoke_state]; exact hsteps.trans h⟩
end ES5

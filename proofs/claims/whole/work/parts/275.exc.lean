def gThr (P : eP) (N : eW) (cl : List vw_C) : Prop := ∀ k pc q, P.thr k pc = some q → (decode (N.cd k) pc = .ok (.new q.2.1, 3) ∧ decode (N.cd k) (pc + 3) = .ok (.dup, 1) ∧ decode (N.cd k) (pc + 4) = .ok (.ldc q.2.2.1, 2) ∧ decode (N.cd k) (pc + 6) = .ok (.invokespecial q.2.2.2, 3) ∧ decode (N.cd k) (pc + 9) = .ok (.athrow, 1)) ∧
  P.cls (eOwn P k) q.2.1 = some q.1 ∧ Bundle.fit (N.cn q.1) = true ∧ (∃ T, cl[q.1]? = some (N.cn q.1, T, 0)) ∧ ∀ w ∈ Bundle.ownAtoms (N.cn (eOwn P k)) q.2.2.2 (N.cn q.1) ["java/lang/RuntimeException", "java/lang/Exception"], w ∈ lw_gd ∨ w ∈ exSp (N.cn q.1)
theorem exSp_any {C : String} {w : Cond} (hw : w ∈ exSp C) {A : Array Value} {U : State} (h : w.before #[] U = true) : w.before A U = true := by
  simp only [exSp, List.mem_cons, List.not_mem_nil, or_false] at hw
  rcases hw with rfl | rfl | rfl | rfl | rfl | rfl | rfl | rfl <;> exact h
section EX
variable {p : Program} {l : Launch} {e : Env} {R : Room} {s : State} {m : MethodId} {args : Array Value} {below : List Frame} {meth : Method} {c : Code} {locs : List Loc} {cells slots : Nat}
set_option maxHeartbeats 1000000 in
theorem e_ctor {W0 : State} (X : Stand p l e R s m args below meth c W0 locs cells slots) (hexec : p.tables.exec = Jvm.exec) (htr : e.platform.stackTraces = false) {own cls : String} {names : List String} {ic : Nat}
    (hown : s.vm.findClass own = some m.cls) (hcls : Bundle.fit cls = true) (hnames : ∀ n ∈ names, Bundle.fit n = true) (h : ∀ a ∈ Bundle.ownAtoms own ic cls names, a.before args s = true)
    {B : Nat} (hB : ∀ cl k st, s.vm.findClass Bundle.tN = some cl → s.vm.classes[cl]? = some k → k.statics = some st → st ≤ B) (hlocs : ∀ x ∈ locs, B < x.base)
    {a : Addr} {cX : ClassId} {kX : Class} (hfoundX : s.vm.findClass cls = some cX) (hkX : s.vm.classes[cX]? = some kX) (hcell : W0.heap[a]? = some (freshCell cX kX)) (hnew : s.heap.size ≤ a)
    {msg : Value} (hmsg : msg.isRef = true) {g : JFrame} (hg : g.method = m) (hsize : g.locals.size = c.maxLocals) {rest : List Value} (hstack : g.stack = msg :: .ref a :: rest)
    (hd6 : decode c.code g.pc = .ok (.invokespecial ic, 3)) (hRframes : names.length + 3 < R.frames) (hRlocals : 2 * g.monitorRoom + (rest.map fun v => v.category).sum + (13 * (names.length + 1) + 42) ≤ R.locals) :
    ∃ (vm' : Vm) (cell' : Cell) (L : List Loc), cell'.cls = cX ∧ cell'.vm = .none ∧ (∀ q ∈ L, q.base = a) ∧ Stand p l e R s m args below meth c ((W0.setVm vm').setCell a cell') (locs ++ L) cells slots ∧
      ∀ target, Steps p.tables e below (((W0.setVm vm').setCell a cell').setTop { g with pc := g.pc + 3, stack := rest }) target → Steps p.tables e below (W0.setTop g) target := by
  have hown1 : e.platform.frameOwnsMonitors = true := by rw [X.admits.platform]
  have hfin : e.platform.finalization = false := by rw [X.admits.platform]
  have hpl : e.platform.magicAccessors = ({} : Platform).magicAccessors := by rw [X.admits.platform]
  have at0 : ∀ x, x ∈ Bundle.ownAtoms own ic cls names → x.holds args s none s [] = true := fun x hx => h x hx
  obtain ⟨T, Z0, L, -, Y⟩ := ThrowableC.of_atoms (args := args) hown1 hfin hpl (fun x hx => h x (by simp [Bundle.ownAtoms, hx]))
  obtain ⟨Z, M, LZ, LM, hnZ⟩ := Init0T.ofS_atoms (args := args) hpl L Y (fun x hx => h x (by simp [Bundle.ownAtoms, hx]))
  obtain ⟨P1, Ps, hlen, L1, hL, hP1m, hlink1, hlink⟩ := Bundle.chainS (args := args) hpl hnZ names cls hcls hnames (fun x hx => h x (by simp [Bundle.ownAtoms, hx]))
  have hfound : s.vm.findClass cls = some P1.m.cls := findClass_of_methodNamed hP1m
  cases Option.some.inj (hfoundX.symm.trans hfound)
  obtain ⟨c1, kX', hc1, hk, hord, -, -, hn6⟩ := Cond.instantiable_spec (at0 (.instantiable cls 6) (by simp [Bundle.ownAtoms]))
  cases Option.some.inj (hc1.symm.trans hfound)
  cases Option.some.inj (hkX.symm.trans hk)
  have hsel0 : selectMethod e.platform s.vm P1.m.cls T.fill0 = .method T.fill0 := by
    obtain ⟨c2, r2, m2, q1, q2, q3, q4, -⟩ := Cond.selects_spec (at0 (.selects cls Bundle.tFill0 Bundle.tFill0) (by simp [Bundle.ownAtoms]))
    cases Option.some.inj (q1.symm.trans hfound)
    cases Option.some.inj (q2.symm.trans (State.methodFound?_of_named Y.fill0 (by decide)))
    cases Option.some.inj (q3.symm.trans Y.fill0)
    rw [Launch.admits_selectMethod X.admits]
    exact q4
  have hselF : selectMethod e.platform s.vm P1.m.cls T.fill = .method T.fill := by
    obtain ⟨c2, r2, m2, q1, q2, q3, q4, -⟩ := Cond.selects_spec (at0 (.selects cls Bundle.tFill Bundle.tFill) (by simp [Bundle.ownAtoms]))
    cases Option.some.inj (q1.symm.trans hfound)
    cases Option.some.inj (q2.symm.trans (State.methodFound?_of_named Y.fill (by decide)))
    cases Option.some.inj (q3.symm.trans Y.fill)
    rw [Launch.admits_selectMethod X.admits]
    exact q4
  obtain ⟨cellS0, hcS0, hiss⟩ := Y.statics
  obtain ⟨u0, hu0⟩ := Cond.staticRefV Y.unassigned L.unassignedStatic L.statics hcS0 hiss (at0 (.isRef (.static Bundle.tN "UNASSIGNED_STACK" Bundle.steD)) (by simp [Bundle.ownAtoms]))
  obtain ⟨sen, hsen⟩ := Cond.staticRefV Y.sentinel L.sentinelStatic L.statics hcS0 hiss (at0 (.isRef (.static Bundle.tN "SUPPRESSED_SENTINEL" Bundle.listD)) (by simp [Bundle.ownAtoms]))
  obtain ⟨ci198, i198, fB, hk198, hg198, ha198, hsB, -, hnB, htB, hffB⟩ := Cond.ownField (t := .object "java/lang/Object") Y.found L.cls (by decide +kernel) (at0 (.fieldLink Bundle.tN 198 Bundle.tN "backtrace" "Ljava/lang/Object;") (by simp [Bundle.ownAtoms])) (at0 (.lays Bundle.tN Bundle.tN "backtrace" "Ljava/lang/Object;") (by simp [Bundle.ownAtoms])) e.platform hpl
  obtain ⟨cellS, hcS', heS, -, hkeep⟩ := X.same.2.2.2.2.2 T.aS cellS0 hcS0
  have hcellS : W0.heap[T.aS]? = some cellS := hcS'
  have haB : T.aS ≤ B := hB _ _ _ Y.found L.cls L.statics
  have hout' : ∀ i, (⟨T.aS, i⟩ : Loc) ∉ locs := fun i hmem => by
    have h1 := hlocs _ hmem
    exact absurd haB (Nat.not_le.mpr h1)
  have hknownS : cellS.vm ≠ .unknown := by
    rw [heS]
    intro hu
    rw [show cellS0.vm = .unknown from hu] at hiss
    cases hiss
  have hneS : T.aS ≠ a := Nat.ne_of_lt (Nat.lt_of_lt_of_le (Array.getElem?_eq_some_iff.mp hcS0).1 hnew)
  obtain ⟨iM, hffM⟩ := Y.msg
  obtain ⟨tyC, dC, hdC, hdnC⟩ := Cond.laysAt hfound hk Y.cause (at0 (.lays cls Bundle.tN "cause" "Ljava/lang/Throwable;") (by simp [Bundle.ownAtoms]))
  obtain ⟨tyS, dS, hdS, hdnS⟩ := Cond.laysAt hfound hk Y.stack (at0 (.lays cls Bundle.tN "stackTrace" Bundle.steD) (by simp [Bundle.ownAtoms]))
  obtain ⟨tyP, dP, hdP, hdnP⟩ := Cond.laysAt hfound hk Y.supp (at0 (.lays cls Bundle.tN "suppressedExceptions" Bundle.listD) (by simp [Bundle.ownAtoms]))
  obtain ⟨tyM, dM, hdM, hdnM⟩ := Cond.laysAt hfound hk hffM (at0 (.lays cls Bundle.tN "detailMessage" "Ljava/lang/String;") (by simp [Bundle.ownAtoms]))
  obtain ⟨tyB, dB, hdB, hdnB⟩ := Cond.laysAt hfound hk hffB (at0 (.lays cls Bundle.tN "backtrace" "Ljava/lang/Object;") (by simp [Bundle.ownAtoms]))
  have bC := Cond.laysApart hdB hdC hdnB hdnC (by rw [hnB, Y.causeName]; decide)
  have bS := Cond.laysApart hdB hdS hdnB hdnS (by rw [hnB, Y.stackName]; decide)
  have bP := Cond.laysApart hdB hdP hdnB hdnP (by rw [hnB, Y.suppName]; decide)
  have hskip : SkipFacts T e.platform s (fun u => u) u0 ((preparedCellV T.toThrowableT (freshCell P1.m.cls kX) a u0 sen).withEntry W0.cur) :=
    ⟨{ ci198 := ci198, i198 := i198, fBack := fB }, ⟨hk198, hg198, ha198, hsB⟩, by
      have := fresh_default (c := P1.m.cls) tyB
      rw [htB] at this
      simpa [preparedCellV, Cell.setSlot, Cell.withEntry, Array.getElem?_setIfInBounds, bC, bS, bP, bC.symm, bS.symm, bP.symm, defaultValue] using this, fun _ _ => rfl⟩
  obtain ⟨tm, methC, cdC, kC, vm₁, hnC, -, -, -, -, -, -, -, hW₁, st1⟩ := Steps.initColdS (tb := p.tables) (e := e) (below := below) (s := s) (U := W0) X.here hexec X.warmed hpl hown (t := Bundle.initS cls) rfl rfl (Bundle.fit_spec hcls).2
    (at0 (.methodLink own ic (Bundle.initS cls)) (by simp [Bundle.ownAtoms])) (h (.instanceMethod (Bundle.initS cls)) (by cases names <;> simp [Bundle.ownAtoms, Bundle.chainSAtoms, Bundle.passSAtoms])) (bytes := Bundle.six) (maxL := 2) (h (.code (Bundle.initS cls) Bundle.six 2 none) (by cases names <;> simp [Bundle.ownAtoms, Bundle.chainSAtoms, Bundle.passSAtoms]))
    (f := g) hg (a := a) (msg := msg) (rest := rest) hstack hd6
  cases Option.some.inj (hnC.symm.trans hP1m)
  have X₁ := X.noted hW₁
  obtain ⟨vm₂, X₂, st2⟩ := X₁.ctorMessageOffV hexec (g := { g with stack := rest }) hg hsize T L Z LZ M LM (P1 :: Ps)
    (fun P hP => by rcases List.mem_cons.mp hP with rfl | hP; exact L1; exact hL P hP) ⟨hlink1, hlink⟩ (u0 := u0) (sen := sen) (self := a) hmsg (cell := freshCell P1.m.cls kX) (cellS := cellS)
    hcell (fun _ => by simp) (by simp) rfl rfl hsel0 hselF hcellS hneS hknownS (by rw [hkeep _ (hout' _)]; exact hu0) (by rw [hkeep _ (hout' _)]; exact hsen)
    (Takes.of_laid hk hord tyC (by rw [Y.causeType]; rfl)) (Takes.of_laid hk hord tyS (by rw [Y.stackType]; exact fits_refV_array _ u0)) (Takes.of_laid hk hord tyP (by rw [Y.suppType]; exact fits_refV_object _ sen))
    (Takes.of_laid hk hord tyM (by rw [Y.msgType]; exact fits_refV_object _ ⟨msg, hmsg⟩)) Y.objLocals hskip htr [] hd6
    (by simp only [List.length_cons, hlen]; omega) (by simp only [List.length_cons, hlen]; exact hRlocals)
  refine ⟨vm₂, plainBareV T.toThrowableT (freshCell P1.m.cls kX) a u0 sen msg, _, rfl, rfl, ?_, X₂, fun target hrest => st1 _ (fun acts => ?_)⟩
  · intro q hq
    simp only [List.mem_cons, List.not_mem_nil, or_false] at hq
    rcases hq with rfl | rfl | rfl | rfl | rfl <;> rfl
  · rw [doInvoke_state]
    exact st2 _ hrest
end EX
section EY
variable {p : Program} {l : Launch} {e : Env} {R : Room} {s : State} {m : MethodId} {args : Array Value} {below : List Frame} {meth : Method} {c : Code} {H : Heap} {locs : List Loc} {cells slots : Nat}
variable {P : eP} {N : eW} {G : eG} {X : Nat × (Nat → Int32)} {k pc c0 s0 : Nat} {ls : Array Slot} {lo : eLo} {st : List Value} {h : eH}
theorem es_throw {q : Nat × Nat × Nat × Nat} (cx : eCx P N G X p s m args meth c k) (ga : gAll P N G.cl) (gh : gThr P N G.cl) (htr : l.stackTraces = false) (ht : P.thr k pc = some q) (hh : eHs P k = []) (hcat : eCat st ≤ 8) (b : eBa P G s k c0 s0 lo h H locs cells slots ls)
    (hfr : 12 ≤ R.frames ∧ 700 ≤ R.locals) (hc : h.2.1 + 1 ≤ R.cells + c0) (hs : h.2.2 + (P.bla q.1).2 ≤ R.slots + s0) :
    W p l e R s m args below meth c H locs cells slots (eZ G s below (.inr h.2.1) (eNew h (.inr (q.1, (P.bla q.1).1)) (P.bla q.1).2) (cells + 1) (slots + (P.bla q.1).2)) (F0 m pc ls (st.map (eVal G))) := by
  obtain ⟨⟨d1, d2, d3, d4, d5⟩, hcls, hfit, ⟨T0, hcl0⟩, hatoms⟩ := gh k pc q ht
  have gn := ga.2.2.2.2.1
  obtain ⟨C, T, n, ty0, hcl1, hw1, hw2, hw3, hin, hty, hdf, hbl⟩ := gn.2.2 _ _ _ hcls
  cases hcl0.symm.trans hcl1
  have hts := cx.2.2.2.2.1
  have b4 := b.2.2.2.1
  have b5 := b.2.2.2.2
  have hKn := cx.2.2.2.2.2.1.1 q.1 _ hcl1
  have hFx := cx.2.2.2.2.2.2.2.1
  obtain ⟨⟨tx, sa, hZ⟩, hsp⟩ := hFx.1.2 k pc q ht
  refine W.newcK cx.1 cx.2.1 cx.2.2.2.1 (hts _ hw1) (hts _ hw2) (hts _ hw3) rfl d1 (by omega) (by omega) hKn.2.1 rfl fun H1 kC hkC e1 z1 o1 => ?_
  have hat : va_at G.D G.cl (H.size, eCo G (.inr (q.1, (P.bla q.1).1))) H1 := ⟨_, hcl1, (u_born ty0 hts hin hKn hkC e1 hty).to (fun j hj => absurd hj (Nat.not_lt_zero j))⟩
  have b1 := b.new (n := (P.bla q.1).2) z1 o1 hat
  refine lv_dup cx.1 cx.2.1 d2 rfl ?_
  refine va_ldcS cx.1 cx.2.1 cx.2.2.2.1 hZ d3 ?_
  intro T1 hT1 X1
  have hadm : e.platform.stackTraces = false := by
    rw [X1.admits.platform]
    exact htr
  have hnx : H.size = eAd G h.2.1 := b.2.1.next.symm
  obtain ⟨vm', cell', L, g1, g2, g3, X2, stp⟩ := e_ctor (g := F0 m (pc + 6) ls (.ref sa :: .ref H.size :: .ref H.size :: st.map (eVal G))) (names := ["java/lang/RuntimeException", "java/lang/Exception"]) (msg := .ref sa) (rest := .ref H.size :: st.map (eVal G)) (B := G.B) X1 cx.1 hadm cx.2.2.2.1 hfit (by decide +kernel) (fun w hw => by
      rcases hatoms w hw with h1 | h1
      · exact hts _ h1
      · exact exSp_any h1 (hsp w h1)) hFx.1.1 (fun x hx => b1.2.2.1.2.2 x hx) hKn.2.1 hkC (by rw [hT1]; exact e1) b.2.2.1.1 rfl rfl (b.1.2.1.trans cx.2.2.1.symm) rfl (by rw [cx.2.1]; exact d4) (by show 2 + 3 < R.frames; omega) (by
      have := e_cat (G := G) hcat
      show 2 * 0 + (1 + ((st.map (eVal G)).map fun v => v.category).sum) + (13 * (2 + 1) + 42) ≤ R.locals
      omega)
  have hlt : H.size < T1.heap.size := by rw [hT1, z1]; omega
  have e2 : ((T1.setVm vm').setCell H.size cell').heap[H.size]? = some cell' := heapAt_setCell_self (s := T1.setVm vm') cell' hlt
  have z2 : ((T1.setVm vm').setCell H.size cell').heap.size = H1.size := by
    rw [size_setCell]
    show T1.heap.size = H1.size
    rw [hT1]
  have o2 : ∀ z, z ≠ H.size → ((T1.setVm vm').setCell H.size cell').heap[z]? = H1[z]? := fun z hz => by
    rw [heapAt_setCell_ne _ (Ne.symm hz)]
    show T1.heap[z]? = H1[z]?
    rw [hT1]
  have hnz : ¬ h.2.1 = 0 := by have := b.2.1.2.1; omega
  have b2 : eBa P G s k c0 s0 lo (eNew h (.inr (q.1, (P.bla q.1).1)) (P.bla q.1).2) ((T1.setVm vm').setCell H.size cell').heap (locs ++ L) (cells + 1) (slots + (P.bla q.1).2) ls := by
    have hcellnx : (eNew h (.inr (q.1, (P.bla q.1).1)) (P.bla q.1).2).1 h.2.1 = some (.inr (q.1, (P.bla q.1).1)) := by
      show (if h.2.1 = h.2.1 then some _ else _) = _
      rw [if_pos rfl]
    have zz := b1.2.1.set (x := .inr (q.1, (P.bla q.1).1)) hnz hcellnx z2 (fun z hz => o2 z (by rw [hnx]; exact hz)) (by
      refine ⟨_, hcl1, cell', ?_, g1, g2, fun j hj => absurd hj (Nat.not_lt_zero j)⟩
      show ((T1.setVm vm').setCell H.size cell').heap[eAd G h.2.1]? = some cell'
      rw [← hnx]
      exact e2)
    have hsame : eSetH (eNew h (.inr (q.1, (P.bla q.1).1)) (P.bla q.1).2) h.2.1 (.inr (q.1, (P.bla q.1).1)) = eNew h (.inr (q.1, (P.bla q.1).1)) (P.bla q.1).2 := by
      unfold eSetH
      refine Prod.ext (funext fun z => ?_) rfl
      show (if z = h.2.1 then some _ else (if z = h.2.1 then some _ else h.1 z)) = (if z = h.2.1 then some _ else h.1 z)
      by_cases hz : z = h.2.1
      · rw [if_pos hz, if_pos hz]
      · rw [if_neg hz]
    rw [hsame] at zz
    refine ⟨b1.1, zz, ⟨by rw [z2]; exact b1.2.2.1.1, fun z h1 h2 => ?_, fun z hz => ?_⟩, b1.2.2.2⟩
    · rw [o2 z (fun hz => h2 (by rw [hz, hnx]; exact eA0_ad hnz))]
      exact b1.2.2.1.2.1 z h1 h2
    · rcases List.mem_append.mp hz with h1 | h1
      · exact b1.2.2.1.2.2 z h1
      · rw [g3 z h1, hnx]
        exact eA0_ad hnz
  have zW := e_athrow (l := l) (R := R) (e := e) (below := below) (y := h.2.1) (rs := st.map (eVal G)) cx d5 hh b2
  rw [← hnx] at zW
  obtain ⟨t, a1, bb⟩ := zW _ rfl X2
  exact ⟨t, stp t a1, bb⟩
end EY

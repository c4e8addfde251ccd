/-! THE CLAIM OUT OF ONE WALK OF THE LAW'S BODY. Your part is whole_start (and what it stands on); all else here is the same for every law, but numbers. -/
def R_law : String := "MembraneRoundsLaw"
def lw_P (b : Addr) (xs : List Int32) (args : Array Value) (s : State) : Prop := args = #[.ref b] ∧ s.IntsAt b xs ∧ xs.length ≤ 2560 ∧ (Jvm.Cond.and given_1 narrow_1).before args s = true
def lw_Q (_ : Array Value) (s : State) (o : Outcome) (t : State) : Prop := o = .returned (some (.int 1)) ∧ Framed s o t [] 601024 7293034
def lw_Z (below : List Frame) (a : Array Value) (s : State) : State → Prop := fun t => ∃ o, t.status = .running ∧ Ended t below o ∧ lw_Q a s o t
theorem lw_ret {p : Program} {l : Launch} {e : Env} {s : State} {m : MethodId} {below : List Frame} {meth : Method} {c : Code} {b : Nat} (hx : p.tables.exec = Jvm.exec) (hb : c.code = code) (hr : meth.sig.returnType = ret) (hlocks : meth.locks = false) {pc : Nat} {H : Heap} {ls : Array Slot} (hdg : decode code pc = .ok (.ireturn, 1)) : W p l e room_1 s m #[Value.ref b] below meth c H [] 601024 7293034 (lw_Z below #[Value.ref b] s) (F0 m pc ls [.int 1]) := by
  intro T hT X
  obtain ⟨fs, hret, hrun, hended, hW, hframe⟩ := X.leave (v := some (.int 1)) (hlocks := hlocks) (fun h => by rw [hr] at h; cases h)
  have hmeth' : T.vm.method? m = some meth := X.method'
  refine ⟨T.setFrames fs, ?_, .returned (some (.int 1)), hrun, hended, rfl, ⟨_, rfl⟩, hW, hframe⟩
  jvm_step X.here [X.here.top, hx, hb, hdg, hmeth', hr, ret, narrow_b1]
  (try refine ⟨rfl, ?_⟩); (try refine ⟨rfl, ?_⟩)
  first | (intro acts; rw [hret _ acts rfl rfl rfl]) | rw [hret _ _ rfl rfl rfl]
  exact Steps.refl _
def lw_At (p : Program) (s : State) (m : MethodId) (meth : Method) (c : Code) (b L : Nat) (xs : Nat → Int32) : Prop :=
  p.tables.exec = Jvm.exec ∧ c.code = code ∧ meth.sig.returnType = ret ∧ c.maxLocals = 7 ∧ s.vm.findClass R_law = some m.cls ∧ (∀ w ∈ lw_tbl, w.before #[Value.ref b] s = true) ∧ va_X b L xs s s.heap ∧ b < s.heap.size ∧ meth.locks = false ∧ (Jvm.Cond.and given_1 narrow_1).before #[Value.ref b] s = true
def pH0 : eH := (fun _ => none, 1, 0)
def LawRuns : Prop := ∀ X : Nat × (Nat → Int32), X.1 ≤ 2560 → ∃ (n : Nat) (hE : eH), eGo pP X (eRun pP X n 100) 139 n (0, eEntry (eNL pP 139) [.ref 0], [], pH0) = some (.inl (some (.int 1)), hE) ∧ hE.2.1 ≤ 601025 ∧ hE.2.2 ≤ 7293034
theorem pl_classes {s : State} {args : Array Value} (hts : ∀ w ∈ lw_gd, w.before args s = true) : ∃ D : va_G, ∀ (c : Nat) (q : vw_C), pCL[c]? = some q → u_Kn s q.1 q.2.1 q.2.2 (D.1 c) (D.2 c) := by
  have key : ∀ c : Nat, ∃ z : ClassId × (Nat → Nat), ∀ q : vw_C, pCL[c]? = some q → u_Kn s q.1 q.2.1 q.2.2 z.1 z.2 := fun c => by
    cases h : pCL[c]? with
    | none => exact ⟨(0, fun _ => 0), fun q hq => by cases hq⟩
    | some q =>
      obtain ⟨n, h1, h2⟩ := ps_inst c q h
      obtain ⟨cC, iS, hk⟩ := u_known hts h2 (hts _ h1)
      exact ⟨(cC, iS), fun q' hq' => by cases hq'; exact hk⟩
  obtain ⟨f, hf⟩ := Classical.skolem.mp key
  exact ⟨(fun c => (f c).1, fun c => (f c).2), fun c q hq => hf c q hq⟩
theorem pl_arrays {s : State} {args : Array Value} (hts : ∀ w ∈ lw_tbl, w.before args s = true) : ∃ ca : Nat → ClassId, ∀ (tt : Nat) (ty : FieldType), pTy[tt]? = some ty → ArrOfT s (ca tt) ty ∧ va_RA s (ca tt) ty := by
  have key : ∀ tt : Nat, ∃ cA : ClassId, ∀ ty : FieldType, pTy[tt]? = some ty → ArrOfT s cA ty ∧ va_RA s cA ty := fun tt => by
    cases h : pTy[tt]? with
    | none => exact ⟨0, fun q hq => by cases hq⟩
    | some ty =>
      rcases ps_arr tt ty h with h1 | ⟨C, rfl, h1⟩
      · obtain ⟨c, k, comp, e1, e2, e3⟩ := Cond.arrayClass_spec (hts _ (List.mem_filter.mp h1).1)
        refine ⟨c, fun ty' hty' => ?_⟩
        cases hty'
        refine ⟨fun n z => ⟨fun k h => (by cases h), k, e2, comp, e3⟩, ?_⟩
        match tt with
        | 0 => cases h; exact e1
        | 1 => cases h; exact e1
        | 2 => cases h; exact e1
        | 3 => cases h; exact absurd h1 (by decide +kernel)
        | 4 => cases h; exact absurd h1 (by decide +kernel)
        | n + 5 => cases h
      · obtain ⟨comp, c, k, e1, e2, e3, e4, e5⟩ := Cond.arrayOver_spec (hts _ h1)
        refine ⟨c, fun ty' hty' => ?_⟩
        cases hty'
        exact ⟨fun n z => ⟨fun k h => (by cases h), k, e3, comp, e4⟩, k, comp, e3, e4, e1, e5⟩
  obtain ⟨f, hf⟩ := Classical.skolem.mp key
  exact ⟨f, hf⟩
theorem exSp_any0 {C : String} {w : Cond} (hw : w ∈ exSp C) {A : Array Value} {U : State} (h : w.before A U = true) : w.before #[] U = true := by
  simp only [exSp, List.mem_cons, List.not_mem_nil, or_false] at hw
  rcases hw with rfl | rfl | rfl | rfl | rfl | rfl | rfl | rfl <;> exact h
theorem pl_fx {s : State} {b : Nat} {D : va_G} {ca : Nat → ClassId} (hts : ∀ w ∈ lw_tbl, w.before #[Value.ref b] s = true) (hgv : (Jvm.Cond.and given_1 narrow_1).before #[Value.ref b] s = true) : eFx pP pN (b, s.heap.size - 1, fun _ => 0, ca, D, pCL) s := by
  have hfl : ∀ w ∈ psF, w.before #[Value.ref b] s = true := flat_of_before _ hgv
  refine ⟨⟨fun cl k st h1 h2 h3 => ?_, fun k pc q hq => ⟨?_, fun w hw => ?_⟩⟩, fun o ix tt ht => ?_, fun o ix k n hm => ?_, fun k q hq c1 r hr hne => ?_⟩
  · obtain ⟨cl', k', i, f, a, cell, hc, hi, hst, ha, hcell, hs, hcls, hlt, hty⟩ := Cond.laysStatic_spec (hts _ ps_l_0)
    cases h1.symm.trans hc
    cases h2.symm.trans (State.fieldFound?_class hi)
    cases h3.symm.trans ha
    have := (Array.getElem?_eq_some_iff.mp hcell).1
    exact Nat.le_sub_one_of_lt this
  · obtain ⟨tx, h1, h2⟩ := ps_str (k, pc, q) (ptT_in hq)
    obtain ⟨a, c, cell, kk, e1, -⟩ := Cond.exactly_spec (hfl _ h2)
    exact ⟨tx, a, vk_R.of (hts _ h1) e1⟩
  · rcases ps_sp (ps_cc (k, pc, q) (ptT_in hq)) w hw with h1 | h1
    · exact exSp_any0 hw (hts _ h1)
    · exact exSp_any0 hw (hfl _ h1)
  · obtain ⟨C, hC⟩ := ps_obj (o, ix, tt) (paA_in ht)
    refine ⟨C, hC, ?_⟩
    rcases ps_arr tt _ hC with h1 | ⟨C', h2, h1⟩
    · match tt with
      | 0 => cases hC
      | 1 => cases hC
      | 2 => cases hC
      | 3 => cases hC; exact va_AO.of (hts _ ps_a_3)
      | 4 => cases hC; exact va_AO.of (hts _ ps_a_4)
      | n + 5 => cases hC
    · cases h2
      exact va_AO.of (hts _ h1)
  · rcases pk2_all _ (pk2_in (o, ix, 2, k, n) (pmM_in hm) rfl) with h1 | ⟨host, h1⟩
    · exact Or.inl h1
    · exact Or.inr ⟨host, va_Nw.of rfl (hts _ h1)⟩
  · have hlt : c1 < 12 := (List.getElem?_eq_some_iff.mp hr).1
    exact va_Nc.of (hfl _ (ps_nc c1 hlt q.2.2.2 (ps_hc k q hq) hne))
theorem whole_start {p : Program} {e : Env} {s : State} {m : MethodId} {below : List Frame} {meth : Method} {c : Code} (l : Launch) {b L : Nat} {xs : Nat → Int32} (hL : L ≤ 2560) (C0 : lw_At p s m meth c b L xs) (htr : l.stackTraces = false) (hx1 : c.exceptionTable.toList = [])
    (hx2 : ∀ raw, Cond.codeWith (pN.mn 139) (pN.cd 139) (eNL pP 139) (eRt pP 139) raw ∈ lw_gd → c.exceptionTable.toList.map (fun h => (h.startPc, h.endPc, h.handlerPc, h.catchType)) = raw) (hrun : LawRuns) :
    W p l e room_1 s m #[Value.ref b] below meth c s.heap [] 0 0 (lw_Z below #[Value.ref b] s) (entryFrame m ([Value.ref b] : List Value).toArray 7) := by
  obtain ⟨hexec, hcode, hret, hml, hown, hts, hX, hbl, hlocks, hgv⟩ := C0
  have htg : ∀ w ∈ lw_gd, w.before #[Value.ref b] s = true := fun w hw => hts w (List.mem_filter.mp hw).1
  obtain ⟨D, hD⟩ := pl_classes htg
  obtain ⟨ca, hca⟩ := pl_arrays hts
  obtain ⟨n, hE, hgo, hc1, hc2⟩ := hrun (L, xs) hL
  let G : eG := (b, s.heap.size - 1, fun _ => 0, ca, D, pCL)
  have hK : va_K G.D G.cl (eTy G pN) s := ⟨hD, fun k q hq => by
    have hq' : (pTy.zipIdx.map fun q => (ca q.2, q.1))[k]? = some q := hq
    rw [List.getElem?_map, List.getElem?_zipIdx] at hq'
    cases hk : pTy[k]? with
    | none => rw [hk] at hq'; cases hq'
    | some ty =>
      rw [hk] at hq'
      have hq2 : (ca (0 + k), ty) = q := Option.some.inj hq'
      rw [Nat.zero_add] at hq2
      rw [← hq2]
      exact hca k ty hk⟩
  have cx : eCx pP pN G (L, xs) p s m #[Value.ref b] meth c 139 := ⟨hexec, hcode, hml, hown, htg, hK, ⟨hX, by show b ≤ s.heap.size - 1; omega, by show s.heap.size - 1 < s.heap.size; omega⟩, pl_fx hts hgv, fun h => absurd h (by decide), hret, hlocks, fun _ => hx1, hx2⟩
  have hR : eRel G pH0 s.heap := ⟨by show s.heap.size = s.heap.size - 1 + 1; omega, Nat.le_refl _, fun r x hx => by cases hx⟩
  have hb0 : eBa pP G s 139 1 0 (eEntry (eNL pP 139) [.ref 0]) pH0 s.heap [] 0 0 ((lg_sl ([.ref 0].map (eVal G)) ++ List.replicate (eNL pP 139 - (lg_sl ([.ref 0].map (eVal G))).length) Slot.unset).toArray) := by
    refine ⟨⟨rfl, ?_⟩, hR, ⟨Nat.le_refl _, fun _ _ _ => rfl, fun q hq => absurd hq List.not_mem_nil⟩, rfl, rfl⟩
    unfold eEntry
    rw [eAs_args]
    exact lv_entry (n := 7) ([.ref 0].map (eVal G)) (Nat.le_of_ble_eq_true rfl)
  have z := e_go (e := e) (below := below) (R := room_1) (d := 100) cx pg_all pg_thr htr pg_han (fun k' as' h1 r1 h2 hc => eRun_mono _ _ _ _ _ _ hc) (fun k' as' h1 r1 h2 g1 g2 hc => e_met pg_all pg_thr htr pg_han 100 k' as' h1 r1 h2 g1 g2 hc) ⟨by decide, by decide⟩
    (by show hE.2.1 ≤ 601024 + 1; exact hc1) (by show hE.2.2 ≤ 7293034 + 0; exact hc2) n _ _ _ _ hgo s.heap [] 0 0 _ hb0
  rw [lg_entry_eq]
  intro T hT X0
  obtain ⟨t, a1, q1, q2, q3, q4, q5, Lc, q6, q7⟩ := z T hT X0
  refine ⟨t, a1, .returned (some (.int 1)), q1, q2, rfl, ⟨_, rfl⟩, q4, q6.weaken (fun y hy hlt => ?_) (by omega) (by omega)⟩
  have h7 : s.heap.size - 1 < y.base := q7 y hy
  exact absurd hlt (Nat.not_lt.mpr (Nat.le_of_pred_lt h7))

set_option maxHeartbeats 4000000 in
theorem lw_walk (hrun : LawRuns) (l : Launch) (htr : l.stackTraces = false) (b : Addr) (xs : List Int32) : MetFree l x (headSpec (Jvm.Cond.code x code maxLocals ret :: tables_1) room_1) (lw_P b xs) (fun _ _ _ _ _ => True) lw_Q := by
  refine MetFree.of_bodyS (code := code) (maxLocals := maxLocals) (ret := ret) (by decide) ?_ ?_
  · intro args s m h hn
    obtain ⟨meth, c, h1, h2, h3, h4, h5, h6, -, -⟩ := Cond.code_spec hn (atoms_spec (ws := Jvm.Cond.code x code maxLocals ret :: tables_1) h _ List.mem_cons_self)
    exact ⟨meth, c, h1, h2, h3, h4, h5, h6⟩
  · intro p e s m args below meth c s₁ B hml0 hP _
    obtain ⟨rfl, hx, hbd, hgv⟩ := hP
    obtain ⟨scr, harrAt, hlist, hof, hsmall⟩ := hx
    obtain ⟨hcb, hkn, -, -⟩ := State.arrayAt?_spec harrAt
    have hown : s.vm.findClass R_law = some m.cls := findClass_of_methodNamed B.named
    have hts0 : ∀ c ∈ (Jvm.Cond.code x code maxLocals ret :: tables_1), c.before #[Value.ref b] s = true := atoms_spec (ws := Jvm.Cond.code x code maxLocals ret :: tables_1) B.pre
    have hts : ∀ w ∈ lw_tbl, w.before #[Value.ref b] s = true := k2_hts_sels lw_privs (fun w hw => hts0 w (List.mem_cons_of_mem _ hw)) lw_privs_ok
    have hml : c.maxLocals = 7 := B.maxLocals_eq (hts0 _ List.mem_cons_self)
    have X₀ : Stand p l e room_1 s m #[Value.ref b] below meth c s₁ [] 0 0 := Stand.of_body B
    have hx1 : c.exceptionTable.toList = [] := by
      obtain ⟨meth', c', h1, h2, -, -, -, -, h7, -⟩ := Cond.code_spec B.named (hts0 _ List.mem_cons_self)
      cases B.method.symm.trans h1
      cases X₀.code.symm.trans h2
      simpa using h7
    have hx2 : ∀ raw, Cond.codeWith (pN.mn 139) (pN.cd 139) (eNL pP 139) (eRt pP 139) raw ∈ lw_gd → c.exceptionTable.toList.map (fun h => (h.startPc, h.endPc, h.handlerPc, h.catchType)) = raw := fun raw hraw => by
      obtain ⟨m', meth', c', h0, h1, h2, -, -, h5, -⟩ := Cond.codeWith_spec (hts _ (List.mem_filter.mp hraw).1)
      cases B.named.symm.trans (show s.methodNamed? x = some m' from h0)
      cases B.method.symm.trans h1
      cases X₀.code.symm.trans h2
      exact h5
    have hh0 : s₁.heap = s.heap := by rw [B.state]; rfl
    have hsz : scr.slots.size = xs.length := by rw [← Array.length_toList, hlist, List.length_map]
    have hval : ∀ j : Nat, j < xs.length → scr.slots[j]? = some (.int (xs.getD j 0)) := fun j hj => by
      rw [← Array.getElem?_toList, hlist]
      simp [hj]
    have hbl : b < s.heap.size := (Array.getElem?_eq_some_iff.mp hcb).1
    have hX : va_X b xs.length (fun j => xs.getD j 0) s s.heap := ⟨scr, hcb, hof, hkn, hsz, hval⟩
    have K : W p l e room_1 s m #[Value.ref b] below meth c s₁.heap [] 0 0 (lw_Z below #[Value.ref b] s) (entryFrame m ([Value.ref b] : List Value).toArray 7) := by
      rw [hh0]
      exact whole_start l hbd ⟨B.exec, B.bytes, B.returns, hml, hown, hts, hX, hbl, B.notSynchronized, hgv⟩ htr hx1 hx2 hrun
    obtain ⟨t, a1, o, b1, b2, b3⟩ := K s₁ rfl X₀
    exact ⟨t, o, a1, b1, b2, b3⟩
theorem lw_pre_spec {args : Array Value} {s : State} (h : (Jvm.Cond.and given_1 narrow_1).before args s = true) (hr : rest_1_c.before args s = true) : ∃ (b : Addr) (xs : List Int32), lw_P b xs args s := by
  have hs := flat_of_before _ h
  have hq := flat_of_before _ hr
  have hc : (Cond.count 1).before args s = true := hs _ (by decide +kernel)
  have harr : (Cond.arrayOf (.arg 0) .int).before args s = true := hs _ (by decide +kernel)
  have hle : (Cond.le (.length (.arg 0)) (.int 2560)).before args s = true := hs _ (by decide +kernel)
  have hlen : (Cond.isInt (.length (.arg 0))).before args s = true := hq _ (by decide +kernel)
  have hall : (Cond.all (.arg 0) (.isInt (.elem (.arg 0) (.index 0)))).before args s = true := hq _ (by decide +kernel)
  obtain ⟨b, xs, hb, hx⟩ := State.ints_of_pre rfl harr hlen hall
  have hsm : xs.length < 2 ^ 31 := hx.choose_spec.2.2.2
  have hev : (Term.length (.arg 0)).eval args s none [] s = some (.int xs.length.toInt32) := hx.length_eval hb
  have hv := Cond.le_ints hev (show (Term.int 2560).eval args s none [] s = some (.int 2560) from rfl)
  have hd : xs.length.toInt32 ≤ 2560 := by
    simpa [Cond.before, Cond.holds, hv] using hle
  have hN : xs.length ≤ 2560 := (Int32.ofNat_le_ofNat hsm (by decide)).mp (show Int32.ofNat xs.length ≤ Int32.ofNat 2560 from hd)
  exact ⟨b, xs, Cond.one_arg hc (show args[0]? = some (.ref b) from hb), hx, hN, h⟩
theorem lw_comes (hrun : LawRuns) (l : Launch) (htr : l.stackTraces = false) : Comes l x (Jvm.Cond.code x code maxLocals ret :: tables_1) room_1 (fun tb e args s => Calls_1 tb e args s ∧ rest_1 tb e args s ∧ Pre_1 tb e args s)
    (fun _ _ args s o t => lw_Q args s o t) := by
  intro p e ha hc hk s m args below hf hfit hheap happ hpre
  obtain ⟨b, xs, hP⟩ := lw_pre_spec hpre.2.2 hpre.2.1
  obtain ⟨k, o, h1, h2, h3, hQ⟩ := lw_walk hrun l htr b xs p e ha hc hk s m args below hf ((Spec.applies_iff_loose hf).mp happ).1 hP trivial
  exact ⟨k, o, h1, h2, h3, hQ⟩
theorem lw_frame {s t : State} {o : Outcome} {args : Array Value} (h : Framed s o t [] 601024 7293034) :
    Framed s o t (fieldLocs frame_1_writes args s ++ arrayLocs frame_1_arrays args s ++ staticLocs frame_1_statics s) 601024 7293034 := h
theorem lw_limb (hrun : LawRuns) (L : Cond) (hL : ∀ (args : Array Value) (s t : State), L.after args s (.returned (some (.int 1))) t = true) :
    ArmFor flags0 classFile x code maxLocals ret World_1 tables_1 room_1 Calls_1 rest_1 Pre_1
      (fun tb e a s o t => postC L tb e a s o t ∧ Framed s o t (fieldLocs frame_1_writes a s ++ arrayLocs frame_1_arrays a s ++ staticLocs frame_1_statics s) 601024 7293034) := by
  intro l hfl _ _ p e ha hc hk s m args below hf hfit hheap happ hpre
  obtain ⟨k, o, h1, h2, h3, rfl, hF⟩ := lw_comes hrun l (by unfold Launch.stackTraces; rw [hfl]; decide +kernel) p e ha hc hk s m args below hf hfit hheap happ hpre
  exact ⟨k, _, h1, h2, h3, hL args s _, lw_frame hF⟩

def gHan (P : eP) (N : eW) : Prop := ∀ k, ¬ eHs P k = [] → ∃ raw, Cond.codeWith (N.mn k) (N.cd k) (eNL P k) (eRt P k) raw ∈ lw_gd ∧ raw.length = (eHs P k).length ∧
  ∀ (j : Nat) (q g : Nat × Nat × Nat × Nat), raw[j]? = some q → (eHs P k)[j]? = some g → q.1 = g.1 ∧ q.2.1 = g.2.1 ∧ q.2.2.1 = g.2.2.1 ∧ ¬ q.2.2.2 = 0 ∧ Cond.classLink (N.cn (eOwn P k)) q.2.2.2 (N.cn g.2.2.2) ∈ lw_gd
section EC
variable {E : CtlPost} {e : Env} {d : Bool} {acts : List Action} {s : State} {f : JFrame} {a : Addr} {Q : Handler → Pre}
theorem e_goCold {x : ExceptionTableEntry} {t : List ExceptionTableEntry} {c : ClassId} {cell : Cell} {vm' : Vm} (hx : covers x f.pc = true) (h0 : x.catchType ≠ 0)
    (hg : (Jvm.resolveClass f.method.cls x.catchType).Gives e.toSetting s.vm (.ok c) vm') (hsz : vm'.classes.size ≤ s.vm.classes.size) (hcell : s.heap[a]? = some cell) (hobj : ∀ k, cell.vm ≠ .statics k)
    (hk : ∃ k, vm'.classes[cell.cls]? = some k) (hc : ∃ k, vm'.classes[c]? = some k) :
    Sem.wp (findHandler.go f a (x :: t)) Q E e d acts s ↔ if vm'.assignable cell.cls c = true then Q (.found x.handlerPc) d acts (s.setVm vm') else Sem.wp (findHandler.go f a t) Q E e d acts (s.setVm vm') := by
  simp only [covers] at hx
  obtain ⟨ha, ht⟩ := hg.op (op := VmOp.resolveClass f.method.cls x.catchType) rfl
  cases hfit : vm'.assignable cell.cls c <;>
    simp [findHandler.go, hx, h0, ha, ht, hsz, hcell, hobj, hk, hc, hfit, VmOp.dirties, VmOp.acts]
theorem e_stepCatch {r : List Frame} {pc : Nat} {vm' : Vm} (hfind : ∀ (Q : Handler → Pre) (E : CtlPost) (d : Bool) (acts : List Action), Sem.wp (findHandler f a) Q E e d acts s ↔ Q (.found pc) d acts (s.setVm vm')) :
    (stepThrowing e s a (.java f :: r)).Is ((s.setVm vm').setFrames (.java { f with pc := pc, stack := [.ref a] } :: r)) [] := by
  simp only [stepThrowing, searchFrame, vmDo]
  generalize hr : Sem.go _ e false [] s = res
  obtain ⟨as, rfl, ha⟩ := Sem.eq_ok_of hr (a := Handler.found pc) (s' := s.setVm vm') (acts' := []) (by simp [hfind _ _ _ _])
  exact ⟨rfl, ha⟩
end EC
theorem e_len3 {i : Instr} {kd ix len : Nat} (hk : eKd i = (1, kd, ix)) (hlen : eIl i = 0 ∨ len = eIl i) : len = 3 ∧ (kd = 0 → i = .invokestatic ix) ∧ (kd = 1 → i = .invokevirtual ix) ∧ (kd = 2 → i = .invokespecial ix) := by
  cases i <;> first
    | (cases hk; done)
    | (cases hk
       refine ⟨by simpa [eIl] using hlen, fun z => ?_, fun z => ?_, fun z => ?_⟩ <;> first | rfl | cases z)
section ES9
variable {p : Program} {l : Launch} {e : Env} {R : Room} {s : State} {m : MethodId} {args : Array Value} {below : List Frame} {meth : Method} {c : Code}
variable {P : eP} {N : eW} {G : eG} {X : Nat × (Nat → Int32)} {k c0 s0 : Nat}
theorem e_find {T : State} {g : JFrame} {y c1 t : Nat} {fs : List Value} {locs : List Loc} {cells slots : Nat} (cx : eCx P N G X p s m args meth c k) (gl : gCl N G.cl) (X1 : Stand p l e R s m args below meth c T locs cells slots) (hg : g.method = m) (hy : ¬ y = 0) (hat : va_at G.D G.cl (eAd G y, eCo G (.inr (c1, fs))) T.heap) :
    ∀ (xs : List ExceptionTableEntry) (hs : List (Nat × Nat × Nat × Nat)), xs.length = hs.length → (∀ q ∈ hs, q ∈ eHs P k) →
      (∀ (j : Nat) (x : ExceptionTableEntry) (q : Nat × Nat × Nat × Nat), xs[j]? = some x → hs[j]? = some q → x.startPc = q.1 ∧ x.endPc = q.2.1 ∧ x.handlerPc = q.2.2.1 ∧ ¬ x.catchType = 0 ∧ Cond.classLink (N.cn (eOwn P k)) x.catchType (N.cn q.2.2.2) ∈ lw_gd) →
      eHan hs g.pc c1 = some t → ∀ (vm : Vm), s.WarmedH vm → ∃ vm', s.WarmedH vm' ∧ ∀ (Q : Handler → Pre) (E : CtlPost) (d : Bool) (acts : List Action),
        Sem.wp (findHandler.go g (eAd G y) xs) Q E e d acts (((T.setTop g).pushFrame (.throwing (eAd G y))).setVm vm) ↔ Q (.found t) d acts (((T.setTop g).pushFrame (.throwing (eAd G y))).setVm vm') := by
  obtain ⟨r1, hr1, cell, q1, q2, q3, -⟩ := hat
  have hK1 := cx.2.2.2.2.2.1.1 c1 r1 hr1
  intro xs
  induction xs with
  | nil =>
    intro hs hlen hmem hrel hhan
    cases hs with
    | nil => cases hhan
    | cons q hs => cases hlen
  | cons x xs ih =>
    intro hs hlen hmem hrel hhan vm hW
    cases hs with
    | nil => cases hlen
    | cons q hs =>
      obtain ⟨a, b, t', c'⟩ := q
      obtain ⟨e1, e2, e3, e4, e5⟩ := hrel 0 x (a, b, t', c') rfl rfl
      have hrel' : ∀ (j : Nat) (x : ExceptionTableEntry) (q : Nat × Nat × Nat × Nat), xs[j]? = some x → hs[j]? = some q → x.startPc = q.1 ∧ x.endPc = q.2.1 ∧ x.handlerPc = q.2.2.1 ∧ ¬ x.catchType = 0 ∧ Cond.classLink (N.cn (eOwn P k)) x.catchType (N.cn q.2.2.2) ∈ lw_gd := fun j x q h1 h2 => hrel (j + 1) x q (by simpa using h1) (by simpa using h2)
      have hmem' : ∀ q ∈ hs, q ∈ eHs P k := fun q hq => hmem q (List.mem_cons_of_mem _ hq)
      have hlen' : xs.length = hs.length := by simpa using hlen
      simp only [eHan] at hhan
      by_cases hcov : a ≤ g.pc ∧ g.pc < b
      · have hx : covers x g.pc = true := by
          simp only [covers, Bool.and_eq_true, decide_eq_true_eq]
          exact ⟨by rw [e1]; exact hcov.1, by rw [e2]; exact hcov.2⟩
        have hpl : e.platform.magicAccessors = ({} : Platform).magicAccessors := by rw [X1.admits.platform]
        obtain ⟨cH, hfc, hlk⟩ := Cond.classLink_spec (s := s) cx.2.2.2.1 (cx.2.2.2.2.1 _ e5) e.platform hpl
        obtain ⟨dk, _, _, _, hdk, _, _, _, _, _, _, hres⟩ := hlk.here
        have hW1 : s.WarmedH (vm.noted m.cls x.catchType (.cls cH)) := hW.noted hdk hres (State.rightAt_cls hlk)
        have hgv : (Jvm.resolveClass g.method.cls x.catchType).Gives e.toSetting vm (.ok cH) (vm.noted m.cls x.catchType (.cls cH)) := by
          rw [hg]
          exact resolveClass_links e.toSetting (hW.classLinks hlk)
        have hcl1 : ∃ k, (vm.noted m.cls x.catchType (.cls cH)).classes[cell.cls]? = some k := by
          obtain ⟨kC, hkC, -⟩ := hK1.2.2
          obtain ⟨k2, hk2, -⟩ := hW1.alike.2.2 _ _ hkC
          exact ⟨k2, by rw [q2]; exact hk2⟩
        have hcl2 : ∃ k, (vm.noted m.cls x.catchType (.cls cH)).classes[cH]? = some k := by
          obtain ⟨kC, hkC⟩ := Vm.classAt_of_findClass hfc
          obtain ⟨k2, hk2, -⟩ := hW1.alike.2.2 _ _ hkC
          exact ⟨k2, hk2⟩
        have key := fun (Q : Handler → Pre) (E : CtlPost) (d : Bool) (acts : List Action) => e_goCold (t := xs) (Q := Q) (E := E) (d := d) (acts := acts) (f := g) (a := eAd G y) (s := ((T.setTop g).pushFrame (.throwing (eAd G y))).setVm vm) (cell := cell) hx e4 hgv (by rw [Vm.size_note]; exact Nat.le_refl _) (by
          show ((T.setTop g).pushFrame (.throwing (eAd G y))).heap[eAd G y]? = some cell
          rw [Stand.throwing_heap]
          exact q1) (fun z hz => by rw [q3] at hz; cases hz) hcl1 hcl2
        by_cases hc : c' = c1
        · rw [if_pos ⟨hcov.1, hcov.2, hc⟩] at hhan
          cases hhan
          refine ⟨_, hW1, fun Q E d acts => (key Q E d acts).trans ?_⟩
          have hasg : (vm.noted m.cls x.catchType (.cls cH)).assignable cell.cls cH = true := by
            rw [hW1.alike.assignable, q2]
            have hcH : cH = G.D.1 c1 := by
              have h1 := hK1.2.1
              rw [gl c1 r1 hr1] at h1
              have h2 : s.vm.findClass (N.cn c1) = some cH := by rw [← hc]; exact hfc
              exact Option.some.inj (h2.symm.trans h1)
            rw [hcH]
            exact va_assign hK1.2
          rw [if_pos hasg, e3]
          exact Iff.rfl
        · rw [if_neg (fun z => hc z.2.2)] at hhan
          obtain ⟨vm', hW', hrest⟩ := ih hs hlen' hmem' hrel' hhan _ hW1
          refine ⟨vm', hW', fun Q E d acts => (key Q E d acts).trans ?_⟩
          have hasg : (vm.noted m.cls x.catchType (.cls cH)).assignable cell.cls cH = false := by
            rw [hW1.alike.assignable, q2]
            obtain ⟨c2, t2, n1, n2, n3⟩ := cx.2.2.2.2.2.2.2.1.2.2.2 k (a, b, t', c') (hmem _ List.mem_cons_self) c1 r1 hr1 hc
            have h1 := hK1.2.1
            rw [gl c1 r1 hr1] at h1
            cases n1.symm.trans h1
            cases n2.symm.trans hfc
            exact n3
          rw [if_neg (by rw [hasg]; decide)]
          exact hrest Q E d acts
      · have hx : covers x g.pc = false := by
          cases hz : covers x g.pc with
          | false => rfl
          | true =>
            simp only [covers, Bool.and_eq_true, decide_eq_true_eq] at hz
            rw [e1, e2] at hz
            exact absurd hz hcov
        rw [if_neg (fun z => hcov ⟨z.1, z.2.1⟩)] at hhan
        obtain ⟨vm', hW', hrest⟩ := ih hs hlen' hmem' hrel' hhan vm hW
        exact ⟨vm', hW', fun Q E d acts => (W.findHandler_go_skip hx).trans (hrest Q E d acts)⟩
theorem e_catch {T : State} {pc y c1 t : Nat} {ls : Array Slot} {rs fs : List Value} {locs : List Loc} {cells slots : Nat} (cx : eCx P N G X p s m args meth c k) (gk : gHan P N) (gl : gCl N G.cl) (X1 : Stand p l e R s m args below meth c T locs cells slots) (hy : ¬ y = 0) (hat : va_at G.D G.cl (eAd G y, eCo G (.inr (c1, fs))) T.heap) (ht : eHan (eHs P k) pc c1 = some t) :
    ∃ vm', Stand p l e R s m args below meth c (T.setVm vm') locs cells slots ∧ ∀ target, Steps p.tables e below ((T.setVm vm').setTop (F0 m t ls [.ref (eAd G y)])) target → Steps p.tables e below ((T.setTop (F0 m pc ls rs)).pushFrame (.throwing (eAd G y))) target := by
  have hne : ¬ eHs P k = [] := fun z => by rw [z] at ht; cases ht
  obtain ⟨raw, hraw, hlen, hrel⟩ := gk k hne
  have htab := cx.2.2.2.2.2.2.2.2.2.2.2.2 raw hraw
  have hl1 : c.exceptionTable.toList.length = (eHs P k).length := by rw [← hlen, ← htab, List.length_map]
  obtain ⟨vm', hW', hfind⟩ := e_find (g := F0 m pc ls rs) cx gl X1 rfl hy hat c.exceptionTable.toList (eHs P k) hl1 (fun q hq => hq) (fun j x q h1 h2 => hrel j (x.startPc, x.endPc, x.handlerPc, x.catchType) q (by rw [← htab, List.getElem?_map, h1]; rfl) h2) ht T.vm X1.warmed
  refine ⟨vm', X1.noted hW', fun target hrest => ?_⟩
  have h : At T (F0 m pc ls rs).method c below := X1.here
  obtain ⟨hgo, hw⟩ := h.throwing (eAd G y)
  refine Steps.head hgo hw ?_
  have hm0 : ((T.setTop (F0 m pc ls rs)).pushFrame (.throwing (eAd G y))).vm.method? (F0 m pc ls rs).method = some meth := by
    rw [Stand.throwing_vm]
    exact X1.method'
  have hv : ((T.setTop (F0 m pc ls rs)).pushFrame (.throwing (eAd G y))).setVm T.vm = (T.setTop (F0 m pc ls rs)).pushFrame (.throwing (eAd G y)) := by
    rw [← Stand.throwing_vm T (F0 m pc ls rs) (eAd G y)]
    exact State.setVm_self _
  have hf2 : ∀ (Q : Handler → Pre) (E : CtlPost) (d : Bool) (acts : List Action), Sem.wp (findHandler (F0 m pc ls rs) (eAd G y)) Q E e d acts ((T.setTop (F0 m pc ls rs)).pushFrame (.throwing (eAd G y))) ↔ Q (.found t) d acts (((T.setTop (F0 m pc ls rs)).pushFrame (.throwing (eAd G y))).setVm vm') := fun Q E d acts => by
    refine (W.findHandler_eq hm0 X1.code).trans ?_
    have z := hfind Q E d acts
    rw [hv] at z
    exact z
  have hstep := e_stepCatch (r := T.frames.tail) hf2
  rw [stepThread_throwing (frames_entered h.top _), hstep.1]
  obtain ⟨g₀, hg⟩ := Option.isSome_iff_exists.mp h.top
  obtain ⟨r, hr⟩ := State.topJava?_eq_some.mp hg
  have hr' : (T.setVm vm').frames = .java g₀ :: r := hr
  rw [State.setTop_of_frames _ hr'] at hrest
  rw [hr]
  have hfin : (((T.setTop (F0 m pc ls rs)).pushFrame (.throwing (eAd G y))).setVm vm').setFrames (.java (F0 m t ls [.ref (eAd G y)]) :: r) = (T.setVm vm').setFrames (.java (F0 m t ls [.ref (eAd G y)]) :: r) := by
    rw [State.pushFrame, State.setTop_of_frames _ hr]
    show (((T.setVm vm').setFrames _).setFrames _).setFrames _ = _
    rw [State.setFrames_setFrames, State.setFrames_setFrames]
  show Steps p.tables e below ((((T.setTop (F0 m pc ls rs)).pushFrame (.throwing (eAd G y))).setVm vm').setFrames (.java (F0 m t ls [.ref (eAd G y)]) :: r)) target
  rw [hfin]
  exact hrest
theorem e_go {call : Nat → List Value → eH → Option (eR × eH)} {d : Nat} {r : eR} {hE : eH} (cx : eCx P N G X p s m args meth c k) (ga : gAll P N G.cl) (gh : gThr P N G.cl) (htr : l.stackTraces = false) (gk : gHan P N)
    (hmono : ∀ k' as h1 r1 h2, call k' as h1 = some (r1, h2) → h1.2.1 ≤ h2.2.1 ∧ h1.2.2 ≤ h2.2.2) (hcall : ∀ k' as h1 r1 h2, gCode P N k' → gName P N k' → call k' as h1 = some (r1, h2) → eMet l P N G X d k' as h1 r1 h2)
    (hfr : d + 13 ≤ R.frames ∧ (d + 13) * 64 ≤ R.locals) (hRc : hE.2.1 ≤ R.cells + c0) (hRs : hE.2.2 ≤ R.slots + s0) :
    ∀ (n : Nat) (pc : Nat) (lo : eLo) (st : List Value) (h : eH), eGo P X call k n (pc, lo, st, h) = some (r, hE) → ∀ (H : Heap) (locs : List Loc) (cells slots : Nat) (ls : Array Slot), eBa P G s k c0 s0 lo h H locs cells slots ls →
      W p l e R s m args below meth c H locs cells slots (eZ G s below r hE (hE.2.1 - c0) (hE.2.2 - s0)) (F0 m pc ls (st.map (eVal G))) := by
  have hfr2 : 12 ≤ R.frames ∧ 700 ≤ R.locals := ⟨by omega, by omega⟩
  intro n
  induction n with
  | zero => intro pc lo st h hgo; cases hgo
  | succ n ih =>
    intro pc lo st h hgo H locs cells slots ls b
    have b4 := b.2.2.2.1
    have b5 := b.2.2.2.2
    have hM0 := eGo_mono hmono _ _ _ _ _ hgo
    simp only [eGo] at hgo
    split at hgo
    · split at hgo
      · cases hgo
      · rename_i q ht
        split at hgo
        · rename_i hq
          cases hgo
          have zW := es_throw (e := e) (R := R) (below := below) cx ga gh htr ht hq.1 hq.2 b hfr2 hRc hRs
          rw [show (eNew h (Sum.inr (q.1, (P.bla q.1).1)) (P.bla q.1).2).2.1 - c0 = cells + 1 by show h.2.1 + 1 - c0 = cells + 1; omega, show (eNew h (Sum.inr (q.1, (P.bla q.1).1)) (P.bla q.1).2).2.2 - s0 = slots + (P.bla q.1).2 by show h.2.2 + (P.bla q.1).2 - s0 = _; omega]
          exact zW
        · cases hgo
    · rename_i i len hi
      obtain ⟨hd, hlen⟩ := ga.1 _ _ _ _ hi
      split at hgo
      · split at hgo
        · cases hgo
        · rename_i x hz
          obtain ⟨x1, x2, x3, x4⟩ := x
          have hm := eGo_mono hmono _ _ _ _ _ hgo
          exact (e_step cx ga hd hlen hz b).2 (Nat.le_trans hm.1 hRc) (Nat.le_trans hm.2 hRs) (by omega) (by omega) (fun H1 locs1 cells1 slots1 ls1 b1 => ih _ _ _ _ hgo H1 locs1 cells1 slots1 ls1 b1)
      · rename_i kd ix hk
        obtain ⟨hl3, hk0, hk1, hk2⟩ := e_len3 hk hlen
        subst hl3
        split at hgo
        · cases hgo
        · rename_i kind k' na hm
          split at hgo
          · cases hgo
          · rename_i hrs
            split at hgo
            · split at hgo
              · cases hgo
              · rename_i x hz
                obtain ⟨x1, x2, x3, x4⟩ := x
                exact e_own cx ga hk hm hd hrs hz b hfr2 (Nat.le_trans hM0.1 hRc) (Nat.le_trans hM0.2 hRs) (fun H1 locs1 cells1 slots1 ls1 b1 => ih _ _ _ _ hgo H1 locs1 cells1 slots1 ls1 b1)
            · rename_i h3
              have h3 : kind < 3 := Nat.not_le.mp h3
              obtain ⟨gAll1, gA2, gA3, gA4, gA5, -⟩ := ga.2.2.2.2.2.1 _ _ _ _ _ hm
              obtain ⟨gcd, gnm⟩ := gAll1 h3
              split at hgo
              · cases hgo
              · rename_i as rs ha
                obtain ⟨hst, hrs1, hal, hkk, hcase⟩ := eArgs_some (fun z => hrs (Or.inl z)) ha
                subst hkk
                have hrs2 : eCat rs ≤ 8 := by rw [hrs1]; exact Nat.not_lt.mp fun z => hrs (Or.inr z)
                split at hgo
                · cases hgo
                · rename_i v h' hc
                  have hM := hcall _ _ _ _ _ gcd gnm hc
                  have hm1 := hmono _ _ _ _ _ hc
                  have hm2 := eGo_mono hmono _ _ _ _ _ hgo
                  have hc1 := Nat.le_trans hm2.1 hRc
                  have hs1 := Nat.le_trans hm2.2 hRs
                  have kk : eNext P G p l e R s m args below meth c (eZ G s below r hE (hE.2.1 - c0) (hE.2.2 - s0)) k c0 s0 (pc + 3, lo, v.toList ++ rs, h') := fun H1 locs1 cells1 slots1 ls1 b1 => ih _ _ _ _ hgo H1 locs1 cells1 slots1 ls1 b1
                  rcases hcase with rfl | ⟨rfl, a, as', fs, rfl, h1, h2⟩ | ⟨rfl, a, as', rfl⟩
                  · rw [hk0 rfl] at hd
                    obtain ⟨g1, g2⟩ := gA3 rfl
                    exact e_back b hm1 (e_runS cx lw_gd_good b hM gcd gnm (gA2 (by omega)) g1 (by rw [hal]; exact g2) hrs2 hd hfr hc1 hs1 hm1 hst) kk
                  · rw [hk1 rfl] at hd
                    obtain ⟨g1, g2, g3, g4⟩ := gA4 rfl
                    rcases gcd with ⟨-, gcd⟩ | ⟨g5, -⟩
                    · exact e_back b hm1 (e_runV cx lw_gd_good ga.2.2.2.1 b hM gcd gnm (gA2 (by omega)) g1 g2 h1 h2 (by rw [show as'.length + 1 = na from hal]; exact g4) hrs2 hd hfr hc1 hs1 hm1 (by rw [hst]; simp)) kk
                    · exact absurd g3 g5
                  · rw [hk2 rfl] at hd
                    obtain ⟨g1, g2, g3, g4, g5, g6⟩ := gA5 rfl
                    rcases gcd with ⟨-, gcd⟩ | ⟨g7, -⟩
                    · rw [g5] at gcd
                      exact e_back b hm1 (e_runI cx lw_gd_good b hM gcd gnm (cx.2.2.2.2.2.2.2.1.2.2.1 _ _ _ _ hm) g1 g2 (by rw [show as'.length + 1 = na from hal]; exact g6) hrs2 hd hfr hc1 hs1 hm1 (by rw [hst]; simp)) kk
                    · exact absurd g4 g7
                · rename_i y h' hc
                  have hM := hcall _ _ _ _ _ gcd gnm hc
                  have hm1 := hmono _ _ _ _ _ hc
                  split at hgo
                  · cases hgo
                  · rename_i hno
                    have hy0 : ¬ y = 0 := fun z => hno (Or.inl z)
                    have hhs : eHs P k' = [] := Decidable.of_not_not fun z => hno (Or.inr (Or.inl z))
                    have gcd2 : Cond.code (N.mn k') (N.cd k') (eNL P k') (eRt P k') ∈ lw_gd := by
                      rcases gcd with ⟨-, gcd⟩ | ⟨g7, -⟩
                      · exact gcd
                      · exact absurd hhs g7
                    split at hgo
                    · rename_i c1 fs1 hcell
                      have key : (hE.2.1 ≥ h'.2.1 ∧ hE.2.2 ≥ h'.2.2) ∧ eTh P G p l e R s m args below meth c (eZ G s below r hE (hE.2.1 - c0) (hE.2.2 - s0)) k c0 s0 pc lo ls rs y h' := by
                        split at hgo
                        · rename_i t ht
                          refine ⟨eGo_mono hmono _ _ _ _ _ hgo, fun T locs1 cells1 slots1 X1 b1 => ?_⟩
                          obtain ⟨vm', X2, hst2⟩ := e_catch (pc := pc) (ls := ls) (rs := rs.map (eVal G)) cx gk ga.2.2.2.1 X1 hy0 (b1.2.1.at hy0 hcell) ht
                          obtain ⟨t2, a1, bb⟩ := ih _ _ _ _ hgo T.heap locs1 cells1 slots1 ls b1 (T.setVm vm') rfl X2
                          exact ⟨t2, hst2 t2 a1, bb⟩
                        · split at hgo
                          · rename_i hh
                            cases hgo
                            refine ⟨⟨Nat.le_refl _, Nat.le_refl _⟩, fun T locs1 cells1 slots1 X1 b1 => ?_⟩
                            obtain ⟨q1, q2, q3, q4, q5⟩ := X1.leaveThrown (eAd G y) (g := F0 m pc ls (rs.map (eVal G))) rfl rfl rfl (fun x hx => by rw [cx.2.2.2.2.2.2.2.2.2.2.2.1 hh] at hx; exact absurd hx List.not_mem_nil) (hlocks := cx.2.2.2.2.2.2.2.2.2.2.1)
                            have c4 := b1.2.2.2.1
                            have c5 := b1.2.2.2.2
                            rw [show hE.2.1 - c0 = cells1 by omega, show hE.2.2 - s0 = slots1 by omega]
                            exact ⟨_, q1, q2, q3, b1.2.1, q4, ⟨b1.2.2.1.1, b1.2.2.1.2.1⟩, locs1, q5, b1.2.2.1.2.2⟩
                          · cases hgo
                      obtain ⟨hm2, kk⟩ := key
                      have hc1 := Nat.le_trans hm2.1 hRc
                      have hs1 := Nat.le_trans hm2.2 hRs
                      rcases hcase with rfl | ⟨rfl, a, as', fs, rfl, h1, h2⟩ | ⟨rfl, a, as', rfl⟩
                      · rw [hk0 rfl] at hd
                        obtain ⟨g1, g2⟩ := gA3 rfl
                        exact e_thrS cx lw_gd_good b hM gcd2 gnm (gA2 (by omega)) g1 (by rw [hal]; exact g2) hrs2 hd hfr hc1 hs1 hm1 hst kk
                      · rw [hk1 rfl] at hd
                        obtain ⟨g1, g2, g3, g4⟩ := gA4 rfl
                        exact e_thrV cx lw_gd_good ga.2.2.2.1 b hM gcd2 gnm (gA2 (by omega)) g1 g2 h1 h2 (by rw [show as'.length + 1 = na from hal]; exact g4) hrs2 hd hfr hc1 hs1 hm1 (by rw [hst]; simp) kk
                      · exact absurd (Or.inr (Or.inr (gA5 rfl).2.2.1)) hno
                    · cases hgo
      · obtain ⟨rfl, z⟩ := e_end (below := below) (e := e) (l := l) (R := R) cx hd hlen hgo b
        rw [show hE.2.1 - c0 = cells by omega, show hE.2.2 - s0 = slots by omega]
        exact z
end ES9

section ES7
variable {p : Program} {l : Launch} {e : Env} {R : Room} {s : State} {m : MethodId} {args : Array Value} {below : List Frame} {meth : Method} {c : Code} {H : Heap} {locs : List Loc} {cells slots : Nat} {Q : State → Prop}
variable {P : eP} {N : eW} {G : eG} {X : Nat × (Nat → Int32)} {k pc c0 s0 : Nat} {ls : Array Slot} {lo : eLo} {st : List Value} {h : eH}
theorem e_threw {d k' : Nat} {as : List Value} {y : Nat} {h' : eH} {T : State} {g : JFrame} {mk : MethodId} {ig : Instr} (hts : ∀ w ∈ lw_gd, w.before args s = true) (gg : GoodIn lw_gd lw_gd) (hM : eMet l P N G X d k' as h (.inr y) h') (hcode : Cond.code (N.mn k') (N.cd k') (eNL P k') (eRt P k') ∈ lw_gd) (hn : gName P N k')
    (hfr : d + 13 ≤ R.frames ∧ (d + 13) * 64 ≤ R.locals) (X0 : Stand p l e R s m args below meth c T locs cells slots) (hg : g.method = m) (hsize : g.locals.size = c.maxLocals) (hdg : decode c.code g.pc = .ok (ig, 3)) (hW : 2 * g.monitorRoom + (g.stack.map fun v => v.category).sum ≤ 8) (hnm : T.methodNamed? (N.mn k') = some mk)
    (hPc : ePc P N G X as h (as.map (eVal G)).toArray T) (hc : cells + (h'.2.1 - h.2.1) ≤ R.cells) (hs : slots + (h'.2.2 - h.2.2) ≤ R.slots) :
    ∃ (T' : State) (L : List Loc), Stand p l e R s m args below meth c T' (locs ++ L) (cells + (h'.2.1 - h.2.1)) (slots + (h'.2.2 - h.2.2)) ∧ (∀ q ∈ L, eA0 G q.base) ∧ eRel G h' T'.heap ∧ va_F (eA0 G) T T' ∧
      Steps p.tables e below (doInvoke e (T.setTop g) [] mk (as.map (eVal G)).toArray).1 ((T'.setTop g).pushFrame (.throwing (eAd G y))) := by
  subst hg
  have hws := pay_in hts gg
  have hlo : 8 + (eNL P k' + 11) + (d + 12) * 64 ≤ R.locals := by have := hn.2.2.2.2.2; omega
  obtain ⟨methY, cY, hmY, hcY, -, hlY, -, -, -, -⟩ := Cond.code_spec (args := #[]) hnm (hws _ hcode #[] T X0.warmed)
  obtain ⟨kY, hkY, -⟩ := className_of_methodNamed hnm
  have hinitY : kY.init = .initialized := Cond.initialized_spec (args := #[]) (findClass_of_methodNamed hnm) hkY (hws _ hn.2.2.2.1 #[] T X0.warmed)
  have h0 : At T g.method c below := X0.here
  have happ : (headSpec lw_gd (eRm d (h'.2.1 - h.2.1) (h'.2.2 - h.2.2))).appliesLoose (N.mn k') e.platform (T.calling g mk (as.map (eVal G)).toArray) = true :=
    Spec.appliesLoose_calling (g := g) h0 hdg hnm hkY hinitY
      (X0.room_calling (g := g) (R' := eRm d (h'.2.1 - h.2.1) (h'.2.2 - h.2.2)) hsize hmY hcY (by show d + 12 + 1 ≤ R.frames; omega) (by rw [hlY]; show _ + _ + (eNL P k' + 11) + (d + 12) * 64 ≤ R.locals; omega) hc hs)
      (atoms_intro fun w hw => hws w hw _ _ X0.warmed)
  obtain ⟨mid, hmid⟩ := h0.above
  have hfr2 : (T.setTop g).frames = (.java g :: mid) ++ below := by rw [State.frames_setTop' g h0.top, hmid]; rfl
  obtain ⟨o, s₂, hsteps, -, hend, hq⟩ := Steps.callFree hM p X0.admits X0.cas X0.clock (acts := []) hfr2 happ (ePc_blind _ _ g mk hPc) trivial
  rw [State.frames_setTop' g h0.top] at hend
  have hq' : eQc G (.inr y) h' (as.map (eVal G)).toArray (T.calling g mk (as.map (eVal G)).toArray) o s₂ ∧ (T.calling g mk (as.map (eVal G)).toArray).WarmedH s₂.vm ∧ ∃ L, (T.calling g mk (as.map (eVal G)).toArray).sameButNew ({ s₂ with vm := (T.calling g mk (as.map (eVal G)).toArray).vm } : State) L (h'.2.1 - h.2.1) (h'.2.2 - h.2.2) ∧ ∀ q ∈ L, eA0 G q.base := hq
  obtain ⟨⟨ho, hR, hF⟩, hW₂, L, hsb, hL⟩ := hq'
  obtain ⟨e2, q2, q3, q4, q5, q6⟩ := id hsb
  have ho' : o = .threw (eAd G y) := ho
  subst ho'
  have e3 : s₂ = ({ (T.calling g mk (as.map (eVal G)).toArray).setFrames s₂.frames with heap := s₂.heap, slotsUsed := s₂.slotsUsed } : State).setVm s₂.vm := by
    have : s₂ = ({ s₂ with vm := (T.calling g mk (as.map (eVal G)).toArray).vm } : State).setVm s₂.vm := rfl
    rw [e2] at this
    exact this
  have hf₂ : s₂.frames = .throwing (eAd G y) :: .java g :: T.frames.tail := hend
  have hW' : T.WarmedH s₂.vm := hW₂
  obtain ⟨g₀, hg0⟩ := Option.isSome_iff_exists.mp h0.top
  obtain ⟨r, hr⟩ := State.topJava?_eq_some.mp hg0
  have hs₂ : s₂ = ((({ T with heap := s₂.heap, slotsUsed := s₂.slotsUsed } : State).setVm s₂.vm).setTop g).pushFrame (.throwing (eAd G y)) := by
    have hr' : (({ T with heap := s₂.heap, slotsUsed := s₂.slotsUsed } : State).setVm s₂.vm).frames = .java g₀ :: r := hr
    refine e3.trans ?_
    rw [hf₂, State.calling_eq h0.top, State.setFrames_setFrames, State.pushFrame, State.frames_setTop _ hr', State.setTop_of_frames _ hr', State.setFrames_setFrames, hr]
    rfl
  have hsame : T.sameButNew ({ T with heap := s₂.heap, slotsUsed := s₂.slotsUsed } : State) L (h'.2.1 - h.2.1) (h'.2.2 - h.2.2) := by
    refine ⟨?_, q2, q3, q4, q5, q6⟩
    obtain ⟨t, ht, -⟩ := State.frames_cons hr
    show ({ T with heap := s₂.heap, slotsUsed := s₂.slotsUsed } : State) = { T.setFrames T.frames with heap := s₂.heap, slotsUsed := s₂.slotsUsed }
    rw [State.setFrames_self ht]
  refine ⟨({ T with heap := s₂.heap, slotsUsed := s₂.slotsUsed } : State).setVm s₂.vm, L,
    ⟨X0.admits, X0.cas, X0.clock, X0.frames, X0.room, X0.hears, X0.method, X0.code, (X0.here.setHeapUsed s₂.heap s₂.slotsUsed).setVm hW'.alike, X0.tail, State.WarmedH.trans X0.warmed hW', X0.limits, X0.bytes, X0.same.trans (hsame.setVm s.vm)⟩, hL, hR, hF, ?_⟩
  rw [← hs₂]
  exact hsteps
def eTh (P : eP) (G : eG) (p : Program) (l : Launch) (e : Env) (R : Room) (s : State) (m : MethodId) (args : Array Value) (below : List Frame) (meth : Method) (c : Code) (Q : State → Prop) (k c0 s0 : Nat) (pc : Nat) (lo : eLo) (ls : Array Slot) (rs : List Value) (y : Nat) (h' : eH) : Prop :=
  ∀ (T : State) (locs : List Loc) (cells slots : Nat), Stand p l e R s m args below meth c T locs cells slots → eBa P G s k c0 s0 lo h' T.heap locs cells slots ls →
    ∃ t, Steps p.tables e below ((T.setTop (F0 m pc ls (rs.map (eVal G)))).pushFrame (.throwing (eAd G y))) t ∧ Q t
theorem e_thrS {d k' ix : Nat} {as rs : List Value} {y : Nat} {h' : eH} (cx : eCx P N G X p s m args meth c k) (gg : GoodIn lw_gd lw_gd) (b : eBa P G s k c0 s0 lo h H locs cells slots ls)
    (hM : eMet l P N G X d k' as h (.inr y) h') (hcode : Cond.code (N.mn k') (N.cd k') (eNL P k') (eRt P k') ∈ lw_gd) (hn : gName P N k') (hlink : Cond.methodLink (N.cn (eOwn P k)) ix (N.mn k') ∈ lw_gd) (hstat : Cond.static (N.mn k') ∈ lw_gd)
    (hlen : (parseMethodDescriptor (N.mn k').desc).map (fun d => d.parameters.length) = some as.length) (hrs : eCat rs ≤ 8) (hd : decode (N.cd k) pc = .ok (.invokestatic ix, 3)) (hfr : d + 13 ≤ R.frames ∧ (d + 13) * 64 ≤ R.locals)
    (hc : h'.2.1 ≤ R.cells + c0) (hs : h'.2.2 ≤ R.slots + s0) (hm : h.2.1 ≤ h'.2.1 ∧ h.2.2 ≤ h'.2.2) {st0 : List Value} (hst : st0 = as.reverse ++ rs)
    (kk : eTh P G p l e R s m args below meth c Q k c0 s0 pc lo ls rs y h') : W p l e R s m args below meth c H locs cells slots Q (F0 m pc ls (st0.map (eVal G))) := by
  have hts := cx.2.2.2.2.1
  have b4 := b.2.2.2.1
  have b5 := b.2.2.2.2
  have hl2 : ∀ sig, parseMethodDescriptor (N.mn k').desc = some sig → (as.map (eVal G)).length = sig.parameters.length := fun sig hsig => by
    rw [hsig] at hlen
    rw [List.length_map]
    exact (Option.some.inj hlen).symm
  have hst2 : (F0 m pc ls (st0.map (eVal G))).stack = (as.map (eVal G)).reverse ++ rs.map (eVal G) := by subst hst; simp
  obtain ⟨mk, hnamed⟩ := Cond.code_named (hts _ hcode)
  obtain ⟨methM, cM, hmethM, -, -, -, -, -, -, hsigM⟩ := Cond.code_spec hnamed (hts _ hcode)
  have hstatic : methM.isStatic = true := Cond.static_spec hnamed hmethM (hts _ hstat)
  obtain ⟨kP, hkP, -⟩ := className_of_methodNamed hnamed
  have hinitP : kP.init = .initialized := Cond.initialized_spec (findClass_of_methodNamed hnamed) hkP (hts _ hn.2.2.2.1)
  intro T hT X0
  obtain ⟨vm₁, X₁, hstep₁⟩ := X0.invokestatic cx.1 cx.2.2.2.1 (hts _ hlink) hnamed hmethM hstatic hkP hinitP hn.2.1 (g := F0 m pc ls (st0.map (eVal G))) rfl (argsL := as.map (eVal G)) (rest := rs.map (eVal G)) (hl2 _ hsigM) hst2 (by rw [cx.2.1]; exact hd)
  obtain ⟨T', L, X', hL, hR, hF, hsteps⟩ := e_threw (g := F0 m pc ls (rs.map (eVal G))) hts gg hM hcode hn hfr X₁ rfl (b.1.2.1.trans cx.2.2.1.symm) (by rw [cx.2.1]; exact hd) (e_cat hrs) (X₁.named hnamed) (ePc_at (U := T.setVm vm₁) cx b hT X₁.warmed) (by omega) (by omega)
  have hF1 : H.size ≤ T'.heap.size := by rw [← hT]; exact hF.1
  have hF2 : ∀ q : Nat, q < H.size → ¬ eA0 G q → T'.heap[q]? = H[q]? := fun q h1 h2 => by rw [← hT]; exact hF.2 q (by rw [show (T.setVm vm₁).heap = H from hT]; exact h1) h2
  obtain ⟨t, a1, b1⟩ := kk T' (locs ++ L) _ _ X' ⟨b.1, hR, ⟨Nat.le_trans b.2.2.1.1 hF1, fun q h1 h2 => (hF2 q (Nat.lt_of_lt_of_le h1 b.2.2.1.1) h2).trans (b.2.2.1.2.1 q h1 h2), fun q hq => by
      rcases List.mem_append.mp hq with h | h
      · exact b.2.2.1.2.2 q h
      · exact hL q h⟩, by omega, by omega⟩
  exact ⟨t, (hstep₁ _ fun acts => by rw [doInvoke_state]; exact Steps.refl _).trans (hsteps.trans a1), b1⟩
theorem e_thrV {d k' ix : Nat} {as rs fs : List Value} {a y : Nat} {h' : eH} (cx : eCx P N G X p s m args meth c k) (gg : GoodIn lw_gd lw_gd) (gl : gCl N G.cl) (b : eBa P G s k c0 s0 lo h H locs cells slots ls)
    (hM : eMet l P N G X d k' (.ref a :: as) h (.inr y) h') (hcode : Cond.code (N.mn k') (N.cd k') (eNL P k') (eRt P k') ∈ lw_gd) (hn : gName P N k') (hlink : Cond.methodLink (N.cn (eOwn P k)) ix (N.mn k') ∈ lw_gd) (hin : Cond.instanceMethod (N.mn k') ∈ lw_gd) (hse : Cond.selects (N.mn k').cls (N.mn k') (N.mn k') ∈ lw_gd)
    (ha : ¬ a = 0) (hcell : h.1 a = some (.inr (eOwn P k', fs)))
    (hlen : (parseMethodDescriptor (N.mn k').desc).map (fun d => d.parameters.length + 1) = some (as.length + 1)) (hrs : eCat rs ≤ 8) (hd : decode (N.cd k) pc = .ok (.invokevirtual ix, 3)) (hfr : d + 13 ≤ R.frames ∧ (d + 13) * 64 ≤ R.locals)
    (hc : h'.2.1 ≤ R.cells + c0) (hs : h'.2.2 ≤ R.slots + s0) (hm : h.2.1 ≤ h'.2.1 ∧ h.2.2 ≤ h'.2.2) {st0 : List Value} (hst : st0 = as.reverse ++ .ref a :: rs)
    (kk : eTh P G p l e R s m args below meth c Q k c0 s0 pc lo ls rs y h') : W p l e R s m args below meth c H locs cells slots Q (F0 m pc ls (st0.map (eVal G))) := by
  have hts := cx.2.2.2.2.1
  have b4 := b.2.2.2.1
  have b5 := b.2.2.2.2
  have hst2 : (F0 m pc ls (st0.map (eVal G))).stack = (as.map (eVal G)).reverse ++ .ref (eAd G a) :: rs.map (eVal G) := by subst hst; simp; rfl
  obtain ⟨mk, methM, hnamed, hmethM, hstM, habM⟩ := Cond.instanceMethod_spec (hts _ hin)
  obtain ⟨methM', cM, hmethM', -, -, -, -, -, -, hsigM⟩ := Cond.code_spec hnamed (hts _ hcode)
  cases hmethM.symm.trans hmethM'
  obtain ⟨cellB, hcB, hoB, hclB⟩ := e_recv cx gl b ha hcell
  rw [← hn.2.2.1] at hclB
  obtain ⟨c2, r2, m2, q1, q2, q3, q4, kP, hkP, hkPi⟩ := Cond.selects_spec (hts _ hse)
  cases hclB.symm.trans q1
  cases (State.methodFound?_of_named hnamed hn.2.1).symm.trans q2
  cases hnamed.symm.trans q3
  intro T hT X0
  have hselP : selectMethod e.platform s.vm cellB.cls mk = .method mk := by rw [Launch.admits_selectMethod X0.admits]; exact q4
  obtain ⟨vm₁, X₁, hstep₁⟩ := X0.invokevirtual cx.1 cx.2.2.2.1 (hts _ hlink) hnamed hmethM hstM hkP hkPi hn.2.1 (a := eAd G a) (cell := cellB) (by rw [hT]; exact hcB)
    (fun z h => by rw [h] at hoB; cases hoB) hselP hmethM habM hkP hkPi (g := F0 m pc ls (st0.map (eVal G))) rfl (argsL := as.map (eVal G)) (rest := rs.map (eVal G)) (by have := e_len hlen _ hsigM; rw [List.length_map]; omega) hst2 (by rw [cx.2.1]; exact hd)
  obtain ⟨T', L, X', hL, hR, hF, hsteps⟩ := e_threw (g := F0 m pc ls (rs.map (eVal G))) hts gg hM hcode hn hfr X₁ rfl (b.1.2.1.trans cx.2.2.1.symm) (by rw [cx.2.1]; exact hd) (e_cat hrs) (X₁.named hnamed) (ePc_at (U := T.setVm vm₁) cx b hT X₁.warmed) (by omega) (by omega)
  have hF1 : H.size ≤ T'.heap.size := by rw [← hT]; exact hF.1
  have hF2 : ∀ q : Nat, q < H.size → ¬ eA0 G q → T'.heap[q]? = H[q]? := fun q h1 h2 => by rw [← hT]; exact hF.2 q (by rw [show (T.setVm vm₁).heap = H from hT]; exact h1) h2
  obtain ⟨t, a1, b1⟩ := kk T' (locs ++ L) _ _ X' ⟨b.1, hR, ⟨Nat.le_trans b.2.2.1.1 hF1, fun q h1 h2 => (hF2 q (Nat.lt_of_lt_of_le h1 b.2.2.1.1) h2).trans (b.2.2.1.2.1 q h1 h2), fun q hq => by
      rcases List.mem_append.mp hq with h | h
      · exact b.2.2.1.2.2 q h
      · exact hL q h⟩, by omega, by omega⟩
  exact ⟨t, (hstep₁ _ fun acts => by rw [doInvoke_state]; exact Steps.refl _).trans (hsteps.trans a1), b1⟩
end ES7

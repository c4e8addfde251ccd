def eO (G : eG) (r : eR) : Outcome := match r with
  | .inl v => .returned (v.map (eVal G))
  | .inr a => .threw (eAd G a)
def eZ (G : eG) (s : State) (below : List Frame) (r : eR) (h : eH) (mc ms : Nat) : State → Prop := fun t =>
  t.status = .running ∧ Ended t below (eO G r) ∧ eRel G h t.heap ∧ s.WarmedH t.vm ∧ va_F (eA0 G) s t ∧ ∃ L, s.sameButNew ({ t with vm := s.vm } : State) L mc ms ∧ ∀ q ∈ L, eA0 G q.base
theorem eNar_some {G : eG} {ty : Option FieldType} {v u : Value} (h : eNar ty v = some u) : ∃ t, ty = some t ∧ eVal G u = narrow t (eVal G v) := by
  unfold eNar at h
  split at h <;> first | cases h; done | (cases h; exact ⟨_, rfl, rfl⟩)
section ES4
variable {p : Program} {l : Launch} {e : Env} {R : Room} {s : State} {m : MethodId} {args : Array Value} {below : List Frame} {meth : Method} {c : Code} {H : Heap} {locs : List Loc} {cells slots : Nat}
variable {P : eP} {N : eW} {G : eG} {X : Nat × (Nat → Int32)} {k pc c0 s0 : Nat} {ls : Array Slot} {lo : eLo} {st : List Value} {h : eH} {r : eR} {h' : eH}
theorem e_vret (cx : eCx P N G X p s m args meth c k) (hd : decode (N.cd k) pc = .ok (.return_, 1)) (hr : eRt P k = none) (b : eBa P G s k c0 s0 lo h H locs cells slots ls) :
    W p l e R s m args below meth c H locs cells slots (eZ G s below (.inl none) h cells slots) (F0 m pc ls []) := by
  intro T hT X
  have hexec := cx.1
  have hb := cx.2.1
  have hr' : meth.sig.returnType = none := cx.2.2.2.2.2.2.2.2.2.1.trans hr
  have hlocks : meth.locks = false := cx.2.2.2.2.2.2.2.2.2.2.1
  obtain ⟨fs, hret, hrun, hended, hW, hframe⟩ := X.leave (v := none) (fun _ => rfl)
  have hmeth' : T.vm.method? m = some meth := X.method'
  refine ⟨T.setFrames fs, ?_, hrun, hended, by show eRel G h T.heap; rw [hT]; exact b.2.1, hW, by show _ ≤ T.heap.size ∧ _; rw [hT]; exact ⟨b.2.2.1.1, fun q h1 h2 => by show T.heap[q]? = _; rw [hT]; exact b.2.2.1.2.1 q h1 h2⟩, locs, hframe, b.2.2.1.2.2⟩
  jvm_step X.here [X.here.top, hexec, hb, hd, hmeth', hr']
  (try refine ⟨rfl, ?_⟩); (try refine ⟨rfl, ?_⟩)
  first | (intro acts; rw [hret _ acts rfl rfl rfl]) | rw [hret _ _ rfl rfl rfl]
  exact Steps.refl _
theorem e_iret {y : Int32} {u : Value} (cx : eCx P N G X p s m args meth c k) (hd : decode (N.cd k) pc = .ok (.ireturn, 1)) (hr : eNar (eRt P k) (.int y) = some u) (b : eBa P G s k c0 s0 lo h H locs cells slots ls) :
    W p l e R s m args below meth c H locs cells slots (eZ G s below (.inl (some u)) h cells slots) (F0 m pc ls [.int y]) := by
  intro T hT X
  have hexec := cx.1
  have hb := cx.2.1
  obtain ⟨ty, hty, hu⟩ := eNar_some (G := G) hr
  have hr' : meth.sig.returnType = some ty := cx.2.2.2.2.2.2.2.2.2.1.trans hty
  have hlocks : meth.locks = false := cx.2.2.2.2.2.2.2.2.2.2.1
  obtain ⟨fs, hret, hrun, hended, hW, hframe⟩ := X.leave (v := some (eVal G u)) (fun h => by rw [hr'] at h; cases h)
  have hmeth' : T.vm.method? m = some meth := X.method'
  refine ⟨T.setFrames fs, ?_, hrun, hended, by show eRel G h T.heap; rw [hT]; exact b.2.1, hW, by show _ ≤ T.heap.size ∧ _; rw [hT]; exact ⟨b.2.2.1.1, fun q h1 h2 => by show T.heap[q]? = _; rw [hT]; exact b.2.2.1.2.1 q h1 h2⟩, locs, hframe, b.2.2.1.2.2⟩
  have hu' : narrow ty (.int y) = eVal G u := hu.symm
  jvm_step X.here [X.here.top, hexec, hb, hd, hmeth', hr', hu']
  (try refine ⟨rfl, ?_⟩); (try refine ⟨rfl, ?_⟩)
  first | (intro acts; rw [hret _ acts rfl rfl rfl]) | rw [hret _ _ rfl rfl rfl]
  exact Steps.refl _
theorem e_lret {y : Int64} {u : Value} (cx : eCx P N G X p s m args meth c k) (hd : decode (N.cd k) pc = .ok (.lreturn, 1)) (hr : eNar (eRt P k) (.long y) = some u) (b : eBa P G s k c0 s0 lo h H locs cells slots ls) :
    W p l e R s m args below meth c H locs cells slots (eZ G s below (.inl (some u)) h cells slots) (F0 m pc ls [.long y]) := by
  intro T hT X
  have hexec := cx.1
  have hb := cx.2.1
  have hr2 : eRt P k = some .long ∧ u = .long y := by
    unfold eNar at hr
    split at hr <;> first | cases hr; done | (cases hr; rename_i q1 q2; first | exact ⟨q1, by cases q2; rfl⟩ | cases q2)
  obtain ⟨hty, rfl⟩ := hr2
  have hr' : meth.sig.returnType = some .long := cx.2.2.2.2.2.2.2.2.2.1.trans hty
  have hlocks : meth.locks = false := cx.2.2.2.2.2.2.2.2.2.2.1
  obtain ⟨fs, hret, hrun, hended, hW, hframe⟩ := X.leave (v := some (.long y)) (fun h => by rw [hr'] at h; cases h)
  have hmeth' : T.vm.method? m = some meth := X.method'
  refine ⟨T.setFrames fs, ?_, hrun, hended, by show eRel G h T.heap; rw [hT]; exact b.2.1, hW, by show _ ≤ T.heap.size ∧ _; rw [hT]; exact ⟨b.2.2.1.1, fun q h1 h2 => by show T.heap[q]? = _; rw [hT]; exact b.2.2.1.2.1 q h1 h2⟩, locs, hframe, b.2.2.1.2.2⟩
  jvm_step X.here [X.here.top, hexec, hb, hd, hmeth', hr', narrow]
  (try refine ⟨rfl, ?_⟩); (try refine ⟨rfl, ?_⟩)
  first | (intro acts; rw [hret _ acts rfl rfl rfl]) | rw [hret _ _ rfl rfl rfl]
  exact Steps.refl _
theorem e_aret {y : Option Nat} {u : Value} (cx : eCx P N G X p s m args meth c k) (hd : decode (N.cd k) pc = .ok (.areturn, 1)) (hr : eNar (eRt P k) (eRf y) = some u) (b : eBa P G s k c0 s0 lo h H locs cells slots ls) :
    W p l e R s m args below meth c H locs cells slots (eZ G s below (.inl (some u)) h cells slots) (F0 m pc ls [eVal G (eRf y)]) := by
  intro T hT X
  have hexec := cx.1
  have hb := cx.2.1
  have hr2 : ∃ rt, eRt P k = some rt ∧ u = eRf y ∧ ((∃ n, rt = .object n) ∨ ∃ t, rt = .array t) := by
    cases y <;> (unfold eNar eRf at hr; split at hr <;> first | cases hr; done | (cases hr; rename_i q1 q2; first | cases q2; done | exact ⟨_, q1, by cases q2; rfl, by first | exact Or.inl ⟨_, rfl⟩ | exact Or.inr ⟨_, rfl⟩⟩))
  obtain ⟨rt, hty, rfl, hrt⟩ := hr2
  have hr' : meth.sig.returnType = some rt := cx.2.2.2.2.2.2.2.2.2.1.trans hty
  have hlocks : meth.locks = false := cx.2.2.2.2.2.2.2.2.2.2.1
  obtain ⟨fs, hret, hrun, hended, hW, hframe⟩ := X.leave (v := some (eVal G (eRf y))) (fun h => by rw [hr'] at h; cases h)
  have hmeth' : T.vm.method? m = some meth := X.method'
  refine ⟨T.setFrames fs, ?_, hrun, hended, by show eRel G h T.heap; rw [hT]; exact b.2.1, hW, by show _ ≤ T.heap.size ∧ _; rw [hT]; exact ⟨b.2.2.1.1, fun q h1 h2 => by show T.heap[q]? = _; rw [hT]; exact b.2.2.1.2.1 q h1 h2⟩, locs, hframe, b.2.2.1.2.2⟩
  have hv : eVal G (eRf y) = .null ∨ ∃ a, eVal G (eRf y) = .ref a := by
    cases y with
    | none => exact Or.inl rfl
    | some y => exact Or.inr ⟨_, rfl⟩
  generalize eVal G (eRf y) = v at hret hv ⊢
  rcases hrt with ⟨n, rfl⟩ | ⟨t, rfl⟩ <;> rcases hv with rfl | ⟨a, rfl⟩ <;>
    (jvm_step X.here [X.here.top, hexec, hb, hd, hmeth', hr']
     (try refine ⟨rfl, ?_⟩); (try refine ⟨rfl, ?_⟩)
     first | (intro acts; rw [hret _ acts rfl rfl rfl]) | rw [hret _ _ rfl rfl rfl]
     exact Steps.refl _)
theorem e_athrow {y : Nat} {rs : List Value} (cx : eCx P N G X p s m args meth c k) (hd : decode (N.cd k) pc = .ok (.athrow, 1)) (hh : eHs P k = []) (b : eBa P G s k c0 s0 lo h H locs cells slots ls) :
    W p l e R s m args below meth c H locs cells slots (eZ G s below (.inr y) h cells slots) (F0 m pc ls (.ref (eAd G y) :: rs)) := by
  intro T hT X
  obtain ⟨h1, h2, h3, h4, h5⟩ := X.athrowLeaves cx.1 (g := F0 m pc ls (.ref (eAd G y) :: rs)) rfl rfl rfl (fun x hx => by rw [cx.2.2.2.2.2.2.2.2.2.2.2.1 hh] at hx; exact absurd hx List.not_mem_nil) (a := eAd G y) (rest := rs) rfl (by rw [cx.2.1]; exact hd) (hlocks := cx.2.2.2.2.2.2.2.2.2.2.1)
  exact ⟨_, h1, h2, h3, by show eRel G h T.heap; rw [hT]; exact b.2.1, h4, by show _ ≤ T.heap.size ∧ _; rw [hT]; exact ⟨b.2.2.1.1, fun q h1 h2 => by show T.heap[q]? = _; rw [hT]; exact b.2.2.1.2.1 q h1 h2⟩, locs, h5, b.2.2.1.2.2⟩
theorem e_end {i : Instr} {len : Nat} (cx : eCx P N G X p s m args meth c k) (hd : decode (N.cd k) pc = .ok (i, len)) (hlen : eIl i = 0 ∨ len = eIl i) (hi : eRet P k i st h = some (r, h')) (b : eBa P G s k c0 s0 lo h H locs cells slots ls) :
    h' = h ∧ W p l e R s m args below meth c H locs cells slots (eZ G s below r h cells slots) (F0 m pc ls (st.map (eVal G))) := by
  unfold eRet at hi
  split at hi
  · obtain rfl : len = 1 := by simpa [eIl] using hlen
    split at hi
    · rename_i y
      simp only [eEnd] at hi
      split at hi
      · rename_i u hu
        cases hi
        exact ⟨rfl, e_iret cx hd hu b⟩
      · cases hi
    · cases hi
  · obtain rfl : len = 1 := by simpa [eIl] using hlen
    split at hi
    · rename_i y
      simp only [eEnd] at hi
      split at hi
      · rename_i u hu
        cases hi
        exact ⟨rfl, e_lret cx hd hu b⟩
      · cases hi
    · cases hi
  · obtain rfl : len = 1 := by simpa [eIl] using hlen
    split at hi
    · rename_i y
      simp only [eEnd] at hi
      split at hi
      · rename_i u hu
        cases hi
        exact ⟨rfl, e_aret (y := some y) cx hd hu b⟩
      · cases hi
    · simp only [eEnd] at hi
      split at hi
      · rename_i u hu
        cases hi
        exact ⟨rfl, e_aret (y := none) cx hd hu b⟩
      · cases hi
    · cases hi
  · obtain rfl : len = 1 := by simpa [eIl] using hlen
    split at hi
    · split at hi
      · rename_i hr
        cases hi
        exact ⟨rfl, e_vret cx hd hr b⟩
      · cases hi
    · cases hi
  · obtain rfl : len = 1 := by simpa [eIl] using hlen
    split at hi
    · rename_i hh
      split at hi
      · split at hi
        · cases hi
        · cases hi
          exact ⟨rfl, e_athrow cx hd hh b⟩
      · cases hi
    · cases hi
  · cases hi
end ES4

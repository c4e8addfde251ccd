theorem eI1_some {st : List Value} {f : Int32 → List Value → Option eT} {t : eT} (h : eI1 st f = some t) : ∃ x r, st = .int x :: r ∧ f x r = some t := by
  unfold eI1 at h
  split at h
  · exact ⟨_, _, rfl, h⟩
  · cases h
theorem eI2_some {st : List Value} {f : Int32 → Int32 → List Value → Option eT} {t : eT} (h : eI2 st f = some t) : ∃ x y r, st = .int y :: .int x :: r ∧ f x y r = some t := by
  unfold eI2 at h
  split at h
  · exact ⟨_, _, _, rfl, h⟩
  · cases h
theorem eJ1_some {st : List Value} {f : Int64 → List Value → Option eT} {t : eT} (h : eJ1 st f = some t) : ∃ x r, st = .long x :: r ∧ f x r = some t := by
  unfold eJ1 at h
  split at h
  · exact ⟨_, _, rfl, h⟩
  · cases h
theorem eJ2_some {st : List Value} {f : Int64 → Int64 → List Value → Option eT} {t : eT} (h : eJ2 st f = some t) : ∃ x y r, st = .long y :: .long x :: r ∧ f x y r = some t := by
  unfold eJ2 at h
  split at h
  · exact ⟨_, _, _, rfl, h⟩
  · cases h
theorem eJI_some {st : List Value} {f : Int64 → Int32 → List Value → Option eT} {t : eT} (h : eJI st f = some t) : ∃ x y r, st = .int y :: .long x :: r ∧ f x y r = some t := by
  unfold eJI at h
  split at h
  · exact ⟨_, _, _, rfl, h⟩
  · cases h
theorem eR1_some {st : List Value} {f : Nat → List Value → Option eT} {t : eT} (h : eR1 st f = some t) : ∃ x r, st = .ref x :: r ∧ f x r = some t := by
  unfold eR1 at h
  split at h
  · exact ⟨_, _, rfl, h⟩
  · cases h
theorem eQ1_some {st : List Value} {f : Option Nat → List Value → Option eT} {t : eT} (h : eQ1 st f = some t) : ∃ x r, st = eRf x :: r ∧ f x r = some t := by
  unfold eQ1 at h
  split at h
  · exact ⟨some _, _, rfl, h⟩
  · exact ⟨none, _, rfl, h⟩
  · cases h
theorem eIA_some {st : List Value} {f : Nat → Int32 → List Value → Option eT} {t : eT} (h : eIA st f = some t) : ∃ a i r, st = .int i :: .ref a :: r ∧ f a i r = some t := by
  unfold eIA at h
  split at h
  · exact ⟨_, _, _, rfl, h⟩
  · cases h
theorem eGet_some {lo : eLo} {i : Nat} {v : Value} (h : eGet lo i = some v) : lo[i]? = some (some v) := by
  unfold eGet at h
  cases hq : lo[i]? with
  | none => rw [hq] at h; cases h
  | some o => rw [hq] at h; cases o with
    | none => cases h
    | some u => cases h; rfl
theorem eLoI_some {lo : eLo} {i : Nat} {f : Int32 → Option eT} {t : eT} (h : eLoI lo i f = some t) : ∃ x, lo[i]? = some (some (.int x)) ∧ f x = some t := by
  unfold eLoI at h
  split at h
  · rename_i x hx
    exact ⟨_, eGet_some hx, h⟩
  · cases h
theorem eLoJ_some {lo : eLo} {i : Nat} {f : Int64 → Option eT} {t : eT} (h : eLoJ lo i f = some t) : ∃ x, lo[i]? = some (some (.long x)) ∧ f x = some t := by
  unfold eLoJ at h
  split at h
  · rename_i x hx
    exact ⟨_, eGet_some hx, h⟩
  · cases h
theorem eLoA_some {lo : eLo} {i : Nat} {f : Option Nat → Option eT} {t : eT} (h : eLoA lo i f = some t) : ∃ x, lo[i]? = some (some (eRf x)) ∧ f x = some t := by
  unfold eLoA at h
  split at h
  · rename_i x hx
    exact ⟨some _, eGet_some hx, h⟩
  · rename_i hx
    exact ⟨none, eGet_some hx, h⟩
  · cases h
theorem eN_inj {pc : Nat} {lo : eLo} {st : List Value} {h : eH} {x : eS} (q : eN pc lo st h = some x) : (pc, lo, st, h) = x := by
  exact Option.some.inj q
theorem eTo_some {pc : Nat} {off : Int} {f : Nat → Option eT} {t : eT} (h : eTo pc off f = some t) : ∃ tgt : Nat, (pc : Int) + off = (tgt : Int) ∧ f tgt = some t := by
  unfold eTo at h
  split at h
  · rename_i n hn
    exact ⟨n, hn, h⟩
  · cases h
theorem eBr_some {b : Bool} {pc : Nat} {off : Int} {lo : eLo} {r : List Value} {h : eH} {x : eS} (q : eBr b pc off lo r h = some x) : ∃ tgt : Nat, (pc : Int) + off = (tgt : Int) ∧ ((b = true ∧ (tgt, lo, r, h) = x) ∨ (b = false ∧ (pc + 3, lo, r, h) = x)) := by
  obtain ⟨tgt, h1, h2⟩ := eTo_some q
  refine ⟨tgt, h1, ?_⟩
  cases b
  · exact Or.inr ⟨rfl, eN_inj h2⟩
  · exact Or.inl ⟨rfl, eN_inj h2⟩
theorem eIn_some {i : Int32} {n : Nat} {x : Option eT} {t : eT} (h : eIn i n x = some t) : ¬ (i < 0 ∨ n ≤ i.toNatClampNeg) ∧ x = some t := by
  unfold eIn at h
  split at h
  · cases h
  · rename_i hn
    exact ⟨hn, h⟩
theorem eIf_then {c : Prop} {d : Decidable c} {y : Option eT} {t : eT} (h : (if c then none else y) = some t) : ¬ c ∧ y = some t := by
  split at h
  · cases h
  · rename_i hn
    exact ⟨hn, h⟩
theorem eIf_else {c : Prop} {d : Decidable c} {y : Option eT} {t : eT} (h : (if c then y else none) = some t) : c ∧ y = some t := by
  split at h
  · rename_i hn
    exact ⟨hn, h⟩
  · cases h
def eIl (i : Instr) : Nat := match i with
  | .bipush _ => 2
  | .iload _ => 2
  | .lload _ => 2
  | .aload _ => 2
  | .istore _ => 2
  | .lstore _ => 2
  | .astore _ => 2
  | .ldc _ => 2
  | .newarray _ => 2
  | .sipush _ => 3
  | .ldc2_w _ => 3
  | .iinc _ _ => 3
  | .goto _ => 3
  | .ifCond _ _ => 3
  | .if_icmp _ _ => 3
  | .ifnull _ => 3
  | .getfield _ => 3
  | .putfield _ => 3
  | .anewarray _ => 3
  | .new _ => 3
  | .invokestatic _ => 3
  | .invokevirtual _ => 3
  | .invokespecial _ => 3
  | .tableswitch _ _ _ _ => 0
  | _ => 1
theorem eRel.at {G : eG} {h : eH} {H : Heap} {a : Nat} {x : eE} (q : eRel G h H) (ha : ¬ a = 0) (hx : h.1 a = some x) : va_at G.D G.cl (eAd G a, eCo G x) H := by
  rw [eAd_pos ha]
  exact (q.2.2 a x hx (by omega)).2
theorem eRel.set {G : eG} {h : eH} {H H1 : Heap} {a : Nat} {x0 x : eE} (q : eRel G h H) (ha : ¬ a = 0) (hx : h.1 a = some x0) (hz : H1.size = H.size) (ho : ∀ z, z ≠ eAd G a → H1[z]? = H[z]?) (hat : va_at G.D G.cl (eAd G a, eCo G x) H1) : eRel G (eSetH h a x) H1 := by
  rw [eAd_pos ha] at ho hat
  refine ⟨by rw [hz]; exact q.1, q.2.1, fun r y hy h1 => ?_⟩
  have hy' : (if r = a then some x else h.1 r) = some y := hy
  by_cases hr : r = a
  · subst hr
    rw [if_pos rfl] at hy'
    cases hy'
    exact ⟨(q.2.2 r x0 hx h1).1, hat⟩
  · rw [if_neg hr] at hy'
    obtain ⟨h2, h3⟩ := q.2.2 r y hy' h1
    exact ⟨h2, h3.kept (ho _ (by show G.B + r ≠ G.B + a; omega))⟩
theorem eRel.new {G : eG} {h : eH} {H H1 : Heap} (q : eRel G h H) (x : eE) (n : Nat) (hz : H1.size = H.size + 1) (ho : ∀ z, z < H.size → H1[z]? = H[z]?) (hat : va_at G.D G.cl (H.size, eCo G x) H1) : eRel G (eNew h x n) H1 := by
  refine ⟨by rw [hz, q.1]; rfl, by show 1 ≤ h.2.1 + 1; omega, fun r y hy h1 => ?_⟩
  have hy' : (if r = h.2.1 then some x else h.1 r) = some y := hy
  by_cases hr : r = h.2.1
  · subst hr
    rw [if_pos rfl] at hy'
    cases hy'
    exact ⟨Nat.lt_succ_self _, by rw [← q.1]; exact hat⟩
  · rw [if_neg hr] at hy'
    obtain ⟨h2, h3⟩ := q.2.2 r y hy' h1
    exact ⟨Nat.lt_succ_of_lt h2, h3.kept (ho _ (by show G.B + r < H.size; rw [q.1]; omega))⟩
theorem eRel.next {G : eG} {h : eH} {H : Heap} (q : eRel G h H) : eAd G h.2.1 = H.size := by
  rw [eAd_pos (by have := q.2.1; omega), q.1]
def eA0 (G : eG) : Nat → Prop := fun q => G.B < q
def eTy (G : eG) (N : eW) : List (ClassId × FieldType) := N.ty.zipIdx.map fun q => (G.ca q.2, q.1)
theorem eTy_at {G : eG} {N : eW} {t : Nat} {ty : FieldType} (h : N.ty[t]? = some ty) : (eTy G N)[t]? = some (G.ca t, ty) := by
  simp [eTy, h]
theorem eS_new {G : eG} {H0 H H1 : Heap} {locs : List Loc} (hS : va_S (eA0 G) H0 H locs) (hz : H1.size = H.size + 1) (ho : ∀ z, z < H.size → H1[z]? = H[z]?) : va_S (eA0 G) H0 H1 locs :=
  ⟨Nat.le_trans hS.1 (by omega), fun x h1 h2 => (ho x (Nat.lt_of_lt_of_le h1 hS.1)).trans (hS.2.1 x h1 h2), hS.2.2⟩
def eGdw (w : Cond) : Bool := (w.onTables && w.keeps) || (match w with
  | .arrayClass _ => true
  | _ => false)
def lw_gd : List Cond := lw_tbl.filter eGdw
theorem lw_gd_in {w : Cond} (h : w ∈ lw_tbl) (hg : eGdw w = true) : w ∈ lw_gd := List.mem_filter.mpr ⟨h, hg⟩
theorem lw_gd_good : GoodIn lw_gd lw_gd := fun w hw => ⟨hw, by
  have hg : eGdw w = true := (List.mem_filter.mp hw).2
  unfold eGdw at hg
  rcases Bool.or_eq_true_iff.mp hg with h | h
  · exact Or.inl h
  · right
    split at h
    · exact ⟨_, rfl⟩
    · cases h⟩
def exSp (C : String) : List Cond := [.declares (Bundle.initS "java/lang/RuntimeException"), .declares (Bundle.initS "java/lang/Exception"), .declares (Bundle.initS Bundle.tN), .castable C C,
  .laysStatic Bundle.tN "UNASSIGNED_STACK" Bundle.steD, .laysStatic Bundle.tN "SUPPRESSED_SENTINEL" Bundle.listD, .isRef (.static Bundle.tN "UNASSIGNED_STACK" Bundle.steD), .isRef (.static Bundle.tN "SUPPRESSED_SENTINEL" Bundle.listD)]
def exSt (G : eG) (U : State) : Prop := ∀ cl k st, U.vm.findClass Bundle.tN = some cl → U.vm.classes[cl]? = some k → k.statics = some st → st ≤ G.B
theorem exSt.moved {G : eG} {s U : State} (hv : s.vm.Alike U.vm) (h : exSt G s) : exSt G U := fun cl k st h1 h2 h3 => by
  rw [hv.findClass] at h1
  obtain ⟨k0, hk0⟩ := Vm.classAt_of_findClass h1
  obtain ⟨k', hk', he⟩ := hv.2.2 _ _ hk0
  cases h2.symm.trans hk'
  exact h cl k0 st h1 hk0 (by rw [he] at h3; exact h3)
theorem exLays {G : eG} {s U : State} {F D : String} (hv : s.vm.Alike U.vm) (hH : ∀ q, q ≤ G.B → U.heap[q]? = s.heap[q]?) (h0 : exSt G s) (w : (Cond.laysStatic Bundle.tN F D).before #[] s = true) : (Cond.laysStatic Bundle.tN F D).before #[] U = true := by
  obtain ⟨cl, k, i, f, a, cell, hc, hi, hst, ha, hcell, hs, hcls, hlt, hty⟩ := Cond.laysStatic_spec w
  obtain ⟨k', hi', hek⟩ := State.fieldFound?_setVm hv hi
  have hb := h0 cl k a hc (State.fieldFound?_class hi) ha
  exact Cond.laysStatic_of (by rw [hv.findClass]; exact hc) hi' hst (by rw [hek]; exact ha) (by rw [hH a hb]; exact hcell) hs hcls hlt (by rw [hek]; exact hty)
theorem exRef {G : eG} {s U : State} {F D : String} (hv : s.vm.Alike U.vm) (hH : ∀ q, q ≤ G.B → U.heap[q]? = s.heap[q]?) (h0 : exSt G s) (w : (Cond.laysStatic Bundle.tN F D).before #[] s = true) (r : (Cond.isRef (.static Bundle.tN F D)).before #[] s = true) : (Cond.isRef (.static Bundle.tN F D)).before #[] U = true := by
  obtain ⟨cl, k, i, f, a, cell, hc, hi, hst, ha, hcell, hs, hcls, hlt, hty⟩ := Cond.laysStatic_spec w
  obtain ⟨k', hi', hek⟩ := State.fieldFound?_setVm hv hi
  have hb := h0 cl k a hc (State.fieldFound?_class hi) ha
  have hi2 : U.fieldFound? Bundle.tN F D = some (cl, k', i, f) := hi'
  have ha' : k'.statics = some a := by rw [hek]; exact ha
  have hcell' : U.heap[a]? = some cell := by rw [hH a hb]; exact hcell
  have e1 : (Term.static Bundle.tN F D).eval #[] s none [] s = cell.slots[f.slot]? := by simp [Term.eval, State.fieldNamed?, hi, hst, ha, hcell, hs]
  have e2 : (Term.static Bundle.tN F D).eval #[] U none [] U = cell.slots[f.slot]? := by simp [Term.eval, State.fieldNamed?, hi2, hst, ha', hcell', hs]
  simp only [Cond.before, Cond.holds, Cond.value, e1] at r
  simp only [Cond.before, Cond.holds, Cond.value, e2]
  exact r
def eFx (P : eP) (N : eW) (G : eG) (U : State) : Prop := ((exSt G U ∧ ∀ k pc q, P.thr k pc = some q → (∃ tx a, vk_R (N.cn (eOwn P k)) q.2.2.1 tx a U) ∧ ∀ w ∈ exSp (N.cn q.1), w.before #[] U = true)) ∧ (∀ o ix t, P.arr o ix = some t → ∃ C, N.ty[t]? = some (.object C) ∧ va_AO C U) ∧
  (∀ o ix k n, P.mth o ix = some (2, k, n) → Cond.methodLink (N.cn o) ix (N.mn k) ∈ lw_gd ∨ ∃ host, va_Nw (.methodLinkNest (N.cn o) ix (N.mn k) host) U) ∧
  ∀ k q, q ∈ eHs P k → ∀ c1 r, G.cl[c1]? = some r → ¬ q.2.2.2 = c1 → va_Nc (N.cn c1) (N.cn q.2.2.2) U
theorem exSp_moved {G : eG} {s U : State} {C : String} (hW : s.WarmedH U.vm) (hH : ∀ q, q ≤ G.B → U.heap[q]? = s.heap[q]?) (h0 : exSt G s) (h : ∀ w ∈ exSp C, w.before #[] s = true) : ∀ w ∈ exSp C, w.before #[] U = true := by
  have l1 := h (.laysStatic Bundle.tN "UNASSIGNED_STACK" Bundle.steD) (by simp [exSp])
  have l2 := h (.laysStatic Bundle.tN "SUPPRESSED_SENTINEL" Bundle.listD) (by simp [exSp])
  intro w hw
  simp only [exSp, List.mem_cons, List.not_mem_nil, or_false] at hw
  rcases hw with rfl | rfl | rfl | rfl | rfl | rfl | rfl | rfl
  · exact va_Nw.warmD hW (h _ (by simp [exSp]))
  · exact va_Nw.warmD hW (h _ (by simp [exSp]))
  · exact va_Nw.warmD hW (h _ (by simp [exSp]))
  · exact va_Nw.warmC hW (h _ (by simp [exSp]))
  · exact exLays hW.alike hH h0 l1
  · exact exLays hW.alike hH h0 l2
  · exact exRef hW.alike hH h0 l1 (h _ (by simp [exSp]))
  · exact exRef hW.alike hH h0 l2 (h _ (by simp [exSp]))
theorem eFx.warm {P : eP} {N : eW} {G : eG} {s U : State} (hW : s.WarmedH U.vm) (hH : ∀ q, q ≤ G.B → U.heap[q]? = s.heap[q]?) (h : eFx P N G s) : eFx P N G U :=
  ⟨⟨h.1.1.moved hW.alike, fun k pc q hq => by
    obtain ⟨⟨tx, a, hZ⟩, hw⟩ := h.1.2 k pc q hq
    exact ⟨⟨tx, a, hZ.warm hW⟩, exSp_moved hW hH h.1.1 hw⟩⟩, fun o ix t ht => by
    obtain ⟨C, h1, h2⟩ := h.2.1 o ix t ht
    exact ⟨C, h1, h2.moved hW.alike⟩, fun o ix k n hm => by
    rcases h.2.2.1 o ix k n hm with h1 | ⟨host, h1⟩
    · exact Or.inl h1
    · exact Or.inr ⟨host, h1.warmM hW⟩, fun k q hq c1 r hr hne => (h.2.2.2 k q hq c1 r hr hne).moved hW.alike⟩
def eCx (P : eP) (N : eW) (G : eG) (X : Nat × (Nat → Int32)) (p : Program) (s : State) (m : MethodId) (args : Array Value) (meth : Method) (c : Code) (k : Nat) : Prop :=
  p.tables.exec = Jvm.exec ∧ c.code = N.cd k ∧ c.maxLocals = eNL P k ∧ s.vm.findClass (N.cn (eOwn P k)) = some m.cls ∧ (∀ w ∈ lw_gd, w.before args s = true) ∧ va_K G.D G.cl (eTy G N) s ∧
  (va_X G.b X.1 X.2 s s.heap ∧ G.b ≤ G.B ∧ G.B < s.heap.size) ∧ eFx P N G s ∧ (P.ini k = true → meth.name = "<init>") ∧ meth.sig.returnType = eRt P k ∧ meth.locks = false ∧ (eHs P k = [] → c.exceptionTable.toList = []) ∧ ∀ raw, Cond.codeWith (N.mn k) (N.cd k) (eNL P k) (eRt P k) raw ∈ lw_gd → c.exceptionTable.toList.map (fun h => (h.startPc, h.endPc, h.handlerPc, h.catchType)) = raw
def gIns (P : eP) (N : eW) : Prop := ∀ k pc i len, P.ins k pc = some (i, len) → decode (N.cd k) pc = .ok (i, len) ∧ (eIl i = 0 ∨ len = eIl i)
def gFld (P : eP) (N : eW) (cl : List vw_C) : Prop := ∀ o ix c j ty fin, P.fld o ix = some (c, j, ty, fin) → ∃ (C : String) (T : u_T) (n : Nat) (ty0 : Nat → FieldType), cl[c]? = some (C, T, n) ∧ j < n ∧ C = N.cn c ∧ (T j).1 = C ∧
  Cond.fieldLink (N.cn o) ix C (T j).2.1 (T j).2.2.1 ∈ lw_gd ∧ (∀ w ∈ u_ws C T n, w ∈ lw_gd) ∧ (T j).2.2.2 = fin ∧ parseFieldDescriptor (T j).2.2.1 = some ty ∧
  (∀ k, k < n → parseFieldDescriptor (T k).2.2.1 = some (ty0 k)) ∧ (∀ a, a < n → ∀ b, b < n → a ≠ b → (T a).2.1 ≠ (T b).2.1)
def eBa (P : eP) (G : eG) (s : State) (k c0 s0 : Nat) (lo : eLo) (h : eH) (H : Heap) (locs : List Loc) (cells slots : Nat) (ls : Array Slot) : Prop :=
  eLR G ls (eNL P k) lo ∧ eRel G h H ∧ va_S (eA0 G) s.heap H locs ∧ cells + c0 = h.2.1 ∧ slots + s0 = h.2.2
section ES
variable {p : Program} {l : Launch} {e : Env} {R : Room} {s : State} {m : MethodId} {args : Array Value} {below : List Frame} {meth : Method} {c : Code} {H : Heap} {locs : List Loc} {cells slots : Nat} {Q : State → Prop}
variable {P : eP} {N : eW} {G : eG} {X : Nat × (Nat → Int32)} {k pc c0 s0 : Nat} {ls : Array Slot} {lo : eLo} {st : List Value} {h : eH} {x : eS}
def eNext (P : eP) (G : eG) (p : Program) (l : Launch) (e : Env) (R : Room) (s : State) (m : MethodId) (args : Array Value) (below : List Frame) (meth : Method) (c : Code) (Q : State → Prop) (k c0 s0 : Nat) (x : eS) : Prop :=
  ∀ (H : Heap) (locs : List Loc) (cells slots : Nat) (ls : Array Slot), eBa P G s k c0 s0 x.2.1 x.2.2.2 H locs cells slots ls → W p l e R s m args below meth c H locs cells slots Q (F0 m x.1 ls (x.2.2.1.map (eVal G)))
def eGoal (P : eP) (G : eG) (p : Program) (l : Launch) (e : Env) (R : Room) (s : State) (m : MethodId) (args : Array Value) (below : List Frame) (meth : Method) (c : Code) (H : Heap) (locs : List Loc) (cells slots : Nat) (Q : State → Prop) (k c0 s0 pc : Nat) (ls : Array Slot) (st : List Value) (h : eH) (x : eS) : Prop :=
  (h.2.1 ≤ x.2.2.2.2.1 ∧ h.2.2 ≤ x.2.2.2.2.2) ∧ (x.2.2.2.2.1 ≤ R.cells + c0 → x.2.2.2.2.2 ≤ R.slots + s0 → 1 ≤ R.frames → 100 ≤ R.locals → eNext P G p l e R s m args below meth c Q k c0 s0 x → W p l e R s m args below meth c H locs cells slots Q (F0 m pc ls (st.map (eVal G))))
theorem es_iconst {n : Int} (cx : eCx P N G X p s m args meth c k) (hd : decode (N.cd k) pc = .ok (.iconst n, 1)) (hi : eIns P X k (.iconst n) pc lo st h = some x) (b : eBa P G s k c0 s0 lo h H locs cells slots ls) :
    eGoal P G p l e R s m args below meth c H locs cells slots Q k c0 s0 pc ls st h x := by
  obtain rfl := eN_inj hi
  exact ⟨⟨Nat.le_refl _, Nat.le_refl _⟩, fun _ _ _ _ kk => lv_iconst cx.1 cx.2.1 hd rfl (kk _ _ _ _ _ b)⟩
theorem es_bipush {n : Int} (cx : eCx P N G X p s m args meth c k) (hd : decode (N.cd k) pc = .ok (.bipush n, 2)) (hi : eIns P X k (.bipush n) pc lo st h = some x) (b : eBa P G s k c0 s0 lo h H locs cells slots ls) :
    eGoal P G p l e R s m args below meth c H locs cells slots Q k c0 s0 pc ls st h x := by
  obtain rfl := eN_inj hi
  exact ⟨⟨Nat.le_refl _, Nat.le_refl _⟩, fun _ _ _ _ kk => lv_bipush cx.1 cx.2.1 hd rfl (kk _ _ _ _ _ b)⟩
theorem es_sipush {n : Int} (cx : eCx P N G X p s m args meth c k) (hd : decode (N.cd k) pc = .ok (.sipush n, 3)) (hi : eIns P X k (.sipush n) pc lo st h = some x) (b : eBa P G s k c0 s0 lo h H locs cells slots ls) :
    eGoal P G p l e R s m args below meth c H locs cells slots Q k c0 s0 pc ls st h x := by
  obtain rfl := eN_inj hi
  exact ⟨⟨Nat.le_refl _, Nat.le_refl _⟩, fun _ _ _ _ kk => lv_sipush cx.1 cx.2.1 hd rfl (kk _ _ _ _ _ b)⟩
theorem es_lconst {n : Fin 2} (cx : eCx P N G X p s m args meth c k) (hd : decode (N.cd k) pc = .ok (.lconst n, 1)) (hi : eIns P X k (.lconst n) pc lo st h = some x) (b : eBa P G s k c0 s0 lo h H locs cells slots ls) :
    eGoal P G p l e R s m args below meth c H locs cells slots Q k c0 s0 pc ls st h x := by
  obtain rfl := eN_inj hi
  exact ⟨⟨Nat.le_refl _, Nat.le_refl _⟩, fun _ _ _ _ kk => lv_lconst cx.1 cx.2.1 hd rfl (kk _ _ _ _ _ b)⟩
theorem es_aconst_null (cx : eCx P N G X p s m args meth c k) (hd : decode (N.cd k) pc = .ok (.aconst_null, 1)) (hi : eIns P X k (.aconst_null) pc lo st h = some x) (b : eBa P G s k c0 s0 lo h H locs cells slots ls) :
    eGoal P G p l e R s m args below meth c H locs cells slots Q k c0 s0 pc ls st h x := by
  obtain rfl := eN_inj hi
  exact ⟨⟨Nat.le_refl _, Nat.le_refl _⟩, fun _ _ _ _ kk => lv_null cx.1 cx.2.1 hd (kk _ _ _ _ _ b)⟩
theorem es_iload {i : Nat} (cx : eCx P N G X p s m args meth c k) (hd : decode (N.cd k) pc = .ok (.iload i, 2)) (hi : eIns P X k (.iload i) pc lo st h = some x) (b : eBa P G s k c0 s0 lo h H locs cells slots ls) :
    eGoal P G p l e R s m args below meth c H locs cells slots Q k c0 s0 pc ls st h x := by
  obtain ⟨y, h1, h2⟩ := eLoI_some hi
  obtain rfl := eN_inj h2
  exact ⟨⟨Nat.le_refl _, Nat.le_refl _⟩, fun _ _ _ _ kk => lv_iload cx.1 cx.2.1 hd (b.1.at h1) (kk _ _ _ _ _ b)⟩
theorem es_iload_n {i : Fin 4} (cx : eCx P N G X p s m args meth c k) (hd : decode (N.cd k) pc = .ok (.iload_n i, 1)) (hi : eIns P X k (.iload_n i) pc lo st h = some x) (b : eBa P G s k c0 s0 lo h H locs cells slots ls) :
    eGoal P G p l e R s m args below meth c H locs cells slots Q k c0 s0 pc ls st h x := by
  obtain ⟨y, h1, h2⟩ := eLoI_some hi
  obtain rfl := eN_inj h2
  exact ⟨⟨Nat.le_refl _, Nat.le_refl _⟩, fun _ _ _ _ kk => lv_iload_n cx.1 cx.2.1 hd rfl (b.1.at h1) (kk _ _ _ _ _ b)⟩
theorem es_lload {i : Nat} (cx : eCx P N G X p s m args meth c k) (hd : decode (N.cd k) pc = .ok (.lload i, 2)) (hi : eIns P X k (.lload i) pc lo st h = some x) (b : eBa P G s k c0 s0 lo h H locs cells slots ls) :
    eGoal P G p l e R s m args below meth c H locs cells slots Q k c0 s0 pc ls st h x := by
  obtain ⟨y, h1, h2⟩ := eLoJ_some hi
  obtain rfl := eN_inj h2
  exact ⟨⟨Nat.le_refl _, Nat.le_refl _⟩, fun _ _ _ _ kk => lv_lload cx.1 cx.2.1 hd (b.1.at h1) (kk _ _ _ _ _ b)⟩
theorem es_lload_n {i : Fin 4} (cx : eCx P N G X p s m args meth c k) (hd : decode (N.cd k) pc = .ok (.lload_n i, 1)) (hi : eIns P X k (.lload_n i) pc lo st h = some x) (b : eBa P G s k c0 s0 lo h H locs cells slots ls) :
    eGoal P G p l e R s m args below meth c H locs cells slots Q k c0 s0 pc ls st h x := by
  obtain ⟨y, h1, h2⟩ := eLoJ_some hi
  obtain rfl := eN_inj h2
  exact ⟨⟨Nat.le_refl _, Nat.le_refl _⟩, fun _ _ _ _ kk => lv_lload_n cx.1 cx.2.1 hd rfl (b.1.at h1) (kk _ _ _ _ _ b)⟩
theorem es_aload {i : Nat} (cx : eCx P N G X p s m args meth c k) (hd : decode (N.cd k) pc = .ok (.aload i, 2)) (hi : eIns P X k (.aload i) pc lo st h = some x) (b : eBa P G s k c0 s0 lo h H locs cells slots ls) :
    eGoal P G p l e R s m args below meth c H locs cells slots Q k c0 s0 pc ls st h x := by
  simp only [eIns] at hi
  obtain ⟨y, h1, h2⟩ := eLoA_some hi
  obtain rfl := eN_inj h2
  cases y with
  | none => exact ⟨⟨Nat.le_refl _, Nat.le_refl _⟩, fun _ _ _ _ kk => lv_aloadN cx.1 cx.2.1 hd (b.1.at h1) (kk _ _ _ _ _ b)⟩
  | some y => exact ⟨⟨Nat.le_refl _, Nat.le_refl _⟩, fun _ _ _ _ kk => lv_aload cx.1 cx.2.1 hd (b.1.at h1) (kk _ _ _ _ _ b)⟩
theorem es_aload_n {i : Fin 4} (cx : eCx P N G X p s m args meth c k) (hd : decode (N.cd k) pc = .ok (.aload_n i, 1)) (hi : eIns P X k (.aload_n i) pc lo st h = some x) (b : eBa P G s k c0 s0 lo h H locs cells slots ls) :
    eGoal P G p l e R s m args below meth c H locs cells slots Q k c0 s0 pc ls st h x := by
  simp only [eIns] at hi
  obtain ⟨y, h1, h2⟩ := eLoA_some hi
  obtain rfl := eN_inj h2
  cases y with
  | none => exact ⟨⟨Nat.le_refl _, Nat.le_refl _⟩, fun _ _ _ _ kk => lv_aload_nN cx.1 cx.2.1 hd rfl (b.1.at h1) (kk _ _ _ _ _ b)⟩
  | some y => exact ⟨⟨Nat.le_refl _, Nat.le_refl _⟩, fun _ _ _ _ kk => lv_aload_n cx.1 cx.2.1 hd rfl (b.1.at h1) (kk _ _ _ _ _ b)⟩
theorem es_istore {i : Nat} (cx : eCx P N G X p s m args meth c k) (hd : decode (N.cd k) pc = .ok (.istore i, 2)) (hi : eIns P X k (.istore i) pc lo st h = some x) (b : eBa P G s k c0 s0 lo h H locs cells slots ls) :
    eGoal P G p l e R s m args below meth c H locs cells slots Q k c0 s0 pc ls st h x := by
  obtain ⟨y, r, rfl, h2⟩ := eI1_some hi
  obtain ⟨h3, h2⟩ := eIf_else h2
  obtain rfl := eN_inj h2
  exact ⟨⟨Nat.le_refl _, Nat.le_refl _⟩, fun _ _ _ _ kk => lv_istore cx.1 cx.2.1 hd b.1.2 (by rw [← b.1.1]; exact h3) rfl (fun ls1 h4 => kk _ _ _ _ _ ⟨b.1.st1 (v := .int y) h4, b.2⟩)⟩
theorem es_lstore {i : Nat} (cx : eCx P N G X p s m args meth c k) (hd : decode (N.cd k) pc = .ok (.lstore i, 2)) (hi : eIns P X k (.lstore i) pc lo st h = some x) (b : eBa P G s k c0 s0 lo h H locs cells slots ls) :
    eGoal P G p l e R s m args below meth c H locs cells slots Q k c0 s0 pc ls st h x := by
  obtain ⟨y, r, rfl, h2⟩ := eJ1_some hi
  obtain ⟨h3, h2⟩ := eIf_else h2
  obtain rfl := eN_inj h2
  exact ⟨⟨Nat.le_refl _, Nat.le_refl _⟩, fun _ _ _ _ kk => lv_lstore cx.1 cx.2.1 hd b.1.2 (by rw [← b.1.1]; exact h3) rfl (fun ls1 h4 => kk _ _ _ _ _ ⟨b.1.st2 (v := .long y) h4, b.2⟩)⟩
theorem es_astore {i : Nat} (cx : eCx P N G X p s m args meth c k) (hd : decode (N.cd k) pc = .ok (.astore i, 2)) (hi : eIns P X k (.astore i) pc lo st h = some x) (b : eBa P G s k c0 s0 lo h H locs cells slots ls) :
    eGoal P G p l e R s m args below meth c H locs cells slots Q k c0 s0 pc ls st h x := by
  simp only [eIns] at hi
  obtain ⟨y, r, rfl, h2⟩ := eQ1_some hi
  obtain ⟨h3, h2⟩ := eIf_else h2
  obtain rfl := eN_inj h2
  cases y with
  | none => exact ⟨⟨Nat.le_refl _, Nat.le_refl _⟩, fun _ _ _ _ kk => lv_astoreN cx.1 cx.2.1 hd b.1.2 (by rw [← b.1.1]; exact h3) rfl (fun ls1 h4 => kk _ _ _ _ _ ⟨b.1.st1 (v := .null) h4, b.2⟩)⟩
  | some y => exact ⟨⟨Nat.le_refl _, Nat.le_refl _⟩, fun _ _ _ _ kk => lv_astore cx.1 cx.2.1 hd b.1.2 (by rw [← b.1.1]; exact h3) rfl (fun ls1 h4 => kk _ _ _ _ _ ⟨b.1.st1 (v := .ref y) h4, b.2⟩)⟩
theorem es_istore_n {i : Fin 4} (cx : eCx P N G X p s m args meth c k) (hd : decode (N.cd k) pc = .ok (.istore_n i, 1)) (hi : eIns P X k (.istore_n i) pc lo st h = some x) (b : eBa P G s k c0 s0 lo h H locs cells slots ls) :
    eGoal P G p l e R s m args below meth c H locs cells slots Q k c0 s0 pc ls st h x := by
  obtain ⟨y, r, rfl, h2⟩ := eI1_some hi
  obtain ⟨h3, h2⟩ := eIf_else h2
  obtain rfl := eN_inj h2
  exact ⟨⟨Nat.le_refl _, Nat.le_refl _⟩, fun _ _ _ _ kk => lv_istore_n cx.1 cx.2.1 hd rfl b.1.2 (by rw [← b.1.1]; exact h3) rfl (fun ls1 h4 => kk _ _ _ _ _ ⟨b.1.st1 (v := .int y) h4, b.2⟩)⟩
theorem es_lstore_n {i : Fin 4} (cx : eCx P N G X p s m args meth c k) (hd : decode (N.cd k) pc = .ok (.lstore_n i, 1)) (hi : eIns P X k (.lstore_n i) pc lo st h = some x) (b : eBa P G s k c0 s0 lo h H locs cells slots ls) :
    eGoal P G p l e R s m args below meth c H locs cells slots Q k c0 s0 pc ls st h x := by
  obtain ⟨y, r, rfl, h2⟩ := eJ1_some hi
  obtain ⟨h3, h2⟩ := eIf_else h2
  obtain rfl := eN_inj h2
  exact ⟨⟨Nat.le_refl _, Nat.le_refl _⟩, fun _ _ _ _ kk => lv_lstore_n cx.1 cx.2.1 hd rfl b.1.2 (by rw [← b.1.1]; exact h3) rfl (fun ls1 h4 => kk _ _ _ _ _ ⟨b.1.st2 (v := .long y) h4, b.2⟩)⟩
theorem es_astore_n {i : Fin 4} (cx : eCx P N G X p s m args meth c k) (hd : decode (N.cd k) pc = .ok (.astore_n i, 1)) (hi : eIns P X k (.astore_n i) pc lo st h = some x) (b : eBa P G s k c0 s0 lo h H locs cells slots ls) :
    eGoal P G p l e R s m args below meth c H locs cells slots Q k c0 s0 pc ls st h x := by
  simp only [eIns] at hi
  obtain ⟨y, r, rfl, h2⟩ := eQ1_some hi
  obtain ⟨h3, h2⟩ := eIf_else h2
  obtain rfl := eN_inj h2
  cases y with
  | none => exact ⟨⟨Nat.le_refl _, Nat.le_refl _⟩, fun _ _ _ _ kk => lv_astore_nN cx.1 cx.2.1 hd rfl b.1.2 (by rw [← b.1.1]; exact h3) rfl (fun ls1 h4 => kk _ _ _ _ _ ⟨b.1.st1 (v := .null) h4, b.2⟩)⟩
  | some y => exact ⟨⟨Nat.le_refl _, Nat.le_refl _⟩, fun _ _ _ _ kk => lv_astore_n cx.1 cx.2.1 hd rfl b.1.2 (by rw [← b.1.1]; exact h3) rfl (fun ls1 h4 => kk _ _ _ _ _ ⟨b.1.st1 (v := .ref y) h4, b.2⟩)⟩
theorem es_iinc {i : Nat} {n : Int} (cx : eCx P N G X p s m args meth c k) (hd : decode (N.cd k) pc = .ok (.iinc i n, 3)) (hi : eIns P X k (.iinc i n) pc lo st h = some x) (b : eBa P G s k c0 s0 lo h H locs cells slots ls) :
    eGoal P G p l e R s m args below meth c H locs cells slots Q k c0 s0 pc ls st h x := by
  obtain ⟨y, h1, h2⟩ := eLoI_some hi
  obtain ⟨h3, h2⟩ := eIf_else h2
  obtain rfl := eN_inj h2
  obtain ⟨q, hq⟩ := List.mem_iff_getElem?.mp ((eAs_mem (eVal G) lo 0 i (.int y)).mpr ⟨i, .int y, by omega, h1, rfl⟩)
  exact ⟨⟨Nat.le_refl _, Nat.le_refl _⟩, fun _ _ _ _ kk => lv_iinc (k := q) cx.1 cx.2.1 hd b.1.2 hq rfl (by rw [← b.1.1]; exact h3) rfl (fun ls1 h4 => kk _ _ _ _ _ ⟨b.1.st1 (v := .int (y + Int32.ofInt n)) h4, b.2⟩)⟩
theorem es_iadd (cx : eCx P N G X p s m args meth c k) (hd : decode (N.cd k) pc = .ok (.iadd, 1)) (hi : eIns P X k (.iadd) pc lo st h = some x) (b : eBa P G s k c0 s0 lo h H locs cells slots ls) :
    eGoal P G p l e R s m args below meth c H locs cells slots Q k c0 s0 pc ls st h x := by
  obtain ⟨y, z, r, rfl, h2⟩ := eI2_some hi
  obtain rfl := eN_inj h2
  exact ⟨⟨Nat.le_refl _, Nat.le_refl _⟩, fun _ _ _ _ kk => lv_iadd cx.1 cx.2.1 hd (kk _ _ _ _ _ b)⟩
theorem es_isub (cx : eCx P N G X p s m args meth c k) (hd : decode (N.cd k) pc = .ok (.isub, 1)) (hi : eIns P X k (.isub) pc lo st h = some x) (b : eBa P G s k c0 s0 lo h H locs cells slots ls) :
    eGoal P G p l e R s m args below meth c H locs cells slots Q k c0 s0 pc ls st h x := by
  obtain ⟨y, z, r, rfl, h2⟩ := eI2_some hi
  obtain rfl := eN_inj h2
  exact ⟨⟨Nat.le_refl _, Nat.le_refl _⟩, fun _ _ _ _ kk => lv_isub cx.1 cx.2.1 hd (kk _ _ _ _ _ b)⟩
theorem es_imul (cx : eCx P N G X p s m args meth c k) (hd : decode (N.cd k) pc = .ok (.imul, 1)) (hi : eIns P X k (.imul) pc lo st h = some x) (b : eBa P G s k c0 s0 lo h H locs cells slots ls) :
    eGoal P G p l e R s m args below meth c H locs cells slots Q k c0 s0 pc ls st h x := by
  obtain ⟨y, z, r, rfl, h2⟩ := eI2_some hi
  obtain rfl := eN_inj h2
  exact ⟨⟨Nat.le_refl _, Nat.le_refl _⟩, fun _ _ _ _ kk => lv_imul cx.1 cx.2.1 hd (kk _ _ _ _ _ b)⟩
theorem es_iand (cx : eCx P N G X p s m args meth c k) (hd : decode (N.cd k) pc = .ok (.iand, 1)) (hi : eIns P X k (.iand) pc lo st h = some x) (b : eBa P G s k c0 s0 lo h H locs cells slots ls) :
    eGoal P G p l e R s m args below meth c H locs cells slots Q k c0 s0 pc ls st h x := by
  obtain ⟨y, z, r, rfl, h2⟩ := eI2_some hi
  obtain rfl := eN_inj h2
  exact ⟨⟨Nat.le_refl _, Nat.le_refl _⟩, fun _ _ _ _ kk => lv_iand cx.1 cx.2.1 hd (kk _ _ _ _ _ b)⟩
theorem es_ior (cx : eCx P N G X p s m args meth c k) (hd : decode (N.cd k) pc = .ok (.ior, 1)) (hi : eIns P X k (.ior) pc lo st h = some x) (b : eBa P G s k c0 s0 lo h H locs cells slots ls) :
    eGoal P G p l e R s m args below meth c H locs cells slots Q k c0 s0 pc ls st h x := by
  obtain ⟨y, z, r, rfl, h2⟩ := eI2_some hi
  obtain rfl := eN_inj h2
  exact ⟨⟨Nat.le_refl _, Nat.le_refl _⟩, fun _ _ _ _ kk => lv_ior cx.1 cx.2.1 hd (kk _ _ _ _ _ b)⟩
theorem es_ishl (cx : eCx P N G X p s m args meth c k) (hd : decode (N.cd k) pc = .ok (.ishl, 1)) (hi : eIns P X k (.ishl) pc lo st h = some x) (b : eBa P G s k c0 s0 lo h H locs cells slots ls) :
    eGoal P G p l e R s m args below meth c H locs cells slots Q k c0 s0 pc ls st h x := by
  obtain ⟨y, z, r, rfl, h2⟩ := eI2_some hi
  obtain rfl := eN_inj h2
  exact ⟨⟨Nat.le_refl _, Nat.le_refl _⟩, fun _ _ _ _ kk => lv_ishl cx.1 cx.2.1 hd (kk _ _ _ _ _ b)⟩
theorem es_ishr (cx : eCx P N G X p s m args meth c k) (hd : decode (N.cd k) pc = .ok (.ishr, 1)) (hi : eIns P X k (.ishr) pc lo st h = some x) (b : eBa P G s k c0 s0 lo h H locs cells slots ls) :
    eGoal P G p l e R s m args below meth c H locs cells slots Q k c0 s0 pc ls st h x := by
  obtain ⟨y, z, r, rfl, h2⟩ := eI2_some hi
  obtain rfl := eN_inj h2
  exact ⟨⟨Nat.le_refl _, Nat.le_refl _⟩, fun _ _ _ _ kk => lv_ishr cx.1 cx.2.1 hd (kk _ _ _ _ _ b)⟩
theorem es_idiv (cx : eCx P N G X p s m args meth c k) (hd : decode (N.cd k) pc = .ok (.idiv, 1)) (hi : eIns P X k (.idiv) pc lo st h = some x) (b : eBa P G s k c0 s0 lo h H locs cells slots ls) :
    eGoal P G p l e R s m args below meth c H locs cells slots Q k c0 s0 pc ls st h x := by
  obtain ⟨y, z, r, rfl, h2⟩ := eI2_some hi
  obtain ⟨h3, h2⟩ := eIf_then h2
  obtain rfl := eN_inj h2
  exact ⟨⟨Nat.le_refl _, Nat.le_refl _⟩, fun _ _ _ _ kk => lv_idiv cx.1 cx.2.1 hd h3 (kk _ _ _ _ _ b)⟩
theorem es_ineg (cx : eCx P N G X p s m args meth c k) (hd : decode (N.cd k) pc = .ok (.ineg, 1)) (hi : eIns P X k (.ineg) pc lo st h = some x) (b : eBa P G s k c0 s0 lo h H locs cells slots ls) :
    eGoal P G p l e R s m args below meth c H locs cells slots Q k c0 s0 pc ls st h x := by
  obtain ⟨y, r, rfl, h2⟩ := eI1_some hi
  obtain rfl := eN_inj h2
  exact ⟨⟨Nat.le_refl _, Nat.le_refl _⟩, fun _ _ _ _ kk => lv_ineg cx.1 cx.2.1 hd (kk _ _ _ _ _ b)⟩
theorem es_ladd (cx : eCx P N G X p s m args meth c k) (hd : decode (N.cd k) pc = .ok (.ladd, 1)) (hi : eIns P X k (.ladd) pc lo st h = some x) (b : eBa P G s k c0 s0 lo h H locs cells slots ls) :
    eGoal P G p l e R s m args below meth c H locs cells slots Q k c0 s0 pc ls st h x := by
  obtain ⟨y, z, r, rfl, h2⟩ := eJ2_some hi
  obtain rfl := eN_inj h2
  exact ⟨⟨Nat.le_refl _, Nat.le_refl _⟩, fun _ _ _ _ kk => lv_ladd cx.1 cx.2.1 hd (kk _ _ _ _ _ b)⟩
theorem es_lsub (cx : eCx P N G X p s m args meth c k) (hd : decode (N.cd k) pc = .ok (.lsub, 1)) (hi : eIns P X k (.lsub) pc lo st h = some x) (b : eBa P G s k c0 s0 lo h H locs cells slots ls) :
    eGoal P G p l e R s m args below meth c H locs cells slots Q k c0 s0 pc ls st h x := by
  obtain ⟨y, z, r, rfl, h2⟩ := eJ2_some hi
  obtain rfl := eN_inj h2
  exact ⟨⟨Nat.le_refl _, Nat.le_refl _⟩, fun _ _ _ _ kk => lv_lsub cx.1 cx.2.1 hd (kk _ _ _ _ _ b)⟩
theorem es_lmul (cx : eCx P N G X p s m args meth c k) (hd : decode (N.cd k) pc = .ok (.lmul, 1)) (hi : eIns P X k (.lmul) pc lo st h = some x) (b : eBa P G s k c0 s0 lo h H locs cells slots ls) :
    eGoal P G p l e R s m args below meth c H locs cells slots Q k c0 s0 pc ls st h x := by
  obtain ⟨y, z, r, rfl, h2⟩ := eJ2_some hi
  obtain rfl := eN_inj h2
  exact ⟨⟨Nat.le_refl _, Nat.le_refl _⟩, fun _ _ _ _ kk => lv_lmul cx.1 cx.2.1 hd (kk _ _ _ _ _ b)⟩
theorem es_land (cx : eCx P N G X p s m args meth c k) (hd : decode (N.cd k) pc = .ok (.land, 1)) (hi : eIns P X k (.land) pc lo st h = some x) (b : eBa P G s k c0 s0 lo h H locs cells slots ls) :
    eGoal P G p l e R s m args below meth c H locs cells slots Q k c0 s0 pc ls st h x := by
  obtain ⟨y, z, r, rfl, h2⟩ := eJ2_some hi
  obtain rfl := eN_inj h2
  exact ⟨⟨Nat.le_refl _, Nat.le_refl _⟩, fun _ _ _ _ kk => lv_land cx.1 cx.2.1 hd (kk _ _ _ _ _ b)⟩
theorem es_lor (cx : eCx P N G X p s m args meth c k) (hd : decode (N.cd k) pc = .ok (.lor, 1)) (hi : eIns P X k (.lor) pc lo st h = some x) (b : eBa P G s k c0 s0 lo h H locs cells slots ls) :
    eGoal P G p l e R s m args below meth c H locs cells slots Q k c0 s0 pc ls st h x := by
  obtain ⟨y, z, r, rfl, h2⟩ := eJ2_some hi
  obtain rfl := eN_inj h2
  exact ⟨⟨Nat.le_refl _, Nat.le_refl _⟩, fun _ _ _ _ kk => lv_lor cx.1 cx.2.1 hd (kk _ _ _ _ _ b)⟩
theorem es_lcmp (cx : eCx P N G X p s m args meth c k) (hd : decode (N.cd k) pc = .ok (.lcmp, 1)) (hi : eIns P X k (.lcmp) pc lo st h = some x) (b : eBa P G s k c0 s0 lo h H locs cells slots ls) :
    eGoal P G p l e R s m args below meth c H locs cells slots Q k c0 s0 pc ls st h x := by
  obtain ⟨y, z, r, rfl, h2⟩ := eJ2_some hi
  obtain rfl := eN_inj h2
  exact ⟨⟨Nat.le_refl _, Nat.le_refl _⟩, fun _ _ _ _ kk => W.lcmp cx.1 cx.2.1 hd (kk _ _ _ _ _ b)⟩
theorem es_lshl (cx : eCx P N G X p s m args meth c k) (hd : decode (N.cd k) pc = .ok (.lshl, 1)) (hi : eIns P X k (.lshl) pc lo st h = some x) (b : eBa P G s k c0 s0 lo h H locs cells slots ls) :
    eGoal P G p l e R s m args below meth c H locs cells slots Q k c0 s0 pc ls st h x := by
  obtain ⟨y, z, r, rfl, h2⟩ := eJI_some hi
  obtain rfl := eN_inj h2
  exact ⟨⟨Nat.le_refl _, Nat.le_refl _⟩, fun _ _ _ _ kk => lv_lshl cx.1 cx.2.1 hd rfl (kk _ _ _ _ _ b)⟩
theorem es_lushr (cx : eCx P N G X p s m args meth c k) (hd : decode (N.cd k) pc = .ok (.lushr, 1)) (hi : eIns P X k (.lushr) pc lo st h = some x) (b : eBa P G s k c0 s0 lo h H locs cells slots ls) :
    eGoal P G p l e R s m args below meth c H locs cells slots Q k c0 s0 pc ls st h x := by
  obtain ⟨y, z, r, rfl, h2⟩ := eJI_some hi
  obtain rfl := eN_inj h2
  exact ⟨⟨Nat.le_refl _, Nat.le_refl _⟩, fun _ _ _ _ kk => lv_lushr cx.1 cx.2.1 hd rfl (kk _ _ _ _ _ b)⟩
theorem es_i2l (cx : eCx P N G X p s m args meth c k) (hd : decode (N.cd k) pc = .ok (.i2l, 1)) (hi : eIns P X k (.i2l) pc lo st h = some x) (b : eBa P G s k c0 s0 lo h H locs cells slots ls) :
    eGoal P G p l e R s m args below meth c H locs cells slots Q k c0 s0 pc ls st h x := by
  obtain ⟨y, r, rfl, h2⟩ := eI1_some hi
  obtain rfl := eN_inj h2
  exact ⟨⟨Nat.le_refl _, Nat.le_refl _⟩, fun _ _ _ _ kk => lv_i2l cx.1 cx.2.1 hd rfl (kk _ _ _ _ _ b)⟩
theorem es_l2i (cx : eCx P N G X p s m args meth c k) (hd : decode (N.cd k) pc = .ok (.l2i, 1)) (hi : eIns P X k (.l2i) pc lo st h = some x) (b : eBa P G s k c0 s0 lo h H locs cells slots ls) :
    eGoal P G p l e R s m args below meth c H locs cells slots Q k c0 s0 pc ls st h x := by
  obtain ⟨y, r, rfl, h2⟩ := eJ1_some hi
  obtain rfl := eN_inj h2
  exact ⟨⟨Nat.le_refl _, Nat.le_refl _⟩, fun _ _ _ _ kk => lv_l2i cx.1 cx.2.1 hd rfl (kk _ _ _ _ _ b)⟩
theorem es_i2c (cx : eCx P N G X p s m args meth c k) (hd : decode (N.cd k) pc = .ok (.i2c, 1)) (hi : eIns P X k (.i2c) pc lo st h = some x) (b : eBa P G s k c0 s0 lo h H locs cells slots ls) :
    eGoal P G p l e R s m args below meth c H locs cells slots Q k c0 s0 pc ls st h x := by
  obtain ⟨y, r, rfl, h2⟩ := eI1_some hi
  obtain rfl := eN_inj h2
  exact ⟨⟨Nat.le_refl _, Nat.le_refl _⟩, fun _ _ _ _ kk => lv_i2c cx.1 cx.2.1 hd rfl (kk _ _ _ _ _ b)⟩
theorem es_dup (cx : eCx P N G X p s m args meth c k) (hd : decode (N.cd k) pc = .ok (.dup, 1)) (hi : eIns P X k (.dup) pc lo st h = some x) (b : eBa P G s k c0 s0 lo h H locs cells slots ls) :
    eGoal P G p l e R s m args below meth c H locs cells slots Q k c0 s0 pc ls st h x := by
  cases st with
  | nil => cases hi
  | cons v r =>
    obtain ⟨h3, h2⟩ := eIf_else hi
    obtain rfl := eN_inj h2
    exact ⟨⟨Nat.le_refl _, Nat.le_refl _⟩, fun _ _ _ _ kk => lv_dup cx.1 cx.2.1 hd ((eVal_cat G v).trans h3) (kk _ _ _ _ _ b)⟩
theorem es_dup2 (cx : eCx P N G X p s m args meth c k) (hd : decode (N.cd k) pc = .ok (.dup2, 1)) (hi : eIns P X k (.dup2) pc lo st h = some x) (b : eBa P G s k c0 s0 lo h H locs cells slots ls) :
    eGoal P G p l e R s m args below meth c H locs cells slots Q k c0 s0 pc ls st h x := by
  simp only [eIns] at hi
  split at hi
  · obtain rfl := eN_inj hi
    exact ⟨⟨Nat.le_refl _, Nat.le_refl _⟩, fun _ _ _ _ kk => lv_dup2_11 cx.1 cx.2.1 hd rfl rfl (kk _ _ _ _ _ b)⟩
  · cases hi
theorem es_goto {off : Int} (cx : eCx P N G X p s m args meth c k) (hd : decode (N.cd k) pc = .ok (.goto off, 3)) (hi : eIns P X k (.goto off) pc lo st h = some x) (b : eBa P G s k c0 s0 lo h H locs cells slots ls) :
    eGoal P G p l e R s m args below meth c H locs cells slots Q k c0 s0 pc ls st h x := by
  obtain ⟨t, ht, h2⟩ := eTo_some hi
  obtain rfl := eN_inj h2
  exact ⟨⟨Nat.le_refl _, Nat.le_refl _⟩, fun _ _ _ _ kk => lv_goto cx.1 cx.2.1 hd ht (kk _ _ _ _ _ b)⟩
theorem es_if_eq {off : Int} (cx : eCx P N G X p s m args meth c k) (hd : decode (N.cd k) pc = .ok (.ifCond .eq off, 3)) (hi : eIns P X k (.ifCond .eq off) pc lo st h = some x) (b : eBa P G s k c0 s0 lo h H locs cells slots ls) :
    eGoal P G p l e R s m args below meth c H locs cells slots Q k c0 s0 pc ls st h x := by
  obtain ⟨y, r, rfl, h2⟩ := eI1_some hi
  obtain ⟨t, ht, ⟨hq, rfl⟩ | ⟨hq, rfl⟩⟩ := eBr_some h2
  · exact ⟨⟨Nat.le_refl _, Nat.le_refl _⟩, fun _ _ _ _ kk => lv_if_eq cx.1 cx.2.1 hd ht (fun _ => kk _ _ _ _ _ b) (fun hn => by first | exact absurd (of_decide_eq_true hq) hn | exact absurd hn (of_decide_eq_true hq))⟩
  · exact ⟨⟨Nat.le_refl _, Nat.le_refl _⟩, fun _ _ _ _ kk => lv_if_eq cx.1 cx.2.1 hd ht (fun hn => by first | exact absurd hn (of_decide_eq_false hq) | exact absurd hn (fun z => of_decide_eq_false hq (fun w => w z))) (fun _ => kk _ _ _ _ _ b)⟩
theorem es_icmp_eq {off : Int} (cx : eCx P N G X p s m args meth c k) (hd : decode (N.cd k) pc = .ok (.if_icmp .eq off, 3)) (hi : eIns P X k (.if_icmp .eq off) pc lo st h = some x) (b : eBa P G s k c0 s0 lo h H locs cells slots ls) :
    eGoal P G p l e R s m args below meth c H locs cells slots Q k c0 s0 pc ls st h x := by
  obtain ⟨y, z, r, rfl, h2⟩ := eI2_some hi
  obtain ⟨t, ht, ⟨hq, rfl⟩ | ⟨hq, rfl⟩⟩ := eBr_some h2
  · exact ⟨⟨Nat.le_refl _, Nat.le_refl _⟩, fun _ _ _ _ kk => lv_icmp_eq cx.1 cx.2.1 hd ht (fun _ => kk _ _ _ _ _ b) (fun hn => by first | exact absurd (of_decide_eq_true hq) hn | exact absurd hn (of_decide_eq_true hq))⟩
  · exact ⟨⟨Nat.le_refl _, Nat.le_refl _⟩, fun _ _ _ _ kk => lv_icmp_eq cx.1 cx.2.1 hd ht (fun hn => by first | exact absurd hn (of_decide_eq_false hq) | exact absurd hn (fun z => of_decide_eq_false hq (fun w => w z))) (fun _ => kk _ _ _ _ _ b)⟩
theorem es_if_ne {off : Int} (cx : eCx P N G X p s m args meth c k) (hd : decode (N.cd k) pc = .ok (.ifCond .ne off, 3)) (hi : eIns P X k (.ifCond .ne off) pc lo st h = some x) (b : eBa P G s k c0 s0 lo h H locs cells slots ls) :
    eGoal P G p l e R s m args below meth c H locs cells slots Q k c0 s0 pc ls st h x := by
  obtain ⟨y, r, rfl, h2⟩ := eI1_some hi
  obtain ⟨t, ht, ⟨hq, rfl⟩ | ⟨hq, rfl⟩⟩ := eBr_some h2
  · exact ⟨⟨Nat.le_refl _, Nat.le_refl _⟩, fun _ _ _ _ kk => lv_if_ne cx.1 cx.2.1 hd ht (fun _ => kk _ _ _ _ _ b) (fun hn => by first | exact absurd (of_decide_eq_true hq) hn | exact absurd hn (of_decide_eq_true hq))⟩
  · exact ⟨⟨Nat.le_refl _, Nat.le_refl _⟩, fun _ _ _ _ kk => lv_if_ne cx.1 cx.2.1 hd ht (fun hn => by first | exact absurd hn (of_decide_eq_false hq) | exact absurd hn (fun z => of_decide_eq_false hq (fun w => w z))) (fun _ => kk _ _ _ _ _ b)⟩
theorem es_icmp_ne {off : Int} (cx : eCx P N G X p s m args meth c k) (hd : decode (N.cd k) pc = .ok (.if_icmp .ne off, 3)) (hi : eIns P X k (.if_icmp .ne off) pc lo st h = some x) (b : eBa P G s k c0 s0 lo h H locs cells slots ls) :
    eGoal P G p l e R s m args below meth c H locs cells slots Q k c0 s0 pc ls st h x := by
  obtain ⟨y, z, r, rfl, h2⟩ := eI2_some hi
  obtain ⟨t, ht, ⟨hq, rfl⟩ | ⟨hq, rfl⟩⟩ := eBr_some h2
  · exact ⟨⟨Nat.le_refl _, Nat.le_refl _⟩, fun _ _ _ _ kk => lv_icmp_ne cx.1 cx.2.1 hd ht (fun _ => kk _ _ _ _ _ b) (fun hn => by first | exact absurd (of_decide_eq_true hq) hn | exact absurd hn (of_decide_eq_true hq))⟩
  · exact ⟨⟨Nat.le_refl _, Nat.le_refl _⟩, fun _ _ _ _ kk => lv_icmp_ne cx.1 cx.2.1 hd ht (fun hn => by first | exact absurd hn (of_decide_eq_false hq) | exact absurd hn (fun z => of_decide_eq_false hq (fun w => w z))) (fun _ => kk _ _ _ _ _ b)⟩
theorem es_if_lt {off : Int} (cx : eCx P N G X p s m args meth c k) (hd : decode (N.cd k) pc = .ok (.ifCond .lt off, 3)) (hi : eIns P X k (.ifCond .lt off) pc lo st h = some x) (b : eBa P G s k c0 s0 lo h H locs cells slots ls) :
    eGoal P G p l e R s m args below meth c H locs cells slots Q k c0 s0 pc ls st h x := by
  obtain ⟨y, r, rfl, h2⟩ := eI1_some hi
  obtain ⟨t, ht, ⟨hq, rfl⟩ | ⟨hq, rfl⟩⟩ := eBr_some h2
  · exact ⟨⟨Nat.le_refl _, Nat.le_refl _⟩, fun _ _ _ _ kk => lv_if_lt cx.1 cx.2.1 hd ht (fun _ => kk _ _ _ _ _ b) (fun hn => by first | exact absurd (of_decide_eq_true hq) hn | exact absurd hn (of_decide_eq_true hq))⟩
  · exact ⟨⟨Nat.le_refl _, Nat.le_refl _⟩, fun _ _ _ _ kk => lv_if_lt cx.1 cx.2.1 hd ht (fun hn => by first | exact absurd hn (of_decide_eq_false hq) | exact absurd hn (fun z => of_decide_eq_false hq (fun w => w z))) (fun _ => kk _ _ _ _ _ b)⟩
theorem es_icmp_lt {off : Int} (cx : eCx P N G X p s m args meth c k) (hd : decode (N.cd k) pc = .ok (.if_icmp .lt off, 3)) (hi : eIns P X k (.if_icmp .lt off) pc lo st h = some x) (b : eBa P G s k c0 s0 lo h H locs cells slots ls) :
    eGoal P G p l e R s m args below meth c H locs cells slots Q k c0 s0 pc ls st h x := by
  obtain ⟨y, z, r, rfl, h2⟩ := eI2_some hi
  obtain ⟨t, ht, ⟨hq, rfl⟩ | ⟨hq, rfl⟩⟩ := eBr_some h2
  · exact ⟨⟨Nat.le_refl _, Nat.le_refl _⟩, fun _ _ _ _ kk => lv_icmp_lt cx.1 cx.2.1 hd ht (fun _ => kk _ _ _ _ _ b) (fun hn => by first | exact absurd (of_decide_eq_true hq) hn | exact absurd hn (of_decide_eq_true hq))⟩
  · exact ⟨⟨Nat.le_refl _, Nat.le_refl _⟩, fun _ _ _ _ kk => lv_icmp_lt cx.1 cx.2.1 hd ht (fun hn => by first | exact absurd hn (of_decide_eq_false hq) | exact absurd hn (fun z => of_decide_eq_false hq (fun w => w z))) (fun _ => kk _ _ _ _ _ b)⟩
theorem es_if_ge {off : Int} (cx : eCx P N G X p s m args meth c k) (hd : decode (N.cd k) pc = .ok (.ifCond .ge off, 3)) (hi : eIns P X k (.ifCond .ge off) pc lo st h = some x) (b : eBa P G s k c0 s0 lo h H locs cells slots ls) :
    eGoal P G p l e R s m args below meth c H locs cells slots Q k c0 s0 pc ls st h x := by
  obtain ⟨y, r, rfl, h2⟩ := eI1_some hi
  obtain ⟨t, ht, ⟨hq, rfl⟩ | ⟨hq, rfl⟩⟩ := eBr_some h2
  · exact ⟨⟨Nat.le_refl _, Nat.le_refl _⟩, fun _ _ _ _ kk => lv_if_ge cx.1 cx.2.1 hd ht (fun _ => kk _ _ _ _ _ b) (fun hn => by first | exact absurd (of_decide_eq_true hq) hn | exact absurd hn (of_decide_eq_true hq))⟩
  · exact ⟨⟨Nat.le_refl _, Nat.le_refl _⟩, fun _ _ _ _ kk => lv_if_ge cx.1 cx.2.1 hd ht (fun hn => by first | exact absurd hn (of_decide_eq_false hq) | exact absurd hn (fun z => of_decide_eq_false hq (fun w => w z))) (fun _ => kk _ _ _ _ _ b)⟩
theorem es_icmp_ge {off : Int} (cx : eCx P N G X p s m args meth c k) (hd : decode (N.cd k) pc = .ok (.if_icmp .ge off, 3)) (hi : eIns P X k (.if_icmp .ge off) pc lo st h = some x) (b : eBa P G s k c0 s0 lo h H locs cells slots ls) :
    eGoal P G p l e R s m args below meth c H locs cells slots Q k c0 s0 pc ls st h x := by
  obtain ⟨y, z, r, rfl, h2⟩ := eI2_some hi
  obtain ⟨t, ht, ⟨hq, rfl⟩ | ⟨hq, rfl⟩⟩ := eBr_some h2
  · exact ⟨⟨Nat.le_refl _, Nat.le_refl _⟩, fun _ _ _ _ kk => lv_icmp_ge cx.1 cx.2.1 hd ht (fun _ => kk _ _ _ _ _ b) (fun hn => by first | exact absurd (of_decide_eq_true hq) hn | exact absurd hn (of_decide_eq_true hq))⟩
  · exact ⟨⟨Nat.le_refl _, Nat.le_refl _⟩, fun _ _ _ _ kk => lv_icmp_ge cx.1 cx.2.1 hd ht (fun hn => by first | exact absurd hn (of_decide_eq_false hq) | exact absurd hn (fun z => of_decide_eq_false hq (fun w => w z))) (fun _ => kk _ _ _ _ _ b)⟩
theorem es_if_gt {off : Int} (cx : eCx P N G X p s m args meth c k) (hd : decode (N.cd k) pc = .ok (.ifCond .gt off, 3)) (hi : eIns P X k (.ifCond .gt off) pc lo st h = some x) (b : eBa P G s k c0 s0 lo h H locs cells slots ls) :
    eGoal P G p l e R s m args below meth c H locs cells slots Q k c0 s0 pc ls st h x := by
  obtain ⟨y, r, rfl, h2⟩ := eI1_some hi
  obtain ⟨t, ht, ⟨hq, rfl⟩ | ⟨hq, rfl⟩⟩ := eBr_some h2
  · exact ⟨⟨Nat.le_refl _, Nat.le_refl _⟩, fun _ _ _ _ kk => lv_if_gt cx.1 cx.2.1 hd ht (fun _ => kk _ _ _ _ _ b) (fun hn => by first | exact absurd (of_decide_eq_true hq) hn | exact absurd hn (of_decide_eq_true hq))⟩
  · exact ⟨⟨Nat.le_refl _, Nat.le_refl _⟩, fun _ _ _ _ kk => lv_if_gt cx.1 cx.2.1 hd ht (fun hn => by first | exact absurd hn (of_decide_eq_false hq) | exact absurd hn (fun z => of_decide_eq_false hq (fun w => w z))) (fun _ => kk _ _ _ _ _ b)⟩
theorem es_icmp_gt {off : Int} (cx : eCx P N G X p s m args meth c k) (hd : decode (N.cd k) pc = .ok (.if_icmp .gt off, 3)) (hi : eIns P X k (.if_icmp .gt off) pc lo st h = some x) (b : eBa P G s k c0 s0 lo h H locs cells slots ls) :
    eGoal P G p l e R s m args below meth c H locs cells slots Q k c0 s0 pc ls st h x := by
  obtain ⟨y, z, r, rfl, h2⟩ := eI2_some hi
  obtain ⟨t, ht, ⟨hq, rfl⟩ | ⟨hq, rfl⟩⟩ := eBr_some h2
  · exact ⟨⟨Nat.le_refl _, Nat.le_refl _⟩, fun _ _ _ _ kk => lv_icmp_gt cx.1 cx.2.1 hd ht (fun _ => kk _ _ _ _ _ b) (fun hn => by first | exact absurd (of_decide_eq_true hq) hn | exact absurd hn (of_decide_eq_true hq))⟩
  · exact ⟨⟨Nat.le_refl _, Nat.le_refl _⟩, fun _ _ _ _ kk => lv_icmp_gt cx.1 cx.2.1 hd ht (fun hn => by first | exact absurd hn (of_decide_eq_false hq) | exact absurd hn (fun z => of_decide_eq_false hq (fun w => w z))) (fun _ => kk _ _ _ _ _ b)⟩
theorem es_if_le {off : Int} (cx : eCx P N G X p s m args meth c k) (hd : decode (N.cd k) pc = .ok (.ifCond .le off, 3)) (hi : eIns P X k (.ifCond .le off) pc lo st h = some x) (b : eBa P G s k c0 s0 lo h H locs cells slots ls) :
    eGoal P G p l e R s m args below meth c H locs cells slots Q k c0 s0 pc ls st h x := by
  obtain ⟨y, r, rfl, h2⟩ := eI1_some hi
  obtain ⟨t, ht, ⟨hq, rfl⟩ | ⟨hq, rfl⟩⟩ := eBr_some h2
  · exact ⟨⟨Nat.le_refl _, Nat.le_refl _⟩, fun _ _ _ _ kk => lv_if_le cx.1 cx.2.1 hd ht (fun _ => kk _ _ _ _ _ b) (fun hn => by first | exact absurd (of_decide_eq_true hq) hn | exact absurd hn (of_decide_eq_true hq))⟩
  · exact ⟨⟨Nat.le_refl _, Nat.le_refl _⟩, fun _ _ _ _ kk => lv_if_le cx.1 cx.2.1 hd ht (fun hn => by first | exact absurd hn (of_decide_eq_false hq) | exact absurd hn (fun z => of_decide_eq_false hq (fun w => w z))) (fun _ => kk _ _ _ _ _ b)⟩
theorem es_icmp_le {off : Int} (cx : eCx P N G X p s m args meth c k) (hd : decode (N.cd k) pc = .ok (.if_icmp .le off, 3)) (hi : eIns P X k (.if_icmp .le off) pc lo st h = some x) (b : eBa P G s k c0 s0 lo h H locs cells slots ls) :
    eGoal P G p l e R s m args below meth c H locs cells slots Q k c0 s0 pc ls st h x := by
  obtain ⟨y, z, r, rfl, h2⟩ := eI2_some hi
  obtain ⟨t, ht, ⟨hq, rfl⟩ | ⟨hq, rfl⟩⟩ := eBr_some h2
  · exact ⟨⟨Nat.le_refl _, Nat.le_refl _⟩, fun _ _ _ _ kk => lv_icmp_le cx.1 cx.2.1 hd ht (fun _ => kk _ _ _ _ _ b) (fun hn => by first | exact absurd (of_decide_eq_true hq) hn | exact absurd hn (of_decide_eq_true hq))⟩
  · exact ⟨⟨Nat.le_refl _, Nat.le_refl _⟩, fun _ _ _ _ kk => lv_icmp_le cx.1 cx.2.1 hd ht (fun hn => by first | exact absurd hn (of_decide_eq_false hq) | exact absurd hn (fun z => of_decide_eq_false hq (fun w => w z))) (fun _ => kk _ _ _ _ _ b)⟩
theorem es_ifnull {off : Int} (cx : eCx P N G X p s m args meth c k) (hd : decode (N.cd k) pc = .ok (.ifnull off, 3)) (hi : eIns P X k (.ifnull off) pc lo st h = some x) (b : eBa P G s k c0 s0 lo h H locs cells slots ls) :
    eGoal P G p l e R s m args below meth c H locs cells slots Q k c0 s0 pc ls st h x := by
  simp only [eIns] at hi
  obtain ⟨y, r, rfl, h2⟩ := eQ1_some hi
  obtain ⟨t, ht, ⟨hq, rfl⟩ | ⟨hq, rfl⟩⟩ := eBr_some h2
  · cases y with
    | none => exact ⟨⟨Nat.le_refl _, Nat.le_refl _⟩, fun _ _ _ _ kk => lv_ifnullN cx.1 cx.2.1 hd ht (kk _ _ _ _ _ b)⟩
    | some y => cases hq
  · cases y with
    | none => cases hq
    | some y => exact ⟨⟨Nat.le_refl _, Nat.le_refl _⟩, fun _ _ _ _ kk => lv_ifnull cx.1 cx.2.1 hd (kk _ _ _ _ _ b)⟩
theorem es_tableswitch {d lw hi : Int} {offs : Array Int} {len : Nat} (cx : eCx P N G X p s m args meth c k) (hd : decode (N.cd k) pc = .ok (.tableswitch d lw hi offs, len)) (hii : eIns P X k (.tableswitch d lw hi offs) pc lo st h = some x) (b : eBa P G s k c0 s0 lo h H locs cells slots ls) :
    eGoal P G p l e R s m args below meth c H locs cells slots Q k c0 s0 pc ls st h x := by
  obtain ⟨y, r, rfl, h2⟩ := eI1_some hii
  split at h2
  · rename_i hq
    obtain ⟨t, ht, h2⟩ := eTo_some h2
    obtain rfl := eN_inj h2
    exact ⟨⟨Nat.le_refl _, Nat.le_refl _⟩, fun _ _ _ _ kk => lv_tableOut cx.1 cx.2.1 hd hq ht (kk _ _ _ _ _ b)⟩
  · rename_i hq
    split at h2
    · rename_i off ho
      obtain ⟨t, ht, h2⟩ := eTo_some h2
      obtain rfl := eN_inj h2
      exact ⟨⟨Nat.le_refl _, Nat.le_refl _⟩, fun _ _ _ _ kk => lv_tableIn cx.1 cx.2.1 hd (fun z => hq (Or.inl z)) (fun z => hq (Or.inr z)) ho ht (kk _ _ _ _ _ b)⟩
    · cases h2
theorem es_ldc {ix : Nat} (cx : eCx P N G X p s m args meth c k) (gc : ∀ o ix v, P.con o ix = some (.int v) → Cond.constant (N.cn o) ix v ∈ lw_gd) (hd : decode (N.cd k) pc = .ok (.ldc ix, 2)) (hi : eIns P X k (.ldc ix) pc lo st h = some x) (b : eBa P G s k c0 s0 lo h H locs cells slots ls) :
    eGoal P G p l e R s m args below meth c H locs cells slots Q k c0 s0 pc ls st h x := by
  simp only [eIns] at hi
  split at hi
  · rename_i v hv
    obtain rfl := eN_inj hi
    exact ⟨⟨Nat.le_refl _, Nat.le_refl _⟩, fun _ _ _ _ kk => lv_ldc cx.1 cx.2.1 cx.2.2.2.1 (cx.2.2.2.2.1 _ (gc _ _ _ hv)) hd (kk _ _ _ _ _ b)⟩
  · cases hi
theorem es_ldc2_w {ix : Nat} (cx : eCx P N G X p s m args meth c k) (gc : ∀ o ix v, P.con o ix = some (.long v) → Cond.constantLong (N.cn o) ix v ∈ lw_gd) (hd : decode (N.cd k) pc = .ok (.ldc2_w ix, 3)) (hi : eIns P X k (.ldc2_w ix) pc lo st h = some x) (b : eBa P G s k c0 s0 lo h H locs cells slots ls) :
    eGoal P G p l e R s m args below meth c H locs cells slots Q k c0 s0 pc ls st h x := by
  simp only [eIns] at hi
  split at hi
  · rename_i v hv
    obtain rfl := eN_inj hi
    exact ⟨⟨Nat.le_refl _, Nat.le_refl _⟩, fun _ _ _ _ kk => lv_ldc2 cx.1 cx.2.1 cx.2.2.2.1 (cx.2.2.2.2.1 _ (gc _ _ _ hv)) hd (kk _ _ _ _ _ b)⟩
  · cases hi
theorem es_getfield {ix : Nat} (cx : eCx P N G X p s m args meth c k) (gf : gFld P N G.cl) (hd : decode (N.cd k) pc = .ok (.getfield ix, 3)) (hi : eIns P X k (.getfield ix) pc lo st h = some x) (b : eBa P G s k c0 s0 lo h H locs cells slots ls) :
    eGoal P G p l e R s m args below meth c H locs cells slots Q k c0 s0 pc ls st h x := by
  simp only [eIns, eGf] at hi
  obtain ⟨a, r, rfl, h2⟩ := eR1_some hi
  split at h2
  · rename_i c1 j tf hf
    obtain ⟨ty, fin⟩ := tf
    obtain ⟨C, T, n, ty0, hcl, hj, hC, hT, hlk, hin, -, -, -, -⟩ := gf _ _ _ _ _ _ hf
    split at h2
    · rename_i c2 fs hcell
      obtain ⟨hq, h2⟩ := eIf_then h2
      split at h2
      · rename_i v hv
        obtain rfl := eN_inj h2
        have h1 : ¬ a = 0 := fun z => hq (Or.inl z)
        have h3 : c2 = c1 := Decidable.of_not_not fun z => hq (Or.inr z)
        subst h3
        have hP : va_P G.D G.cl [(eAd G a, eCo G (.inr (c2, fs)))] H := fun q z hz => by
          cases q with
          | zero => cases hz; exact b.2.1.at h1 hcell
          | succ q => cases hz
        refine ⟨⟨Nat.le_refl _, Nat.le_refl _⟩, fun _ _ _ _ kk => ?_⟩
        exact va_get cx.1 cx.2.1 cx.2.2.2.2.1 hin cx.2.2.2.1 cx.2.2.2.2.2.1 hP 0 rfl hcl j hj (cx.2.2.2.2.1 _ hlk) (fun z hz => by rw [hT] at hz; exact hz) (v := eVal G v) (by simp [hv]) hd (kk _ _ _ _ _ b)
      · cases h2
    · cases h2
  · cases h2
end ES

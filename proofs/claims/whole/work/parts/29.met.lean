theorem eAs_args (G : eG) : ∀ (as : List Value) (i n : Nat), eAs (eVal G) i (eArg as ++ List.replicate n none) = lv_args i (as.map (eVal G)) := by
  intro as
  induction as with
  | nil =>
    intro i n
    show eAs (eVal G) i (List.replicate n none) = []
    induction n generalizing i with
    | zero => rfl
    | succ n ih => exact ih (i + 1)
  | cons v r ih =>
    intro i n
    by_cases hc : v.category = 2
    · have h1 : eArg (v :: r) = some v :: none :: eArg r := by simp [eArg, hc]
      have h2 : lv_args i ((v :: r).map (eVal G)) = (i, eVal G v) :: lv_args (i + 2) (r.map (eVal G)) := by simp [lv_args, eVal_cat, hc]
      rw [h1, h2, ← ih (i + 2) n]
      rfl
    · have h1 : eArg (v :: r) = some v :: eArg r := by simp [eArg, hc]
      have h2 : lv_args i ((v :: r).map (eVal G)) = (i, eVal G v) :: lv_args (i + 1) (r.map (eVal G)) := by simp [lv_args, eVal_cat, hc]
      rw [h1, h2, ← ih (i + 1) n]
      rfl
theorem eArg_len (G : eG) : ∀ (as : List Value), (lg_sl (as.map (eVal G))).length = (eArg as).length := by
  intro as
  induction as with
  | nil => rfl
  | cons v r ih =>
    by_cases hc : v.category = 2
    · have h1 : eArg (v :: r) = some v :: none :: eArg r := by simp [eArg, hc]
      have h2 : lg_sl ((v :: r).map (eVal G)) = .val (eVal G v) :: .second :: lg_sl (r.map (eVal G)) := by simp [lg_sl, eVal_cat, hc]
      rw [h1, h2]
      simp [ih]
    · have h1 : eArg (v :: r) = some v :: eArg r := by simp [eArg, hc]
      have h2 : lg_sl ((v :: r).map (eVal G)) = .val (eVal G v) :: lg_sl (r.map (eVal G)) := by simp [lg_sl, eVal_cat, hc]
      rw [h1, h2]
      simp [ih]
theorem e_met {l : Launch} {P : eP} {N : eW} {G : eG} {X : Nat × (Nat → Int32)} {n : Nat} (ga : gAll P N G.cl) (gh : gThr P N G.cl) (htr : l.stackTraces = false) (gk : gHan P N) :
    ∀ (d k : Nat) (as : List Value) (h : eH) (r : eR) (h' : eH), gCode P N k → gName P N k → eRun P X n d k as h = some (r, h') → eMet l P N G X d k as h r h' := by
  intro d
  induction d with
  | zero => intro k as h r h' _ _ hx; cases hx
  | succ d ih =>
    intro k as h r h' hcode hname hx
    have hmm := eRun_mono _ _ _ _ _ _ hx
    simp only [eRun] at hx
    split at hx
    · cases hx
    · rename_i hnl
      unfold eMet
      refine MetFree.of_bodyS (code := N.cd k) (maxLocals := eNL P k) (ret := eRt P k) hname.1 ?_ ?_
      · intro args s m hpre hn
        have hts : ∀ w ∈ lw_gd, w.before args s = true := atoms_spec (ws := lw_gd) hpre
        rcases hcode with ⟨-, hcode⟩ | ⟨-, hs, hcode⟩
        · obtain ⟨meth, c, h1, h2, h3, h4, h5, h6, -, -⟩ := Cond.code_spec hn (hts _ hcode)
          exact ⟨meth, c, h1, h2, h3, h4, h5, h6⟩
        · obtain ⟨m', meth, c, h0, h1, h2, h3, h4, -, h5, h6, -⟩ := Cond.codeWith_spec (hts _ hcode)
          cases hn.symm.trans h0
          exact ⟨meth, c, h1, h2, h3, h4, h5, h6⟩
      · intro p e s m args below meth c s₁ B hml hP _
        obtain ⟨rfl, hK, hR, ⟨hX, hb⟩, hFx⟩ := hP
        have hts : ∀ w ∈ lw_gd, w.before (as.map (eVal G)).toArray s = true := atoms_spec (ws := lw_gd) B.pre
        have X0 := Stand.of_body B
        have hh0 : s₁.heap = s.heap := by rw [B.state]; rfl
        have hown : s.vm.findClass (N.cn (eOwn P k)) = some m.cls := by
          rw [← hname.2.2.1]
          exact findClass_of_methodNamed B.named
        have hnm : meth.name = (N.mn k).name := (name_of_methodNamed B.named B.method).1
        have hexc1 : eHs P k = [] → c.exceptionTable.toList = [] := fun hz => by
          rcases hcode with ⟨-, hcode⟩ | ⟨hn2, -⟩
          · obtain ⟨meth', c', h1, h2, -, -, -, -, h7, -⟩ := Cond.code_spec B.named (hts _ hcode)
            cases B.method.symm.trans h1
            cases X0.code.symm.trans h2
            simpa using h7
          · exact absurd hz hn2
        have hexc2 : ∀ raw, Cond.codeWith (N.mn k) (N.cd k) (eNL P k) (eRt P k) raw ∈ lw_gd → c.exceptionTable.toList.map (fun h => (h.startPc, h.endPc, h.handlerPc, h.catchType)) = raw := fun raw hraw => by
          obtain ⟨m', meth', c', h0, h1, h2, -, -, h5, -⟩ := Cond.codeWith_spec (hts _ hraw)
          cases B.named.symm.trans h0
          cases B.method.symm.trans h1
          cases X0.code.symm.trans h2
          exact h5
        have hsz : G.B < s.heap.size := by rw [hR.1]; have := hR.2.1; omega
        have cx : eCx P N G X p s m (as.map (eVal G)).toArray meth c k := ⟨B.exec, B.bytes, hml, hown, hts, hK, ⟨hX, hb, hsz⟩, hFx, fun hz => by rw [hnm]; exact hname.2.2.2.2.1 hz, B.returns, B.notSynchronized, hexc1, hexc2⟩
        have hle : (lg_sl (as.map (eVal G))).length ≤ eNL P k := by rw [eArg_len]; exact Nat.not_lt.mp hnl
        have hb0 : eBa P G s k h.2.1 h.2.2 (eEntry (eNL P k) as) h s.heap [] 0 0 ((lg_sl (as.map (eVal G)) ++ List.replicate (eNL P k - (lg_sl (as.map (eVal G))).length) Slot.unset).toArray) := by
          refine ⟨⟨?_, ?_⟩, hR, ⟨Nat.le_refl _, fun _ _ _ => rfl, fun q hq => absurd hq List.not_mem_nil⟩, by omega, by omega⟩
          · unfold eEntry
            rw [List.length_append, List.length_replicate]
            have := Nat.not_lt.mp hnl
            omega
          · unfold eEntry
            rw [eAs_args]
            exact lv_entry (as.map (eVal G)) hle
        have z := e_go (e := e) (below := below) (R := eRm (d + 1) (h'.2.1 - h.2.1) (h'.2.2 - h.2.2)) cx ga gh htr gk (fun k' as' h1 r1 h2 hc => eRun_mono _ _ _ _ _ _ hc) (fun k' as' h1 r1 h2 g1 g2 hc => ih k' as' h1 r1 h2 g1 g2 hc) ⟨by show d + 13 ≤ d + 1 + 12; omega, by show (d + 13) * 64 ≤ (d + 1 + 12) * 64; omega⟩
          (by show h'.2.1 ≤ h'.2.1 - h.2.1 + h.2.1; omega) (by show h'.2.2 ≤ h'.2.2 - h.2.2 + h.2.2; omega) n _ _ _ _ hx s.heap [] 0 0 _ hb0
        rw [lg_entry_eq]
        obtain ⟨t, a1, q1, q2, q3, q4, q5, q6⟩ := z s₁ hh0 X0
        exact ⟨t, eO G r, a1, q1, q2, ⟨rfl, q3, q5⟩, q4, q6⟩

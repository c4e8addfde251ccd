abbrev eG : Type := Nat × Nat × (UInt32 → Nat) × (Nat → ClassId) × va_G × List vw_C
abbrev eG.b (G : eG) : Nat := G.1
abbrev eG.B (G : eG) : Nat := G.2.1
abbrev eG.sa (G : eG) : UInt32 → Nat := G.2.2.1
abbrev eG.ca (G : eG) : Nat → ClassId := G.2.2.2.1
abbrev eG.D (G : eG) : va_G := G.2.2.2.2.1
abbrev eG.cl (G : eG) : List vw_C := G.2.2.2.2.2
abbrev eW : Type := (Nat → String) × (Nat → MethodName) × (Nat → ByteArray) × List FieldType
abbrev eW.cn (N : eW) : Nat → String := N.1
abbrev eW.mn (N : eW) : Nat → MethodName := N.2.1
abbrev eW.cd (N : eW) : Nat → ByteArray := N.2.2.1
abbrev eW.ty (N : eW) : List FieldType := N.2.2.2
def eAd (G : eG) (r : Nat) : Nat := if r = 0 then G.b else G.B + r
def eVal (G : eG) (v : Value) : Value := match v with
  | .ref r => .ref (eAd G r)
  | .float k => .ref (G.sa k)
  | v => v
theorem eVal_cat (G : eG) (v : Value) : (eVal G v).category = v.category := by cases v <;> rfl
theorem eAd_pos {G : eG} {r : Nat} (h : ¬ r = 0) : eAd G r = G.B + r := if_neg h
theorem eVal_rf (G : eG) (x : Option Nat) : eVal G (eRf x) = va_rf (x.map (eAd G)) := by cases x <;> rfl
def eCo (G : eG) (x : eE) : va_E := match x with
  | .inl (t, n, .inl f) => .inl (G.ca t, n, .inl f)
  | .inl (t, n, .inr (.inl f)) => .inl (G.ca t, n, .inr (.inl f))
  | .inl (t, n, .inr (.inr f)) => .inl (G.ca t, n, .inr (.inr (.inr (.inr fun i => (f i).map (eAd G)))))
  | .inr (c, fs) => .inr (c, fs.map (eVal G))
def eRel (G : eG) (h : eH) (H : Heap) : Prop := H.size = G.B + h.2.1 ∧ 1 ≤ h.2.1 ∧ ∀ r x, h.1 r = some x → 1 ≤ r → r < h.2.1 ∧ va_at G.D G.cl (G.B + r, eCo G x) H
def eAs (f : Value → Value) : Nat → eLo → List (Nat × Value)
  | _, [] => []
  | i, none :: r => eAs f (i + 1) r
  | i, some v :: r => (i, f v) :: eAs f (i + 1) r
theorem eAs_mem (f : Value → Value) : ∀ (lo : eLo) (i j : Nat) (w : Value), (j, w) ∈ eAs f i lo ↔ ∃ (k : Nat) (v : Value), j = i + k ∧ lo[k]? = some (some v) ∧ w = f v := by
  intro lo
  induction lo with
  | nil =>
    intro i j w
    simp [eAs]
  | cons a r ih =>
    intro i j w
    cases a with
    | none =>
      simp only [eAs, ih]
      constructor
      · rintro ⟨k, v, h1, h2, h3⟩
        exact ⟨k + 1, v, by omega, by simpa using h2, h3⟩
      · rintro ⟨k, v, h1, h2, h3⟩
        cases k with
        | zero => simp at h2
        | succ k => exact ⟨k, v, by omega, by simpa using h2, h3⟩
    | some a =>
      simp only [eAs, List.mem_cons, Prod.mk.injEq, ih]
      constructor
      · rintro (⟨h1, h2⟩ | ⟨k, v, h1, h2, h3⟩)
        · exact ⟨0, a, by omega, by simp, h2⟩
        · exact ⟨k + 1, v, by omega, by simpa using h2, h3⟩
      · rintro ⟨k, v, h1, h2, h3⟩
        cases k with
        | zero =>
          left
          simp at h2
          subst h2
          exact ⟨by omega, h3⟩
        | succ k => exact Or.inr ⟨k, v, by omega, by simpa using h2, h3⟩
def eLR (G : eG) (ls : Array Slot) (nL : Nat) (lo : eLo) : Prop := lo.length = nL ∧ lv_has ls nL (eAs (eVal G) 0 lo)
theorem eLR.at {G : eG} {ls : Array Slot} {nL i : Nat} {lo : eLo} {v : Value} (h : eLR G ls nL lo) (hi : lo[i]? = some (some v)) : ls[i]? = some (.val (eVal G v)) :=
  h.2.2.2 (i, eVal G v) ((eAs_mem _ lo 0 i _).mpr ⟨i, v, by omega, hi, rfl⟩)
theorem eLR.st1 {G : eG} {ls ls' : Array Slot} {nL i : Nat} {lo : eLo} {v : Value} (h : eLR G ls nL lo) (h' : lv_has ls' nL ((i, eVal G v) :: (eAs (eVal G) 0 lo).filter (fun q => !(q.1 == i) && !(q.1 + 1 == i && q.2.category == 2)))) : eLR G ls' nL (eSt1 lo i v) := by
  refine ⟨by simp [eSt1, eKill_len, h.1], h'.1, h'.2.1, fun q hq => h'.2.2 q ?_⟩
  obtain ⟨j, w⟩ := q
  obtain ⟨k, u, e1, e2, e3⟩ := (eAs_mem _ _ 0 j w).mp hq
  simp only [Nat.zero_add] at e1
  subst e1
  subst e3
  unfold eSt1 at e2
  rw [List.getElem?_set] at e2
  split at e2
  · rename_i he
    subst he
    split at e2
    · cases e2
      exact List.mem_cons_self
    · cases e2
  · rename_i hne
    obtain ⟨g1, g2⟩ := eKill_at e2
    refine List.mem_cons_of_mem _ (List.mem_filter.mpr ⟨(eAs_mem _ _ 0 j _).mpr ⟨j, u, by omega, g1, rfl⟩, ?_⟩)
    simp only [eVal_cat, Bool.and_eq_true, Bool.not_eq_true', beq_eq_false_iff_ne, ne_eq, Bool.and_eq_false_imp, beq_iff_eq]
    exact ⟨fun e => hne e.symm, fun e1 e2 => g2 ⟨e1, e2⟩⟩
theorem eLR.st2 {G : eG} {ls ls' : Array Slot} {nL i : Nat} {lo : eLo} {v : Value} (h : eLR G ls nL lo) (h' : lv_has ls' nL ((i, eVal G v) :: (eAs (eVal G) 0 lo).filter (fun q => !(q.1 == i) && (!(q.1 == i + 1) && !(q.1 + 1 == i && q.2.category == 2))))) : eLR G ls' nL (eSt2 lo i v) := by
  refine ⟨by simp [eSt2, eKill_len, h.1], h'.1, h'.2.1, fun q hq => h'.2.2 q ?_⟩
  obtain ⟨j, w⟩ := q
  obtain ⟨k, u, e1, e2, e3⟩ := (eAs_mem _ _ 0 j w).mp hq
  simp only [Nat.zero_add] at e1
  subst e1
  subst e3
  unfold eSt2 at e2
  rw [List.getElem?_set] at e2
  split at e2
  · split at e2 <;> cases e2
  · rename_i hn2
    rw [List.getElem?_set] at e2
    split at e2
    · rename_i he
      subst he
      split at e2
      · cases e2
        exact List.mem_cons_self
      · cases e2
    · rename_i hne
      obtain ⟨g1, g2⟩ := eKill_at e2
      refine List.mem_cons_of_mem _ (List.mem_filter.mpr ⟨(eAs_mem _ _ 0 j _).mpr ⟨j, u, by omega, g1, rfl⟩, ?_⟩)
      simp only [eVal_cat, Bool.and_eq_true, Bool.not_eq_true', beq_eq_false_iff_ne, ne_eq, Bool.and_eq_false_imp, beq_iff_eq]
      exact ⟨fun e => hne e.symm, fun e => hn2 e.symm, fun e1 e2 => g2 ⟨e1, e2⟩⟩

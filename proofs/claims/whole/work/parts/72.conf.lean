theorem q_ix (row m w : Nat) : (((47 : Int32) * nI row) + ((7 : Int32) * nI m)) + nI w = nI (47 * row + 7 * m + w) := by
  have a : (47 : Int32) * nI row = nI (47 * row) := pk_mul 47 row
  have b : (7 : Int32) * nI m = nI (7 * m) := pk_mul 7 m
  rw [a, b, nI_add, nI_add]
theorem q_cell {row m w : Nat} (h : 47 * row + 7 * m + w < 3854) {cells : Nat → Int32} {n : Nat} : M_cell n (nI row) (nI m) (nI w) cells = some (cells (47 * row + 7 * m + w)) := by
  unfold M_cell
  rw [q_ix, nI_clamp (by omega), if_neg (q_in h (by omega))]
theorem q_cell5 {row m : Nat} (h : 47 * row + 7 * m + 5 < 3854) {cells : Nat → Int32} {n : Nat} : M_cell n (nI row) (nI m) 5 cells = some (cells (47 * row + 7 * m + 5)) := q_cell (w := 5) h
theorem q_cell6 {row m : Nat} (h : 47 * row + 7 * m + 6 < 3854) {cells : Nat → Int32} {n : Nat} : M_cell n (nI row) (nI m) 6 cells = some (cells (47 * row + 7 * m + 6)) := q_cell (w := 6) h
theorem q_set {row m w : Nat} (h : 47 * row + 7 * m + w < 3854) {v : Int32} {cells : Nat → Int32} {n : Nat} : M_set n (nI row) (nI m) (nI w) v cells = some (eUp cells (47 * row + 7 * m + w) v) := by
  unfold M_set
  rw [q_ix, nI_clamp (by omega), if_neg (q_in h (by omega))]
theorem q_up {α : Type} (f : Nat → α) (k : Nat) (x : α) : eUp f k x k = x := if_pos rfl
theorem q_un {α : Type} {f : Nat → α} {k j : Nat} {x : α} (h : ¬ j = k) : eUp f k x j = f j := if_neg h
theorem qb_f : qb false = 0 := rfl
theorem qb_t : ¬ qb true = 0 := by decide
def qcnt (p : Nat → Bool) : Nat → Nat → Nat
  | _, 0 => 0
  | c, d + 1 => (if p c then 1 else 0) + qcnt p (c + 1) d
def qfind (p : Nat → Bool) : Nat → Nat → Option Nat
  | _, 0 => none
  | c, d + 1 => if p c then some c else qfind p (c + 1) d
def qoI : Option Nat → Int32
  | none => -1
  | some j => nI j
theorem qcnt_le {p : Nat → Bool} : ∀ (d c : Nat), qcnt p c d ≤ d := by
  intro d
  induction d with
  | zero => intro c; exact Nat.le_refl _
  | succ d ih => intro c; have := ih (c + 1); unfold qcnt; split <;> omega
theorem qfind_some {p : Nat → Bool} : ∀ (d c : Nat) {j : Nat}, qfind p c d = some j → p j = true ∧ c ≤ j ∧ j < c + d ∧ ∀ i, c ≤ i → i < j → p i = false := by
  intro d
  induction d with
  | zero => intro c j h; cases h
  | succ d ih =>
    intro c j h
    unfold qfind at h
    by_cases e : p c = true
    · rw [if_pos e] at h
      cases h
      exact ⟨e, Nat.le_refl _, by omega, fun i h1 h2 => absurd h1 (by omega)⟩
    · rw [if_neg e] at h
      obtain ⟨a, b, c', f⟩ := ih (c + 1) h
      refine ⟨a, by omega, by omega, fun i h1 h2 => ?_⟩
      by_cases ic : i = c
      · subst ic; exact Bool.eq_false_iff.mpr e
      · exact f i (by omega) h2
theorem qfind_none {p : Nat → Bool} : ∀ (d c : Nat), qfind p c d = none → ∀ i, c ≤ i → i < c + d → p i = false := by
  intro d
  induction d with
  | zero => intro c _ i h1 h2; exact absurd h1 (by omega)
  | succ d ih =>
    intro c h i h1 h2
    unfold qfind at h
    by_cases e : p c = true
    · rw [if_pos e] at h; cases h
    · rw [if_neg e] at h
      by_cases ic : i = c
      · subst ic; exact Bool.eq_false_iff.mpr e
      · exact ih (c + 1) h i (by omega) (by omega)
theorem qcnt_congr {p q : Nat → Bool} : ∀ (d c : Nat), (∀ i, c ≤ i → i < c + d → p i = q i) → qcnt p c d = qcnt q c d := by
  intro d
  induction d with
  | zero => intro c _; rfl
  | succ d ih =>
    intro c h
    unfold qcnt
    rw [h c (Nat.le_refl _) (by omega), ih (c + 1) fun i h1 h2 => h i (by omega) (by omega)]
theorem qfind_congr {p q : Nat → Bool} : ∀ (d c : Nat), (∀ i, c ≤ i → i < c + d → p i = q i) → qfind p c d = qfind q c d := by
  intro d
  induction d with
  | zero => intro c _; rfl
  | succ d ih =>
    intro c h
    unfold qfind
    rw [h c (Nat.le_refl _) (by omega), ih (c + 1) fun i h1 h2 => h i (by omega) (by omega)]
def qpC (lab : Nat → Int32) (par : Nat → Nat) (m : Nat) : Int32 := if m = 0 then 6 else if lab m = -1 then -1 else nI (par m)
def qpM (lab : Nat → Int32) (par : Nat → Nat) (m : Nat) : Int32 := if m = 0 then -1 else if lab m = -1 then 0 else nI (par m)
def KC (lab : Nat → Int32) (par : Nat → Nat) (am : Nat → Nat → Nat) (cl cp : Nat → Int32) (ch : Nat → Int64) : Prop :=
  (∀ m, m < 6 → cl m = lab m) ∧ (∀ m, m < 6 → cp m = qpC lab par m) ∧ (∀ m, m < 7 → ch m = qh (am m))
def KM (lab : Nat → Int32) (par : Nat → Nat) (am : Nat → Nat → Nat) (cells : Nat → Int32) (row : Nat) : Prop :=
  (∀ m, m < 6 → cells (47 * row + 7 * m + 5) = lab m) ∧ (∀ m, m < 6 → cells (47 * row + 7 * m + 6) = qpM lab par m) ∧ (∀ m, m < 7 → ∀ k, k < 5 → cells (47 * row + 7 * m + k) = nI (am m k))
def KL (lab : Nat → Int32) (par : Nat → Nat) : Prop :=
  ¬ lab 0 = -1 ∧ (∀ m, m < 6 → lab m = -1 ∨ ∃ j, j < 4 ∧ lab m = nI j) ∧ (∀ m, m < 6 → ¬ m = 0 → ¬ lab m = -1 → par m < 6 ∧ ¬ lab (par m) = -1)
def qkid (lab : Nat → Int32) (par : Nat → Nat) (m c : Nat) : Bool := decide (¬ c = 0 ∧ ¬ lab c = -1 ∧ par c = m)
theorem q_m1 {m : Nat} (h : m < 2 ^ 31) : ¬ (-1 : Int32) = nI m := by
  intro e
  have := nI_pos h
  rw [← e] at this
  exact this (by decide)
theorem q_m1' {m : Nat} (h : m < 2 ^ 31) : ¬ nI m = (-1 : Int32) := fun e => q_m1 h e.symm
theorem qpC_iff {lab : Nat → Int32} {par : Nat → Nat} (hl : KL lab par) {m c : Nat} (hm : m < 6) (hc : c < 6) : qpC lab par c = nI m ↔ qkid lab par m c = true := by
  unfold qpC qkid
  rw [decide_eq_true_iff]
  by_cases z : c = 0
  · rw [if_pos z]
    refine ⟨fun e => ?_, fun e => absurd z e.1⟩
    have : nI 6 = nI m := e
    rw [nI_eq (by omega) (by omega)] at this
    omega
  · rw [if_neg z]
    by_cases a : lab c = -1
    · rw [if_pos a]
      exact ⟨fun e => absurd e (q_m1 (by omega)), fun e => absurd a e.2.1⟩
    · rw [if_neg a, nI_eq (by have := (hl.2.2 c hc z a).1; omega) (by omega)]
      exact ⟨fun e => ⟨z, a, e⟩, fun e => e.2.2⟩
theorem q_lab_lt {lab : Nat → Int32} {par : Nat → Nat} (hl : KL lab par) {m : Nat} (hm : m < 6) : lab m < 0 ↔ lab m = -1 := by
  rcases hl.2.1 m hm with e | ⟨j, hj, e⟩
  · rw [e]; exact ⟨fun _ => rfl, fun _ => by decide⟩
  · rw [e]; exact ⟨fun z => absurd z (nI_pos (by omega)), fun z => absurd z (q_m1' (by omega))⟩
theorem q_has {lab : Nat → Int32} {par : Nat → Nat} {am : Nat → Nat → Nat} {cl cp : Nat → Int32} {ch : Nat → Int64} (h : KC lab par am cl cp ch) {m : Nat} (hm : m < 6) (n : Nat) : K_has n (nI m) cl = some (qb (decide (¬ lab m = -1))) := by
  unfold K_has
  rw [if_neg (nI_pos (by omega)), if_neg (q_n6 hm), nI_clamp (by omega), if_neg (q_in hm (by omega)), h.1 m hm]
  by_cases a : lab m = -1
  · rw [if_pos a, decide_eq_false (fun z => z a)]; rfl
  · rw [if_neg a, decide_eq_true a]; rfl
theorem q_Mhas {lab : Nat → Int32} {par : Nat → Nat} {am : Nat → Nat → Nat} {cells : Nat → Int32} {row : Nat} (hl : KL lab par) (h : KM lab par am cells row) (hr : row < 82) {m : Nat} (hm : m < 6) (n : Nat) : M_has n (nI row) (nI m) cells = some (qb (decide (¬ lab m = -1))) := by
  unfold M_has
  rw [if_neg (nI_pos (by omega)), if_neg (q_n6 hm), q_cell5 (by omega), Option.bind_some, h.1 m hm]
  by_cases a : lab m = -1
  · rw [if_pos ((q_lab_lt hl hm).mpr a), decide_eq_false (fun z => z a)]; rfl
  · rw [if_neg (fun z => a ((q_lab_lt hl hm).mp z)), decide_eq_true a]; rfl
theorem q_count6 {lab : Nat → Int32} {par : Nat → Nat} {am : Nat → Nat → Nat} {cl cp : Nat → Int32} {ch : Nat → Int64} (hl : KL lab par) (h : KC lab par am cl cp ch) {m : Nat} (hm : m < 6) {n : Nat} (hn : 7 ≤ n) : K_countChildren n (nI m) cp = some (nI (qcnt (qkid lab par m) 1 5)) := by
  have key : ∀ (d c s n : Nat), c + d = 6 → d + 1 ≤ n → K_countChildren_4 (nI m) cp n (nI s) (nI c) = some (nI (s + qcnt (qkid lab par m) c d)) := by
    intro d
    induction d with
    | zero =>
      intro c s n e hn
      obtain ⟨n, rfl⟩ : ∃ m, n = m + 1 := ⟨n - 1, by omega⟩
      have : c = 6 := by omega
      subst this
      rw [K_countChildren_4, if_pos q_y6]; rfl
    | succ d ih =>
      intro c s n e hn
      obtain ⟨n, rfl⟩ : ∃ m, n = m + 1 := ⟨n - 1, by omega⟩
      have hc : c < 6 := by omega
      rw [K_countChildren_4, if_neg (q_n6 hc), nI_clamp (by omega), if_neg (q_in hc (by omega)), h.2.1 c hc, nI_1, nI_1]
      unfold qcnt
      by_cases k : qkid lab par m c = true
      · rw [if_pos ((qpC_iff hl hm hc).mpr k), ih _ _ _ (by omega) (by omega), if_pos k, Nat.add_assoc]
      · rw [if_neg (fun z => k ((qpC_iff hl hm hc).mp z)), ih _ _ _ (by omega) (by omega), if_neg k, Nat.zero_add]
  have e := key 6 0 0 n (by omega) (by omega)
  have k0 : qkid lab par m 0 = false := by unfold qkid; exact decide_eq_false fun w => w.1 rfl
  have e2 : qcnt (qkid lab par m) 0 6 = qcnt (qkid lab par m) 1 5 := by
    rw [qcnt, k0, if_neg Bool.false_ne_true, Nat.zero_add]
  rw [Nat.zero_add, e2] at e
  exact e
theorem q_kids {lab : Nat → Int32} {par : Nat → Nat} {am : Nat → Nat → Nat} {cells : Nat → Int32} {row : Nat} (hl : KL lab par) (h : KM lab par am cells row) (hr : row < 82) {m : Nat} (hm : m < 6) {n : Nat} (hn : 7 ≤ n) : M_children n (nI row) (nI m) cells = some (nI (qcnt (qkid lab par m) 1 5)) := by
  have key : ∀ (d c s n : Nat), c + d = 6 → 0 < c → d + 1 ≤ n → M_children_5 (nI row) (nI m) cells n (nI s) (nI c) = some (nI (s + qcnt (qkid lab par m) c d)) := by
    intro d
    induction d with
    | zero =>
      intro c s n e h0 hn
      obtain ⟨n, rfl⟩ : ∃ m, n = m + 1 := ⟨n - 1, by omega⟩
      have : c = 6 := by omega
      subst this
      rw [M_children_5, if_pos q_y6]; rfl
    | succ d ih =>
      intro c s n e h0 hn
      obtain ⟨n, rfl⟩ : ∃ m, n = m + 1 := ⟨n - 1, by omega⟩
      have hc : c < 6 := by omega
      have z : ¬ c = 0 := by omega
      rw [M_children_5, if_neg (q_n6 hc), q_Mhas hl h hr hc, Option.bind_some, nI_1, nI_1]
      unfold qcnt
      by_cases a : lab c = -1
      · have k : qkid lab par m c = false := by unfold qkid; exact decide_eq_false fun w => w.2.1 a
        rw [decide_eq_false (fun z => z a), if_pos qb_f, ih _ _ _ (by omega) (by omega) (by omega), k, if_neg (by decide), Nat.zero_add]
      · rw [decide_eq_true a, if_neg (by decide), q_cell6 (by omega), Option.bind_some, h.2.1 c hc]
        unfold qpM
        rw [if_neg z, if_neg a]
        have pl := (hl.2.2 c hc z a).1
        by_cases k : par c = m
        · have kk : qkid lab par m c = true := by unfold qkid; exact decide_eq_true ⟨z, a, k⟩
          rw [if_pos (by rw [k]), ih _ _ _ (by omega) (by omega) (by omega), if_pos kk, Nat.add_assoc]
        · have kk : qkid lab par m c = false := by unfold qkid; exact decide_eq_false fun w => k w.2.2
          rw [if_neg (fun w => k ((nI_eq (by omega) (by omega)).mp w)), ih _ _ _ (by omega) (by omega) (by omega), kk, if_neg (by decide), Nat.zero_add]
  have e := key 5 1 0 n (by omega) (by omega) (by omega)
  rw [Nat.zero_add] at e
  exact e
def qkl (lab : Nat → Int32) (par : Nat → Nat) (m : Nat) (l : Int32) (c : Nat) : Bool := qkid lab par m c && decide (lab c = l)
theorem q_first {lab : Nat → Int32} {par : Nat → Nat} {am : Nat → Nat → Nat} {cl cp : Nat → Int32} {ch : Nat → Int64} (hl : KL lab par) (h : KC lab par am cl cp ch) {m : Nat} (hm : m < 6) (l : Int32) {n : Nat} (hn : 7 ≤ n) : K_firstChildWith n (nI m) l cl cp = some (qoI (qfind (qkl lab par m l) 1 5)) := by
  have key : ∀ (d c n : Nat), c + d = 6 → d + 1 ≤ n → K_firstChildWith_2 (nI m) l cl cp n (nI c) = some (qoI (qfind (qkl lab par m l) c d)) := by
    intro d
    induction d with
    | zero =>
      intro c n e hn
      obtain ⟨n, rfl⟩ : ∃ m, n = m + 1 := ⟨n - 1, by omega⟩
      have : c = 6 := by omega
      subst this
      rw [K_firstChildWith_2, if_pos q_y6]; rfl
    | succ d ih =>
      intro c n e hn
      obtain ⟨n, rfl⟩ : ∃ m, n = m + 1 := ⟨n - 1, by omega⟩
      have hc : c < 6 := by omega
      rw [K_firstChildWith_2, if_neg (q_n6 hc), nI_clamp (by omega), if_neg (q_in hc (by omega)), h.2.1 c hc, h.1 c hc, nI_1]
      unfold qfind
      by_cases k : qkid lab par m c = true
      · rw [if_pos ((qpC_iff hl hm hc).mpr k), if_neg (q_in hc (by omega))]
        by_cases e : lab c = l
        · rw [if_pos e, if_pos (by unfold qkl; rw [k, decide_eq_true e]; rfl)]; rfl
        · rw [if_neg e, if_neg (by unfold qkl; rw [k, decide_eq_false e]; decide)]
          exact ih _ _ (by omega) (by omega)
      · rw [if_neg (fun z => k ((qpC_iff hl hm hc).mp z)), if_neg (by unfold qkl; rw [Bool.eq_false_iff.mpr k]; exact Bool.false_ne_true)]
        exact ih _ _ (by omega) (by omega)
  have e := key 6 0 n (by omega) (by omega)
  have k0 : qkl lab par m l 0 = false := by unfold qkl qkid; rw [decide_eq_false (fun w => w.1 rfl)]; rfl
  have e2 : qfind (qkl lab par m l) 0 6 = qfind (qkl lab par m l) 1 5 := by
    rw [qfind, k0, if_neg Bool.false_ne_true]
  rw [e2] at e
  exact e
theorem q_childOf {lab : Nat → Int32} {par : Nat → Nat} {am : Nat → Nat → Nat} {cells : Nat → Int32} {row : Nat} (hl : KL lab par) (h : KM lab par am cells row) (hr : row < 82) {m : Nat} (hm : m < 6) {l : Int32} (hL : ¬ l = -1) {n : Nat} (hn : 7 ≤ n) : M_childOf n (nI row) (nI m) l cells = some (qoI (qfind (qkl lab par m l) 1 5)) := by
  have key : ∀ (d c n : Nat), c + d = 6 → 0 < c → d + 1 ≤ n → M_childOf_3 (nI row) (nI m) l cells n (nI c) = some (qoI (qfind (qkl lab par m l) c d)) := by
    intro d
    induction d with
    | zero =>
      intro c n e h0 hn
      obtain ⟨n, rfl⟩ : ∃ m, n = m + 1 := ⟨n - 1, by omega⟩
      have : c = 6 := by omega
      subst this
      rw [M_childOf_3, if_pos q_y6]; rfl
    | succ d ih =>
      intro c n e h0 hn
      obtain ⟨n, rfl⟩ : ∃ m, n = m + 1 := ⟨n - 1, by omega⟩
      have hc : c < 6 := by omega
      have z : ¬ c = 0 := by omega
      rw [M_childOf_3, if_neg (q_n6 hc), q_cell5 (by omega), Option.bind_some, h.1 c hc, nI_1]
      unfold qfind
      by_cases e : lab c = l
      · have a : ¬ lab c = -1 := fun w => hL (e.symm.trans w)
        have pl := (hl.2.2 c hc z a).1
        rw [if_pos e, q_cell6 (by omega), Option.bind_some, h.2.1 c hc]
        unfold qpM
        rw [if_neg z, if_neg a]
        by_cases k : par c = m
        · rw [if_pos (by rw [k]), if_pos (by unfold qkl qkid; rw [decide_eq_true ⟨z, a, k⟩, decide_eq_true e]; rfl)]; rfl
        · rw [if_neg (fun w => k ((nI_eq (by omega) (by omega)).mp w)), if_neg (by unfold qkl qkid; rw [decide_eq_false (fun w => k w.2.2)]; exact Bool.false_ne_true)]
          exact ih _ _ (by omega) (by omega) (by omega)
      · rw [if_neg e, if_neg (by unfold qkl; rw [decide_eq_false e, Bool.and_false]; decide)]
        exact ih _ _ (by omega) (by omega) (by omega)
  exact key 5 1 n (by omega) (by omega) (by omega)
def qfree (lab : Nat → Int32) (c : Nat) : Bool := decide (lab c = -1)
theorem q_least {lab : Nat → Int32} {par : Nat → Nat} {am : Nat → Nat → Nat} {cl cp : Nat → Int32} {ch : Nat → Int64} (hl : KL lab par) (h : KC lab par am cl cp ch) {n : Nat} (hn : 7 ≤ n) : K_leastFree n cl = some (qoI (qfind (qfree lab) 1 5)) := by
  have key : ∀ (d c n : Nat), c + d = 6 → d + 1 ≤ n → K_leastFree_2 cl n (nI c) = some (qoI (qfind (qfree lab) c d)) := by
    intro d
    induction d with
    | zero =>
      intro c n e hn
      obtain ⟨n, rfl⟩ : ∃ m, n = m + 1 := ⟨n - 1, by omega⟩
      have : c = 6 := by omega
      subst this
      rw [K_leastFree_2, if_pos q_y6]; rfl
    | succ d ih =>
      intro c n e hn
      obtain ⟨n, rfl⟩ : ∃ m, n = m + 1 := ⟨n - 1, by omega⟩
      have hc : c < 6 := by omega
      rw [K_leastFree_2, if_neg (q_n6 hc), nI_clamp (by omega), if_neg (q_in hc (by omega)), h.1 c hc, nI_1]
      unfold qfind
      by_cases e : lab c = -1
      · rw [if_pos e, if_pos (by unfold qfree; exact decide_eq_true e)]; rfl
      · rw [if_neg e, if_neg (by unfold qfree; rw [decide_eq_false e]; decide)]
        exact ih _ _ (by omega) (by omega)
  have e := key 6 0 n (by omega) (by omega)
  have e2 : qfind (qfree lab) 0 6 = qfind (qfree lab) 1 5 := by
    have : qfree lab 0 = false := by unfold qfree; exact decide_eq_false hl.1
    rw [qfind, this]; rfl
  rw [e2] at e
  exact e
theorem q_Mfree {lab : Nat → Int32} {par : Nat → Nat} {am : Nat → Nat → Nat} {cells : Nat → Int32} {row : Nat} (hl : KL lab par) (h : KM lab par am cells row) (hr : row < 82) {n : Nat} (hn : 7 ≤ n) : M_free n (nI row) cells = some (qoI (qfind (qfree lab) 1 5)) := by
  have key : ∀ (d c n : Nat), c + d = 6 → d + 1 ≤ n → M_free_2 (nI row) cells n (nI c) = some (qoI (qfind (qfree lab) c d)) := by
    intro d
    induction d with
    | zero =>
      intro c n e hn
      obtain ⟨n, rfl⟩ : ∃ m, n = m + 1 := ⟨n - 1, by omega⟩
      have : c = 6 := by omega
      subst this
      rw [M_free_2, if_pos q_y6]; rfl
    | succ d ih =>
      intro c n e hn
      obtain ⟨n, rfl⟩ : ∃ m, n = m + 1 := ⟨n - 1, by omega⟩
      have hc : c < 6 := by omega
      rw [M_free_2, if_neg (q_n6 hc), q_Mhas hl h hr hc, Option.bind_some, nI_1]
      unfold qfind
      by_cases e : lab c = -1
      · rw [decide_eq_false (fun z => z e), if_pos qb_f, if_pos (by unfold qfree; exact decide_eq_true e)]; rfl
      · rw [decide_eq_true e, if_neg (by decide), if_neg (by unfold qfree; rw [decide_eq_false e]; decide)]
        exact ih _ _ (by omega) (by omega)
  exact key 5 1 n (by omega) (by omega)

theorem qrs_mono {f g : Nat → Nat} : ∀ (d c : Nat), (∀ i, c ≤ i → i < c + d → f i ≤ g i) → qrs f c d ≤ qrs g c d := by
  intro d
  induction d with
  | zero => intro c _; exact Nat.le_refl _
  | succ d ih =>
    intro c h
    have a := h c (Nat.le_refl _) (by omega)
    have b := ih (c + 1) (fun i h1 h2 => h i (by omega) (by omega))
    show f c + qrs f (c + 1) d ≤ g c + qrs g (c + 1) d
    omega
theorem qrs_add {f g : Nat → Nat} : ∀ (d c : Nat), qrs (fun i => f i + g i) c d = qrs f c d + qrs g c d := by
  intro d
  induction d with
  | zero => intro c; rfl
  | succ d ih =>
    intro c
    show f c + g c + qrs (fun i => f i + g i) (c + 1) d = f c + qrs f (c + 1) d + (g c + qrs g (c + 1) d)
    rw [ih]; omega
theorem qrs_0 : ∀ (d c : Nat), qrs (fun _ => 0) c d = 0 := by
  intro d
  induction d with
  | zero => intro c; rfl
  | succ d ih =>
    intro c
    show 0 + qrs (fun _ => 0) (c + 1) d = 0
    rw [ih]
theorem qrs_swap {f : Nat → Nat → Nat} (c' d' : Nat) : ∀ (d c : Nat), qrs (fun i => qrs (fun j => f i j) c' d') c d = qrs (fun j => qrs (fun i => f i j) c d) c' d' := by
  intro d
  induction d with
  | zero => intro c; exact (qrs_0 d' c').symm
  | succ d ih =>
    intro c
    show qrs (fun j => f c j) c' d' + qrs (fun i => qrs (fun j => f i j) c' d') (c + 1) d = qrs (fun j => f c j + qrs (fun i => f i j) (c + 1) d) c' d'
    rw [ih, ← qrs_add]
theorem qrs_const (x : Nat) : ∀ (d c : Nat), qrs (fun _ => x) c d = x * d := by
  intro d
  induction d with
  | zero => intro c; rfl
  | succ d ih =>
    intro c
    show x + qrs (fun _ => x) (c + 1) d = x * (d + 1)
    rw [ih, Nat.mul_succ]; omega
theorem qrs_one {f : Nat → Nat} {x v : Nat} (hf : ∀ i, ¬ i = x → f i = 0) (hx : f x ≤ v) : ∀ (d c : Nat), qrs f c d ≤ v := by
  have z : ∀ (d c : Nat), x < c → qrs f c d = 0 := by
    intro d
    induction d with
    | zero => intro c _; rfl
    | succ d ih =>
      intro c h
      show f c + qrs f (c + 1) d = 0
      rw [hf c (by omega), ih (c + 1) (by omega)]
  intro d
  induction d with
  | zero => intro c; exact Nat.zero_le _
  | succ d ih =>
    intro c
    show f c + qrs f (c + 1) d ≤ v
    by_cases e : c = x
    · rw [z d (c + 1) (by omega), e]; exact hx
    · rw [hf c e, Nat.zero_add]; exact ih (c + 1)
theorem qrs_hit {x : Nat} : ∀ (d c : Nat), c ≤ x → x < c + d → 1 ≤ qrs (fun i => if i = x then 1 else 0) c d := by
  intro d
  induction d with
  | zero => intro c h1 h2; exact absurd h1 (by omega)
  | succ d ih =>
    intro c h1 h2
    show 1 ≤ (if c = x then 1 else 0) + qrs (fun i => if i = x then 1 else 0) (c + 1) d
    by_cases e : c = x
    · rw [if_pos e]; omega
    · rw [if_neg e, Nat.zero_add]; exact ih (c + 1) (by omega) (by omega)
theorem KT_5 {lab : Nat → Int32} {par : Nat → Nat} (hl : KL lab par) (h : KT lab par) : ∃ rk : Nat → Nat, (∀ m, m < 6 → rk m ≤ 5) ∧ ∀ m, m < 6 → ¬ m = 0 → ¬ lab m = -1 → rk (par m) < rk m := by
  obtain ⟨rk, hr⟩ := h
  refine ⟨fun m => qrs (fun c => if rk c < rk m then 1 else 0) 0 6, fun m hm => ?_, fun m hm h0 hp => ?_⟩
  · have a : qrs (fun c => (if rk c < rk m then 1 else 0) + (if c = m then 1 else 0)) 0 6 ≤ qrs (fun _ => 1) 0 6 := qrs_mono 6 0 fun i _ _ => by
      by_cases e : i = m
      · subst e; rw [if_neg (Nat.lt_irrefl _), if_pos rfl]; exact Nat.le_refl _
      · rw [if_neg e]; split <;> omega
    rw [qrs_add, qrs_const] at a
    have b := qrs_hit (x := m) 6 0 (by omega) (by omega)
    show qrs (fun c => if rk c < rk m then 1 else 0) 0 6 ≤ 5
    omega
  · have w := hr m hm h0 hp
    have pm := (hl.2.2 m hm h0 hp).1
    have a : qrs (fun c => (if rk c < rk (par m) then 1 else 0) + (if c = par m then 1 else 0)) 0 6 ≤ qrs (fun c => if rk c < rk m then 1 else 0) 0 6 := qrs_mono 6 0 fun i _ _ => by
      by_cases e : i = par m
      · rw [e, if_neg (Nat.lt_irrefl _), if_pos rfl, if_pos w]; exact Nat.le_refl _
      · rw [if_neg e]
        by_cases y : rk i < rk (par m)
        · rw [if_pos y, if_pos (Nat.lt_trans y w)]; exact Nat.le_refl _
        · rw [if_neg y]; exact Nat.zero_le _
    rw [qrs_add] at a
    have b := qrs_hit (x := par m) 6 0 (by omega) (by omega)
    show qrs (fun c => if rk c < rk (par m) then 1 else 0) 0 6 < qrs (fun c => if rk c < rk m then 1 else 0) 0 6
    omega
def qkds (a : Nat → Nat) : Nat → Nat → List Nat
  | _, 0 => []
  | k, d + 1 => List.replicate (a k) (97 + k) ++ qkds a (k + 1) d
def qinn (st : qC) (m : Nat) : List Nat := (48 + (st.1 m).toNatClampNeg) :: 40 :: qkds (st.2.2 m) 0 5
def qks (p : Nat → Bool) (f : Nat → List Nat) : Nat → Nat → List Nat
  | _, 0 => []
  | c, d + 1 => (if p c = true then f c else []) ++ qks p f (c + 1) d
def qtx (st : qC) : Nat → Nat → List Nat
  | 0 => fun _ => []
  | r + 1 => fun m => qinn st m ++ (qks (qkid st.1 st.2.1 m) (qtx st r) 0 6 ++ [41])
def qnv (st : qC) : Nat → Nat → Nat
  | 0 => fun _ => 0
  | r + 1 => fun m => 1 + qrs (fun k => if qkid st.1 st.2.1 m k = true then qnv st r k else 0) 0 6
def qan (st : qC) (x : Nat) : Nat → Nat → Nat
  | 0, c => if c = x then 1 else 0
  | r + 1, c => if c = x then 1 else if ¬ c = 0 ∧ ¬ st.1 c = -1 then qan st x r (st.2.1 c) else 0
theorem qan_le {st : qC} {x : Nat} : ∀ (r c : Nat), qan st x r c ≤ 1 := by
  intro r
  induction r with
  | zero =>
    intro c
    unfold qan
    split <;> omega
  | succ r ih =>
    intro c
    unfold qan
    split
    · exact Nat.le_refl _
    · split
      · exact ih _
      · exact Nat.zero_le _
theorem qan_rk {st : qC} (hl : KL st.1 st.2.1) {rk : Nat → Nat} (hr : ∀ m, m < 6 → ¬ m = 0 → ¬ st.1 m = -1 → rk (st.2.1 m) < rk m) {x : Nat} : ∀ (r c : Nat), c < 6 → 0 < qan st x r c → rk x ≤ rk c := by
  intro r
  induction r with
  | zero =>
    intro c hc h
    unfold qan at h
    by_cases e : c = x
    · rw [e]; exact Nat.le_refl _
    · rw [if_neg e] at h; exact absurd h (by omega)
  | succ r ih =>
    intro c hc h
    unfold qan at h
    by_cases e : c = x
    · rw [e]; exact Nat.le_refl _
    · rw [if_neg e] at h
      by_cases y : ¬ c = 0 ∧ ¬ st.1 c = -1
      · rw [if_pos y] at h
        have a := ih _ (hl.2.2 c hc y.1 y.2).1 h
        have b := hr c hc y.1 y.2
        omega
      · rw [if_neg y] at h; exact absurd h (by omega)
theorem qan_sum {st : qC} (hl : KL st.1 st.2.1) {rk : Nat → Nat} (hr : ∀ m, m < 6 → ¬ m = 0 → ¬ st.1 m = -1 → rk (st.2.1 m) < rk m) {x : Nat} (hx : x < 6) : ∀ (r c : Nat), c < 6 → (if c = x then 1 else 0) + qrs (fun k => if qkid st.1 st.2.1 x k = true then qan st k r c else 0) 0 6 ≤ qan st x (r + 1) c := by
  have kz : ∀ (r k : Nat), k < 6 → qkid st.1 st.2.1 x k = true → qan st k r x = 0 := by
    intro r k hk hq
    apply Classical.byContradiction
    intro z
    have a := qan_rk hl hr r x hx (Nat.pos_of_ne_zero z)
    unfold qkid at hq
    rw [decide_eq_true_iff] at hq
    have b := hr k hk hq.1 hq.2.1
    rw [hq.2.2] at b
    omega
  have sx : ∀ r, qrs (fun k => if qkid st.1 st.2.1 x k = true then qan st k r x else 0) 0 6 ≤ 0 := by
    intro r
    have a : qrs (fun k => if qkid st.1 st.2.1 x k = true then qan st k r x else 0) 0 6 ≤ qrs (fun _ => 0) 0 6 := qrs_mono 6 0 fun k _ hk => by
      by_cases q : qkid st.1 st.2.1 x k = true
      · rw [if_pos q, kz r k (by omega) q]; exact Nat.le_refl _
      · rw [if_neg q]; exact Nat.le_refl _
    rw [qrs_0] at a
    exact a
  intro r
  induction r with
  | zero =>
    intro c hc
    by_cases e : c = x
    · rw [if_pos e, e]
      have := sx 0
      have q1 : qan st x (0 + 1) x = 1 := if_pos rfl
      omega
    · rw [if_neg e, Nat.zero_add]
      refine qrs_one (x := c) (fun k hk => ?_) ?_ 6 0
      · have : qan st k 0 c = 0 := if_neg (fun w => hk w.symm)
        rw [this]; split <;> rfl
      · by_cases q : qkid st.1 st.2.1 x c = true
        · rw [if_pos q]
          unfold qkid at q
          rw [decide_eq_true_iff] at q
          have q1 : qan st x (0 + 1) c = qan st x 0 (st.2.1 c) := by
            show (if c = x then 1 else if ¬ c = 0 ∧ ¬ st.1 c = -1 then qan st x 0 (st.2.1 c) else 0) = _
            rw [if_neg e, if_pos ⟨q.1, q.2.1⟩]
          have q2 : qan st x 0 (st.2.1 c) = 1 := if_pos q.2.2
          rw [q1, q2]; exact qan_le _ _
        · rw [if_neg q]; exact Nat.zero_le _
  | succ r ih =>
    intro c hc
    by_cases e : c = x
    · rw [if_pos e, e]
      have := sx (r + 1)
      have q1 : qan st x (r + 1 + 1) x = 1 := if_pos rfl
      omega
    · rw [if_neg e, Nat.zero_add]
      have qe : ∀ k, ¬ k = c → qan st k (r + 1) c = if ¬ c = 0 ∧ ¬ st.1 c = -1 then qan st k r (st.2.1 c) else 0 := fun k hk => by
        show (if c = k then 1 else if ¬ c = 0 ∧ ¬ st.1 c = -1 then qan st k r (st.2.1 c) else 0) = _
        rw [if_neg (fun w => hk w.symm)]
      have qx : qan st x (r + 1 + 1) c = if ¬ c = 0 ∧ ¬ st.1 c = -1 then qan st x (r + 1) (st.2.1 c) else 0 := by
        show (if c = x then 1 else if ¬ c = 0 ∧ ¬ st.1 c = -1 then qan st x (r + 1) (st.2.1 c) else 0) = _
        rw [if_neg e]
      rw [qx]
      by_cases q : qkid st.1 st.2.1 x c = true
      · have q' := q
        unfold qkid at q'
        rw [decide_eq_true_iff] at q'
        rw [if_pos ⟨q'.1, q'.2.1⟩, q'.2.2]
        have q1 : qan st x (r + 1) x = 1 := if_pos rfl
        rw [q1]
        have a : qrs (fun k => if qkid st.1 st.2.1 x k = true then qan st k (r + 1) c else 0) 0 6 ≤ qrs (fun k => if k = c then 1 else 0) 0 6 := qrs_mono 6 0 fun k _ hk => by
          by_cases kc : k = c
          · rw [if_pos kc]
            split
            · exact qan_le _ _
            · exact Nat.zero_le _
          · rw [if_neg kc]
            by_cases qk : qkid st.1 st.2.1 x k = true
            · rw [if_pos qk, qe k kc, if_pos ⟨q'.1, q'.2.1⟩, q'.2.2, kz r k (by omega) qk]; exact Nat.le_refl _
            · rw [if_neg qk]; exact Nat.le_refl _
        exact Nat.le_trans a (qrs_one (x := c) (fun i hi => if_neg hi) (by rw [if_pos rfl]; exact Nat.le_refl _) 6 0)
      · by_cases y : ¬ c = 0 ∧ ¬ st.1 c = -1
        · rw [if_pos y]
          have i := ih (st.2.1 c) (hl.2.2 c hc y.1 y.2).1
          have a : qrs (fun k => if qkid st.1 st.2.1 x k = true then qan st k (r + 1) c else 0) 0 6 ≤ qrs (fun k => if qkid st.1 st.2.1 x k = true then qan st k r (st.2.1 c) else 0) 0 6 := qrs_mono 6 0 fun k _ hk => by
            by_cases qk : qkid st.1 st.2.1 x k = true
            · have kc : ¬ k = c := fun w => q (w ▸ qk)
              rw [if_pos qk, if_pos qk, qe k kc, if_pos y]; exact Nat.le_refl _
            · rw [if_neg qk, if_neg qk]; exact Nat.le_refl _
          omega
        · rw [if_neg y]
          have a : qrs (fun k => if qkid st.1 st.2.1 x k = true then qan st k (r + 1) c else 0) 0 6 ≤ qrs (fun _ => 0) 0 6 := qrs_mono 6 0 fun k _ hk => by
            by_cases qk : qkid st.1 st.2.1 x k = true
            · have kc : ¬ k = c := fun w => q (w ▸ qk)
              rw [if_pos qk, qe k kc, if_neg y]; exact Nat.le_refl _
            · rw [if_neg qk]; exact Nat.le_refl _
          rw [qrs_0] at a
          exact a
theorem qnv_le {st : qC} (hl : KL st.1 st.2.1) {rk : Nat → Nat} (hr : ∀ m, m < 6 → ¬ m = 0 → ¬ st.1 m = -1 → rk (st.2.1 m) < rk m) : ∀ (r x : Nat), x < 6 → qnv st r x ≤ qrs (fun c => qan st x r c) 0 6 := by
  intro r
  induction r with
  | zero => intro x _; exact Nat.zero_le _
  | succ r ih =>
    intro x hx
    have a : qrs (fun c => (if c = x then 1 else 0) + qrs (fun k => if qkid st.1 st.2.1 x k = true then qan st k r c else 0) 0 6) 0 6 ≤ qrs (fun c => qan st x (r + 1) c) 0 6 := qrs_mono 6 0 fun c _ hc => qan_sum hl hr hx r c (by omega)
    rw [qrs_add, ← qrs_swap (f := fun k c => if qkid st.1 st.2.1 x k = true then qan st k r c else 0) 0 6 6 0] at a
    have b := qrs_hit (x := x) 6 0 (by omega) (by omega)
    have c : qrs (fun k => if qkid st.1 st.2.1 x k = true then qnv st r k else 0) 0 6 ≤ qrs (fun k => qrs (fun c => if qkid st.1 st.2.1 x k = true then qan st k r c else 0) 0 6) 0 6 := qrs_mono 6 0 fun k _ hk => by
      by_cases q : qkid st.1 st.2.1 x k = true
      · rw [if_pos q]
        simp only [if_pos q]
        exact ih k (by omega)
      · rw [if_neg q]; exact Nat.zero_le _
    show 1 + qrs (fun k => if qkid st.1 st.2.1 x k = true then qnv st r k else 0) 0 6 ≤ _
    omega
theorem qnv_6 {st : qC} (hl : KL st.1 st.2.1) (ht : KT st.1 st.2.1) (r : Nat) : qnv st r 0 ≤ 6 := by
  obtain ⟨rk, hr⟩ := ht
  refine Nat.le_trans (qnv_le hl hr r 0 (by omega)) ?_
  have a : qrs (fun c => qan st 0 r c) 0 6 ≤ qrs (fun _ => 1) 0 6 := qrs_mono 6 0 fun c _ _ => qan_le _ _
  rw [qrs_const] at a
  exact a
theorem qkds_len {a : Nat → Nat} : ∀ (d k : Nat), k + d = 5 → (∀ j, j < 5 → a j ≤ 12) → (qkds a k d).length ≤ 12 * d := by
  intro d
  induction d with
  | zero => intro k _ _; exact Nat.le_refl _
  | succ d ih =>
    intro k e h
    have a1 := ih (k + 1) (by omega) h
    have a2 := h k (by omega)
    show (List.replicate (a k) (97 + k) ++ qkds a (k + 1) d).length ≤ 12 * (d + 1)
    rw [List.length_append, List.length_replicate]
    omega
theorem qks_len {p : Nat → Bool} {f : Nat → List Nat} {g : Nat → Nat} : ∀ (d c : Nat), (∀ i, c ≤ i → i < c + d → p i = true → (f i).length ≤ 63 * g i) → (qks p f c d).length ≤ 63 * qrs (fun i => if p i = true then g i else 0) c d := by
  intro d
  induction d with
  | zero => intro c _; exact Nat.le_refl _
  | succ d ih =>
    intro c h
    have a := ih (c + 1) (fun i h1 h2 => h i (by omega) (by omega))
    show ((if p c = true then f c else []) ++ qks p f (c + 1) d).length ≤ 63 * ((if p c = true then g c else 0) + qrs (fun i => if p i = true then g i else 0) (c + 1) d)
    rw [List.length_append]
    by_cases q : p c = true
    · have b := h c (Nat.le_refl _) (by omega) q
      rw [if_pos q, if_pos q]
      omega
    · rw [if_neg q, if_neg q, Nat.zero_add]
      show 0 + _ ≤ _
      omega
theorem qtx_len {st : qC} (hk : qok st.2.2) : ∀ (r m : Nat), m < 6 → (qtx st r m).length ≤ 63 * qnv st r m := by
  intro r
  induction r with
  | zero => intro m _; exact Nat.zero_le _
  | succ r ih =>
    intro m hm
    have a := qkds_len 5 0 (by omega) (hk.1 m hm)
    have b := qks_len (p := qkid st.1 st.2.1 m) (f := qtx st r) (g := qnv st r) 6 0 (fun i _ h2 _ => ih i (by omega))
    show (qinn st m ++ (qks (qkid st.1 st.2.1 m) (qtx st r) 0 6 ++ [41])).length ≤ 63 * (1 + qrs (fun k => if qkid st.1 st.2.1 m k = true then qnv st r k else 0) 0 6)
    rw [List.length_append, List.length_append]
    have c : (qinn st m).length = (qkds (st.2.2 m) 0 5).length + 2 := rfl
    have d : ([41] : List Nat).length = 1 := rfl
    omega
theorem qtx_378 {st : qC} (hI : KI st) : (qtx st 6 0).length ≤ 378 := by
  have a := qtx_len hI.2.2.1 6 0 (by omega)
  have b := qnv_6 hI.1 hI.2.1 6
  omega

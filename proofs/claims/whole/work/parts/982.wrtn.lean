def qlt (ii : Int32) : List Nat → Nat → Int32 → Int32
  | [], _, lt => lt
  | v :: T, len, lt => qlt ii T (len + 1) (if nI len = ii then nI v else lt)
theorem qlt_app {ii : Int32} : ∀ (A B : List Nat) (len : Nat) (lt : Int32), qlt ii (A ++ B) len lt = qlt ii B (len + A.length) (qlt ii A len lt) := by
  intro A
  induction A with
  | nil => intro B len lt; rfl
  | cons v A ih =>
    intro B len lt
    show qlt ii (A ++ B) (len + 1) (if nI len = ii then nI v else lt) = _
    rw [ih, List.length_cons, show len + 1 + A.length = len + (A.length + 1) by omega]
    rfl
theorem q_app (v len : Nat) (ii lt : Int32) (n : Nat) : M_append n (nI v) (nI len) ii lt = some (nI (len + 1), qlt ii [v] len lt) := by
  unfold M_append M_append_20 qlt qlt
  rw [nI_1]
  by_cases z : nI len = ii
  · rw [if_pos z, if_pos z]
  · rw [if_neg z, if_neg z]
theorem q_ap29 {st : qC} {cells : Nat → Int32} (h : KM st.1 st.2.1 st.2.2 cells 0) (hk : qok st.2.2) {m k : Nat} (hm : m < 6) (hk5 : k < 5) {ii : Int32} {k22 : Int32 → Int32 → Int32 → Option (Int32 × Int32)} : ∀ (d i n len : Nat) (lt : Int32), i + d = st.2.2 m k → d + 1 ≤ n → M_appendInner_29 (nI m) cells ii k22 n (nI k) (nI i) (nI len) lt = k22 (nI (k + 1)) (nI (len + d)) (qlt ii (List.replicate d (97 + k)) len lt) := by
  have a12 := hk.1 m hm k hk5
  have cl : ∀ n, M_cell n 0 (nI m) (nI k) cells = some (nI (st.2.2 m k)) := fun n => by
    have w := q_cell (row := 0) (m := m) (w := k) (cells := cells) (n := n) (by omega)
    rw [h.2.2 m (by omega) k hk5] at w
    exact w
  intro d
  induction d with
  | zero =>
    intro i n len lt e hn
    obtain ⟨n, rfl⟩ : ∃ m, n = m + 1 := ⟨n - 1, by omega⟩
    rw [M_appendInner_29, cl, Option.bind_some, if_pos (nI_le (by omega) (by omega)), nI_1]
    rfl
  | succ d ih =>
    intro i n len lt e hn
    obtain ⟨n, rfl⟩ : ∃ m, n = m + 1 := ⟨n - 1, by omega⟩
    have e1 : (97 : Int32) + nI k = nI (97 + k) := nI_add 97 k
    have rp : List.replicate (d + 1) (97 + k) = [97 + k] ++ List.replicate d (97 + k) := rfl
    rw [M_appendInner_29, cl, Option.bind_some, if_neg (nI_ge (by omega) (by omega)), e1, q_app, Option.bind_some, nI_1, ih (i + 1) n (len + 1) _ (by omega) (by omega), rp, qlt_app, show len + 1 + d = len + (d + 1) by omega]
    rfl
theorem q_ap22 {st : qC} {cells : Nat → Int32} (h : KM st.1 st.2.1 st.2.2 cells 0) (hk : qok st.2.2) {m : Nat} (hm : m < 6) {ii : Int32} {p : Nat} (hp : 20 ≤ p) : ∀ (d k len : Nat) (lt : Int32), k + d = 5 → M_appendInner_22 (nI m) cells ii (p + d + 1) (nI k) (nI len) lt = some (nI (len + (qkds (st.2.2 m) k d).length), qlt ii (qkds (st.2.2 m) k d) len lt) := by
  intro d
  induction d with
  | zero =>
    intro k len lt e
    have : k = 5 := by omega
    subst this
    rw [M_appendInner_22, if_pos q_y5]
    rfl
  | succ d ih =>
    intro k len lt e
    have hk5 : k < 5 := by omega
    have a12 := hk.1 m hm k hk5
    have qe : qkds (st.2.2 m) k (d + 1) = List.replicate (st.2.2 m k) (97 + k) ++ qkds (st.2.2 m) (k + 1) d := rfl
    have w := q_ap29 h hk hm hk5 (ii := ii) (k22 := M_appendInner_22 (nI m) cells ii (p + d + 1)) (st.2.2 m k) 0 (p + d + 1) len lt (by omega) (by omega)
    have w' : M_appendInner_29 (nI m) cells ii (M_appendInner_22 (nI m) cells ii (p + d + 1)) (p + d + 1) (nI k) 0 (nI len) lt = M_appendInner_22 (nI m) cells ii (p + d + 1) (nI (k + 1)) (nI (len + st.2.2 m k)) (qlt ii (List.replicate (st.2.2 m k) (97 + k)) len lt) := w
    show M_appendInner_22 (nI m) cells ii ((p + d + 1) + 1) (nI k) (nI len) lt = _
    rw [M_appendInner_22, if_neg (q_n5 hk5), w', ih (k + 1) _ _ (by omega), qe, qlt_app, List.length_append, List.length_replicate, Nat.add_assoc]
theorem q_apI {st : qC} {cells : Nat → Int32} (hl : KL st.1 st.2.1) (h : KM st.1 st.2.1 st.2.2 cells 0) (hk : qok st.2.2) {m : Nat} (hm : m < 6) (hpr : ¬ st.1 m = -1) (len : Nat) (ii lt : Int32) {n : Nat} (hn : 40 ≤ n) : M_appendInner n (nI m) cells (nI len) ii lt = some (nI (len + (qinn st m).length), qlt ii (qinn st m) len lt) := by
  obtain ⟨p, rfl⟩ : ∃ p, n = p + 5 + 1 := ⟨n - 6, by omega⟩
  obtain ⟨l, l4, el⟩ : ∃ l, l < 4 ∧ st.1 m = nI l := by
    rcases hl.2.1 m hm with w | w
    · exact absurd w hpr
    · exact w
  have ec : (st.1 m).toNatClampNeg = l := by rw [el, nI_clamp (by omega)]
  have e1 : (48 : Int32) + nI l = nI (48 + l) := nI_add 48 l
  have c5 : M_cell (p + 5 + 1) 0 (nI m) 5 cells = some (nI l) := by
    have w := q_cell5 (row := 0) (m := m) (cells := cells) (n := p + 5 + 1) (by omega)
    rw [h.1 m hm, el] at w
    exact w
  have a40 : ∀ (len : Nat) (lt : Int32), M_append (p + 5 + 1) 40 (nI len) ii lt = some (nI (len + 1), qlt ii [40] len lt) := fun len lt => q_app 40 len ii lt _
  have z := q_ap22 h hk hm (ii := ii) (p := p) (by omega) 5 0 (len + 1 + 1) (qlt ii [40] (len + 1) (qlt ii [48 + l] len lt)) (by omega)
  have z' : M_appendInner_22 (nI m) cells ii (p + 5 + 1) 0 (nI (len + 1 + 1)) (qlt ii [40] (len + 1) (qlt ii [48 + l] len lt)) = _ := z
  have qe : qinn st m = [48 + l] ++ ([40] ++ qkds (st.2.2 m) 0 5) := by unfold qinn; rw [ec]; rfl
  unfold M_appendInner
  rw [c5, Option.bind_some, e1, q_app, Option.bind_some, a40, Option.bind_some, z', qe, qlt_app, qlt_app, List.length_append, List.length_append]
  congr 2
  congr 1
  show len + 1 + 1 + (qkds (st.2.2 m) 0 5).length = len + (1 + (1 + (qkds (st.2.2 m) 0 5).length))
  omega
theorem q_next {st : qC} {cells : Nat → Int32} (hl : KL st.1 st.2.1) (h : KM st.1 st.2.1 st.2.2 cells 0) {x : Nat} (hx : x < 6) : ∀ (d c n : Nat), c + d = 6 → 0 < c → d + 1 ≤ n → M_nextChild_4 (nI x) cells n (nI c) = some (qoI (qfind (qkid st.1 st.2.1 x) c d)) := by
  intro d
  induction d with
  | zero =>
    intro c n e hc hn
    obtain ⟨n, rfl⟩ : ∃ m, n = m + 1 := ⟨n - 1, by omega⟩
    have : c = 6 := by omega
    subst this
    rw [M_nextChild_4, if_pos q_y6]
    rfl
  | succ d ih =>
    intro c n e hc hn
    obtain ⟨n, rfl⟩ : ∃ m, n = m + 1 := ⟨n - 1, by omega⟩
    have c6 : c < 6 := by omega
    have hs : M_has n 0 (nI c) cells = some (qb (decide (¬ st.1 c = -1))) := q_Mhas (row := 0) hl h (by omega) c6 n
    have cl : M_cell n 0 (nI c) 6 cells = some (qpM st.1 st.2.1 c) := by
      have w := q_cell6 (row := 0) (m := c) (cells := cells) (n := n) (by omega)
      rw [h.2.1 c c6] at w
      exact w
    have qe : qfind (qkid st.1 st.2.1 x) c (d + 1) = if qkid st.1 st.2.1 x c = true then some c else qfind (qkid st.1 st.2.1 x) (c + 1) d := rfl
    rw [M_nextChild_4, if_neg (q_n6 c6), hs, Option.bind_some, qe, nI_1]
    by_cases p : st.1 c = -1
    · have nk : ¬ qkid st.1 st.2.1 x c = true := by
        unfold qkid
        rw [decide_eq_true_iff]
        exact fun w => w.2.1 p
      rw [decide_eq_false (fun w => w p), if_pos qb_f, if_neg nk]
      exact ih (c + 1) n (by omega) (by omega) (by omega)
    · have iff := qpM_iff hl hx c6 (by omega) p
      rw [decide_eq_true p, if_neg qb_t, cl, Option.bind_some]
      by_cases q : qkid st.1 st.2.1 x c = true
      · rw [if_pos (iff.mpr q), if_pos q]
        rfl
      · rw [if_neg (fun w => q (iff.mp w)), if_neg q]
        exact ih (c + 1) n (by omega) (by omega) (by omega)
theorem qks_none {p : Nat → Bool} {f : Nat → List Nat} : ∀ (d c : Nat), qfind p c d = none → qks p f c d = [] := by
  intro d
  induction d with
  | zero => intro c _; rfl
  | succ d ih =>
    intro c h
    have qe : qfind p c (d + 1) = if p c = true then some c else qfind p (c + 1) d := rfl
    rw [qe] at h
    by_cases q : p c = true
    · rw [if_pos q] at h; cases h
    · rw [if_neg q] at h
      show (if p c = true then f c else []) ++ qks p f (c + 1) d = []
      rw [if_neg q, ih _ h]
      rfl
theorem qks_some {p : Nat → Bool} {f : Nat → List Nat} : ∀ (d c x : Nat), qfind p c d = some x → qks p f c d = f x ++ qks p f (x + 1) (c + d - (x + 1)) := by
  intro d
  induction d with
  | zero => intro c x h; cases h
  | succ d ih =>
    intro c x h
    have qe : qfind p c (d + 1) = if p c = true then some c else qfind p (c + 1) d := rfl
    rw [qe] at h
    show (if p c = true then f c else []) ++ qks p f (c + 1) d = _
    by_cases q : p c = true
    · rw [if_pos q] at h
      cases h
      rw [if_pos q, show c + (d + 1) - (c + 1) = d by omega]
    · rw [if_neg q] at h
      rw [if_neg q, ih _ _ h, show c + 1 + d - (x + 1) = c + (d + 1) - (x + 1) by omega]
      rfl
theorem qks_first {p : Nat → Bool} {f : Nat → List Nat} (h : p 0 = false) : qks p f 0 6 = qks p f 1 5 := by
  show (if p 0 = true then f 0 else []) ++ qks p f 1 5 = _
  rw [h, if_neg (by decide)]
  rfl
def qR1 (st : qC) (e x b : Nat) : List Nat := qks (qkid st.1 st.2.1 x) (qtx st e) (b + 1) (5 - b) ++ [41]
theorem q_w36 {st : qC} {cells : Nat → Int32} (hl : KL st.1 st.2.1) (h : KM st.1 st.2.1 st.2.2 cells 0) (hk : qok st.2.2) {rk : Nat → Nat} (r5 : ∀ m, m < 6 → rk m ≤ 5) (hr : ∀ m, m < 6 → ¬ m = 0 → ¬ st.1 m = -1 → rk (st.2.1 m) < rk m) (code ii : Int32) : ∀ (e t x : Nat), t + (e + 1) = 6 → x < 6 → t ≤ rk x → ∀ (d b : Nat), b + d = 5 → ∃ K, ∀ (n len : Nat) (lt : Int32) (op : Nat → Int32), 50 ≤ n → op t = nI x → ∃ op', M_written_36 cells (n + K) (nI t) (nI b) code (nI len) ii lt op = M_written_36 cells n (nI t + (-1 : Int32)) (nI x) code (nI (len + (qR1 st e x b).length)) ii (qlt ii (qR1 st e x b) len lt) op' ∧ ∀ j, j ≤ t → op' j = op j := by
  intro e
  induction e with
  | zero =>
    intro t x te hx htr d b hb
    have nk : ∀ c, c < 6 → ¬ qkid st.1 st.2.1 x c = true := fun c hc q => by
      unfold qkid at q
      rw [decide_eq_true_iff] at q
      have a := hr c hc q.1 q.2.1
      rw [q.2.2] at a
      have b := r5 c hc
      omega
    have nf : qfind (qkid st.1 st.2.1 x) (b + 1) d = none := by
      cases q : qfind (qkid st.1 st.2.1 x) (b + 1) d with
      | none => rfl
      | some c =>
        obtain ⟨q1, q2, q3, _⟩ := qfind_some _ _ q
        exact absurd q1 (nk c (by omega))
    have rr : qR1 st 0 x b = [41] := by
      unfold qR1
      rw [show 5 - b = d by omega, qks_none _ _ nf]
      rfl
    refine ⟨1, fun n len lt op hn ho => ⟨op, ?_, fun _ _ => rfl⟩⟩
    have nx : M_nextChild n (nI x) (nI b) cells = some (-1) := by
      unfold M_nextChild
      rw [nI_1, q_next hl h hx d (b + 1) n (by omega) (by omega) (by omega), nf]
      rfl
    have a41 : M_append n 41 (nI len) ii lt = some (nI (len + 1), qlt ii [41] len lt) := q_app 41 len ii lt n
    rw [M_written_36, if_neg (nI_pos (by omega)), nI_clamp (by omega), if_neg (q_in (by omega) (by omega)), ho, nx, Option.bind_some, if_pos (by decide), a41, Option.bind_some, if_neg (q_in (by omega) (by omega)), rr]
    rfl
  | succ e ih =>
    intro t x te hx htr d
    induction d using Nat.strongRecOn with
    | _ d ihd =>
      intro b hb
      cases q : qfind (qkid st.1 st.2.1 x) (b + 1) d with
      | none =>
        have rr : qR1 st (e + 1) x b = [41] := by
          unfold qR1
          rw [show 5 - b = d by omega, qks_none _ _ q]
          rfl
        refine ⟨1, fun n len lt op hn ho => ⟨op, ?_, fun _ _ => rfl⟩⟩
        have nx : M_nextChild n (nI x) (nI b) cells = some (-1) := by
          unfold M_nextChild
          rw [nI_1, q_next hl h hx d (b + 1) n (by omega) (by omega) (by omega), q]
          rfl
        have a41 : M_append n 41 (nI len) ii lt = some (nI (len + 1), qlt ii [41] len lt) := q_app 41 len ii lt n
        rw [M_written_36, if_neg (nI_pos (by omega)), nI_clamp (by omega), if_neg (q_in (by omega) (by omega)), ho, nx, Option.bind_some, if_pos (by decide), a41, Option.bind_some, if_neg (q_in (by omega) (by omega)), rr]
        rfl
      | some c =>
        obtain ⟨q1, q2, q3, _⟩ := qfind_some _ _ q
        have c6 : c < 6 := by omega
        have q' := q1
        unfold qkid at q'
        rw [decide_eq_true_iff] at q'
        have rc := hr c c6 q'.1 q'.2.1
        rw [q'.2.2] at rc
        have rr : qR1 st (e + 1) x b = qinn st c ++ (qR1 st e c 0 ++ qR1 st (e + 1) x c) := by
          unfold qR1
          rw [show 5 - b = d by omega, qks_some _ _ _ q, show b + 1 + d - (c + 1) = 5 - c by omega]
          have tx : qtx st (e + 1) c = qinn st c ++ (qks (qkid st.1 st.2.1 c) (qtx st e) 0 6 ++ [41]) := rfl
          have k0 : qkid st.1 st.2.1 c 0 = false := by
            unfold qkid
            exact decide_eq_false (fun w => w.1 rfl)
          rw [tx, qks_first k0, List.append_assoc, List.append_assoc, List.append_assoc]
        obtain ⟨K1, h1⟩ := ih (t + 1) c (by omega) c6 (by omega) 5 0 (by omega)
        obtain ⟨K2, h2⟩ := ihd (5 - c) (by omega) c (by omega)
        refine ⟨K2 + K1 + 1, fun n len lt op hn ho => ?_⟩
        have nx : M_nextChild (n + K2 + K1) (nI x) (nI b) cells = some (nI c) := by
          unfold M_nextChild
          rw [nI_1, q_next hl h hx d (b + 1) (n + K2 + K1) (by omega) (by omega) (by omega), q]
          rfl
        have ap := q_apI hl h hk c6 q'.2.1 len ii lt (n := n + K2 + K1) (by omega)
        obtain ⟨op1, f1, f2⟩ := h1 (n + K2) (len + (qinn st c).length) (qlt ii (qinn st c) len lt) (eUp op (t + 1) (nI c)) (by omega) (q_up ..)
        have ot : op1 t = nI x := by rw [f2 t (by omega), q_un (by omega)]; exact ho
        obtain ⟨op2, g1, g2⟩ := h2 n (len + (qinn st c).length + (qR1 st e c 0).length) (qlt ii (qR1 st e c 0) (len + (qinn st c).length) (qlt ii (qinn st c) len lt)) op1 hn ot
        refine ⟨op2, ?_, fun j hj => ?_⟩
        · have f1' : M_written_36 cells (n + K2 + K1) (nI (t + 1)) 0 code (nI (len + (qinn st c).length)) ii (qlt ii (qinn st c) len lt) (eUp op (t + 1) (nI c)) = _ := f1
          rw [show n + (K2 + K1 + 1) = n + K2 + K1 + 1 by omega]
          rw [M_written_36, if_neg (nI_pos (by omega)), nI_clamp (by omega), if_neg (q_in (by omega) (by omega)), ho, nx, Option.bind_some, if_neg (nI_pos (by omega)), nI_1, nI_clamp (by omega), if_neg (q_in (by omega) (by omega)), ap, Option.bind_some, f1', nI_dn, g1, rr, qlt_app, qlt_app, List.length_append, List.length_append]
          rw [show len + (qinn st c).length + (qR1 st e c 0).length + (qR1 st (e + 1) x c).length = len + ((qinn st c).length + ((qR1 st e c 0).length + (qR1 st (e + 1) x c).length)) by omega]
        · rw [g2 j hj, f2 j (by omega), q_un (by omega)]
theorem qlt_big {ii : Int32} : ∀ (T : List Nat) (len : Nat) (lt : Int32), (∀ j, j < T.length → ¬ nI (len + j) = ii) → qlt ii T len lt = lt := by
  intro T
  induction T with
  | nil => intro len lt _; rfl
  | cons v T ih =>
    intro len lt h
    show qlt ii T (len + 1) (if nI len = ii then nI v else lt) = lt
    have h0 : ¬ nI len = ii := h 0 (Nat.succ_pos _)
    rw [if_neg h0, ih (len + 1) lt (fun j hj => by
      have w := h (j + 1) (Nat.succ_lt_succ hj)
      rw [show len + (j + 1) = len + 1 + j by omega] at w
      exact w)]
theorem qlt_hit {ii : Int32} : ∀ (T : List Nat) (len j v : Nat) (lt : Int32), len + T.length < 2 ^ 31 → ii = nI (len + j) → T[j]? = some v → qlt ii T len lt = nI v := by
  intro T
  induction T with
  | nil => intro len j v lt _ _ h; cases h
  | cons w T ih =>
    intro len j v lt hb he h
    rw [List.length_cons] at hb
    show qlt ii T (len + 1) (if nI len = ii then nI w else lt) = nI v
    cases j with
    | zero =>
      cases h
      rw [if_pos (by rw [he]; rfl)]
      refine qlt_big T _ _ (fun j hj z => ?_)
      rw [he] at z
      have := (nI_eq (by omega) (by omega)).mp z
      omega
    | succ j =>
      exact ih (len + 1) j v _ (by omega) (by rw [he, show len + (j + 1) = len + 1 + j by omega]) h
theorem qat_lt {T : List Nat} (hT : T.length < 2 ^ 31) (ii : Int32) : qlt ii T 0 (-1) = qat T ii := by
  unfold qat
  by_cases z : ii < 0
  · rw [if_pos z]
    refine qlt_big T 0 _ (fun j hj w => ?_)
    rw [← w, Nat.zero_add] at z
    exact nI_pos (by omega) z
  · rw [if_neg z]
    have ei := nI_self z
    have lt := clamp_lt31 ii
    cases g : T[ii.toNatClampNeg]? with
    | some v => exact qlt_hit T 0 _ v _ (by omega) (by rw [Nat.zero_add]; exact ei) g
    | none =>
      have ge : T.length ≤ ii.toNatClampNeg := List.getElem?_eq_none_iff.mp g
      refine qlt_big T 0 _ (fun j hj w => ?_)
      rw [Nat.zero_add] at w
      rw [← w, nI_clamp (by omega)] at ge
      omega
theorem q_writtenM {st : qC} {cells : Nat → Int32} (hI : KI st) (h : KM st.1 st.2.1 st.2.2 cells 0) (ii : Int32) : ∃ K, ∀ n, K ≤ n → ∀ op : Nat → Int32, ∃ len wt lt op', M_written n ii cells op = some (qat (qtx st 6 0) ii, 0, len, wt, lt, op') := by
  have L := qtx_378 hI
  obtain ⟨hl, ht, hk, ha⟩ := hI
  obtain ⟨rk, r5, hr⟩ := KT_5 hl ht
  obtain ⟨K, hK⟩ := q_w36 hl h hk r5 hr 0 ii 5 0 0 (by omega) (by omega) (Nat.zero_le _) 5 0 (by omega)
  refine ⟨K + 60, fun n hn op => ?_⟩
  obtain ⟨p, rfl⟩ : ∃ p, n = p + 1 + K := ⟨n - K - 1, by omega⟩
  have ap : M_appendInner (p + 1 + K) 0 cells 0 ii (-1) = some (nI (0 + (qinn st 0).length), qlt ii (qinn st 0) 0 (-1)) := q_apI hl h hk (m := 0) (by omega) hl.1 0 ii (-1) (n := p + 1 + K) (by omega)
  obtain ⟨op', f1, f2⟩ := hK (p + 1) (0 + (qinn st 0).length) (qlt ii (qinn st 0) 0 (-1)) (eUp op 0 0) (by omega) (q_up ..)
  have f1' : M_written_36 cells (p + 1 + K) 0 0 0 (nI (0 + (qinn st 0).length)) ii (qlt ii (qinn st 0) 0 (-1)) (eUp op 0 0) = M_written_36 cells (p + 1) (nI 0 + (-1 : Int32)) (nI 0) 0 (nI (0 + (qinn st 0).length + (qR1 st 5 0 0).length)) ii (qlt ii (qR1 st 5 0 0) (0 + (qinn st 0).length) (qlt ii (qinn st 0) 0 (-1))) op' := f1
  have tx : qtx st 6 0 = qinn st 0 ++ qR1 st 5 0 0 := by
    have k0 : qkid st.1 st.2.1 0 0 = false := by
      unfold qkid
      exact decide_eq_false (fun w => w.1 rfl)
    show qinn st 0 ++ (qks (qkid st.1 st.2.1 0) (qtx st 5) 0 6 ++ [41]) = _
    rw [qks_first k0]
    rfl
  have z0 : (0 : Int32).toNatClampNeg = 0 := by decide
  unfold M_written
  rw [if_neg (by decide), ap, Option.bind_some, z0, f1', M_written_36, if_pos (by decide)]
  have e := qat_lt (T := qtx st 6 0) (by omega) ii
  rw [tx, qlt_app] at e
  rw [tx, ← e]
  exact ⟨_, _, _, _, rfl⟩

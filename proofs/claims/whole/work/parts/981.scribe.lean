theorem clamp_lt31 (x : Int32) : x.toNatClampNeg < 2 ^ 31 := by
  have h := Int32.toInt_lt x
  have e : x.toNatClampNeg = x.toInt.toNat := rfl
  omega
theorem nI_self {x : Int32} (h : ¬ x < 0) : x = nI x.toNatClampNeg := by
  rw [Int32.lt_iff_toInt_lt, Int32.toInt_zero] at h
  have e : x.toNatClampNeg = x.toInt.toNat := rfl
  apply Int32.toInt_inj.mp
  rw [nI_toInt (clamp_lt31 x), e]
  omega
def QW (row row' : Nat → Int32) (len : Nat) (T : List Nat) : Prop := (∀ j, j < len → row' j = row j) ∧ ∀ j v, T[j]? = some v → row' (len + j) = nI v
theorem QW.nil {row : Nat → Int32} {len : Nat} : QW row row len [] := ⟨fun _ _ => rfl, fun j v h => by cases h⟩
theorem QW.app {row row1 row2 : Nat → Int32} {len : Nat} {T1 T2 : List Nat} (h1 : QW row row1 len T1) (h2 : QW row1 row2 (len + T1.length) T2) : QW row row2 len (T1 ++ T2) := by
  refine ⟨fun j hj => (h2.1 j (by omega)).trans (h1.1 j hj), fun j v hv => ?_⟩
  by_cases il : j < T1.length
  · rw [List.getElem?_append_left il] at hv
    rw [h2.1 (len + j) (by omega)]
    exact h1.2 j v hv
  · rw [List.getElem?_append_right (by omega)] at hv
    have w := h2.2 (j - T1.length) v hv
    rw [show len + T1.length + (j - T1.length) = len + j by omega] at w
    exact w
theorem q_chr {v : Nat} (h : v < 128) : ((nI v).toUInt32 % 65536).toInt32 = nI v ∧ vp_nar .char (nI v) = nI v := by
  have a : qallb 128 (fun w => decide (((nI w).toUInt32 % 65536).toInt32 = nI w ∧ vp_nar .char (nI w) = nI w)) = true := by decide +kernel
  exact decide_eq_true_iff.mp (qallb_iff.mp a v h)
theorem q_scAdd {v len : Nat} (hv : v < 128) (hl : len < 378) (row : Nat → Int32) (n : Nat) : ∃ row', Sc_add n (nI v) (nI len) row = some (nI (len + 1), row') ∧ QW row row' len [v] := by
  refine ⟨eUp row len (nI v), ?_, fun j hj => q_un (by omega), fun j x hx => ?_⟩
  · have g : ¬ (378 : Int32) ≤ nI len := nI_ge (b := 378) hl (by decide)
    unfold Sc_add
    rw [if_neg g, nI_clamp (by omega), if_neg (q_in hl (by omega)), nI_1, (q_chr hv).2]
  · cases j with
    | zero =>
      cases hx
      exact q_up ..
    | succ j => cases hx
theorem q_sc52 {self : Int32 → Int32 → Int32 → (Nat → Int32) → (Nat → Int32) → (Nat → Int32) → (Nat → Int64) → Option (Int32 × (Nat → Int32))} {k30 : Int32 → Int32 → (Nat → Int32) → Option (Int32 × (Nat → Int32))} {k a : Nat} (hk : k < 5) (ha : a ≤ 12) : ∀ (d i n len : Nat) (row : Nat → Int32), i + d = a → d + 1 ≤ n → len + d ≤ 378 → ∃ row', Sc_writeMembrane_52 self k30 n (nI k) (nI a) (nI i) (nI len) row = k30 (nI (k + 1)) (nI (len + d)) row' ∧ QW row row' len (List.replicate d (97 + k)) := by
  intro d
  induction d with
  | zero =>
    intro i n len row e hn hl
    obtain ⟨n, rfl⟩ : ∃ m, n = m + 1 := ⟨n - 1, by omega⟩
    exact ⟨row, by rw [Sc_writeMembrane_52, if_pos (nI_le (by omega) (by omega)), nI_1]; rfl, QW.nil⟩
  | succ d ih =>
    intro i n len row e hn hl
    obtain ⟨n, rfl⟩ : ∃ m, n = m + 1 := ⟨n - 1, by omega⟩
    have e1 : (97 : Int32) + nI k = nI (97 + k) := nI_add 97 k
    obtain ⟨r1, f1, f2⟩ := q_scAdd (v := 97 + k) (len := len) (by omega) (by omega) row n
    obtain ⟨r2, g1, g2⟩ := ih (i + 1) n (len + 1) r1 (by omega) (by omega) (by omega)
    refine ⟨r2, ?_, ?_⟩
    · rw [Sc_writeMembrane_52, if_neg (nI_ge (by omega) (by omega)), e1, (q_chr (v := 97 + k) (by omega)).1, f1, Option.bind_some, nI_1, g1, show len + 1 + d = len + (d + 1) by omega]
    · have : List.replicate (d + 1) (97 + k) = [97 + k] ++ List.replicate d (97 + k) := rfl
      rw [this]
      exact f2.app g2
theorem q_sc30 {st : qC} {cl cp : Nat → Int32} {ch : Nat → Int64} (h : KC st.1 st.2.1 st.2.2 cl cp ch) (hk : qok st.2.2) {m dp : Nat} (hm : m < 6) {self : Int32 → Int32 → Int32 → (Nat → Int32) → (Nat → Int32) → (Nat → Int32) → (Nat → Int64) → Option (Int32 × (Nat → Int32))} {p : Nat} (hp : 20 ≤ p) : ∀ (d k len : Nat) (row : Nat → Int32), k + d = 5 → len + (qkds (st.2.2 m) k d).length ≤ 378 → ∃ row', Sc_writeMembrane_30 (nI m) (nI dp) cl cp ch self (p + d + 1) (nI k) (nI len) row = Sc_writeMembrane_84 (nI m) (nI dp) cl cp ch self p (nI 0) (nI (len + (qkds (st.2.2 m) k d).length)) row' ∧ QW row row' len (qkds (st.2.2 m) k d) := by
  intro d
  induction d with
  | zero =>
    intro k len row e hl
    have : k = 5 := by omega
    subst this
    exact ⟨row, by rw [Sc_writeMembrane_30, if_pos q_y5]; rfl, QW.nil⟩
  | succ d ih =>
    intro k len row e hl
    have hk5 : k < 5 := by omega
    have a12 := hk.1 m hm k hk5
    have qe : qkds (st.2.2 m) k (d + 1) = List.replicate (st.2.2 m k) (97 + k) ++ qkds (st.2.2 m) (k + 1) d := rfl
    rw [qe, List.length_append, List.length_replicate] at hl ⊢
    obtain ⟨r1, f1, f2⟩ := q_sc52 (self := self) (k30 := Sc_writeMembrane_30 (nI m) (nI dp) cl cp ch self (p + d + 1)) hk5 a12 (st.2.2 m k) 0 (p + d + 1) len row (by omega) (by omega) (by omega)
    obtain ⟨r2, g1, g2⟩ := ih (k + 1) (len + st.2.2 m k) r1 (by omega) (by omega)
    refine ⟨r2, ?_, ?_⟩
    · show Sc_writeMembrane_30 (nI m) (nI dp) cl cp ch self ((p + d + 1) + 1) (nI k) (nI len) row = _
      rw [Sc_writeMembrane_30, if_neg (q_n5 hk5), nI_clamp (by omega), if_neg (q_in (by omega) (by omega)), h.2.2 m (by omega), q_count (fun j hj => by have := hk.1 m hm j hj; omega) hk5, Option.bind_some]
      refine f1.trans (g1.trans ?_)
      rw [Nat.add_assoc]
    · refine f2.app ?_
      rw [List.length_replicate]
      exact g2
theorem q_sc84 {st : qC} {cl cp : Nat → Int32} {ch : Nat → Int64} (hl : KL st.1 st.2.1) (h : KC st.1 st.2.1 st.2.2 cl cp ch) {m dp : Nat} (hm : m < 6) {self : Int32 → Int32 → Int32 → (Nat → Int32) → (Nat → Int32) → (Nat → Int32) → (Nat → Int64) → Option (Int32 × (Nat → Int32))} {f : Nat → List Nat} (hs : ∀ c, c < 6 → qkid st.1 st.2.1 m c = true → ∀ (len : Nat) (row : Nat → Int32), len + (f c).length ≤ 378 → ∃ row', self (nI c) (nI (dp + 1)) (nI len) row cl cp ch = some (nI (len + (f c).length), row') ∧ QW row row' len (f c)) : ∀ (d c n len : Nat) (row : Nat → Int32), c + d = 6 → d + 1 ≤ n → len + (qks (qkid st.1 st.2.1 m) f c d).length + 1 ≤ 378 → ∃ row', Sc_writeMembrane_84 (nI m) (nI dp) cl cp ch self n (nI c) (nI len) row = some (nI (len + (qks (qkid st.1 st.2.1 m) f c d ++ [41]).length), row') ∧ QW row row' len (qks (qkid st.1 st.2.1 m) f c d ++ [41]) := by
  intro d
  induction d with
  | zero =>
    intro c n len row e hn hL
    obtain ⟨n, rfl⟩ : ∃ m, n = m + 1 := ⟨n - 1, by omega⟩
    have : c = 6 := by omega
    subst this
    obtain ⟨r1, f1, f2⟩ := q_scAdd (v := 41) (len := len) (by omega) (by omega) row n
    have f1' : Sc_add n 41 (nI len) row = some (nI (len + 1), r1) := f1
    exact ⟨r1, by rw [Sc_writeMembrane_84, if_pos q_y6, f1', Option.bind_some]; rfl, f2⟩
  | succ d ih =>
    intro c n len row e hn hL
    obtain ⟨n, rfl⟩ : ∃ m, n = m + 1 := ⟨n - 1, by omega⟩
    have hc : c < 6 := by omega
    have qe : qks (qkid st.1 st.2.1 m) f c (d + 1) = (if qkid st.1 st.2.1 m c = true then f c else []) ++ qks (qkid st.1 st.2.1 m) f (c + 1) d := rfl
    rw [qe] at hL ⊢
    have d1 : nI dp + (1 : Int32) = nI (dp + 1) := nI_1 dp
    rw [Sc_writeMembrane_84, if_neg (q_n6 hc), nI_clamp (by omega), if_neg (q_in hc (by omega)), h.2.1 c hc, d1, nI_1 c]
    by_cases q : qkid st.1 st.2.1 m c = true
    · rw [if_pos q] at hL ⊢
      rw [List.length_append] at hL
      obtain ⟨r1, f1, f2⟩ := hs c hc q len row (by omega)
      obtain ⟨r2, g1, g2⟩ := ih (c + 1) n (len + (f c).length) r1 (by omega) (by omega) (by omega)
      refine ⟨r2, ?_, ?_⟩
      · rw [if_pos ((qpC_iff hl hm hc).mpr q), f1, Option.bind_some, g1, List.append_assoc, List.length_append (as := f c), ← Nat.add_assoc]
      · rw [List.append_assoc]
        exact f2.app g2
    · rw [if_neg q] at hL ⊢
      rw [if_neg (fun z => q ((qpC_iff hl hm hc).mp z))]
      exact ih (c + 1) n len row (by omega) (by omega) hL
theorem q_scW {st : qC} {cl cp : Nat → Int32} {ch : Nat → Int64} (hl : KL st.1 st.2.1) (h : KC st.1 st.2.1 st.2.2 cl cp ch) (hk : qok st.2.2) {n : Nat} (hn : 60 ≤ n) : ∀ (e dp r m len : Nat) (row : Nat → Int32), dp + e = 6 → e + 1 ≤ r → m < 6 → ¬ st.1 m = -1 → len + (qtx st e m).length ≤ 378 → ∃ row', Sc_writeMembrane n r (nI m) (nI dp) (nI len) row cl cp ch = some (nI (len + (qtx st e m).length), row') ∧ QW row row' len (qtx st e m) := by
  intro e
  induction e with
  | zero =>
    intro dp r m len row ed hr hm hp hL
    obtain ⟨r, rfl⟩ : ∃ q, r = q + 1 := ⟨r - 1, by omega⟩
    have : dp = 6 := by omega
    subst this
    have g : ¬ nI 6 < (6 : Int32) := by decide
    exact ⟨row, by rw [Sc_writeMembrane, if_neg g]; rfl, QW.nil⟩
  | succ e ih =>
    intro dp r m len row ed hr hm hp hL
    obtain ⟨r, rfl⟩ : ∃ q, r = q + 1 := ⟨r - 1, by omega⟩
    obtain ⟨p, rfl⟩ : ∃ p, n = p + 5 + 1 := ⟨n - 6, by omega⟩
    have g : nI dp < (6 : Int32) := (nI_ltI (b := 6) (by omega) (by decide)).mpr (by omega)
    obtain ⟨l, l4, el⟩ : ∃ l, l < 4 ∧ st.1 m = nI l := by
      rcases hl.2.1 m hm with w | w
      · exact absurd w hp
      · exact w
    have ec : (st.1 m).toNatClampNeg = l := by rw [el, nI_clamp (by omega)]
    have qe : qtx st (e + 1) m = (48 + l) :: 40 :: (qkds (st.2.2 m) 0 5 ++ (qks (qkid st.1 st.2.1 m) (qtx st e) 0 6 ++ [41])) := by
      show qinn st m ++ (qks (qkid st.1 st.2.1 m) (qtx st e) 0 6 ++ [41]) = _
      unfold qinn
      rw [ec]; rfl
    have le : (qtx st (e + 1) m).length = 2 + ((qkds (st.2.2 m) 0 5).length + (qks (qkid st.1 st.2.1 m) (qtx st e) 0 6 ++ [41]).length) := by
      rw [qe, List.length_cons, List.length_cons, List.length_append]; omega
    rw [le] at hL
    rw [List.length_append] at hL
    have one : ([41] : List Nat).length = 1 := rfl
    have e1 : (48 : Int32) + nI l = nI (48 + l) := nI_add 48 l
    obtain ⟨r1, f1, f2⟩ := q_scAdd (v := 48 + l) (len := len) (by omega) (by omega) row (p + 5 + 1)
    obtain ⟨r2, g1, g2⟩ := q_scAdd (v := 40) (len := len + 1) (by omega) (by omega) r1 (p + 5 + 1)
    have g1' : Sc_add (p + 5 + 1) 40 (nI (len + 1)) r1 = some (nI (len + 1 + 1), r2) := g1
    obtain ⟨r3, x1, x2⟩ := q_sc30 h hk (dp := dp) hm (self := Sc_writeMembrane (p + 5 + 1) r) (p := p) (by omega) 5 0 (len + 1 + 1) r2 (by omega) (by omega)
    have x1' : Sc_writeMembrane_30 (nI m) (nI dp) cl cp ch (Sc_writeMembrane (p + 5 + 1) r) (p + 5 + 1) 0 (nI (len + 1 + 1)) r2 = Sc_writeMembrane_84 (nI m) (nI dp) cl cp ch (Sc_writeMembrane (p + 5 + 1) r) p (nI 0) (nI (len + 1 + 1 + (qkds (st.2.2 m) 0 5).length)) r3 := x1
    obtain ⟨r4, y1, y2⟩ := q_sc84 hl h (dp := dp) hm (self := Sc_writeMembrane (p + 5 + 1) r) (f := qtx st e) (fun c hc q len row hh => by
      have q' := q
      unfold qkid at q'
      rw [decide_eq_true_iff] at q'
      exact ih (dp + 1) r c len row (by omega) (by omega) hc q'.2.1 hh) 6 0 p (len + 1 + 1 + (qkds (st.2.2 m) 0 5).length) r3 (by omega) (by omega) (by omega)
    refine ⟨r4, ?_, ?_⟩
    · rw [Sc_writeMembrane, if_pos g, nI_clamp (by omega), if_neg (q_in hm (by omega)), h.1 m hm, el, e1, (q_chr (v := 48 + l) (by omega)).1, f1, Option.bind_some, g1', Option.bind_some, x1', y1, le]
      congr 3
      omega
    · rw [qe]
      have z1 : QW row r4 len ([48 + l] ++ ([40] ++ (qkds (st.2.2 m) 0 5 ++ (qks (qkid st.1 st.2.1 m) (qtx st e) 0 6 ++ [41])))) := f2.app (g2.app (x2.app y2))
      exact z1
def qat (T : List Nat) (ii : Int32) : Int32 := if ii < 0 then -1 else match T[ii.toNatClampNeg]? with
  | none => -1
  | some v => nI v
theorem q_charC {st : qC} {cl cp : Nat → Int32} {ch : Nat → Int64} (hI : KI st) (h : KC st.1 st.2.1 st.2.2 cl cp ch) (ii : Int32) (row : Nat → Int32) {n : Nat} (hn : 60 ≤ n) : ∃ len row', Sc_character n ii row cl cp ch = some (qat (qtx st 6 0) ii, len, row') := by
  obtain ⟨hl, ht, hk, ha⟩ := hI
  have L := qtx_378 (st := st) ⟨hl, ht, hk, ha⟩
  obtain ⟨r1, f1, f2⟩ := q_scW hl h hk hn 6 0 8 0 0 row (by omega) (by omega) (by omega) hl.1 (by omega)
  have f1' : Sc_writeMembrane n 8 0 0 0 row cl cp ch = some (nI (0 + (qtx st 6 0).length), r1) := f1
  unfold Sc_character qat
  rw [f1', Option.bind_some, Nat.zero_add]
  by_cases z : ii < 0
  · rw [if_pos z, if_pos z]
    exact ⟨_, _, rfl⟩
  · rw [if_neg z, if_neg z]
    have ei : ii = nI ii.toNatClampNeg := nI_self z
    have lt := clamp_lt31 ii
    rw [ei, nI_clamp lt]
    by_cases y : (qtx st 6 0).length ≤ ii.toNatClampNeg
    · rw [if_pos (nI_le y lt), List.getElem?_eq_none y]
      exact ⟨_, _, rfl⟩
    · have il : ii.toNatClampNeg < (qtx st 6 0).length := by omega
      have gv := List.getElem?_eq_getElem il
      have w := f2.2 _ _ gv
      rw [Nat.zero_add] at w
      rw [if_neg (nI_ge il (by omega)), if_neg (q_in (by omega) lt), gv]
      dsimp only
      rw [w]
      exact ⟨_, _, rfl⟩

theorem eB1_some {α : Type} {o n : Nat} {x : Option α} {v : α} (h : eB1 o n x = some v) : o < n ∧ x = some v := by
  unfold eB1 at h
  cases hb : Nat.blt o n with
  | true => rw [hb] at h; exact ⟨Nat.le_of_ble_eq_true hb, h⟩
  | false => rw [hb] at h; cases h
theorem eB2_some {α : Type} {o i : Nat} {x : Option α} {v : α} (h : eB2 o i x = some v) : o < 16 ∧ i < 512 ∧ x = some v := by
  unfold eB2 at h
  cases hb : (Nat.blt o 16 && Nat.blt i 512) with
  | true =>
    rw [hb] at h
    obtain ⟨h1, h2⟩ := Bool.and_eq_true_iff.mp hb
    exact ⟨Nat.le_of_ble_eq_true h1, Nat.le_of_ble_eq_true h2, h⟩
  | false => rw [hb] at h; cases h
def pOkI (cd : ByteArray) (f : Nat → Option (Instr × Nat)) (pc : Nat) : Bool := match f pc with
  | none => true
  | some (i, len) => decide (decode cd pc = .ok (i, len)) && (decide (eIl i = 0) || decide (len = eIl i))
theorem pOkI_use {cd : ByteArray} {f : Nat → Option (Instr × Nat)} {pc : Nat} {i : Instr} {len : Nat} (h : pOkI cd f pc = true) (hf : f pc = some (i, len)) : decode cd pc = .ok (i, len) ∧ (eIl i = 0 ∨ len = eIl i) := by
  unfold pOkI at h
  rw [hf] at h
  simpa using h
def pQI (k : Nat) : Prop := ∀ pc i len, pIns k pc = some (i, len) → decode (pCd k) pc = .ok (i, len) ∧ (eIl i = 0 ∨ len = eIl i)
theorem pO_0_0 : ∀ d, d < 98 → pOkI prog_1_method_1_code pI_0 (0 + d) = true := by decide +kernel
theorem pG_0 : pQI 0 := fun pc i len h => by
    have hlt : pc < 98 := (eB1_some (show eB1 pc 98 _ = some _ from h)).1
    show decode prog_1_method_1_code pc = _ ∧ _
    have hz := pO_0_0 (pc - 0) (by omega)
    rw [show 0 + (pc - 0) = pc by omega] at hz
    exact pOkI_use hz h
theorem pO_1_0 : ∀ d, d < 29 → pOkI prog_1_method_2_code pI_1 (0 + d) = true := by decide +kernel
theorem pG_1 : pQI 1 := fun pc i len h => by
    have hlt : pc < 29 := (eB1_some (show eB1 pc 29 _ = some _ from h)).1
    show decode prog_1_method_2_code pc = _ ∧ _
    have hz := pO_1_0 (pc - 0) (by omega)
    rw [show 0 + (pc - 0) = pc by omega] at hz
    exact pOkI_use hz h
theorem pO_2_0 : ∀ d, d < 45 → pOkI prog_1_method_3_code pI_2 (0 + d) = true := by decide +kernel
theorem pG_2 : pQI 2 := fun pc i len h => by
    have hlt : pc < 45 := (eB1_some (show eB1 pc 45 _ = some _ from h)).1
    show decode prog_1_method_3_code pc = _ ∧ _
    have hz := pO_2_0 (pc - 0) (by omega)
    rw [show 0 + (pc - 0) = pc by omega] at hz
    exact pOkI_use hz h
theorem pO_3_0 : ∀ d, d < 55 → pOkI prog_1_method_4_code pI_3 (0 + d) = true := by decide +kernel
theorem pG_3 : pQI 3 := fun pc i len h => by
    have hlt : pc < 55 := (eB1_some (show eB1 pc 55 _ = some _ from h)).1
    show decode prog_1_method_4_code pc = _ ∧ _
    have hz := pO_3_0 (pc - 0) (by omega)
    rw [show 0 + (pc - 0) = pc by omega] at hz
    exact pOkI_use hz h
theorem pO_4_0 : ∀ d, d < 65 → pOkI prog_1_method_5_code pI_4 (0 + d) = true := by decide +kernel
theorem pG_4 : pQI 4 := fun pc i len h => by
    have hlt : pc < 65 := (eB1_some (show eB1 pc 65 _ = some _ from h)).1
    show decode prog_1_method_5_code pc = _ ∧ _
    have hz := pO_4_0 (pc - 0) (by omega)
    rw [show 0 + (pc - 0) = pc by omega] at hz
    exact pOkI_use hz h
theorem pO_5_0 : ∀ d, d < 47 → pOkI prog_1_method_6_code pI_5 (0 + d) = true := by decide +kernel
theorem pG_5 : pQI 5 := fun pc i len h => by
    have hlt : pc < 47 := (eB1_some (show eB1 pc 47 _ = some _ from h)).1
    show decode prog_1_method_6_code pc = _ ∧ _
    have hz := pO_5_0 (pc - 0) (by omega)
    rw [show 0 + (pc - 0) = pc by omega] at hz
    exact pOkI_use hz h
theorem pO_6_0 : ∀ d, d < 24 → pOkI prog_1_method_7_code pI_6 (0 + d) = true := by decide +kernel
theorem pG_6 : pQI 6 := fun pc i len h => by
    have hlt : pc < 24 := (eB1_some (show eB1 pc 24 _ = some _ from h)).1
    show decode prog_1_method_7_code pc = _ ∧ _
    have hz := pO_6_0 (pc - 0) (by omega)
    rw [show 0 + (pc - 0) = pc by omega] at hz
    exact pOkI_use hz h
theorem pO_7_0 : ∀ d, d < 44 → pOkI prog_1_method_8_code pI_7 (0 + d) = true := by decide +kernel
theorem pG_7 : pQI 7 := fun pc i len h => by
    have hlt : pc < 44 := (eB1_some (show eB1 pc 44 _ = some _ from h)).1
    show decode prog_1_method_8_code pc = _ ∧ _
    have hz := pO_7_0 (pc - 0) (by omega)
    rw [show 0 + (pc - 0) = pc by omega] at hz
    exact pOkI_use hz h
theorem pO_8_0 : ∀ d, d < 113 → pOkI prog_1_method_9_code pI_8 (0 + d) = true := by decide +kernel
theorem pG_8 : pQI 8 := fun pc i len h => by
    have hlt : pc < 113 := (eB1_some (show eB1 pc 113 _ = some _ from h)).1
    show decode prog_1_method_9_code pc = _ ∧ _
    have hz := pO_8_0 (pc - 0) (by omega)
    rw [show 0 + (pc - 0) = pc by omega] at hz
    exact pOkI_use hz h
theorem pO_9_0 : ∀ d, d < 31 → pOkI prog_1_method_10_code pI_9 (0 + d) = true := by decide +kernel
theorem pG_9 : pQI 9 := fun pc i len h => by
    have hlt : pc < 31 := (eB1_some (show eB1 pc 31 _ = some _ from h)).1
    show decode prog_1_method_10_code pc = _ ∧ _
    have hz := pO_9_0 (pc - 0) (by omega)
    rw [show 0 + (pc - 0) = pc by omega] at hz
    exact pOkI_use hz h
theorem pO_10_0 : ∀ d, d < 28 → pOkI prog_1_method_11_code pI_10 (0 + d) = true := by decide +kernel
theorem pG_10 : pQI 10 := fun pc i len h => by
    have hlt : pc < 28 := (eB1_some (show eB1 pc 28 _ = some _ from h)).1
    show decode prog_1_method_11_code pc = _ ∧ _
    have hz := pO_10_0 (pc - 0) (by omega)
    rw [show 0 + (pc - 0) = pc by omega] at hz
    exact pOkI_use hz h
theorem pO_11_0 : ∀ d, d < 79 → pOkI prog_1_method_12_code pI_11 (0 + d) = true := by decide +kernel
theorem pG_11 : pQI 11 := fun pc i len h => by
    have hlt : pc < 79 := (eB1_some (show eB1 pc 79 _ = some _ from h)).1
    show decode prog_1_method_12_code pc = _ ∧ _
    have hz := pO_11_0 (pc - 0) (by omega)
    rw [show 0 + (pc - 0) = pc by omega] at hz
    exact pOkI_use hz h
theorem pO_12_0 : ∀ d, d < 9 → pOkI prog_1_method_13_code pI_12 (0 + d) = true := by decide +kernel
theorem pG_12 : pQI 12 := fun pc i len h => by
    have hlt : pc < 9 := (eB1_some (show eB1 pc 9 _ = some _ from h)).1
    show decode prog_1_method_13_code pc = _ ∧ _
    have hz := pO_12_0 (pc - 0) (by omega)
    rw [show 0 + (pc - 0) = pc by omega] at hz
    exact pOkI_use hz h
theorem pO_13_0 : ∀ d, d < 34 → pOkI prog_1_method_14_code pI_13 (0 + d) = true := by decide +kernel
theorem pG_13 : pQI 13 := fun pc i len h => by
    have hlt : pc < 34 := (eB1_some (show eB1 pc 34 _ = some _ from h)).1
    show decode prog_1_method_14_code pc = _ ∧ _
    have hz := pO_13_0 (pc - 0) (by omega)
    rw [show 0 + (pc - 0) = pc by omega] at hz
    exact pOkI_use hz h
theorem pO_14_0 : ∀ d, d < 76 → pOkI prog_1_method_15_code pI_14 (0 + d) = true := by decide +kernel
theorem pG_14 : pQI 14 := fun pc i len h => by
    have hlt : pc < 76 := (eB1_some (show eB1 pc 76 _ = some _ from h)).1
    show decode prog_1_method_15_code pc = _ ∧ _
    have hz := pO_14_0 (pc - 0) (by omega)
    rw [show 0 + (pc - 0) = pc by omega] at hz
    exact pOkI_use hz h
theorem pO_15_0 : ∀ d, d < 98 → pOkI prog_1_method_16_code pI_15 (0 + d) = true := by decide +kernel
theorem pG_15 : pQI 15 := fun pc i len h => by
    have hlt : pc < 98 := (eB1_some (show eB1 pc 98 _ = some _ from h)).1
    show decode prog_1_method_16_code pc = _ ∧ _
    have hz := pO_15_0 (pc - 0) (by omega)
    rw [show 0 + (pc - 0) = pc by omega] at hz
    exact pOkI_use hz h
theorem pO_16_0 : ∀ d, d < 22 → pOkI prog_1_method_17_code pI_16 (0 + d) = true := by decide +kernel
theorem pG_16 : pQI 16 := fun pc i len h => by
    have hlt : pc < 22 := (eB1_some (show eB1 pc 22 _ = some _ from h)).1
    show decode prog_1_method_17_code pc = _ ∧ _
    have hz := pO_16_0 (pc - 0) (by omega)
    rw [show 0 + (pc - 0) = pc by omega] at hz
    exact pOkI_use hz h
theorem pO_17_0 : ∀ d, d < 13 → pOkI prog_1_method_18_code pI_17 (0 + d) = true := by decide +kernel
theorem pG_17 : pQI 17 := fun pc i len h => by
    have hlt : pc < 13 := (eB1_some (show eB1 pc 13 _ = some _ from h)).1
    show decode prog_1_method_18_code pc = _ ∧ _
    have hz := pO_17_0 (pc - 0) (by omega)
    rw [show 0 + (pc - 0) = pc by omega] at hz
    exact pOkI_use hz h
theorem pO_18_0 : ∀ d, d < 22 → pOkI prog_1_method_19_code pI_18 (0 + d) = true := by decide +kernel
theorem pG_18 : pQI 18 := fun pc i len h => by
    have hlt : pc < 22 := (eB1_some (show eB1 pc 22 _ = some _ from h)).1
    show decode prog_1_method_19_code pc = _ ∧ _
    have hz := pO_18_0 (pc - 0) (by omega)
    rw [show 0 + (pc - 0) = pc by omega] at hz
    exact pOkI_use hz h
theorem pO_19_0 : ∀ d, d < 26 → pOkI prog_1_method_20_code pI_19 (0 + d) = true := by decide +kernel
theorem pG_19 : pQI 19 := fun pc i len h => by
    have hlt : pc < 26 := (eB1_some (show eB1 pc 26 _ = some _ from h)).1
    show decode prog_1_method_20_code pc = _ ∧ _
    have hz := pO_19_0 (pc - 0) (by omega)
    rw [show 0 + (pc - 0) = pc by omega] at hz
    exact pOkI_use hz h
theorem pO_20_0 : ∀ d, d < 26 → pOkI prog_1_method_21_code pI_20 (0 + d) = true := by decide +kernel
theorem pG_20 : pQI 20 := fun pc i len h => by
    have hlt : pc < 26 := (eB1_some (show eB1 pc 26 _ = some _ from h)).1
    show decode prog_1_method_21_code pc = _ ∧ _
    have hz := pO_20_0 (pc - 0) (by omega)
    rw [show 0 + (pc - 0) = pc by omega] at hz
    exact pOkI_use hz h
theorem pO_21_0 : ∀ d, d < 20 → pOkI prog_1_method_22_code pI_21 (0 + d) = true := by decide +kernel
theorem pG_21 : pQI 21 := fun pc i len h => by
    have hlt : pc < 20 := (eB1_some (show eB1 pc 20 _ = some _ from h)).1
    show decode prog_1_method_22_code pc = _ ∧ _
    have hz := pO_21_0 (pc - 0) (by omega)
    rw [show 0 + (pc - 0) = pc by omega] at hz
    exact pOkI_use hz h
theorem pO_22_0 : ∀ d, d < 22 → pOkI prog_1_method_23_code pI_22 (0 + d) = true := by decide +kernel
theorem pG_22 : pQI 22 := fun pc i len h => by
    have hlt : pc < 22 := (eB1_some (show eB1 pc 22 _ = some _ from h)).1
    show decode prog_1_method_23_code pc = _ ∧ _
    have hz := pO_22_0 (pc - 0) (by omega)
    rw [show 0 + (pc - 0) = pc by omega] at hz
    exact pOkI_use hz h
theorem pO_23_0 : ∀ d, d < 15 → pOkI prog_1_method_24_code pI_23 (0 + d) = true := by decide +kernel
theorem pG_23 : pQI 23 := fun pc i len h => by
    have hlt : pc < 15 := (eB1_some (show eB1 pc 15 _ = some _ from h)).1
    show decode prog_1_method_24_code pc = _ ∧ _
    have hz := pO_23_0 (pc - 0) (by omega)
    rw [show 0 + (pc - 0) = pc by omega] at hz
    exact pOkI_use hz h
theorem pO_24_0 : ∀ d, d < 20 → pOkI prog_1_method_25_code pI_24 (0 + d) = true := by decide +kernel
theorem pG_24 : pQI 24 := fun pc i len h => by
    have hlt : pc < 20 := (eB1_some (show eB1 pc 20 _ = some _ from h)).1
    show decode prog_1_method_25_code pc = _ ∧ _
    have hz := pO_24_0 (pc - 0) (by omega)
    rw [show 0 + (pc - 0) = pc by omega] at hz
    exact pOkI_use hz h
theorem pO_25_0 : ∀ d, d < 26 → pOkI prog_1_method_26_code pI_25 (0 + d) = true := by decide +kernel
theorem pG_25 : pQI 25 := fun pc i len h => by
    have hlt : pc < 26 := (eB1_some (show eB1 pc 26 _ = some _ from h)).1
    show decode prog_1_method_26_code pc = _ ∧ _
    have hz := pO_25_0 (pc - 0) (by omega)
    rw [show 0 + (pc - 0) = pc by omega] at hz
    exact pOkI_use hz h
theorem pO_26_0 : ∀ d, d < 147 → pOkI prog_12_method_1_code pI_26 (0 + d) = true := by decide +kernel
theorem pG_26 : pQI 26 := fun pc i len h => by
    have hlt : pc < 147 := (eB1_some (show eB1 pc 147 _ = some _ from h)).1
    show decode prog_12_method_1_code pc = _ ∧ _
    have hz := pO_26_0 (pc - 0) (by omega)
    rw [show 0 + (pc - 0) = pc by omega] at hz
    exact pOkI_use hz h
theorem pO_27_0 : ∀ d, d < 5 → pOkI prog_12_method_2_code pI_27 (0 + d) = true := by decide +kernel
theorem pG_27 : pQI 27 := fun pc i len h => by
    have hlt : pc < 5 := (eB1_some (show eB1 pc 5 _ = some _ from h)).1
    show decode prog_12_method_2_code pc = _ ∧ _
    have hz := pO_27_0 (pc - 0) (by omega)
    rw [show 0 + (pc - 0) = pc by omega] at hz
    exact pOkI_use hz h
theorem pO_28_0 : ∀ d, d < 8 → pOkI prog_12_method_3_code pI_28 (0 + d) = true := by decide +kernel
theorem pG_28 : pQI 28 := fun pc i len h => by
    have hlt : pc < 8 := (eB1_some (show eB1 pc 8 _ = some _ from h)).1
    show decode prog_12_method_3_code pc = _ ∧ _
    have hz := pO_28_0 (pc - 0) (by omega)
    rw [show 0 + (pc - 0) = pc by omega] at hz
    exact pOkI_use hz h
theorem pO_29_0 : ∀ d, d < 17 → pOkI prog_12_method_4_code pI_29 (0 + d) = true := by decide +kernel
theorem pG_29 : pQI 29 := fun pc i len h => by
    have hlt : pc < 17 := (eB1_some (show eB1 pc 17 _ = some _ from h)).1
    show decode prog_12_method_4_code pc = _ ∧ _
    have hz := pO_29_0 (pc - 0) (by omega)
    rw [show 0 + (pc - 0) = pc by omega] at hz
    exact pOkI_use hz h
theorem pO_30_0 : ∀ d, d < 19 → pOkI prog_12_method_5_code pI_30 (0 + d) = true := by decide +kernel
theorem pG_30 : pQI 30 := fun pc i len h => by
    have hlt : pc < 19 := (eB1_some (show eB1 pc 19 _ = some _ from h)).1
    show decode prog_12_method_5_code pc = _ ∧ _
    have hz := pO_30_0 (pc - 0) (by omega)
    rw [show 0 + (pc - 0) = pc by omega] at hz
    exact pOkI_use hz h
theorem pO_31_0 : ∀ d, d < 26 → pOkI prog_12_method_6_code pI_31 (0 + d) = true := by decide +kernel
theorem pG_31 : pQI 31 := fun pc i len h => by
    have hlt : pc < 26 := (eB1_some (show eB1 pc 26 _ = some _ from h)).1
    show decode prog_12_method_6_code pc = _ ∧ _
    have hz := pO_31_0 (pc - 0) (by omega)
    rw [show 0 + (pc - 0) = pc by omega] at hz
    exact pOkI_use hz h
theorem pO_32_0 : ∀ d, d < 37 → pOkI prog_12_method_7_code pI_32 (0 + d) = true := by decide +kernel
theorem pG_32 : pQI 32 := fun pc i len h => by
    have hlt : pc < 37 := (eB1_some (show eB1 pc 37 _ = some _ from h)).1
    show decode prog_12_method_7_code pc = _ ∧ _
    have hz := pO_32_0 (pc - 0) (by omega)
    rw [show 0 + (pc - 0) = pc by omega] at hz
    exact pOkI_use hz h
theorem pO_33_0 : ∀ d, d < 43 → pOkI prog_12_method_8_code pI_33 (0 + d) = true := by decide +kernel
theorem pG_33 : pQI 33 := fun pc i len h => by
    have hlt : pc < 43 := (eB1_some (show eB1 pc 43 _ = some _ from h)).1
    show decode prog_12_method_8_code pc = _ ∧ _
    have hz := pO_33_0 (pc - 0) (by omega)
    rw [show 0 + (pc - 0) = pc by omega] at hz
    exact pOkI_use hz h
theorem pO_34_0 : ∀ d, d < 71 → pOkI prog_12_method_9_code pI_34 (0 + d) = true := by decide +kernel
theorem pG_34 : pQI 34 := fun pc i len h => by
    have hlt : pc < 71 := (eB1_some (show eB1 pc 71 _ = some _ from h)).1
    show decode prog_12_method_9_code pc = _ ∧ _
    have hz := pO_34_0 (pc - 0) (by omega)
    rw [show 0 + (pc - 0) = pc by omega] at hz
    exact pOkI_use hz h
theorem pO_35_0 : ∀ d, d < 66 → pOkI prog_12_method_10_code pI_35 (0 + d) = true := by decide +kernel
theorem pG_35 : pQI 35 := fun pc i len h => by
    have hlt : pc < 66 := (eB1_some (show eB1 pc 66 _ = some _ from h)).1
    show decode prog_12_method_10_code pc = _ ∧ _
    have hz := pO_35_0 (pc - 0) (by omega)
    rw [show 0 + (pc - 0) = pc by omega] at hz
    exact pOkI_use hz h
theorem pO_36_0 : ∀ d, d < 46 → pOkI prog_12_method_11_code pI_36 (0 + d) = true := by decide +kernel
theorem pG_36 : pQI 36 := fun pc i len h => by
    have hlt : pc < 46 := (eB1_some (show eB1 pc 46 _ = some _ from h)).1
    show decode prog_12_method_11_code pc = _ ∧ _
    have hz := pO_36_0 (pc - 0) (by omega)
    rw [show 0 + (pc - 0) = pc by omega] at hz
    exact pOkI_use hz h
theorem pO_37_0 : ∀ d, d < 46 → pOkI prog_12_method_12_code pI_37 (0 + d) = true := by decide +kernel
theorem pG_37 : pQI 37 := fun pc i len h => by
    have hlt : pc < 46 := (eB1_some (show eB1 pc 46 _ = some _ from h)).1
    show decode prog_12_method_12_code pc = _ ∧ _
    have hz := pO_37_0 (pc - 0) (by omega)
    rw [show 0 + (pc - 0) = pc by omega] at hz
    exact pOkI_use hz h
theorem pO_38_0 : ∀ d, d < 27 → pOkI prog_12_method_13_code pI_38 (0 + d) = true := by decide +kernel
theorem pG_38 : pQI 38 := fun pc i len h => by
    have hlt : pc < 27 := (eB1_some (show eB1 pc 27 _ = some _ from h)).1
    show decode prog_12_method_13_code pc = _ ∧ _
    have hz := pO_38_0 (pc - 0) (by omega)
    rw [show 0 + (pc - 0) = pc by omega] at hz
    exact pOkI_use hz h
theorem pO_39_0 : ∀ d, d < 31 → pOkI prog_12_method_14_code pI_39 (0 + d) = true := by decide +kernel
theorem pG_39 : pQI 39 := fun pc i len h => by
    have hlt : pc < 31 := (eB1_some (show eB1 pc 31 _ = some _ from h)).1
    show decode prog_12_method_14_code pc = _ ∧ _
    have hz := pO_39_0 (pc - 0) (by omega)
    rw [show 0 + (pc - 0) = pc by omega] at hz
    exact pOkI_use hz h
theorem pO_40_0 : ∀ d, d < 97 → pOkI prog_12_method_15_code pI_40 (0 + d) = true := by decide +kernel
theorem pG_40 : pQI 40 := fun pc i len h => by
    have hlt : pc < 97 := (eB1_some (show eB1 pc 97 _ = some _ from h)).1
    show decode prog_12_method_15_code pc = _ ∧ _
    have hz := pO_40_0 (pc - 0) (by omega)
    rw [show 0 + (pc - 0) = pc by omega] at hz
    exact pOkI_use hz h
theorem pO_41_0 : ∀ d, d < 17 → pOkI prog_12_method_16_code pI_41 (0 + d) = true := by decide +kernel
theorem pG_41 : pQI 41 := fun pc i len h => by
    have hlt : pc < 17 := (eB1_some (show eB1 pc 17 _ = some _ from h)).1
    show decode prog_12_method_16_code pc = _ ∧ _
    have hz := pO_41_0 (pc - 0) (by omega)
    rw [show 0 + (pc - 0) = pc by omega] at hz
    exact pOkI_use hz h
theorem pO_42_0 : ∀ d, d < 92 → pOkI prog_12_method_17_code pI_42 (0 + d) = true := by decide +kernel
theorem pG_42 : pQI 42 := fun pc i len h => by
    have hlt : pc < 92 := (eB1_some (show eB1 pc 92 _ = some _ from h)).1
    show decode prog_12_method_17_code pc = _ ∧ _
    have hz := pO_42_0 (pc - 0) (by omega)
    rw [show 0 + (pc - 0) = pc by omega] at hz
    exact pOkI_use hz h
theorem pO_43_0 : ∀ d, d < 144 → pOkI prog_12_method_18_code pI_43 (0 + d) = true := by decide +kernel
theorem pG_43 : pQI 43 := fun pc i len h => by
    have hlt : pc < 144 := (eB1_some (show eB1 pc 144 _ = some _ from h)).1
    show decode prog_12_method_18_code pc = _ ∧ _
    have hz := pO_43_0 (pc - 0) (by omega)
    rw [show 0 + (pc - 0) = pc by omega] at hz
    exact pOkI_use hz h
theorem pO_44_0 : ∀ d, d < 18 → pOkI prog_12_method_19_code pI_44 (0 + d) = true := by decide +kernel
theorem pG_44 : pQI 44 := fun pc i len h => by
    have hlt : pc < 18 := (eB1_some (show eB1 pc 18 _ = some _ from h)).1
    show decode prog_12_method_19_code pc = _ ∧ _
    have hz := pO_44_0 (pc - 0) (by omega)
    rw [show 0 + (pc - 0) = pc by omega] at hz
    exact pOkI_use hz h
theorem pO_45_0 : ∀ d, d < 64 → pOkI prog_12_method_20_code pI_45 (0 + d) = true := by decide +kernel
theorem pG_45 : pQI 45 := fun pc i len h => by
    have hlt : pc < 64 := (eB1_some (show eB1 pc 64 _ = some _ from h)).1
    show decode prog_12_method_20_code pc = _ ∧ _
    have hz := pO_45_0 (pc - 0) (by omega)
    rw [show 0 + (pc - 0) = pc by omega] at hz
    exact pOkI_use hz h
theorem pO_46_0 : ∀ d, d < 45 → pOkI prog_12_method_21_code pI_46 (0 + d) = true := by decide +kernel
theorem pG_46 : pQI 46 := fun pc i len h => by
    have hlt : pc < 45 := (eB1_some (show eB1 pc 45 _ = some _ from h)).1
    show decode prog_12_method_21_code pc = _ ∧ _
    have hz := pO_46_0 (pc - 0) (by omega)
    rw [show 0 + (pc - 0) = pc by omega] at hz
    exact pOkI_use hz h
theorem pO_47_0 : ∀ d, d < 64 → pOkI prog_12_method_22_code pI_47 (0 + d) = true := by decide +kernel
theorem pG_47 : pQI 47 := fun pc i len h => by
    have hlt : pc < 64 := (eB1_some (show eB1 pc 64 _ = some _ from h)).1
    show decode prog_12_method_22_code pc = _ ∧ _
    have hz := pO_47_0 (pc - 0) (by omega)
    rw [show 0 + (pc - 0) = pc by omega] at hz
    exact pOkI_use hz h
theorem pO_48_0 : ∀ d, d < 53 → pOkI prog_12_method_23_code pI_48 (0 + d) = true := by decide +kernel
theorem pG_48 : pQI 48 := fun pc i len h => by
    have hlt : pc < 53 := (eB1_some (show eB1 pc 53 _ = some _ from h)).1
    show decode prog_12_method_23_code pc = _ ∧ _
    have hz := pO_48_0 (pc - 0) (by omega)
    rw [show 0 + (pc - 0) = pc by omega] at hz
    exact pOkI_use hz h
theorem pO_49_0 : ∀ d, d < 62 → pOkI prog_12_method_24_code pI_49 (0 + d) = true := by decide +kernel
theorem pG_49 : pQI 49 := fun pc i len h => by
    have hlt : pc < 62 := (eB1_some (show eB1 pc 62 _ = some _ from h)).1
    show decode prog_12_method_24_code pc = _ ∧ _
    have hz := pO_49_0 (pc - 0) (by omega)
    rw [show 0 + (pc - 0) = pc by omega] at hz
    exact pOkI_use hz h
theorem pO_50_0 : ∀ d, d < 112 → pOkI prog_12_method_25_code pI_50 (0 + d) = true := by decide +kernel
theorem pG_50 : pQI 50 := fun pc i len h => by
    have hlt : pc < 112 := (eB1_some (show eB1 pc 112 _ = some _ from h)).1
    show decode prog_12_method_25_code pc = _ ∧ _
    have hz := pO_50_0 (pc - 0) (by omega)
    rw [show 0 + (pc - 0) = pc by omega] at hz
    exact pOkI_use hz h
theorem pO_51_0 : ∀ d, d < 86 → pOkI prog_12_method_26_code pI_51 (0 + d) = true := by decide +kernel
theorem pG_51 : pQI 51 := fun pc i len h => by
    have hlt : pc < 86 := (eB1_some (show eB1 pc 86 _ = some _ from h)).1
    show decode prog_12_method_26_code pc = _ ∧ _
    have hz := pO_51_0 (pc - 0) (by omega)
    rw [show 0 + (pc - 0) = pc by omega] at hz
    exact pOkI_use hz h
theorem pO_52_0 : ∀ d, d < 6 → pOkI prog_12_method_27_code pI_52 (0 + d) = true := by decide +kernel
theorem pG_52 : pQI 52 := fun pc i len h => by
    have hlt : pc < 6 := (eB1_some (show eB1 pc 6 _ = some _ from h)).1
    show decode prog_12_method_27_code pc = _ ∧ _
    have hz := pO_52_0 (pc - 0) (by omega)
    rw [show 0 + (pc - 0) = pc by omega] at hz
    exact pOkI_use hz h
theorem pO_53_0 : ∀ d, d < 33 → pOkI prog_12_method_28_code pI_53 (0 + d) = true := by decide +kernel
theorem pG_53 : pQI 53 := fun pc i len h => by
    have hlt : pc < 33 := (eB1_some (show eB1 pc 33 _ = some _ from h)).1
    show decode prog_12_method_28_code pc = _ ∧ _
    have hz := pO_53_0 (pc - 0) (by omega)
    rw [show 0 + (pc - 0) = pc by omega] at hz
    exact pOkI_use hz h
theorem pO_54_0 : ∀ d, d < 9 → pOkI prog_12_method_29_code pI_54 (0 + d) = true := by decide +kernel
theorem pG_54 : pQI 54 := fun pc i len h => by
    have hlt : pc < 9 := (eB1_some (show eB1 pc 9 _ = some _ from h)).1
    show decode prog_12_method_29_code pc = _ ∧ _
    have hz := pO_54_0 (pc - 0) (by omega)
    rw [show 0 + (pc - 0) = pc by omega] at hz
    exact pOkI_use hz h
theorem pO_55_0 : ∀ d, d < 39 → pOkI prog_12_method_30_code pI_55 (0 + d) = true := by decide +kernel
theorem pG_55 : pQI 55 := fun pc i len h => by
    have hlt : pc < 39 := (eB1_some (show eB1 pc 39 _ = some _ from h)).1
    show decode prog_12_method_30_code pc = _ ∧ _
    have hz := pO_55_0 (pc - 0) (by omega)
    rw [show 0 + (pc - 0) = pc by omega] at hz
    exact pOkI_use hz h
theorem pO_56_0 : ∀ d, d < 150 → pOkI prog_12_method_31_code pI_56 (0 + d) = true := by decide +kernel
theorem pO_56_1 : ∀ d, d < 80 → pOkI prog_12_method_31_code pI_56 (150 + d) = true := by decide +kernel
theorem pG_56 : pQI 56 := fun pc i len h => by
    have hlt : pc < 230 := (eB1_some (show eB1 pc 230 _ = some _ from h)).1
    show decode prog_12_method_31_code pc = _ ∧ _
    by_cases h0 : pc < 150
    · have hz := pO_56_0 (pc - 0) (by omega)
      rw [show 0 + (pc - 0) = pc by omega] at hz
      exact pOkI_use hz h
    have hz := pO_56_1 (pc - 150) (by omega)
    rw [show 150 + (pc - 150) = pc by omega] at hz
    exact pOkI_use hz h
theorem pO_57_0 : ∀ d, d < 150 → pOkI prog_12_method_32_code pI_57 (0 + d) = true := by decide +kernel
theorem pO_57_1 : ∀ d, d < 17 → pOkI prog_12_method_32_code pI_57 (150 + d) = true := by decide +kernel
theorem pG_57 : pQI 57 := fun pc i len h => by
    have hlt : pc < 167 := (eB1_some (show eB1 pc 167 _ = some _ from h)).1
    show decode prog_12_method_32_code pc = _ ∧ _
    by_cases h0 : pc < 150
    · have hz := pO_57_0 (pc - 0) (by omega)
      rw [show 0 + (pc - 0) = pc by omega] at hz
      exact pOkI_use hz h
    have hz := pO_57_1 (pc - 150) (by omega)
    rw [show 150 + (pc - 150) = pc by omega] at hz
    exact pOkI_use hz h
theorem pO_58_0 : ∀ d, d < 150 → pOkI prog_12_method_33_code pI_58 (0 + d) = true := by decide +kernel
theorem pO_58_1 : ∀ d, d < 1 → pOkI prog_12_method_33_code pI_58 (150 + d) = true := by decide +kernel
theorem pG_58 : pQI 58 := fun pc i len h => by
    have hlt : pc < 151 := (eB1_some (show eB1 pc 151 _ = some _ from h)).1
    show decode prog_12_method_33_code pc = _ ∧ _
    by_cases h0 : pc < 150
    · have hz := pO_58_0 (pc - 0) (by omega)
      rw [show 0 + (pc - 0) = pc by omega] at hz
      exact pOkI_use hz h
    have hz := pO_58_1 (pc - 150) (by omega)
    rw [show 150 + (pc - 150) = pc by omega] at hz
    exact pOkI_use hz h
theorem pO_59_0 : ∀ d, d < 150 → pOkI prog_12_method_34_code pI_59 (0 + d) = true := by decide +kernel
theorem pO_59_1 : ∀ d, d < 150 → pOkI prog_12_method_34_code pI_59 (150 + d) = true := by decide +kernel
theorem pO_59_2 : ∀ d, d < 104 → pOkI prog_12_method_34_code pI_59 (300 + d) = true := by decide +kernel
theorem pG_59 : pQI 59 := fun pc i len h => by
    have hlt : pc < 404 := (eB1_some (show eB1 pc 404 _ = some _ from h)).1
    show decode prog_12_method_34_code pc = _ ∧ _
    by_cases h0 : pc < 150
    · have hz := pO_59_0 (pc - 0) (by omega)
      rw [show 0 + (pc - 0) = pc by omega] at hz
      exact pOkI_use hz h
    by_cases h1 : pc < 300
    · have hz := pO_59_1 (pc - 150) (by omega)
      rw [show 150 + (pc - 150) = pc by omega] at hz
      exact pOkI_use hz h
    have hz := pO_59_2 (pc - 300) (by omega)
    rw [show 300 + (pc - 300) = pc by omega] at hz
    exact pOkI_use hz h
theorem pO_60_0 : ∀ d, d < 124 → pOkI prog_12_method_35_code pI_60 (0 + d) = true := by decide +kernel
theorem pG_60 : pQI 60 := fun pc i len h => by
    have hlt : pc < 124 := (eB1_some (show eB1 pc 124 _ = some _ from h)).1
    show decode prog_12_method_35_code pc = _ ∧ _
    have hz := pO_60_0 (pc - 0) (by omega)
    rw [show 0 + (pc - 0) = pc by omega] at hz
    exact pOkI_use hz h
theorem pO_61_0 : ∀ d, d < 99 → pOkI prog_12_method_36_code pI_61 (0 + d) = true := by decide +kernel
theorem pG_61 : pQI 61 := fun pc i len h => by
    have hlt : pc < 99 := (eB1_some (show eB1 pc 99 _ = some _ from h)).1
    show decode prog_12_method_36_code pc = _ ∧ _
    have hz := pO_61_0 (pc - 0) (by omega)
    rw [show 0 + (pc - 0) = pc by omega] at hz
    exact pOkI_use hz h
theorem pO_62_0 : ∀ d, d < 48 → pOkI prog_12_method_37_code pI_62 (0 + d) = true := by decide +kernel
theorem pG_62 : pQI 62 := fun pc i len h => by
    have hlt : pc < 48 := (eB1_some (show eB1 pc 48 _ = some _ from h)).1
    show decode prog_12_method_37_code pc = _ ∧ _
    have hz := pO_62_0 (pc - 0) (by omega)
    rw [show 0 + (pc - 0) = pc by omega] at hz
    exact pOkI_use hz h
theorem pO_63_0 : ∀ d, d < 42 → pOkI prog_12_method_38_code pI_63 (0 + d) = true := by decide +kernel
theorem pG_63 : pQI 63 := fun pc i len h => by
    have hlt : pc < 42 := (eB1_some (show eB1 pc 42 _ = some _ from h)).1
    show decode prog_12_method_38_code pc = _ ∧ _
    have hz := pO_63_0 (pc - 0) (by omega)
    rw [show 0 + (pc - 0) = pc by omega] at hz
    exact pOkI_use hz h
theorem pO_64_0 : ∀ d, d < 64 → pOkI prog_12_method_39_code pI_64 (0 + d) = true := by decide +kernel
theorem pG_64 : pQI 64 := fun pc i len h => by
    have hlt : pc < 64 := (eB1_some (show eB1 pc 64 _ = some _ from h)).1
    show decode prog_12_method_39_code pc = _ ∧ _
    have hz := pO_64_0 (pc - 0) (by omega)
    rw [show 0 + (pc - 0) = pc by omega] at hz
    exact pOkI_use hz h
theorem pO_65_0 : ∀ d, d < 12 → pOkI prog_12_method_40_code pI_65 (0 + d) = true := by decide +kernel
theorem pG_65 : pQI 65 := fun pc i len h => by
    have hlt : pc < 12 := (eB1_some (show eB1 pc 12 _ = some _ from h)).1
    show decode prog_12_method_40_code pc = _ ∧ _
    have hz := pO_65_0 (pc - 0) (by omega)
    rw [show 0 + (pc - 0) = pc by omega] at hz
    exact pOkI_use hz h
theorem pO_66_0 : ∀ d, d < 39 → pOkI prog_12_method_41_code pI_66 (0 + d) = true := by decide +kernel
theorem pG_66 : pQI 66 := fun pc i len h => by
    have hlt : pc < 39 := (eB1_some (show eB1 pc 39 _ = some _ from h)).1
    show decode prog_12_method_41_code pc = _ ∧ _
    have hz := pO_66_0 (pc - 0) (by omega)
    rw [show 0 + (pc - 0) = pc by omega] at hz
    exact pOkI_use hz h
theorem pO_67_0 : ∀ d, d < 67 → pOkI prog_12_method_42_code pI_67 (0 + d) = true := by decide +kernel
theorem pG_67 : pQI 67 := fun pc i len h => by
    have hlt : pc < 67 := (eB1_some (show eB1 pc 67 _ = some _ from h)).1
    show decode prog_12_method_42_code pc = _ ∧ _
    have hz := pO_67_0 (pc - 0) (by omega)
    rw [show 0 + (pc - 0) = pc by omega] at hz
    exact pOkI_use hz h
theorem pO_68_0 : ∀ d, d < 150 → pOkI prog_12_method_43_code pI_68 (0 + d) = true := by decide +kernel
theorem pO_68_1 : ∀ d, d < 97 → pOkI prog_12_method_43_code pI_68 (150 + d) = true := by decide +kernel
theorem pG_68 : pQI 68 := fun pc i len h => by
    have hlt : pc < 247 := (eB1_some (show eB1 pc 247 _ = some _ from h)).1
    show decode prog_12_method_43_code pc = _ ∧ _
    by_cases h0 : pc < 150
    · have hz := pO_68_0 (pc - 0) (by omega)
      rw [show 0 + (pc - 0) = pc by omega] at hz
      exact pOkI_use hz h
    have hz := pO_68_1 (pc - 150) (by omega)
    rw [show 150 + (pc - 150) = pc by omega] at hz
    exact pOkI_use hz h
theorem pO_69_0 : ∀ d, d < 130 → pOkI prog_12_method_44_code pI_69 (0 + d) = true := by decide +kernel
theorem pG_69 : pQI 69 := fun pc i len h => by
    have hlt : pc < 130 := (eB1_some (show eB1 pc 130 _ = some _ from h)).1
    show decode prog_12_method_44_code pc = _ ∧ _
    have hz := pO_69_0 (pc - 0) (by omega)
    rw [show 0 + (pc - 0) = pc by omega] at hz
    exact pOkI_use hz h
theorem pO_70_0 : ∀ d, d < 100 → pOkI prog_12_method_45_code pI_70 (0 + d) = true := by decide +kernel
theorem pG_70 : pQI 70 := fun pc i len h => by
    have hlt : pc < 100 := (eB1_some (show eB1 pc 100 _ = some _ from h)).1
    show decode prog_12_method_45_code pc = _ ∧ _
    have hz := pO_70_0 (pc - 0) (by omega)
    rw [show 0 + (pc - 0) = pc by omega] at hz
    exact pOkI_use hz h
theorem pO_71_0 : ∀ d, d < 37 → pOkI prog_12_method_46_code pI_71 (0 + d) = true := by decide +kernel
theorem pG_71 : pQI 71 := fun pc i len h => by
    have hlt : pc < 37 := (eB1_some (show eB1 pc 37 _ = some _ from h)).1
    show decode prog_12_method_46_code pc = _ ∧ _
    have hz := pO_71_0 (pc - 0) (by omega)
    rw [show 0 + (pc - 0) = pc by omega] at hz
    exact pOkI_use hz h
theorem pO_72_0 : ∀ d, d < 34 → pOkI prog_12_method_47_code pI_72 (0 + d) = true := by decide +kernel
theorem pG_72 : pQI 72 := fun pc i len h => by
    have hlt : pc < 34 := (eB1_some (show eB1 pc 34 _ = some _ from h)).1
    show decode prog_12_method_47_code pc = _ ∧ _
    have hz := pO_72_0 (pc - 0) (by omega)
    rw [show 0 + (pc - 0) = pc by omega] at hz
    exact pOkI_use hz h
theorem pO_73_0 : ∀ d, d < 61 → pOkI prog_12_method_48_code pI_73 (0 + d) = true := by decide +kernel
theorem pG_73 : pQI 73 := fun pc i len h => by
    have hlt : pc < 61 := (eB1_some (show eB1 pc 61 _ = some _ from h)).1
    show decode prog_12_method_48_code pc = _ ∧ _
    have hz := pO_73_0 (pc - 0) (by omega)
    rw [show 0 + (pc - 0) = pc by omega] at hz
    exact pOkI_use hz h
theorem pO_74_0 : ∀ d, d < 41 → pOkI prog_12_method_49_code pI_74 (0 + d) = true := by decide +kernel
theorem pG_74 : pQI 74 := fun pc i len h => by
    have hlt : pc < 41 := (eB1_some (show eB1 pc 41 _ = some _ from h)).1
    show decode prog_12_method_49_code pc = _ ∧ _
    have hz := pO_74_0 (pc - 0) (by omega)
    rw [show 0 + (pc - 0) = pc by omega] at hz
    exact pOkI_use hz h
theorem pO_75_0 : ∀ d, d < 104 → pOkI prog_12_method_50_code pI_75 (0 + d) = true := by decide +kernel
theorem pG_75 : pQI 75 := fun pc i len h => by
    have hlt : pc < 104 := (eB1_some (show eB1 pc 104 _ = some _ from h)).1
    show decode prog_12_method_50_code pc = _ ∧ _
    have hz := pO_75_0 (pc - 0) (by omega)
    rw [show 0 + (pc - 0) = pc by omega] at hz
    exact pOkI_use hz h
theorem pO_76_0 : ∀ d, d < 8 → pOkI prog_2_method_2_code pI_76 (0 + d) = true := by decide +kernel
theorem pG_76 : pQI 76 := fun pc i len h => by
    have hlt : pc < 8 := (eB1_some (show eB1 pc 8 _ = some _ from h)).1
    show decode prog_2_method_2_code pc = _ ∧ _
    have hz := pO_76_0 (pc - 0) (by omega)
    rw [show 0 + (pc - 0) = pc by omega] at hz
    exact pOkI_use hz h
theorem pO_77_0 : ∀ d, d < 9 → pOkI prog_2_method_3_code pI_77 (0 + d) = true := by decide +kernel
theorem pG_77 : pQI 77 := fun pc i len h => by
    have hlt : pc < 9 := (eB1_some (show eB1 pc 9 _ = some _ from h)).1
    show decode prog_2_method_3_code pc = _ ∧ _
    have hz := pO_77_0 (pc - 0) (by omega)
    rw [show 0 + (pc - 0) = pc by omega] at hz
    exact pOkI_use hz h
theorem pO_78_0 : ∀ d, d < 26 → pOkI prog_2_method_4_code pI_78 (0 + d) = true := by decide +kernel
theorem pG_78 : pQI 78 := fun pc i len h => by
    have hlt : pc < 26 := (eB1_some (show eB1 pc 26 _ = some _ from h)).1
    show decode prog_2_method_4_code pc = _ ∧ _
    have hz := pO_78_0 (pc - 0) (by omega)
    rw [show 0 + (pc - 0) = pc by omega] at hz
    exact pOkI_use hz h
theorem pO_79_0 : ∀ d, d < 39 → pOkI prog_3_method_1_code pI_79 (0 + d) = true := by decide +kernel
theorem pG_79 : pQI 79 := fun pc i len h => by
    have hlt : pc < 39 := (eB1_some (show eB1 pc 39 _ = some _ from h)).1
    show decode prog_3_method_1_code pc = _ ∧ _
    have hz := pO_79_0 (pc - 0) (by omega)
    rw [show 0 + (pc - 0) = pc by omega] at hz
    exact pOkI_use hz h
theorem pO_80_0 : ∀ d, d < 126 → pOkI prog_3_method_2_code pI_80 (0 + d) = true := by decide +kernel
theorem pG_80 : pQI 80 := fun pc i len h => by
    have hlt : pc < 126 := (eB1_some (show eB1 pc 126 _ = some _ from h)).1
    show decode prog_3_method_2_code pc = _ ∧ _
    have hz := pO_80_0 (pc - 0) (by omega)
    rw [show 0 + (pc - 0) = pc by omega] at hz
    exact pOkI_use hz h
theorem pO_81_0 : ∀ d, d < 22 → pOkI prog_3_method_3_code pI_81 (0 + d) = true := by decide +kernel
theorem pG_81 : pQI 81 := fun pc i len h => by
    have hlt : pc < 22 := (eB1_some (show eB1 pc 22 _ = some _ from h)).1
    show decode prog_3_method_3_code pc = _ ∧ _
    have hz := pO_81_0 (pc - 0) (by omega)
    rw [show 0 + (pc - 0) = pc by omega] at hz
    exact pOkI_use hz h
theorem pO_82_0 : ∀ d, d < 93 → pOkI prog_3_method_4_code pI_82 (0 + d) = true := by decide +kernel
theorem pG_82 : pQI 82 := fun pc i len h => by
    have hlt : pc < 93 := (eB1_some (show eB1 pc 93 _ = some _ from h)).1
    show decode prog_3_method_4_code pc = _ ∧ _
    have hz := pO_82_0 (pc - 0) (by omega)
    rw [show 0 + (pc - 0) = pc by omega] at hz
    exact pOkI_use hz h
theorem pO_83_0 : ∀ d, d < 82 → pOkI prog_3_method_5_code pI_83 (0 + d) = true := by decide +kernel
theorem pG_83 : pQI 83 := fun pc i len h => by
    have hlt : pc < 82 := (eB1_some (show eB1 pc 82 _ = some _ from h)).1
    show decode prog_3_method_5_code pc = _ ∧ _
    have hz := pO_83_0 (pc - 0) (by omega)
    rw [show 0 + (pc - 0) = pc by omega] at hz
    exact pOkI_use hz h
theorem pO_84_0 : ∀ d, d < 29 → pOkI prog_3_method_6_code pI_84 (0 + d) = true := by decide +kernel
theorem pG_84 : pQI 84 := fun pc i len h => by
    have hlt : pc < 29 := (eB1_some (show eB1 pc 29 _ = some _ from h)).1
    show decode prog_3_method_6_code pc = _ ∧ _
    have hz := pO_84_0 (pc - 0) (by omega)
    rw [show 0 + (pc - 0) = pc by omega] at hz
    exact pOkI_use hz h
theorem pO_85_0 : ∀ d, d < 78 → pOkI prog_3_method_7_code pI_85 (0 + d) = true := by decide +kernel
theorem pG_85 : pQI 85 := fun pc i len h => by
    have hlt : pc < 78 := (eB1_some (show eB1 pc 78 _ = some _ from h)).1
    show decode prog_3_method_7_code pc = _ ∧ _
    have hz := pO_85_0 (pc - 0) (by omega)
    rw [show 0 + (pc - 0) = pc by omega] at hz
    exact pOkI_use hz h
theorem pO_86_0 : ∀ d, d < 58 → pOkI prog_3_method_8_code pI_86 (0 + d) = true := by decide +kernel
theorem pG_86 : pQI 86 := fun pc i len h => by
    have hlt : pc < 58 := (eB1_some (show eB1 pc 58 _ = some _ from h)).1
    show decode prog_3_method_8_code pc = _ ∧ _
    have hz := pO_86_0 (pc - 0) (by omega)
    rw [show 0 + (pc - 0) = pc by omega] at hz
    exact pOkI_use hz h
theorem pO_87_0 : ∀ d, d < 150 → pOkI prog_3_method_9_code pI_87 (0 + d) = true := by decide +kernel
theorem pO_87_1 : ∀ d, d < 11 → pOkI prog_3_method_9_code pI_87 (150 + d) = true := by decide +kernel
theorem pG_87 : pQI 87 := fun pc i len h => by
    have hlt : pc < 161 := (eB1_some (show eB1 pc 161 _ = some _ from h)).1
    show decode prog_3_method_9_code pc = _ ∧ _
    by_cases h0 : pc < 150
    · have hz := pO_87_0 (pc - 0) (by omega)
      rw [show 0 + (pc - 0) = pc by omega] at hz
      exact pOkI_use hz h
    have hz := pO_87_1 (pc - 150) (by omega)
    rw [show 150 + (pc - 150) = pc by omega] at hz
    exact pOkI_use hz h
theorem pO_88_0 : ∀ d, d < 150 → pOkI prog_3_method_10_code pI_88 (0 + d) = true := by decide +kernel
theorem pO_88_1 : ∀ d, d < 23 → pOkI prog_3_method_10_code pI_88 (150 + d) = true := by decide +kernel
theorem pG_88 : pQI 88 := fun pc i len h => by
    have hlt : pc < 173 := (eB1_some (show eB1 pc 173 _ = some _ from h)).1
    show decode prog_3_method_10_code pc = _ ∧ _
    by_cases h0 : pc < 150
    · have hz := pO_88_0 (pc - 0) (by omega)
      rw [show 0 + (pc - 0) = pc by omega] at hz
      exact pOkI_use hz h
    have hz := pO_88_1 (pc - 150) (by omega)
    rw [show 150 + (pc - 150) = pc by omega] at hz
    exact pOkI_use hz h
theorem pO_89_0 : ∀ d, d < 29 → pOkI prog_4_method_1_code pI_89 (0 + d) = true := by decide +kernel
theorem pG_89 : pQI 89 := fun pc i len h => by
    have hlt : pc < 29 := (eB1_some (show eB1 pc 29 _ = some _ from h)).1
    show decode prog_4_method_1_code pc = _ ∧ _
    have hz := pO_89_0 (pc - 0) (by omega)
    rw [show 0 + (pc - 0) = pc by omega] at hz
    exact pOkI_use hz h
theorem pO_90_0 : ∀ d, d < 37 → pOkI prog_4_method_2_code pI_90 (0 + d) = true := by decide +kernel
theorem pG_90 : pQI 90 := fun pc i len h => by
    have hlt : pc < 37 := (eB1_some (show eB1 pc 37 _ = some _ from h)).1
    show decode prog_4_method_2_code pc = _ ∧ _
    have hz := pO_90_0 (pc - 0) (by omega)
    rw [show 0 + (pc - 0) = pc by omega] at hz
    exact pOkI_use hz h
theorem pO_91_0 : ∀ d, d < 23 → pOkI prog_4_method_3_code pI_91 (0 + d) = true := by decide +kernel
theorem pG_91 : pQI 91 := fun pc i len h => by
    have hlt : pc < 23 := (eB1_some (show eB1 pc 23 _ = some _ from h)).1
    show decode prog_4_method_3_code pc = _ ∧ _
    have hz := pO_91_0 (pc - 0) (by omega)
    rw [show 0 + (pc - 0) = pc by omega] at hz
    exact pOkI_use hz h
theorem pO_92_0 : ∀ d, d < 9 → pOkI prog_4_method_4_code pI_92 (0 + d) = true := by decide +kernel
theorem pG_92 : pQI 92 := fun pc i len h => by
    have hlt : pc < 9 := (eB1_some (show eB1 pc 9 _ = some _ from h)).1
    show decode prog_4_method_4_code pc = _ ∧ _
    have hz := pO_92_0 (pc - 0) (by omega)
    rw [show 0 + (pc - 0) = pc by omega] at hz
    exact pOkI_use hz h
theorem pO_93_0 : ∀ d, d < 46 → pOkI prog_4_method_5_code pI_93 (0 + d) = true := by decide +kernel
theorem pG_93 : pQI 93 := fun pc i len h => by
    have hlt : pc < 46 := (eB1_some (show eB1 pc 46 _ = some _ from h)).1
    show decode prog_4_method_5_code pc = _ ∧ _
    have hz := pO_93_0 (pc - 0) (by omega)
    rw [show 0 + (pc - 0) = pc by omega] at hz
    exact pOkI_use hz h
theorem pO_94_0 : ∀ d, d < 86 → pOkI prog_4_method_6_code pI_94 (0 + d) = true := by decide +kernel
theorem pG_94 : pQI 94 := fun pc i len h => by
    have hlt : pc < 86 := (eB1_some (show eB1 pc 86 _ = some _ from h)).1
    show decode prog_4_method_6_code pc = _ ∧ _
    have hz := pO_94_0 (pc - 0) (by omega)
    rw [show 0 + (pc - 0) = pc by omega] at hz
    exact pOkI_use hz h
theorem pO_95_0 : ∀ d, d < 26 → pOkI prog_4_method_7_code pI_95 (0 + d) = true := by decide +kernel
theorem pG_95 : pQI 95 := fun pc i len h => by
    have hlt : pc < 26 := (eB1_some (show eB1 pc 26 _ = some _ from h)).1
    show decode prog_4_method_7_code pc = _ ∧ _
    have hz := pO_95_0 (pc - 0) (by omega)
    rw [show 0 + (pc - 0) = pc by omega] at hz
    exact pOkI_use hz h
theorem pO_96_0 : ∀ d, d < 28 → pOkI prog_4_method_8_code pI_96 (0 + d) = true := by decide +kernel
theorem pG_96 : pQI 96 := fun pc i len h => by
    have hlt : pc < 28 := (eB1_some (show eB1 pc 28 _ = some _ from h)).1
    show decode prog_4_method_8_code pc = _ ∧ _
    have hz := pO_96_0 (pc - 0) (by omega)
    rw [show 0 + (pc - 0) = pc by omega] at hz
    exact pOkI_use hz h
theorem pO_97_0 : ∀ d, d < 31 → pOkI prog_4_method_9_code pI_97 (0 + d) = true := by decide +kernel
theorem pG_97 : pQI 97 := fun pc i len h => by
    have hlt : pc < 31 := (eB1_some (show eB1 pc 31 _ = some _ from h)).1
    show decode prog_4_method_9_code pc = _ ∧ _
    have hz := pO_97_0 (pc - 0) (by omega)
    rw [show 0 + (pc - 0) = pc by omega] at hz
    exact pOkI_use hz h
theorem pO_98_0 : ∀ d, d < 38 → pOkI prog_4_method_10_code pI_98 (0 + d) = true := by decide +kernel
theorem pG_98 : pQI 98 := fun pc i len h => by
    have hlt : pc < 38 := (eB1_some (show eB1 pc 38 _ = some _ from h)).1
    show decode prog_4_method_10_code pc = _ ∧ _
    have hz := pO_98_0 (pc - 0) (by omega)
    rw [show 0 + (pc - 0) = pc by omega] at hz
    exact pOkI_use hz h
theorem pO_99_0 : ∀ d, d < 53 → pOkI prog_4_method_11_code pI_99 (0 + d) = true := by decide +kernel
theorem pG_99 : pQI 99 := fun pc i len h => by
    have hlt : pc < 53 := (eB1_some (show eB1 pc 53 _ = some _ from h)).1
    show decode prog_4_method_11_code pc = _ ∧ _
    have hz := pO_99_0 (pc - 0) (by omega)
    rw [show 0 + (pc - 0) = pc by omega] at hz
    exact pOkI_use hz h
theorem pO_100_0 : ∀ d, d < 37 → pOkI prog_5_method_2_code pI_100 (0 + d) = true := by decide +kernel
theorem pG_100 : pQI 100 := fun pc i len h => by
    have hlt : pc < 37 := (eB1_some (show eB1 pc 37 _ = some _ from h)).1
    show decode prog_5_method_2_code pc = _ ∧ _
    have hz := pO_100_0 (pc - 0) (by omega)
    rw [show 0 + (pc - 0) = pc by omega] at hz
    exact pOkI_use hz h
theorem pO_101_0 : ∀ d, d < 12 → pOkI prog_5_method_3_code pI_101 (0 + d) = true := by decide +kernel
theorem pG_101 : pQI 101 := fun pc i len h => by
    have hlt : pc < 12 := (eB1_some (show eB1 pc 12 _ = some _ from h)).1
    show decode prog_5_method_3_code pc = _ ∧ _
    have hz := pO_101_0 (pc - 0) (by omega)
    rw [show 0 + (pc - 0) = pc by omega] at hz
    exact pOkI_use hz h
theorem pO_102_0 : ∀ d, d < 24 → pOkI prog_5_method_4_code pI_102 (0 + d) = true := by decide +kernel
theorem pG_102 : pQI 102 := fun pc i len h => by
    have hlt : pc < 24 := (eB1_some (show eB1 pc 24 _ = some _ from h)).1
    show decode prog_5_method_4_code pc = _ ∧ _
    have hz := pO_102_0 (pc - 0) (by omega)
    rw [show 0 + (pc - 0) = pc by omega] at hz
    exact pOkI_use hz h
theorem pO_103_0 : ∀ d, d < 24 → pOkI prog_5_method_5_code pI_103 (0 + d) = true := by decide +kernel
theorem pG_103 : pQI 103 := fun pc i len h => by
    have hlt : pc < 24 := (eB1_some (show eB1 pc 24 _ = some _ from h)).1
    show decode prog_5_method_5_code pc = _ ∧ _
    have hz := pO_103_0 (pc - 0) (by omega)
    rw [show 0 + (pc - 0) = pc by omega] at hz
    exact pOkI_use hz h
theorem pO_104_0 : ∀ d, d < 40 → pOkI prog_5_method_6_code pI_104 (0 + d) = true := by decide +kernel
theorem pG_104 : pQI 104 := fun pc i len h => by
    have hlt : pc < 40 := (eB1_some (show eB1 pc 40 _ = some _ from h)).1
    show decode prog_5_method_6_code pc = _ ∧ _
    have hz := pO_104_0 (pc - 0) (by omega)
    rw [show 0 + (pc - 0) = pc by omega] at hz
    exact pOkI_use hz h
theorem pO_105_0 : ∀ d, d < 82 → pOkI prog_6_method_1_code pI_105 (0 + d) = true := by decide +kernel
theorem pG_105 : pQI 105 := fun pc i len h => by
    have hlt : pc < 82 := (eB1_some (show eB1 pc 82 _ = some _ from h)).1
    show decode prog_6_method_1_code pc = _ ∧ _
    have hz := pO_105_0 (pc - 0) (by omega)
    rw [show 0 + (pc - 0) = pc by omega] at hz
    exact pOkI_use hz h
theorem pO_106_0 : ∀ d, d < 16 → pOkI prog_6_method_2_code pI_106 (0 + d) = true := by decide +kernel
theorem pG_106 : pQI 106 := fun pc i len h => by
    have hlt : pc < 16 := (eB1_some (show eB1 pc 16 _ = some _ from h)).1
    show decode prog_6_method_2_code pc = _ ∧ _
    have hz := pO_106_0 (pc - 0) (by omega)
    rw [show 0 + (pc - 0) = pc by omega] at hz
    exact pOkI_use hz h
theorem pO_107_0 : ∀ d, d < 150 → pOkI prog_6_method_3_code pI_107 (0 + d) = true := by decide +kernel
theorem pO_107_1 : ∀ d, d < 24 → pOkI prog_6_method_3_code pI_107 (150 + d) = true := by decide +kernel
theorem pG_107 : pQI 107 := fun pc i len h => by
    have hlt : pc < 174 := (eB1_some (show eB1 pc 174 _ = some _ from h)).1
    show decode prog_6_method_3_code pc = _ ∧ _
    by_cases h0 : pc < 150
    · have hz := pO_107_0 (pc - 0) (by omega)
      rw [show 0 + (pc - 0) = pc by omega] at hz
      exact pOkI_use hz h
    have hz := pO_107_1 (pc - 150) (by omega)
    rw [show 150 + (pc - 150) = pc by omega] at hz
    exact pOkI_use hz h
theorem pO_108_0 : ∀ d, d < 67 → pOkI prog_6_method_4_code pI_108 (0 + d) = true := by decide +kernel
theorem pG_108 : pQI 108 := fun pc i len h => by
    have hlt : pc < 67 := (eB1_some (show eB1 pc 67 _ = some _ from h)).1
    show decode prog_6_method_4_code pc = _ ∧ _
    have hz := pO_108_0 (pc - 0) (by omega)
    rw [show 0 + (pc - 0) = pc by omega] at hz
    exact pOkI_use hz h
theorem pO_109_0 : ∀ d, d < 10 → pOkI prog_7_method_1_code pI_109 (0 + d) = true := by decide +kernel
theorem pG_109 : pQI 109 := fun pc i len h => by
    have hlt : pc < 10 := (eB1_some (show eB1 pc 10 _ = some _ from h)).1
    show decode prog_7_method_1_code pc = _ ∧ _
    have hz := pO_109_0 (pc - 0) (by omega)
    rw [show 0 + (pc - 0) = pc by omega] at hz
    exact pOkI_use hz h
theorem pO_110_0 : ∀ d, d < 20 → pOkI prog_7_method_2_code pI_110 (0 + d) = true := by decide +kernel
theorem pG_110 : pQI 110 := fun pc i len h => by
    have hlt : pc < 20 := (eB1_some (show eB1 pc 20 _ = some _ from h)).1
    show decode prog_7_method_2_code pc = _ ∧ _
    have hz := pO_110_0 (pc - 0) (by omega)
    rw [show 0 + (pc - 0) = pc by omega] at hz
    exact pOkI_use hz h
theorem pO_111_0 : ∀ d, d < 72 → pOkI prog_7_method_3_code pI_111 (0 + d) = true := by decide +kernel
theorem pG_111 : pQI 111 := fun pc i len h => by
    have hlt : pc < 72 := (eB1_some (show eB1 pc 72 _ = some _ from h)).1
    show decode prog_7_method_3_code pc = _ ∧ _
    have hz := pO_111_0 (pc - 0) (by omega)
    rw [show 0 + (pc - 0) = pc by omega] at hz
    exact pOkI_use hz h
theorem pO_112_0 : ∀ d, d < 42 → pOkI prog_8_method_1_code pI_112 (0 + d) = true := by decide +kernel
theorem pG_112 : pQI 112 := fun pc i len h => by
    have hlt : pc < 42 := (eB1_some (show eB1 pc 42 _ = some _ from h)).1
    show decode prog_8_method_1_code pc = _ ∧ _
    have hz := pO_112_0 (pc - 0) (by omega)
    rw [show 0 + (pc - 0) = pc by omega] at hz
    exact pOkI_use hz h
theorem pO_113_0 : ∀ d, d < 92 → pOkI prog_8_method_2_code pI_113 (0 + d) = true := by decide +kernel
theorem pG_113 : pQI 113 := fun pc i len h => by
    have hlt : pc < 92 := (eB1_some (show eB1 pc 92 _ = some _ from h)).1
    show decode prog_8_method_2_code pc = _ ∧ _
    have hz := pO_113_0 (pc - 0) (by omega)
    rw [show 0 + (pc - 0) = pc by omega] at hz
    exact pOkI_use hz h
theorem pO_114_0 : ∀ d, d < 14 → pOkI prog_9_method_1_code pI_114 (0 + d) = true := by decide +kernel
theorem pG_114 : pQI 114 := fun pc i len h => by
    have hlt : pc < 14 := (eB1_some (show eB1 pc 14 _ = some _ from h)).1
    show decode prog_9_method_1_code pc = _ ∧ _
    have hz := pO_114_0 (pc - 0) (by omega)
    rw [show 0 + (pc - 0) = pc by omega] at hz
    exact pOkI_use hz h
theorem pO_115_0 : ∀ d, d < 35 → pOkI prog_9_method_2_code pI_115 (0 + d) = true := by decide +kernel
theorem pG_115 : pQI 115 := fun pc i len h => by
    have hlt : pc < 35 := (eB1_some (show eB1 pc 35 _ = some _ from h)).1
    show decode prog_9_method_2_code pc = _ ∧ _
    have hz := pO_115_0 (pc - 0) (by omega)
    rw [show 0 + (pc - 0) = pc by omega] at hz
    exact pOkI_use hz h
theorem pO_116_0 : ∀ d, d < 125 → pOkI prog_9_method_3_code pI_116 (0 + d) = true := by decide +kernel
theorem pG_116 : pQI 116 := fun pc i len h => by
    have hlt : pc < 125 := (eB1_some (show eB1 pc 125 _ = some _ from h)).1
    show decode prog_9_method_3_code pc = _ ∧ _
    have hz := pO_116_0 (pc - 0) (by omega)
    rw [show 0 + (pc - 0) = pc by omega] at hz
    exact pOkI_use hz h
theorem pO_117_0 : ∀ d, d < 31 → pOkI prog_9_method_4_code pI_117 (0 + d) = true := by decide +kernel
theorem pG_117 : pQI 117 := fun pc i len h => by
    have hlt : pc < 31 := (eB1_some (show eB1 pc 31 _ = some _ from h)).1
    show decode prog_9_method_4_code pc = _ ∧ _
    have hz := pO_117_0 (pc - 0) (by omega)
    rw [show 0 + (pc - 0) = pc by omega] at hz
    exact pOkI_use hz h
theorem pO_118_0 : ∀ d, d < 14 → pOkI prog_10_method_1_code pI_118 (0 + d) = true := by decide +kernel
theorem pG_118 : pQI 118 := fun pc i len h => by
    have hlt : pc < 14 := (eB1_some (show eB1 pc 14 _ = some _ from h)).1
    show decode prog_10_method_1_code pc = _ ∧ _
    have hz := pO_118_0 (pc - 0) (by omega)
    rw [show 0 + (pc - 0) = pc by omega] at hz
    exact pOkI_use hz h
theorem pO_119_0 : ∀ d, d < 102 → pOkI prog_10_method_2_code pI_119 (0 + d) = true := by decide +kernel
theorem pG_119 : pQI 119 := fun pc i len h => by
    have hlt : pc < 102 := (eB1_some (show eB1 pc 102 _ = some _ from h)).1
    show decode prog_10_method_2_code pc = _ ∧ _
    have hz := pO_119_0 (pc - 0) (by omega)
    rw [show 0 + (pc - 0) = pc by omega] at hz
    exact pOkI_use hz h
theorem pO_120_0 : ∀ d, d < 122 → pOkI prog_10_method_3_code pI_120 (0 + d) = true := by decide +kernel
theorem pG_120 : pQI 120 := fun pc i len h => by
    have hlt : pc < 122 := (eB1_some (show eB1 pc 122 _ = some _ from h)).1
    show decode prog_10_method_3_code pc = _ ∧ _
    have hz := pO_120_0 (pc - 0) (by omega)
    rw [show 0 + (pc - 0) = pc by omega] at hz
    exact pOkI_use hz h
theorem pO_121_0 : ∀ d, d < 90 → pOkI prog_10_method_4_code pI_121 (0 + d) = true := by decide +kernel
theorem pG_121 : pQI 121 := fun pc i len h => by
    have hlt : pc < 90 := (eB1_some (show eB1 pc 90 _ = some _ from h)).1
    show decode prog_10_method_4_code pc = _ ∧ _
    have hz := pO_121_0 (pc - 0) (by omega)
    rw [show 0 + (pc - 0) = pc by omega] at hz
    exact pOkI_use hz h
theorem pO_122_0 : ∀ d, d < 38 → pOkI prog_10_method_5_code pI_122 (0 + d) = true := by decide +kernel
theorem pG_122 : pQI 122 := fun pc i len h => by
    have hlt : pc < 38 := (eB1_some (show eB1 pc 38 _ = some _ from h)).1
    show decode prog_10_method_5_code pc = _ ∧ _
    have hz := pO_122_0 (pc - 0) (by omega)
    rw [show 0 + (pc - 0) = pc by omega] at hz
    exact pOkI_use hz h
theorem pO_123_0 : ∀ d, d < 59 → pOkI prog_10_method_6_code pI_123 (0 + d) = true := by decide +kernel
theorem pG_123 : pQI 123 := fun pc i len h => by
    have hlt : pc < 59 := (eB1_some (show eB1 pc 59 _ = some _ from h)).1
    show decode prog_10_method_6_code pc = _ ∧ _
    have hz := pO_123_0 (pc - 0) (by omega)
    rw [show 0 + (pc - 0) = pc by omega] at hz
    exact pOkI_use hz h
theorem pO_124_0 : ∀ d, d < 13 → pOkI method_3_code pI_124 (0 + d) = true := by decide +kernel
theorem pG_124 : pQI 124 := fun pc i len h => by
    have hlt : pc < 13 := (eB1_some (show eB1 pc 13 _ = some _ from h)).1
    show decode method_3_code pc = _ ∧ _
    have hz := pO_124_0 (pc - 0) (by omega)
    rw [show 0 + (pc - 0) = pc by omega] at hz
    exact pOkI_use hz h
theorem pO_125_0 : ∀ d, d < 27 → pOkI method_4_code pI_125 (0 + d) = true := by decide +kernel
theorem pG_125 : pQI 125 := fun pc i len h => by
    have hlt : pc < 27 := (eB1_some (show eB1 pc 27 _ = some _ from h)).1
    show decode method_4_code pc = _ ∧ _
    have hz := pO_125_0 (pc - 0) (by omega)
    rw [show 0 + (pc - 0) = pc by omega] at hz
    exact pOkI_use hz h
theorem pO_126_0 : ∀ d, d < 20 → pOkI method_5_code pI_126 (0 + d) = true := by decide +kernel
theorem pG_126 : pQI 126 := fun pc i len h => by
    have hlt : pc < 20 := (eB1_some (show eB1 pc 20 _ = some _ from h)).1
    show decode method_5_code pc = _ ∧ _
    have hz := pO_126_0 (pc - 0) (by omega)
    rw [show 0 + (pc - 0) = pc by omega] at hz
    exact pOkI_use hz h
theorem pO_127_0 : ∀ d, d < 27 → pOkI method_6_code pI_127 (0 + d) = true := by decide +kernel
theorem pG_127 : pQI 127 := fun pc i len h => by
    have hlt : pc < 27 := (eB1_some (show eB1 pc 27 _ = some _ from h)).1
    show decode method_6_code pc = _ ∧ _
    have hz := pO_127_0 (pc - 0) (by omega)
    rw [show 0 + (pc - 0) = pc by omega] at hz
    exact pOkI_use hz h
theorem pO_128_0 : ∀ d, d < 20 → pOkI method_7_code pI_128 (0 + d) = true := by decide +kernel
theorem pG_128 : pQI 128 := fun pc i len h => by
    have hlt : pc < 20 := (eB1_some (show eB1 pc 20 _ = some _ from h)).1
    show decode method_7_code pc = _ ∧ _
    have hz := pO_128_0 (pc - 0) (by omega)
    rw [show 0 + (pc - 0) = pc by omega] at hz
    exact pOkI_use hz h
theorem pO_129_0 : ∀ d, d < 16 → pOkI method_8_code pI_129 (0 + d) = true := by decide +kernel
theorem pG_129 : pQI 129 := fun pc i len h => by
    have hlt : pc < 16 := (eB1_some (show eB1 pc 16 _ = some _ from h)).1
    show decode method_8_code pc = _ ∧ _
    have hz := pO_129_0 (pc - 0) (by omega)
    rw [show 0 + (pc - 0) = pc by omega] at hz
    exact pOkI_use hz h
theorem pO_130_0 : ∀ d, d < 20 → pOkI method_9_code pI_130 (0 + d) = true := by decide +kernel
theorem pG_130 : pQI 130 := fun pc i len h => by
    have hlt : pc < 20 := (eB1_some (show eB1 pc 20 _ = some _ from h)).1
    show decode method_9_code pc = _ ∧ _
    have hz := pO_130_0 (pc - 0) (by omega)
    rw [show 0 + (pc - 0) = pc by omega] at hz
    exact pOkI_use hz h
theorem pO_131_0 : ∀ d, d < 16 → pOkI method_10_code pI_131 (0 + d) = true := by decide +kernel
theorem pG_131 : pQI 131 := fun pc i len h => by
    have hlt : pc < 16 := (eB1_some (show eB1 pc 16 _ = some _ from h)).1
    show decode method_10_code pc = _ ∧ _
    have hz := pO_131_0 (pc - 0) (by omega)
    rw [show 0 + (pc - 0) = pc by omega] at hz
    exact pOkI_use hz h
theorem pO_132_0 : ∀ d, d < 19 → pOkI method_11_code pI_132 (0 + d) = true := by decide +kernel
theorem pG_132 : pQI 132 := fun pc i len h => by
    have hlt : pc < 19 := (eB1_some (show eB1 pc 19 _ = some _ from h)).1
    show decode method_11_code pc = _ ∧ _
    have hz := pO_132_0 (pc - 0) (by omega)
    rw [show 0 + (pc - 0) = pc by omega] at hz
    exact pOkI_use hz h
theorem pO_133_0 : ∀ d, d < 17 → pOkI method_12_code pI_133 (0 + d) = true := by decide +kernel
theorem pG_133 : pQI 133 := fun pc i len h => by
    have hlt : pc < 17 := (eB1_some (show eB1 pc 17 _ = some _ from h)).1
    show decode method_12_code pc = _ ∧ _
    have hz := pO_133_0 (pc - 0) (by omega)
    rw [show 0 + (pc - 0) = pc by omega] at hz
    exact pOkI_use hz h
theorem pO_134_0 : ∀ d, d < 23 → pOkI method_13_code pI_134 (0 + d) = true := by decide +kernel
theorem pG_134 : pQI 134 := fun pc i len h => by
    have hlt : pc < 23 := (eB1_some (show eB1 pc 23 _ = some _ from h)).1
    show decode method_13_code pc = _ ∧ _
    have hz := pO_134_0 (pc - 0) (by omega)
    rw [show 0 + (pc - 0) = pc by omega] at hz
    exact pOkI_use hz h
theorem pO_135_0 : ∀ d, d < 17 → pOkI method_14_code pI_135 (0 + d) = true := by decide +kernel
theorem pG_135 : pQI 135 := fun pc i len h => by
    have hlt : pc < 17 := (eB1_some (show eB1 pc 17 _ = some _ from h)).1
    show decode method_14_code pc = _ ∧ _
    have hz := pO_135_0 (pc - 0) (by omega)
    rw [show 0 + (pc - 0) = pc by omega] at hz
    exact pOkI_use hz h
theorem pO_136_0 : ∀ d, d < 17 → pOkI method_15_code pI_136 (0 + d) = true := by decide +kernel
theorem pG_136 : pQI 136 := fun pc i len h => by
    have hlt : pc < 17 := (eB1_some (show eB1 pc 17 _ = some _ from h)).1
    show decode method_15_code pc = _ ∧ _
    have hz := pO_136_0 (pc - 0) (by omega)
    rw [show 0 + (pc - 0) = pc by omega] at hz
    exact pOkI_use hz h
theorem pO_137_0 : ∀ d, d < 25 → pOkI method_16_code pI_137 (0 + d) = true := by decide +kernel
theorem pG_137 : pQI 137 := fun pc i len h => by
    have hlt : pc < 25 := (eB1_some (show eB1 pc 25 _ = some _ from h)).1
    show decode method_16_code pc = _ ∧ _
    have hz := pO_137_0 (pc - 0) (by omega)
    rw [show 0 + (pc - 0) = pc by omega] at hz
    exact pOkI_use hz h
theorem pO_138_0 : ∀ d, d < 13 → pOkI method_17_code pI_138 (0 + d) = true := by decide +kernel
theorem pG_138 : pQI 138 := fun pc i len h => by
    have hlt : pc < 13 := (eB1_some (show eB1 pc 13 _ = some _ from h)).1
    show decode method_17_code pc = _ ∧ _
    have hz := pO_138_0 (pc - 0) (by omega)
    rw [show 0 + (pc - 0) = pc by omega] at hz
    exact pOkI_use hz h
theorem pO_139_0 : ∀ d, d < 150 → pOkI code pI_139 (0 + d) = true := by decide +kernel
theorem pO_139_1 : ∀ d, d < 150 → pOkI code pI_139 (150 + d) = true := by decide +kernel
theorem pO_139_2 : ∀ d, d < 150 → pOkI code pI_139 (300 + d) = true := by decide +kernel
theorem pO_139_3 : ∀ d, d < 150 → pOkI code pI_139 (450 + d) = true := by decide +kernel
theorem pO_139_4 : ∀ d, d < 150 → pOkI code pI_139 (600 + d) = true := by decide +kernel
theorem pO_139_5 : ∀ d, d < 150 → pOkI code pI_139 (750 + d) = true := by decide +kernel
theorem pO_139_6 : ∀ d, d < 130 → pOkI code pI_139 (900 + d) = true := by decide +kernel
theorem pG_139 : pQI 139 := fun pc i len h => by
    have hlt : pc < 1030 := (eB1_some (show eB1 pc 1030 _ = some _ from h)).1
    show decode code pc = _ ∧ _
    by_cases h0 : pc < 150
    · have hz := pO_139_0 (pc - 0) (by omega)
      rw [show 0 + (pc - 0) = pc by omega] at hz
      exact pOkI_use hz h
    by_cases h1 : pc < 300
    · have hz := pO_139_1 (pc - 150) (by omega)
      rw [show 150 + (pc - 150) = pc by omega] at hz
      exact pOkI_use hz h
    by_cases h2 : pc < 450
    · have hz := pO_139_2 (pc - 300) (by omega)
      rw [show 300 + (pc - 300) = pc by omega] at hz
      exact pOkI_use hz h
    by_cases h3 : pc < 600
    · have hz := pO_139_3 (pc - 450) (by omega)
      rw [show 450 + (pc - 450) = pc by omega] at hz
      exact pOkI_use hz h
    by_cases h4 : pc < 750
    · have hz := pO_139_4 (pc - 600) (by omega)
      rw [show 600 + (pc - 600) = pc by omega] at hz
      exact pOkI_use hz h
    by_cases h5 : pc < 900
    · have hz := pO_139_5 (pc - 750) (by omega)
      rw [show 750 + (pc - 750) = pc by omega] at hz
      exact pOkI_use hz h
    have hz := pO_139_6 (pc - 900) (by omega)
    rw [show 900 + (pc - 900) = pc by omega] at hz
    exact pOkI_use hz h
theorem pGR_0 : ∀ k ∈ [0, 1, 2, 3, 4, 5, 6, 7, 8, 9, 10, 11, 12, 13, 14, 15, 16, 17, 18, 19, 20, 21, 22, 23, 24, 25, 26, 27, 28, 29, 30, 31, 32, 33, 34], pQI k := List.forall_mem_cons.mpr ⟨pG_0, List.forall_mem_cons.mpr ⟨pG_1, List.forall_mem_cons.mpr ⟨pG_2, List.forall_mem_cons.mpr ⟨pG_3, List.forall_mem_cons.mpr ⟨pG_4, List.forall_mem_cons.mpr ⟨pG_5, List.forall_mem_cons.mpr ⟨pG_6, List.forall_mem_cons.mpr ⟨pG_7, List.forall_mem_cons.mpr ⟨pG_8, List.forall_mem_cons.mpr ⟨pG_9, List.forall_mem_cons.mpr ⟨pG_10, List.forall_mem_cons.mpr ⟨pG_11, List.forall_mem_cons.mpr ⟨pG_12, List.forall_mem_cons.mpr ⟨pG_13, List.forall_mem_cons.mpr ⟨pG_14, List.forall_mem_cons.mpr ⟨pG_15, List.forall_mem_cons.mpr ⟨pG_16, List.forall_mem_cons.mpr ⟨pG_17, List.forall_mem_cons.mpr ⟨pG_18, List.forall_mem_cons.mpr ⟨pG_19, List.forall_mem_cons.mpr ⟨pG_20, List.forall_mem_cons.mpr ⟨pG_21, List.forall_mem_cons.mpr ⟨pG_22, List.forall_mem_cons.mpr ⟨pG_23, List.forall_mem_cons.mpr ⟨pG_24, List.forall_mem_cons.mpr ⟨pG_25, List.forall_mem_cons.mpr ⟨pG_26, List.forall_mem_cons.mpr ⟨pG_27, List.forall_mem_cons.mpr ⟨pG_28, List.forall_mem_cons.mpr ⟨pG_29, List.forall_mem_cons.mpr ⟨pG_30, List.forall_mem_cons.mpr ⟨pG_31, List.forall_mem_cons.mpr ⟨pG_32, List.forall_mem_cons.mpr ⟨pG_33, List.forall_mem_cons.mpr ⟨pG_34, fun _ h => absurd h List.not_mem_nil⟩⟩⟩⟩⟩⟩⟩⟩⟩⟩⟩⟩⟩⟩⟩⟩⟩⟩⟩⟩⟩⟩⟩⟩⟩⟩⟩⟩⟩⟩⟩⟩⟩⟩⟩
theorem pGR_1 : ∀ k ∈ [35, 36, 37, 38, 39, 40, 41, 42, 43, 44, 45, 46, 47, 48, 49, 50, 51, 52, 53, 54, 55, 56, 57, 58, 59, 60, 61, 62, 63, 64, 65, 66, 67, 68, 69], pQI k := List.forall_mem_cons.mpr ⟨pG_35, List.forall_mem_cons.mpr ⟨pG_36, List.forall_mem_cons.mpr ⟨pG_37, List.forall_mem_cons.mpr ⟨pG_38, List.forall_mem_cons.mpr ⟨pG_39, List.forall_mem_cons.mpr ⟨pG_40, List.forall_mem_cons.mpr ⟨pG_41, List.forall_mem_cons.mpr ⟨pG_42, List.forall_mem_cons.mpr ⟨pG_43, List.forall_mem_cons.mpr ⟨pG_44, List.forall_mem_cons.mpr ⟨pG_45, List.forall_mem_cons.mpr ⟨pG_46, List.forall_mem_cons.mpr ⟨pG_47, List.forall_mem_cons.mpr ⟨pG_48, List.forall_mem_cons.mpr ⟨pG_49, List.forall_mem_cons.mpr ⟨pG_50, List.forall_mem_cons.mpr ⟨pG_51, List.forall_mem_cons.mpr ⟨pG_52, List.forall_mem_cons.mpr ⟨pG_53, List.forall_mem_cons.mpr ⟨pG_54, List.forall_mem_cons.mpr ⟨pG_55, List.forall_mem_cons.mpr ⟨pG_56, List.forall_mem_cons.mpr ⟨pG_57, List.forall_mem_cons.mpr ⟨pG_58, List.forall_mem_cons.mpr ⟨pG_59, List.forall_mem_cons.mpr ⟨pG_60, List.forall_mem_cons.mpr ⟨pG_61, List.forall_mem_cons.mpr ⟨pG_62, List.forall_mem_cons.mpr ⟨pG_63, List.forall_mem_cons.mpr ⟨pG_64, List.forall_mem_cons.mpr ⟨pG_65, List.forall_mem_cons.mpr ⟨pG_66, List.forall_mem_cons.mpr ⟨pG_67, List.forall_mem_cons.mpr ⟨pG_68, List.forall_mem_cons.mpr ⟨pG_69, fun _ h => absurd h List.not_mem_nil⟩⟩⟩⟩⟩⟩⟩⟩⟩⟩⟩⟩⟩⟩⟩⟩⟩⟩⟩⟩⟩⟩⟩⟩⟩⟩⟩⟩⟩⟩⟩⟩⟩⟩⟩
theorem pGR_2 : ∀ k ∈ [70, 71, 72, 73, 74, 75, 76, 77, 78, 79, 80, 81, 82, 83, 84, 85, 86, 87, 88, 89, 90, 91, 92, 93, 94, 95, 96, 97, 98, 99, 100, 101, 102, 103, 104], pQI k := List.forall_mem_cons.mpr ⟨pG_70, List.forall_mem_cons.mpr ⟨pG_71, List.forall_mem_cons.mpr ⟨pG_72, List.forall_mem_cons.mpr ⟨pG_73, List.forall_mem_cons.mpr ⟨pG_74, List.forall_mem_cons.mpr ⟨pG_75, List.forall_mem_cons.mpr ⟨pG_76, List.forall_mem_cons.mpr ⟨pG_77, List.forall_mem_cons.mpr ⟨pG_78, List.forall_mem_cons.mpr ⟨pG_79, List.forall_mem_cons.mpr ⟨pG_80, List.forall_mem_cons.mpr ⟨pG_81, List.forall_mem_cons.mpr ⟨pG_82, List.forall_mem_cons.mpr ⟨pG_83, List.forall_mem_cons.mpr ⟨pG_84, List.forall_mem_cons.mpr ⟨pG_85, List.forall_mem_cons.mpr ⟨pG_86, List.forall_mem_cons.mpr ⟨pG_87, List.forall_mem_cons.mpr ⟨pG_88, List.forall_mem_cons.mpr ⟨pG_89, List.forall_mem_cons.mpr ⟨pG_90, List.forall_mem_cons.mpr ⟨pG_91, List.forall_mem_cons.mpr ⟨pG_92, List.forall_mem_cons.mpr ⟨pG_93, List.forall_mem_cons.mpr ⟨pG_94, List.forall_mem_cons.mpr ⟨pG_95, List.forall_mem_cons.mpr ⟨pG_96, List.forall_mem_cons.mpr ⟨pG_97, List.forall_mem_cons.mpr ⟨pG_98, List.forall_mem_cons.mpr ⟨pG_99, List.forall_mem_cons.mpr ⟨pG_100, List.forall_mem_cons.mpr ⟨pG_101, List.forall_mem_cons.mpr ⟨pG_102, List.forall_mem_cons.mpr ⟨pG_103, List.forall_mem_cons.mpr ⟨pG_104, fun _ h => absurd h List.not_mem_nil⟩⟩⟩⟩⟩⟩⟩⟩⟩⟩⟩⟩⟩⟩⟩⟩⟩⟩⟩⟩⟩⟩⟩⟩⟩⟩⟩⟩⟩⟩⟩⟩⟩⟩⟩
theorem pGR_3 : ∀ k ∈ [105, 106, 107, 108, 109, 110, 111, 112, 113, 114, 115, 116, 117, 118, 119, 120, 121, 122, 123, 124, 125, 126, 127, 128, 129, 130, 131, 132, 133, 134, 135, 136, 137, 138, 139], pQI k := List.forall_mem_cons.mpr ⟨pG_105, List.forall_mem_cons.mpr ⟨pG_106, List.forall_mem_cons.mpr ⟨pG_107, List.forall_mem_cons.mpr ⟨pG_108, List.forall_mem_cons.mpr ⟨pG_109, List.forall_mem_cons.mpr ⟨pG_110, List.forall_mem_cons.mpr ⟨pG_111, List.forall_mem_cons.mpr ⟨pG_112, List.forall_mem_cons.mpr ⟨pG_113, List.forall_mem_cons.mpr ⟨pG_114, List.forall_mem_cons.mpr ⟨pG_115, List.forall_mem_cons.mpr ⟨pG_116, List.forall_mem_cons.mpr ⟨pG_117, List.forall_mem_cons.mpr ⟨pG_118, List.forall_mem_cons.mpr ⟨pG_119, List.forall_mem_cons.mpr ⟨pG_120, List.forall_mem_cons.mpr ⟨pG_121, List.forall_mem_cons.mpr ⟨pG_122, List.forall_mem_cons.mpr ⟨pG_123, List.forall_mem_cons.mpr ⟨pG_124, List.forall_mem_cons.mpr ⟨pG_125, List.forall_mem_cons.mpr ⟨pG_126, List.forall_mem_cons.mpr ⟨pG_127, List.forall_mem_cons.mpr ⟨pG_128, List.forall_mem_cons.mpr ⟨pG_129, List.forall_mem_cons.mpr ⟨pG_130, List.forall_mem_cons.mpr ⟨pG_131, List.forall_mem_cons.mpr ⟨pG_132, List.forall_mem_cons.mpr ⟨pG_133, List.forall_mem_cons.mpr ⟨pG_134, List.forall_mem_cons.mpr ⟨pG_135, List.forall_mem_cons.mpr ⟨pG_136, List.forall_mem_cons.mpr ⟨pG_137, List.forall_mem_cons.mpr ⟨pG_138, List.forall_mem_cons.mpr ⟨pG_139, fun _ h => absurd h List.not_mem_nil⟩⟩⟩⟩⟩⟩⟩⟩⟩⟩⟩⟩⟩⟩⟩⟩⟩⟩⟩⟩⟩⟩⟩⟩⟩⟩⟩⟩⟩⟩⟩⟩⟩⟩⟩
def pKs : List Nat := [0, 1, 2, 3, 4, 5, 6, 7, 8, 9, 10, 11, 12, 13, 14, 15, 16, 17, 18, 19, 20, 21, 22, 23, 24, 25, 26, 27, 28, 29, 30, 31, 32, 33, 34] ++ ([35, 36, 37, 38, 39, 40, 41, 42, 43, 44, 45, 46, 47, 48, 49, 50, 51, 52, 53, 54, 55, 56, 57, 58, 59, 60, 61, 62, 63, 64, 65, 66, 67, 68, 69] ++ ([70, 71, 72, 73, 74, 75, 76, 77, 78, 79, 80, 81, 82, 83, 84, 85, 86, 87, 88, 89, 90, 91, 92, 93, 94, 95, 96, 97, 98, 99, 100, 101, 102, 103, 104] ++ ([105, 106, 107, 108, 109, 110, 111, 112, 113, 114, 115, 116, 117, 118, 119, 120, 121, 122, 123, 124, 125, 126, 127, 128, 129, 130, 131, 132, 133, 134, 135, 136, 137, 138, 139])))
theorem pKs_in : ∀ k, k < 140 → k ∈ pKs := by decide +kernel
theorem pG_all : ∀ k ∈ pKs, pQI k := by
  show ∀ k ∈ [0, 1, 2, 3, 4, 5, 6, 7, 8, 9, 10, 11, 12, 13, 14, 15, 16, 17, 18, 19, 20, 21, 22, 23, 24, 25, 26, 27, 28, 29, 30, 31, 32, 33, 34] ++ ([35, 36, 37, 38, 39, 40, 41, 42, 43, 44, 45, 46, 47, 48, 49, 50, 51, 52, 53, 54, 55, 56, 57, 58, 59, 60, 61, 62, 63, 64, 65, 66, 67, 68, 69] ++ ([70, 71, 72, 73, 74, 75, 76, 77, 78, 79, 80, 81, 82, 83, 84, 85, 86, 87, 88, 89, 90, 91, 92, 93, 94, 95, 96, 97, 98, 99, 100, 101, 102, 103, 104] ++ ([105, 106, 107, 108, 109, 110, 111, 112, 113, 114, 115, 116, 117, 118, 119, 120, 121, 122, 123, 124, 125, 126, 127, 128, 129, 130, 131, 132, 133, 134, 135, 136, 137, 138, 139]))), pQI k
  exact List.forall_mem_append.mpr ⟨pGR_0, List.forall_mem_append.mpr ⟨pGR_1, List.forall_mem_append.mpr ⟨pGR_2, pGR_3⟩⟩⟩
theorem pg_ins : gIns pP pN := fun k pc i len h => pG_all k (pKs_in k (eB1_some (show eB1 k 140 _ = some _ from h)).1) pc i len h

def SM (H : eH) (A : qA) (code : Int32) : Prop := ∃ (rules : Int32) (ml : Nat → Int32) (me : Nat → Int32) (mh : Nat → Int32) (mo : Nat → Int32) (mi : Nat → Int32) (mt : Nat → Int32) (ma : Nat → Int32) (mx : Nat → Int32) (cells : Nat → Int32) (found : Int32) (more : Int32) (rest : Nat → Int32) (uses : Nat → Int32) (acted : Int32) (list : Nat → Int32) (listed : Int32) (begins : Nat → Int32) (many : Nat → Int32) (digits : Nat → Int32) (chosen : Nat → Int32) (length : Int32) (wanted : Int32) (letter : Int32) (opn : Nat → Int32), H.1 356 = some (.inr (1, [.int code, .int rules, .ref 357, .ref 358, .ref 359, .ref 360, .ref 361, .ref 362, .ref 363, .ref 364, .ref 365, .int found, .int more, .ref 366, .ref 367, .int acted, .ref 368, .int listed, .ref 369, .ref 370, .ref 371, .ref 372, .int length, .int wanted, .int letter, .ref 373])) ∧ H.1 357 = some (.inl (0, 6, .inl ml)) ∧ H.1 358 = some (.inl (0, 6, .inl me)) ∧ H.1 359 = some (.inl (0, 6, .inl mh)) ∧ H.1 360 = some (.inl (0, 6, .inl mo)) ∧ H.1 361 = some (.inl (0, 6, .inl mi)) ∧ H.1 362 = some (.inl (0, 6, .inl mt)) ∧ H.1 363 = some (.inl (0, 6, .inl ma)) ∧ H.1 364 = some (.inl (0, 6, .inl mx)) ∧ H.1 365 = some (.inl (0, 3854, .inl cells)) ∧ H.1 366 = some (.inl (0, 5, .inl rest)) ∧ H.1 367 = some (.inl (0, 6, .inl uses)) ∧ H.1 368 = some (.inl (0, 1100, .inl list)) ∧ H.1 369 = some (.inl (0, 6, .inl begins)) ∧ H.1 370 = some (.inl (0, 6, .inl many)) ∧ H.1 371 = some (.inl (0, 6, .inl digits)) ∧ H.1 372 = some (.inl (0, 6, .inl chosen)) ∧ H.1 373 = some (.inl (0, 8, .inl opn)) ∧ RM A rules ml me mh mo mi mt ma mx cells found
theorem SM_fr {H H' : eH} {A : qA} {code : Int32} (h : SM H A code) (g : ag H H' 356 374) : SM H' A code := by
  obtain ⟨rules, ml, me, mh, mo, mi, mt, ma, mx, cells, found, more, rest, uses, acted, list, listed, begins, many, digits, chosen, length, wanted, letter, opn, c356, c357, c358, c359, c360, c361, c362, c363, c364, c365, c366, c367, c368, c369, c370, c371, c372, c373, hR⟩ := h
  exact ⟨rules, ml, me, mh, mo, mi, mt, ma, mx, cells, found, more, rest, uses, acted, list, listed, begins, many, digits, chosen, length, wanted, letter, opn, (g 356 (by omega) (by omega)).trans c356, (g 357 (by omega) (by omega)).trans c357, (g 358 (by omega) (by omega)).trans c358, (g 359 (by omega) (by omega)).trans c359, (g 360 (by omega) (by omega)).trans c360, (g 361 (by omega) (by omega)).trans c361, (g 362 (by omega) (by omega)).trans c362, (g 363 (by omega) (by omega)).trans c363, (g 364 (by omega) (by omega)).trans c364, (g 365 (by omega) (by omega)).trans c365, (g 366 (by omega) (by omega)).trans c366, (g 367 (by omega) (by omega)).trans c367, (g 368 (by omega) (by omega)).trans c368, (g 369 (by omega) (by omega)).trans c369, (g 370 (by omega) (by omega)).trans c370, (g 371 (by omega) (by omega)).trans c371, (g 372 (by omega) (by omega)).trans c372, (g 373 (by omega) (by omega)).trans c373, hR⟩
theorem m_thrown {X : Nat × (Nat → Int32)} {H : eH} {A : qA} {code : Int32} (h : SM H A code) : eEv pP X 40 27 [.ref 356] H (.inl (some (.int code)), H) := by
  obtain ⟨rules, ml, me, mh, mo, mi, mt, ma, mx, cells, found, more, rest, uses, acted, list, listed, begins, many, digits, chosen, length, wanted, letter, opn, c356, c357, c358, c359, c360, c361, c362, c363, c364, c365, c366, c367, c368, c369, c370, c371, c372, c373, hR⟩ := h
  exact (T_M_thrown (X := X) (n := 5) (hc_m := c356) rfl).mono (by decide)
theorem m_clear {X : Nat × (Nat → Int32)} {H : eH} {A : qA} {code : Int32} (h : SM H A code) (hA : AI A) (l : Int32) : ∃ H', eEv pP X 40 39 [.ref 356, .int l] H (.inl (none), H') ∧ SM H' ((s_clear A l).2.2) (nI (s_clear A l).1) ∧ H'.2 = H.2 ∧ ∀ a, ¬ (356 ≤ a ∧ a < 374) → H'.1 a = H.1 a := by
  obtain ⟨rules, ml, me, mh, mo, mi, mt, ma, mx, cells, found, more, rest, uses, acted, list, listed, begins, many, digits, chosen, length, wanted, letter, opn, c356, c357, c358, c359, c360, c361, c362, c363, c364, c365, c366, c367, c368, c369, c370, c371, c372, c373, hR⟩ := h
  obtain ⟨rules', cells', found', e1, e2⟩ := r_clear hR l code (n := 100) (by omega)
  have ev := T_M_clear (X := X) (hc_m := c356) (hc_m9cells := c365) e1
  dsimp only at ev
  exact ⟨_, ev.mono (by decide), ⟨rules', ml, me, mh, mo, mi, mt, ma, mx, cells', found', more, rest, uses, acted, list, listed, begins, many, digits, chosen, length, wanted, letter, opn, rfl, c357, c358, c359, c360, c361, c362, c363, c364, rfl, c366, c367, c368, c369, c370, c371, c372, c373, e2⟩, rfl, fun a ha => eW2_offA (A := [356, 365]) (fun z => by
    simp only [List.mem_cons, List.not_mem_nil, or_false] at z
    omega) rfl⟩
theorem m_membrane {X : Nat × (Nat → Int32)} {H : eH} {A : qA} {code : Int32} (h : SM H A code) (hA : AI A) (p l : Int32) : ∃ H', eEv pP X 40 40 [.ref 356, .int p, .int l] H (.inl (some (.int (s_membrane A p l).2.1)), H') ∧ SM H' ((s_membrane A p l).2.2) (nI (s_membrane A p l).1) ∧ H'.2 = H.2 ∧ ∀ a, ¬ (356 ≤ a ∧ a < 374) → H'.1 a = H.1 a := by
  obtain ⟨rules, ml, me, mh, mo, mi, mt, ma, mx, cells, found, more, rest, uses, acted, list, listed, begins, many, digits, chosen, length, wanted, letter, opn, c356, c357, c358, c359, c360, c361, c362, c363, c364, c365, c366, c367, c368, c369, c370, c371, c372, c373, hR⟩ := h
  obtain ⟨cells', e1, e2⟩ := r_membrane hA hR p l code (n := 100) (by omega)
  have ev := T_M_membrane (X := X) (hc_m := c356) (hc_m9cells := c365) e1
  dsimp only at ev
  exact ⟨_, ev.mono (by decide), ⟨rules, ml, me, mh, mo, mi, mt, ma, mx, cells', found, more, rest, uses, acted, list, listed, begins, many, digits, chosen, length, wanted, letter, opn, rfl, c357, c358, c359, c360, c361, c362, c363, c364, rfl, c366, c367, c368, c369, c370, c371, c372, c373, e2⟩, rfl, fun a ha => eW2_offA (A := [356, 365]) (fun z => by
    simp only [List.mem_cons, List.not_mem_nil, or_false] at z
    omega) rfl⟩
theorem m_put {X : Nat × (Nat → Int32)} {H : eH} {A : qA} {code : Int32} (h : SM H A code) (hA : AI A) (p hh : Int32) : ∃ H', eEv pP X 40 42 [.ref 356, .int p, .int hh] H (.inl (none), H') ∧ SM H' ((s_put A p hh).2.2) (nI (s_put A p hh).1) ∧ H'.2 = H.2 ∧ ∀ a, ¬ (356 ≤ a ∧ a < 374) → H'.1 a = H.1 a := by
  obtain ⟨rules, ml, me, mh, mo, mi, mt, ma, mx, cells, found, more, rest, uses, acted, list, listed, begins, many, digits, chosen, length, wanted, letter, opn, c356, c357, c358, c359, c360, c361, c362, c363, c364, c365, c366, c367, c368, c369, c370, c371, c372, c373, hR⟩ := h
  obtain ⟨cells', e1, e2⟩ := r_put hA hR p hh (n := 100) (by omega)
  have ev := T_M_put (X := X) (hc_m := c356) (hc_m9cells := c365) e1
  dsimp only at ev
  exact ⟨_, ev.mono (by decide), ⟨rules, ml, me, mh, mo, mi, mt, ma, mx, cells', found, more, rest, uses, acted, list, listed, begins, many, digits, chosen, length, wanted, letter, opn, rfl, c357, c358, c359, c360, c361, c362, c363, c364, rfl, c366, c367, c368, c369, c370, c371, c372, c373, e2⟩, rfl, fun a ha => eW2_offA (A := [356, 365]) (fun z => by
    simp only [List.mem_cons, List.not_mem_nil, or_false] at z
    omega) rfl⟩
theorem m_rule {X : Nat × (Nat → Int32)} {H : eH} {A : qA} {code : Int32} (h : SM H A code) (hA : AI A) (l a b c : Int32) : ∃ H', eEv pP X 40 43 [.ref 356, .int l, .int a, .int b, .int c] H (.inl (some (.int (s_rule A l a b c).2.1)), H') ∧ SM H' ((s_rule A l a b c).2.2) (nI (s_rule A l a b c).1) ∧ H'.2 = H.2 ∧ ∀ a, ¬ (356 ≤ a ∧ a < 374) → H'.1 a = H.1 a := by
  obtain ⟨rules, ml, me, mh, mo, mi, mt, ma, mx, cells, found, more, rest, uses, acted, list, listed, begins, many, digits, chosen, length, wanted, letter, opn, c356, c357, c358, c359, c360, c361, c362, c363, c364, c365, c366, c367, c368, c369, c370, c371, c372, c373, hR⟩ := h
  obtain ⟨rules', ml', me', mh', mo', mi', ma', e1, e2⟩ := r_rule hA hR l a b c code 100
  have ev := T_M_rule (X := X) (hc_m := c356) (hc_m9labels := c357) (hc_m9lefts := c358) (hc_m9heres := c359) (hc_m9outs := c360) (hc_m9intos := c361) (hc_m9acts := c363) e1
  dsimp only at ev
  exact ⟨_, ev.mono (by decide), ⟨rules', ml', me', mh', mo', mi', mt, ma', mx, cells, found, more, rest, uses, acted, list, listed, begins, many, digits, chosen, length, wanted, letter, opn, rfl, rfl, rfl, rfl, rfl, rfl, c362, rfl, c364, c365, c366, c367, c368, c369, c370, c371, c372, c373, e2⟩, rfl, fun a ha => eW2_offA (A := [356, 357, 358, 359, 360, 361, 363]) (fun z => by
    simp only [List.mem_cons, List.not_mem_nil, or_false] at z
    omega) rfl⟩
theorem m_into {X : Nat × (Nat → Int32)} {H : eH} {A : qA} {code : Int32} (h : SM H A code) (hA : AI A) (r l hh : Int32) : ∃ H', eEv pP X 40 45 [.ref 356, .int r, .int l, .int hh] H (.inl (none), H') ∧ SM H' ((s_into A r l hh).2.2) (nI (s_into A r l hh).1) ∧ H'.2 = H.2 ∧ ∀ a, ¬ (356 ≤ a ∧ a < 374) → H'.1 a = H.1 a := by
  obtain ⟨rules, ml, me, mh, mo, mi, mt, ma, mx, cells, found, more, rest, uses, acted, list, listed, begins, many, digits, chosen, length, wanted, letter, opn, c356, c357, c358, c359, c360, c361, c362, c363, c364, c365, c366, c367, c368, c369, c370, c371, c372, c373, hR⟩ := h
  obtain ⟨mi', mt', e1, e2⟩ := r_into hA hR r l hh code 100
  have ev := T_M_into (X := X) (hc_m := c356) (hc_m9intos := c361) (hc_m9targets := c362) e1
  dsimp only at ev
  exact ⟨_, ev.mono (by decide), ⟨rules, ml, me, mh, mo, mi', mt', ma, mx, cells, found, more, rest, uses, acted, list, listed, begins, many, digits, chosen, length, wanted, letter, opn, rfl, c357, c358, c359, c360, rfl, rfl, c363, c364, c365, c366, c367, c368, c369, c370, c371, c372, c373, e2⟩, rfl, fun a ha => eW2_offA (A := [356, 361, 362]) (fun z => by
    simp only [List.mem_cons, List.not_mem_nil, or_false] at z
    omega) rfl⟩
theorem m_dissolve {X : Nat × (Nat → Int32)} {H : eH} {A : qA} {code : Int32} (h : SM H A code) (hA : AI A) (r : Int32) : ∃ H', eEv pP X 40 46 [.ref 356, .int r] H (.inl (none), H') ∧ SM H' ((s_dissolve A r).2.2) (nI (s_dissolve A r).1) ∧ H'.2 = H.2 ∧ ∀ a, ¬ (356 ≤ a ∧ a < 374) → H'.1 a = H.1 a := by
  obtain ⟨rules, ml, me, mh, mo, mi, mt, ma, mx, cells, found, more, rest, uses, acted, list, listed, begins, many, digits, chosen, length, wanted, letter, opn, c356, c357, c358, c359, c360, c361, c362, c363, c364, c365, c366, c367, c368, c369, c370, c371, c372, c373, hR⟩ := h
  obtain ⟨ma', e1, e2⟩ := r_dissolve hA hR r code 100
  have ev := T_M_dissolve (X := X) (hc_m := c356) (hc_m9acts := c363) e1
  dsimp only at ev
  exact ⟨_, ev.mono (by decide), ⟨rules, ml, me, mh, mo, mi, mt, ma', mx, cells, found, more, rest, uses, acted, list, listed, begins, many, digits, chosen, length, wanted, letter, opn, rfl, c357, c358, c359, c360, c361, c362, rfl, c364, c365, c366, c367, c368, c369, c370, c371, c372, c373, e2⟩, rfl, fun a ha => eW2_offA (A := [356, 363]) (fun z => by
    simp only [List.mem_cons, List.not_mem_nil, or_false] at z
    omega) rfl⟩
theorem m_divide {X : Nat × (Nat → Int32)} {H : eH} {A : qA} {code : Int32} (h : SM H A code) (hA : AI A) (r o : Int32) : ∃ H', eEv pP X 40 47 [.ref 356, .int r, .int o] H (.inl (none), H') ∧ SM H' ((s_divide A r o).2.2) (nI (s_divide A r o).1) ∧ H'.2 = H.2 ∧ ∀ a, ¬ (356 ≤ a ∧ a < 374) → H'.1 a = H.1 a := by
  obtain ⟨rules, ml, me, mh, mo, mi, mt, ma, mx, cells, found, more, rest, uses, acted, list, listed, begins, many, digits, chosen, length, wanted, letter, opn, c356, c357, c358, c359, c360, c361, c362, c363, c364, c365, c366, c367, c368, c369, c370, c371, c372, c373, hR⟩ := h
  obtain ⟨ma', mx', e1, e2⟩ := r_divide hA hR r o code 100
  have ev := T_M_divide (X := X) (hc_m := c356) (hc_m9acts := c363) (hc_m9others := c364) e1
  dsimp only at ev
  exact ⟨_, ev.mono (by decide), ⟨rules, ml, me, mh, mo, mi, mt, ma', mx', cells, found, more, rest, uses, acted, list, listed, begins, many, digits, chosen, length, wanted, letter, opn, rfl, c357, c358, c359, c360, c361, c362, rfl, rfl, c365, c366, c367, c368, c369, c370, c371, c372, c373, e2⟩, rfl, fun a ha => eW2_offA (A := [356, 363, 364]) (fun z => by
    simp only [List.mem_cons, List.not_mem_nil, or_false] at z
    omega) rfl⟩
theorem m_round {X : Nat × (Nat → Int32)} {H : eH} {A : qA} {code : Int32} (h : SM H A code) (hA : AI A) : ∃ H', eEv pP X 40 61 [.ref 356] H (.inl (some (.int (s_round A).2.1)), H') ∧ SM H' ((s_round A).2.2) (nI (s_round A).1) ∧ H'.2 = H.2 ∧ ∀ a, ¬ (356 ≤ a ∧ a < 374) → H'.1 a = H.1 a := by
  obtain ⟨rules, ml, me, mh, mo, mi, mt, ma, mx, cells, found, more, rest, uses, acted, list, listed, begins, many, digits, chosen, length, wanted, letter, opn, c356, c357, c358, c359, c360, c361, c362, c363, c364, c365, c366, c367, c368, c369, c370, c371, c372, c373, hR⟩ := h
  obtain ⟨cells', rest', uses', acted', chosen', e1, e2⟩ := r_round hA hR rest uses acted chosen (n := 200) (by omega)
  have ev := T_M_round (X := X) (hc_m := c356) (hc_m9labels := c357) (hc_m9lefts := c358) (hc_m9heres := c359) (hc_m9outs := c360) (hc_m9intos := c361) (hc_m9targets := c362) (hc_m9acts := c363) (hc_m9others := c364) (hc_m9cells := c365) (hc_m9rest := c366) (hc_m9uses := c367) (hc_m9chosen := c372) e1
  dsimp only at ev
  exact ⟨_, ev.mono (by decide), ⟨rules, ml, me, mh, mo, mi, mt, ma, mx, cells', found, more, rest', uses', acted', list, listed, begins, many, digits, chosen', length, wanted, letter, opn, rfl, c357, c358, c359, c360, c361, c362, c363, c364, rfl, rfl, rfl, c368, c369, c370, c371, rfl, c373, e2⟩, rfl, fun a ha => eW2_offA (A := [356, 365, 366, 367, 372]) (fun z => by
    simp only [List.mem_cons, List.not_mem_nil, or_false] at z
    omega) rfl⟩
theorem m_uses {X : Nat × (Nat → Int32)} {H : eH} {A : qA} {code : Int32} (h : SM H A code) (hA : AI A) (p r : Int32) : ∃ H', eEv pP X 40 62 [.ref 356, .int p, .int r] H (.inl (some (.int (s_uses A p r).2.1)), H') ∧ SM H' (A) (nI (s_uses A p r).1) ∧ H'.2 = H.2 ∧ ∀ a, ¬ (356 ≤ a ∧ a < 374) → H'.1 a = H.1 a := by
  obtain ⟨rules, ml, me, mh, mo, mi, mt, ma, mx, cells, found, more, rest, uses, acted, list, listed, begins, many, digits, chosen, length, wanted, letter, opn, c356, c357, c358, c359, c360, c361, c362, c363, c364, c365, c366, c367, c368, c369, c370, c371, c372, c373, hR⟩ := h
  obtain ⟨rest', uses', acted', e1⟩ := r_uses hA hR p r code rest uses acted (n := 200) (by omega)
  have ev := T_M_uses (X := X) (hc_m := c356) (hc_m9labels := c357) (hc_m9lefts := c358) (hc_m9intos := c361) (hc_m9targets := c362) (hc_m9acts := c363) (hc_m9cells := c365) (hc_m9rest := c366) (hc_m9uses := c367) e1
  dsimp only at ev
  exact ⟨_, ev.mono (by decide), ⟨rules, ml, me, mh, mo, mi, mt, ma, mx, cells, found, more, rest', uses', acted', list, listed, begins, many, digits, chosen, length, wanted, letter, opn, rfl, c357, c358, c359, c360, c361, c362, c363, c364, c365, rfl, rfl, c368, c369, c370, c371, c372, c373, hR⟩, rfl, fun a ha => eW2_offA (A := [356, 366, 367]) (fun z => by
    simp only [List.mem_cons, List.not_mem_nil, or_false] at z
    omega) rfl⟩
theorem m_choices {X : Nat × (Nat → Int32)} {H : eH} {A : qA} {code : Int32} (h : SM H A code) (hA : AI A) (p : Int32) : ∃ H', eEv pP X 40 63 [.ref 356, .int p] H (.inl (some (.int (s_choices A p).2.1)), H') ∧ SM H' (A) (nI (s_choices A p).1) ∧ H'.2 = H.2 ∧ ∀ a, ¬ (356 ≤ a ∧ a < 374) → H'.1 a = H.1 a := by
  obtain ⟨rules, ml, me, mh, mo, mi, mt, ma, mx, cells, found, more, rest, uses, acted, list, listed, begins, many, digits, chosen, length, wanted, letter, opn, c356, c357, c358, c359, c360, c361, c362, c363, c364, c365, c366, c367, c368, c369, c370, c371, c372, c373, hR⟩ := h
  obtain ⟨K, hK⟩ := r_choices hA p
  obtain ⟨rest', uses', acted', list', listed', e1⟩ := hK rules ml me mh mo mi mt ma mx cells found hR K (Nat.le_refl _) code rest uses acted list listed
  have ev := T_M_choices (X := X) (hc_m := c356) (hc_m9labels := c357) (hc_m9lefts := c358) (hc_m9intos := c361) (hc_m9targets := c362) (hc_m9acts := c363) (hc_m9cells := c365) (hc_m9rest := c366) (hc_m9uses := c367) (hc_m9list := c368) e1
  dsimp only at ev
  exact ⟨_, ev.mono (by decide), ⟨rules, ml, me, mh, mo, mi, mt, ma, mx, cells, found, more, rest', uses', acted', list', listed', begins, many, digits, chosen, length, wanted, letter, opn, rfl, c357, c358, c359, c360, c361, c362, c363, c364, c365, rfl, rfl, rfl, c369, c370, c371, c372, c373, hR⟩, rfl, fun a ha => eW2_offA (A := [356, 366, 367, 368]) (fun z => by
    simp only [List.mem_cons, List.not_mem_nil, or_false] at z
    omega) rfl⟩
theorem m_at {X : Nat × (Nat → Int32)} {H : eH} {A : qA} {code : Int32} (h : SM H A code) (hA : AI A) (p w : Int32) : ∃ H', eEv pP X 40 64 [.ref 356, .int p, .int w] H (.inl (some (.int (s_at A p w).2.1)), H') ∧ SM H' (A) (nI (s_at A p w).1) ∧ H'.2 = H.2 ∧ ∀ a, ¬ (356 ≤ a ∧ a < 374) → H'.1 a = H.1 a := by
  obtain ⟨rules, ml, me, mh, mo, mi, mt, ma, mx, cells, found, more, rest, uses, acted, list, listed, begins, many, digits, chosen, length, wanted, letter, opn, c356, c357, c358, c359, c360, c361, c362, c363, c364, c365, c366, c367, c368, c369, c370, c371, c372, c373, hR⟩ := h
  have e1 := r_at hA hR p w code (n := 20) (by omega)
  have ev := T_M_at (X := X) (hc_m := c356) (hc_m9cells := c365) e1
  dsimp only at ev
  exact ⟨_, ev.mono (by decide), ⟨rules, ml, me, mh, mo, mi, mt, ma, mx, cells, found, more, rest, uses, acted, list, listed, begins, many, digits, chosen, length, wanted, letter, opn, rfl, c357, c358, c359, c360, c361, c362, c363, c364, c365, c366, c367, c368, c369, c370, c371, c372, c373, hR⟩, rfl, fun a ha => eW2_offA (A := [356]) (fun z => by
    simp only [List.mem_cons, List.not_mem_nil, or_false] at z
    omega) rfl⟩
theorem m_there {X : Nat × (Nat → Int32)} {H : eH} {A : qA} {code : Int32} (h : SM H A code) (hA : AI A) (p : Int32) : ∃ H', eEv pP X 40 65 [.ref 356, .int p] H (.inl (some (.int (qb (qpb A.1 p)))), H') ∧ SM H' (A) (0) ∧ H'.2 = H.2 ∧ ∀ a, ¬ (356 ≤ a ∧ a < 374) → H'.1 a = H.1 a := by
  obtain ⟨rules, ml, me, mh, mo, mi, mt, ma, mx, cells, found, more, rest, uses, acted, list, listed, begins, many, digits, chosen, length, wanted, letter, opn, c356, c357, c358, c359, c360, c361, c362, c363, c364, c365, c366, c367, c368, c369, c370, c371, c372, c373, hR⟩ := h
  have e1 := r_there hA hR p 20
  have ev := T_M_there (X := X) (hc_m := c356) (hc_m9cells := c365) e1
  dsimp only at ev
  exact ⟨_, ev.mono (by decide), ⟨rules, ml, me, mh, mo, mi, mt, ma, mx, cells, found, more, rest, uses, acted, list, listed, begins, many, digits, chosen, length, wanted, letter, opn, rfl, c357, c358, c359, c360, c361, c362, c363, c364, c365, c366, c367, c368, c369, c370, c371, c372, c373, hR⟩, rfl, fun a ha => eW2_offA (A := [356]) (fun z => by
    simp only [List.mem_cons, List.not_mem_nil, or_false] at z
    omega) rfl⟩
theorem m_outside {X : Nat × (Nat → Int32)} {H : eH} {A : qA} {code : Int32} (h : SM H A code) (hA : AI A) (k : Int32) : ∃ H', eEv pP X 40 66 [.ref 356, .int k] H (.inl (some (.int (s_outside A k).2.1)), H') ∧ SM H' (A) (nI (s_outside A k).1) ∧ H'.2 = H.2 ∧ ∀ a, ¬ (356 ≤ a ∧ a < 374) → H'.1 a = H.1 a := by
  obtain ⟨rules, ml, me, mh, mo, mi, mt, ma, mx, cells, found, more, rest, uses, acted, list, listed, begins, many, digits, chosen, length, wanted, letter, opn, c356, c357, c358, c359, c360, c361, c362, c363, c364, c365, c366, c367, c368, c369, c370, c371, c372, c373, hR⟩ := h
  have e1 := r_outside hR k code 20
  have ev := T_M_outside (X := X) (hc_m := c356) (hc_m9cells := c365) e1
  dsimp only at ev
  exact ⟨_, ev.mono (by decide), ⟨rules, ml, me, mh, mo, mi, mt, ma, mx, cells, found, more, rest, uses, acted, list, listed, begins, many, digits, chosen, length, wanted, letter, opn, rfl, c357, c358, c359, c360, c361, c362, c363, c364, c365, c366, c367, c368, c369, c370, c371, c372, c373, hR⟩, rfl, fun a ha => eW2_offA (A := [356]) (fun z => by
    simp only [List.mem_cons, List.not_mem_nil, or_false] at z
    omega) rfl⟩
theorem m_outcomes {X : Nat × (Nat → Int32)} {H : eH} {A : qA} {code : Int32} (h : SM H A code) (hA : AI A) (r : Int32) : ∃ H', eEv pP X 40 69 [.ref 356, .int r] H (.inl (some (.int (s_outcomes A r).2.1)), H') ∧ SM H' ((s_outcomes A r).2.2) (nI (s_outcomes A r).1) ∧ H'.2 = H.2 ∧ ∀ a, ¬ (356 ≤ a ∧ a < 374) → H'.1 a = H.1 a := by
  obtain ⟨rules, ml, me, mh, mo, mi, mt, ma, mx, cells, found, more, rest, uses, acted, list, listed, begins, many, digits, chosen, length, wanted, letter, opn, c356, c357, c358, c359, c360, c361, c362, c363, c364, c365, c366, c367, c368, c369, c370, c371, c372, c373, hR⟩ := h
  obtain ⟨K, hK⟩ := r_outcomes hA r
  obtain ⟨⟨v, cd, cells', found', more', rest', uses', acted', list', listed', begins', many', digits', chosen'⟩, e1, e3, e4, e2⟩ := hK rules ml me mh mo mi mt ma mx cells found hR K (Nat.le_refl _) code more rest uses acted list listed begins many digits chosen
  dsimp only at e3 e4 e2
  subst e3
  subst e4
  have ev := T_M_outcomes (X := X) (hc_m := c356) (hc_m9labels := c357) (hc_m9lefts := c358) (hc_m9heres := c359) (hc_m9outs := c360) (hc_m9intos := c361) (hc_m9targets := c362) (hc_m9acts := c363) (hc_m9others := c364) (hc_m9cells := c365) (hc_m9rest := c366) (hc_m9uses := c367) (hc_m9list := c368) (hc_m9begins := c369) (hc_m9many := c370) (hc_m9digits := c371) (hc_m9chosen := c372) e1
  dsimp only at ev
  exact ⟨_, ev.mono (by decide), ⟨rules, ml, me, mh, mo, mi, mt, ma, mx, cells', found', more', rest', uses', acted', list', listed', begins', many', digits', chosen', length, wanted, letter, opn, rfl, c357, c358, c359, c360, c361, c362, c363, c364, rfl, rfl, rfl, rfl, rfl, rfl, rfl, rfl, c373, e2⟩, rfl, fun a ha => eW2_offA (A := [356, 365, 366, 367, 368, 369, 370, 371, 372]) (fun z => by
    simp only [List.mem_cons, List.not_mem_nil, or_false] at z
    omega) rfl⟩
theorem m_outcome {X : Nat × (Nat → Int32)} {H : eH} {A : qA} {code : Int32} (h : SM H A code) (hA : AI A) (i p w : Int32) : ∃ H', eEv pP X 40 70 [.ref 356, .int i, .int p, .int w] H (.inl (some (.int (s_outcome A i p w).2.1)), H') ∧ SM H' (A) (nI (s_outcome A i p w).1) ∧ H'.2 = H.2 ∧ ∀ a, ¬ (356 ≤ a ∧ a < 374) → H'.1 a = H.1 a := by
  obtain ⟨rules, ml, me, mh, mo, mi, mt, ma, mx, cells, found, more, rest, uses, acted, list, listed, begins, many, digits, chosen, length, wanted, letter, opn, c356, c357, c358, c359, c360, c361, c362, c363, c364, c365, c366, c367, c368, c369, c370, c371, c372, c373, hR⟩ := h
  have e1 := r_outcome hA hR i p w code 20
  have ev := T_M_outcome (X := X) (hc_m := c356) (hc_m9cells := c365) e1
  dsimp only at ev
  exact ⟨_, ev.mono (by decide), ⟨rules, ml, me, mh, mo, mi, mt, ma, mx, cells, found, more, rest, uses, acted, list, listed, begins, many, digits, chosen, length, wanted, letter, opn, rfl, c357, c358, c359, c360, c361, c362, c363, c364, c365, c366, c367, c368, c369, c370, c371, c372, c373, hR⟩, rfl, fun a ha => eW2_offA (A := [356]) (fun z => by
    simp only [List.mem_cons, List.not_mem_nil, or_false] at z
    omega) rfl⟩
theorem m_adopt {X : Nat × (Nat → Int32)} {H : eH} {A : qA} {code : Int32} (h : SM H A code) (hA : AI A) (i : Int32) : ∃ H', eEv pP X 40 71 [.ref 356, .int i] H (.inl (none), H') ∧ SM H' ((s_adopt A i).2.2) (nI (s_adopt A i).1) ∧ H'.2 = H.2 ∧ ∀ a, ¬ (356 ≤ a ∧ a < 374) → H'.1 a = H.1 a := by
  obtain ⟨rules, ml, me, mh, mo, mi, mt, ma, mx, cells, found, more, rest, uses, acted, list, listed, begins, many, digits, chosen, length, wanted, letter, opn, c356, c357, c358, c359, c360, c361, c362, c363, c364, c365, c366, c367, c368, c369, c370, c371, c372, c373, hR⟩ := h
  obtain ⟨cells', e1, e2⟩ := r_adopt hA hR i code (n := 100) (by omega)
  have ev := T_M_adopt (X := X) (hc_m := c356) (hc_m9cells := c365) e1
  dsimp only at ev
  exact ⟨_, ev.mono (by decide), ⟨rules, ml, me, mh, mo, mi, mt, ma, mx, cells', found, more, rest, uses, acted, list, listed, begins, many, digits, chosen, length, wanted, letter, opn, rfl, c357, c358, c359, c360, c361, c362, c363, c364, rfl, c366, c367, c368, c369, c370, c371, c372, c373, e2⟩, rfl, fun a ha => eW2_offA (A := [356, 365]) (fun z => by
    simp only [List.mem_cons, List.not_mem_nil, or_false] at z
    omega) rfl⟩
theorem m_written {X : Nat × (Nat → Int32)} {H : eH} {A : qA} {code : Int32} (h : SM H A code) (hA : AI A) (ii : Int32) : ∃ H', eEv pP X 40 75 [.ref 356, .int ii] H (.inl (some (.int (qat (qtx A.1 6 0) ii))), H') ∧ SM H' (A) (0) ∧ H'.2 = H.2 ∧ ∀ a, ¬ (356 ≤ a ∧ a < 374) → H'.1 a = H.1 a := by
  obtain ⟨rules, ml, me, mh, mo, mi, mt, ma, mx, cells, found, more, rest, uses, acted, list, listed, begins, many, digits, chosen, length, wanted, letter, opn, c356, c357, c358, c359, c360, c361, c362, c363, c364, c365, c366, c367, c368, c369, c370, c371, c372, c373, hR⟩ := h
  obtain ⟨K, hK⟩ := q_writtenM hA.1 hR.2.2.1 ii
  obtain ⟨length', wanted', letter', opn', e1⟩ := hK K (Nat.le_refl _) opn
  have ev := T_M_written (X := X) (hc_m := c356) (hc_m9cells := c365) (hc_m9open := c373) e1
  dsimp only at ev
  exact ⟨_, ev.mono (by decide), ⟨rules, ml, me, mh, mo, mi, mt, ma, mx, cells, found, more, rest, uses, acted, list, listed, begins, many, digits, chosen, length', wanted', letter', opn', rfl, c357, c358, c359, c360, c361, c362, c363, c364, c365, c366, c367, c368, c369, c370, c371, c372, rfl, hR⟩, rfl, fun a ha => eW2_offA (A := [356, 373]) (fun z => by
    simp only [List.mem_cons, List.not_mem_nil, or_false] at z
    omega) rfl⟩

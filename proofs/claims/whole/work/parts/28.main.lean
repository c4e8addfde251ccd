def gCat (l : Launch) (P : eP) (N : eW) (G : eG) : Prop := ∀ (p : Program) (e : Env) (R : Room) (s : State) (m : MethodId) (args : Array Value) (below : List Frame) (meth : Method) (c : Code) (T : State) (locs : List Loc) (cells slots : Nat) (X : Nat × (Nat → Int32)) (k pc y c1 t : Nat) (ls : Array Slot) (rs fs : List Value),
  eCx P N G X p s m args meth c k → Stand p l e R s m args below meth c T locs cells slots → ¬ y = 0 → va_at G.D G.cl (eAd G y, eCo G (.inr (c1, fs))) T.heap → eHan (eHs P k) pc c1 = some t →
  Finds e ((T.setTop (F0 m pc ls rs)).pushFrame (.throwing (eAd G y))) (F0 m pc ls rs) (eAd G y) (.found t)
theorem e_len3 {i : Instr} {kd ix len : Nat} (hk : eKd i = (1, kd, ix)) (hlen : eIl i = 0 ∨ len = eIl i) : len = 3 ∧ (kd = 0 → i = .invokestatic ix) ∧ (kd = 1 → i = .invokevirtual ix) ∧ (kd = 2 → i = .invokespecial ix) := by
  cases i <;> first
    | (cases hk; done)
    | (cases hk
       refine ⟨by simpa [eIl] using hlen, fun z => ?_, fun z => ?_, fun z => ?_⟩ <;> first | rfl | cases z)
section ES9
variable {p : Program} {l : Launch} {e : Env} {R : Room} {s : State} {m : MethodId} {args : Array Value} {below : List Frame} {meth : Method} {c : Code}
variable {P : eP} {N : eW} {G : eG} {X : Nat × (Nat → Int32)} {k c0 s0 : Nat}
theorem e_go {call : Nat → List Value → eH → Option (eR × eH)} {d : Nat} {r : eR} {hE : eH} (cx : eCx P N G X p s m args meth c k) (ga : gAll P N G.cl) (gx : gExc l P N G) (gk : gCat l P N G)
    (hmono : ∀ k' as h1 r1 h2, call k' as h1 = some (r1, h2) → h1.2.1 ≤ h2.2.1 ∧ h1.2.2 ≤ h2.2.2) (hcall : ∀ k' as h1 r1 h2, gCode P N k' → gName P N k' → call k' as h1 = some (r1, h2) → eMet l P N G X d k' as h1 r1 h2)
    (hfr : d + 13 ≤ R.frames ∧ (d + 13) * 64 ≤ R.locals) (hRc : hE.2.1 ≤ R.cells + c0) (hRs : hE.2.2 ≤ R.slots + s0) :
    ∀ (n : Nat) (pc : Nat) (lo : eLo) (st : List Value) (h : eH), eGo P X call k n (pc, lo, st, h) = some (r, hE) → ∀ (H : Heap) (locs : List Loc) (cells slots : Nat) (ls : Array Slot), eBa P G s k c0 s0 lo h H locs cells slots ls →
      W p l e R s m args below meth c H locs cells slots (eZ G s below r hE (hE.2.1 - c0) (hE.2.2 - s0)) (F0 m pc ls (st.map (eVal G))) := by
  have hfr2 : 12 ≤ R.frames ∧ 700 ≤ R.locals := ⟨by omega, by omega⟩
  intro n
  induction n with
  | zero => intro pc lo st h hgo; cases hgo
  | succ n ih =>
    intro pc lo st h hgo H locs cells slots ls b
    have b4 := b.2.2.2.1
    have b5 := b.2.2.2.2
    have hM0 := eGo_mono hmono _ _ _ _ _ hgo
    simp only [eGo] at hgo
    split at hgo
    · cases hgo
    · rename_i i len hi
      obtain ⟨hd, hlen⟩ := ga.1 _ _ _ _ hi
      split at hgo
      · split at hgo
        · cases hgo
        · rename_i x hz
          obtain ⟨x1, x2, x3, x4⟩ := x
          have hm := eGo_mono hmono _ _ _ _ _ hgo
          exact (e_step cx ga hd hlen hz b).2 (Nat.le_trans hm.1 hRc) (Nat.le_trans hm.2 hRs) (by omega) (by omega) (fun H1 locs1 cells1 slots1 ls1 b1 => ih _ _ _ _ hgo H1 locs1 cells1 slots1 ls1 b1)
      · rename_i kd ix hk
        obtain ⟨hl3, hk0, hk1, hk2⟩ := e_len3 hk hlen
        subst hl3
        split at hgo
        · cases hgo
        · rename_i kind k' na hm
          split at hgo
          · cases hgo
          · rename_i hrs
            split at hgo
            · split at hgo
              · cases hgo
              · rename_i x hz
                obtain ⟨x1, x2, x3, x4⟩ := x
                exact e_own cx ga gx hk hm hd hrs hz b hfr2 (Nat.le_trans hM0.1 hRc) (Nat.le_trans hM0.2 hRs) (fun H1 locs1 cells1 slots1 ls1 b1 => ih _ _ _ _ hgo H1 locs1 cells1 slots1 ls1 b1)
            · rename_i h3
              have h3 : kind < 3 := Nat.not_le.mp h3
              obtain ⟨gAll1, gA2, gA3, gA4, gA5, -⟩ := ga.2.2.2.2.2.1 _ _ _ _ _ hm
              obtain ⟨gcd, gnm⟩ := gAll1 h3
              split at hgo
              · cases hgo
              · rename_i as rs ha
                obtain ⟨hst, hrs1, hal, hkk, hcase⟩ := eArgs_some (fun z => hrs (Or.inl z)) ha
                subst hkk
                have hrs2 : eCat rs ≤ 8 := by rw [hrs1]; exact Nat.not_lt.mp fun z => hrs (Or.inr z)
                split at hgo
                · cases hgo
                · rename_i v h' hc
                  have hM := hcall _ _ _ _ _ gcd gnm hc
                  have hm1 := hmono _ _ _ _ _ hc
                  have hm2 := eGo_mono hmono _ _ _ _ _ hgo
                  have hc1 := Nat.le_trans hm2.1 hRc
                  have hs1 := Nat.le_trans hm2.2 hRs
                  have kk : eNext P G p l e R s m args below meth c (eZ G s below r hE (hE.2.1 - c0) (hE.2.2 - s0)) k c0 s0 (pc + 3, lo, v.toList ++ rs, h') := fun H1 locs1 cells1 slots1 ls1 b1 => ih _ _ _ _ hgo H1 locs1 cells1 slots1 ls1 b1
                  rcases hcase with rfl | ⟨rfl, a, as', fs, rfl, h1, h2⟩ | ⟨rfl, a, as', rfl⟩
                  · rw [hk0 rfl] at hd
                    obtain ⟨g1, g2⟩ := gA3 rfl
                    exact e_back b hm1 (e_runS cx lw_gd_good b hM gcd gnm (gA2 (by omega)) g1 (by rw [hal]; exact g2) hrs2 hd hfr hc1 hs1 hm1 hst) kk
                  · rw [hk1 rfl] at hd
                    obtain ⟨g1, g2, g3, g4⟩ := gA4 rfl
                    rcases gcd with ⟨-, gcd⟩ | ⟨g5, -⟩
                    · exact e_back b hm1 (e_runV cx lw_gd_good ga.2.2.2.1 b hM gcd gnm (gA2 (by omega)) g1 g2 h1 h2 (by rw [show as'.length + 1 = na from hal]; exact g4) hrs2 hd hfr hc1 hs1 hm1 (by rw [hst]; simp)) kk
                    · exact absurd g3 g5
                  · rw [hk2 rfl] at hd
                    obtain ⟨g1, g2, g3, g4, g5, g6⟩ := gA5 rfl
                    rcases gcd with ⟨-, gcd⟩ | ⟨g7, -⟩
                    · rw [g5] at gcd
                      exact e_back b hm1 (e_runI cx lw_gd_good b hM gcd gnm (cx.2.2.2.2.2.2.2.1.2.2 _ _ _ _ hm) g1 g2 (by rw [show as'.length + 1 = na from hal]; exact g6) hrs2 hd hfr hc1 hs1 hm1 (by rw [hst]; simp)) kk
                    · exact absurd g4 g7
                · rename_i y h' hc
                  have hM := hcall _ _ _ _ _ gcd gnm hc
                  have hm1 := hmono _ _ _ _ _ hc
                  split at hgo
                  · cases hgo
                  · rename_i hno
                    have hy0 : ¬ y = 0 := fun z => hno (Or.inl z)
                    have hhs : eHs P k' = [] := Decidable.of_not_not fun z => hno (Or.inr (Or.inl z))
                    have gcd2 : Cond.code (N.mn k') (N.cd k') (eNL P k') (eRt P k') ∈ lw_gd := by
                      rcases gcd with ⟨-, gcd⟩ | ⟨g7, -⟩
                      · exact gcd
                      · exact absurd hhs g7
                    split at hgo
                    · rename_i c1 fs1 hcell
                      have key : (hE.2.1 ≥ h'.2.1 ∧ hE.2.2 ≥ h'.2.2) ∧ eTh P G p l e R s m args below meth c (eZ G s below r hE (hE.2.1 - c0) (hE.2.2 - s0)) k c0 s0 pc lo ls rs y h' := by
                        split at hgo
                        · rename_i t ht
                          refine ⟨eGo_mono hmono _ _ _ _ _ hgo, fun T locs1 cells1 slots1 X1 b1 => ?_⟩
                          obtain ⟨t2, a1, bb⟩ := ih _ _ _ _ hgo T.heap locs1 cells1 slots1 ls b1 T rfl X1
                          exact ⟨t2, X1.catchAt (eAd G y) (g := F0 m pc ls (rs.map (eVal G))) rfl (gk p e R s m args below meth c T locs1 cells1 slots1 X k pc y c1 t ls _ fs1 cx X1 hy0 (b1.2.1.at hy0 hcell) ht) a1, bb⟩
                        · split at hgo
                          · rename_i hh
                            cases hgo
                            refine ⟨⟨Nat.le_refl _, Nat.le_refl _⟩, fun T locs1 cells1 slots1 X1 b1 => ?_⟩
                            obtain ⟨q1, q2, q3, q4, q5⟩ := X1.leaveThrown (eAd G y) (g := F0 m pc ls (rs.map (eVal G))) rfl rfl rfl (fun x hx => by rw [cx.2.2.2.2.2.2.2.2.2.2.2.1 hh] at hx; exact absurd hx List.not_mem_nil) (hlocks := cx.2.2.2.2.2.2.2.2.2.2.1)
                            have c4 := b1.2.2.2.1
                            have c5 := b1.2.2.2.2
                            rw [show hE.2.1 - c0 = cells1 by omega, show hE.2.2 - s0 = slots1 by omega]
                            exact ⟨_, q1, q2, q3, b1.2.1, q4, ⟨b1.2.2.1.1, b1.2.2.1.2.1⟩, locs1, q5, b1.2.2.1.2.2⟩
                          · cases hgo
                      obtain ⟨hm2, kk⟩ := key
                      have hc1 := Nat.le_trans hm2.1 hRc
                      have hs1 := Nat.le_trans hm2.2 hRs
                      rcases hcase with rfl | ⟨rfl, a, as', fs, rfl, h1, h2⟩ | ⟨rfl, a, as', rfl⟩
                      · rw [hk0 rfl] at hd
                        obtain ⟨g1, g2⟩ := gA3 rfl
                        exact e_thrS cx lw_gd_good b hM gcd2 gnm (gA2 (by omega)) g1 (by rw [hal]; exact g2) hrs2 hd hfr hc1 hs1 hm1 hst kk
                      · rw [hk1 rfl] at hd
                        obtain ⟨g1, g2, g3, g4⟩ := gA4 rfl
                        exact e_thrV cx lw_gd_good ga.2.2.2.1 b hM gcd2 gnm (gA2 (by omega)) g1 g2 h1 h2 (by rw [show as'.length + 1 = na from hal]; exact g4) hrs2 hd hfr hc1 hs1 hm1 (by rw [hst]; simp) kk
                      · exact absurd (Or.inr (Or.inr (gA5 rfl).2.2.1)) hno
                    · cases hgo
      · obtain ⟨rfl, z⟩ := e_end (below := below) (e := e) (l := l) (R := R) cx hd hlen hgo b
        rw [show hE.2.1 - c0 = cells by omega, show hE.2.2 - s0 = slots by omega]
        exact z
end ES9

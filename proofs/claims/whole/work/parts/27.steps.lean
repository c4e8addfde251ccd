theorem eIns_mono {P : eP} {X : Nat × (Nat → Int32)} {k pc : Nat} {i : Instr} {lo : eLo} {st : List Value} {h : eH} {x : eS} (hx : eIns P X k i pc lo st h = some x) : h.2.1 ≤ x.2.2.2.2.1 ∧ h.2.2 ≤ x.2.2.2.2.2 := by
  cases i
  all_goals first
    | (cases hx; done)
    | (simp only [eIns, eI1, eI2, eJ1, eJ2, eJI, eR1, eQ1, eIA, eTo, eBr, eIf_cd, eIn, eLdI, eLdJ, eLdA, eStI, eStJ, eStA, eLen, eNwA, eGf, ePf, eN, eLoI, eLoJ, eLoA] at hx
       repeat' split at hx
       all_goals first
         | (cases hx; done)
         | (cases hx; exact ⟨Nat.le_refl _, Nat.le_refl _⟩)
         | (cases hx; exact ⟨Nat.le_succ _, Nat.le_add_right _ _⟩))
theorem eOwn_mono {kd kind pc : Nat} {lo : eLo} {st : List Value} {h : eH} {x : eS} (hx : eOwnless kd kind pc lo st h = some x) : h.2.1 ≤ x.2.2.2.2.1 ∧ h.2.2 ≤ x.2.2.2.2.2 := by
  rcases eOn_some hx with ⟨-, -, a, r, -, rfl⟩ | ⟨-, -, y, z, r, -, rfl⟩ | ⟨-, -, hq⟩
  · exact ⟨Nat.le_refl _, Nat.le_refl _⟩
  · exact ⟨Nat.le_refl _, Nat.le_refl _⟩
  · unfold eCopy at hq
    repeat' split at hq
    all_goals first
      | (cases hq; done)
      | (obtain rfl := eN_inj hq; exact ⟨Nat.le_refl _, Nat.le_refl _⟩)
theorem eRet_mono {P : eP} {k : Nat} {i : Instr} {st : List Value} {h h' : eH} {r : eR} (hx : eRet P k i st h = some (r, h')) : h' = h := by
  unfold eRet eEnd at hx
  repeat' split at hx
  all_goals first
    | (cases hx; done)
    | (cases hx; rfl)
theorem eGo_mono {P : eP} {X : Nat × (Nat → Int32)} {call : Nat → List Value → eH → Option (eR × eH)} {k : Nat} {r : eR} {hE : eH} (hcall : ∀ k' as h1 r1 h2, call k' as h1 = some (r1, h2) → h1.2.1 ≤ h2.2.1 ∧ h1.2.2 ≤ h2.2.2) :
    ∀ (n : Nat) (pc : Nat) (lo : eLo) (st : List Value) (h : eH), eGo P X call k n (pc, lo, st, h) = some (r, hE) → h.2.1 ≤ hE.2.1 ∧ h.2.2 ≤ hE.2.2 := by
  intro n
  induction n with
  | zero => intro pc lo st h hx; cases hx
  | succ n ih =>
    intro pc lo st h hx
    simp only [eGo] at hx
    split at hx
    · split at hx
      · cases hx
      · split at hx
        · cases hx
          exact ⟨Nat.le_succ _, Nat.le_add_right _ _⟩
        · cases hx
    · split at hx
      · split at hx
        · cases hx
        · rename_i x hz
          obtain ⟨x1, x2, x3, x4⟩ := x
          have h1 := eIns_mono hz
          have h2 := ih _ _ _ _ hx
          exact ⟨Nat.le_trans h1.1 h2.1, Nat.le_trans h1.2 h2.2⟩
      · split at hx
        · cases hx
        · split at hx
          · cases hx
          · split at hx
            · split at hx
              · cases hx
              · rename_i x hz
                obtain ⟨x1, x2, x3, x4⟩ := x
                have h1 := eOwn_mono hz
                have h2 := ih _ _ _ _ hx
                exact ⟨Nat.le_trans h1.1 h2.1, Nat.le_trans h1.2 h2.2⟩
            · split at hx
              · cases hx
              · split at hx
                · cases hx
                · rename_i v h' hc
                  have h1 := hcall _ _ _ _ _ hc
                  have h2 := ih _ _ _ _ hx
                  exact ⟨Nat.le_trans h1.1 h2.1, Nat.le_trans h1.2 h2.2⟩
                · rename_i a h' hc
                  have h1 := hcall _ _ _ _ _ hc
                  split at hx
                  · cases hx
                  · split at hx
                    · split at hx
                      · have h2 := ih _ _ _ _ hx
                        exact ⟨Nat.le_trans h1.1 h2.1, Nat.le_trans h1.2 h2.2⟩
                      · split at hx
                        · cases hx
                          exact h1
                        · cases hx
                    · cases hx
      · rw [eRet_mono hx]
        exact ⟨Nat.le_refl _, Nat.le_refl _⟩
theorem eRun_mono {P : eP} {X : Nat × (Nat → Int32)} {n : Nat} : ∀ (d k : Nat) (as : List Value) (h : eH) (r : eR) (h' : eH), eRun P X n d k as h = some (r, h') → h.2.1 ≤ h'.2.1 ∧ h.2.2 ≤ h'.2.2 := by
  intro d
  induction d with
  | zero => intro k as h r h' hx; cases hx
  | succ d ih =>
    intro k as h r h' hx
    simp only [eRun] at hx
    split at hx
    · cases hx
    · exact eGo_mono (fun k' as h1 r1 h2 hc => ih k' as h1 r1 h2 hc) _ _ _ _ _ hx
def gAll (P : eP) (N : eW) (cl : List vw_C) : Prop := gIns P N ∧ gFld P N cl ∧ gTy P N ∧ gCl N cl ∧ gNew P N cl ∧ gMth P N ∧ (∀ o ix v, P.con o ix = some (.int v) → Cond.constant (N.cn o) ix v ∈ lw_gd) ∧ (∀ o ix v, P.con o ix = some (.long v) → Cond.constantLong (N.cn o) ix v ∈ lw_gd)
section ES8
variable {p : Program} {l : Launch} {e : Env} {R : Room} {s : State} {m : MethodId} {args : Array Value} {below : List Frame} {meth : Method} {c : Code} {H : Heap} {locs : List Loc} {cells slots : Nat} {Q : State → Prop}
variable {P : eP} {N : eW} {G : eG} {X : Nat × (Nat → Int32)} {k pc c0 s0 : Nat} {ls : Array Slot} {lo : eLo} {st : List Value} {h : eH} {x : eS}
theorem e_step {i : Instr} {len : Nat} (cx : eCx P N G X p s m args meth c k) (ga : gAll P N G.cl) (hd : decode (N.cd k) pc = .ok (i, len)) (hlen : eIl i = 0 ∨ len = eIl i) (hi : eIns P X k i pc lo st h = some x) (b : eBa P G s k c0 s0 lo h H locs cells slots ls) :
    eGoal P G p l e R s m args below meth c H locs cells slots Q k c0 s0 pc ls st h x := by
  obtain ⟨-, gf, gt, gl, gn, -, gci, gcl⟩ := ga
  cases i
  case iconst n =>
    obtain rfl : len = 1 := by simpa [eIl] using hlen
    exact es_iconst cx hd hi b
  case bipush n =>
    obtain rfl : len = 2 := by simpa [eIl] using hlen
    exact es_bipush cx hd hi b
  case sipush n =>
    obtain rfl : len = 3 := by simpa [eIl] using hlen
    exact es_sipush cx hd hi b
  case lconst n =>
    obtain rfl : len = 1 := by simpa [eIl] using hlen
    exact es_lconst cx hd hi b
  case aconst_null =>
    obtain rfl : len = 1 := by simpa [eIl] using hlen
    exact es_aconst_null cx hd hi b
  case iload i =>
    obtain rfl : len = 2 := by simpa [eIl] using hlen
    exact es_iload cx hd hi b
  case iload_n i =>
    obtain rfl : len = 1 := by simpa [eIl] using hlen
    exact es_iload_n cx hd hi b
  case lload i =>
    obtain rfl : len = 2 := by simpa [eIl] using hlen
    exact es_lload cx hd hi b
  case lload_n i =>
    obtain rfl : len = 1 := by simpa [eIl] using hlen
    exact es_lload_n cx hd hi b
  case aload i =>
    obtain rfl : len = 2 := by simpa [eIl] using hlen
    exact es_aload cx hd hi b
  case aload_n i =>
    obtain rfl : len = 1 := by simpa [eIl] using hlen
    exact es_aload_n cx hd hi b
  case istore i =>
    obtain rfl : len = 2 := by simpa [eIl] using hlen
    exact es_istore cx hd hi b
  case istore_n i =>
    obtain rfl : len = 1 := by simpa [eIl] using hlen
    exact es_istore_n cx hd hi b
  case lstore i =>
    obtain rfl : len = 2 := by simpa [eIl] using hlen
    exact es_lstore cx hd hi b
  case lstore_n i =>
    obtain rfl : len = 1 := by simpa [eIl] using hlen
    exact es_lstore_n cx hd hi b
  case astore i =>
    obtain rfl : len = 2 := by simpa [eIl] using hlen
    exact es_astore cx hd hi b
  case astore_n i =>
    obtain rfl : len = 1 := by simpa [eIl] using hlen
    exact es_astore_n cx hd hi b
  case iinc i n =>
    obtain rfl : len = 3 := by simpa [eIl] using hlen
    exact es_iinc cx hd hi b
  case iadd =>
    obtain rfl : len = 1 := by simpa [eIl] using hlen
    exact es_iadd cx hd hi b
  case isub =>
    obtain rfl : len = 1 := by simpa [eIl] using hlen
    exact es_isub cx hd hi b
  case imul =>
    obtain rfl : len = 1 := by simpa [eIl] using hlen
    exact es_imul cx hd hi b
  case iand =>
    obtain rfl : len = 1 := by simpa [eIl] using hlen
    exact es_iand cx hd hi b
  case ior =>
    obtain rfl : len = 1 := by simpa [eIl] using hlen
    exact es_ior cx hd hi b
  case ishl =>
    obtain rfl : len = 1 := by simpa [eIl] using hlen
    exact es_ishl cx hd hi b
  case ishr =>
    obtain rfl : len = 1 := by simpa [eIl] using hlen
    exact es_ishr cx hd hi b
  case idiv =>
    obtain rfl : len = 1 := by simpa [eIl] using hlen
    exact es_idiv cx hd hi b
  case ineg =>
    obtain rfl : len = 1 := by simpa [eIl] using hlen
    exact es_ineg cx hd hi b
  case ladd =>
    obtain rfl : len = 1 := by simpa [eIl] using hlen
    exact es_ladd cx hd hi b
  case lsub =>
    obtain rfl : len = 1 := by simpa [eIl] using hlen
    exact es_lsub cx hd hi b
  case lmul =>
    obtain rfl : len = 1 := by simpa [eIl] using hlen
    exact es_lmul cx hd hi b
  case land =>
    obtain rfl : len = 1 := by simpa [eIl] using hlen
    exact es_land cx hd hi b
  case lor =>
    obtain rfl : len = 1 := by simpa [eIl] using hlen
    exact es_lor cx hd hi b
  case lcmp =>
    obtain rfl : len = 1 := by simpa [eIl] using hlen
    exact es_lcmp cx hd hi b
  case lshl =>
    obtain rfl : len = 1 := by simpa [eIl] using hlen
    exact es_lshl cx hd hi b
  case lushr =>
    obtain rfl : len = 1 := by simpa [eIl] using hlen
    exact es_lushr cx hd hi b
  case i2l =>
    obtain rfl : len = 1 := by simpa [eIl] using hlen
    exact es_i2l cx hd hi b
  case l2i =>
    obtain rfl : len = 1 := by simpa [eIl] using hlen
    exact es_l2i cx hd hi b
  case i2c =>
    obtain rfl : len = 1 := by simpa [eIl] using hlen
    exact es_i2c cx hd hi b
  case dup =>
    obtain rfl : len = 1 := by simpa [eIl] using hlen
    exact es_dup cx hd hi b
  case dup2 =>
    obtain rfl : len = 1 := by simpa [eIl] using hlen
    exact es_dup2 cx hd hi b
  case goto off =>
    obtain rfl : len = 3 := by simpa [eIl] using hlen
    exact es_goto cx hd hi b
  case ifCond cd off =>
    obtain rfl : len = 3 := by simpa [eIl] using hlen
    cases cd
    case eq => exact es_if_eq cx hd hi b
    case ne => exact es_if_ne cx hd hi b
    case lt => exact es_if_lt cx hd hi b
    case ge => exact es_if_ge cx hd hi b
    case gt => exact es_if_gt cx hd hi b
    case le => exact es_if_le cx hd hi b
  case if_icmp cd off =>
    obtain rfl : len = 3 := by simpa [eIl] using hlen
    cases cd
    case eq => exact es_icmp_eq cx hd hi b
    case ne => exact es_icmp_ne cx hd hi b
    case lt => exact es_icmp_lt cx hd hi b
    case ge => exact es_icmp_ge cx hd hi b
    case gt => exact es_icmp_gt cx hd hi b
    case le => exact es_icmp_le cx hd hi b
  case ifnull off =>
    obtain rfl : len = 3 := by simpa [eIl] using hlen
    exact es_ifnull cx hd hi b
  case tableswitch d lw hj offs => exact es_tableswitch cx hd hi b
  case ldc ix =>
    obtain rfl : len = 2 := by simpa [eIl] using hlen
    exact es_ldc cx gci hd hi b
  case ldc2_w ix =>
    obtain rfl : len = 3 := by simpa [eIl] using hlen
    exact es_ldc2_w cx gcl hd hi b
  case getfield ix =>
    obtain rfl : len = 3 := by simpa [eIl] using hlen
    exact es_getfield cx gf hd hi b
  case putfield ix =>
    obtain rfl : len = 3 := by simpa [eIl] using hlen
    exact es_putfield cx gf hd hi b
  case iaload =>
    obtain rfl : len = 1 := by simpa [eIl] using hlen
    exact es_iaload cx gt hd hi b
  case caload =>
    obtain rfl : len = 1 := by simpa [eIl] using hlen
    exact es_caload cx gt hd hi b
  case laload =>
    obtain rfl : len = 1 := by simpa [eIl] using hlen
    exact es_laload cx gt hd hi b
  case aaload =>
    obtain rfl : len = 1 := by simpa [eIl] using hlen
    exact es_aaload cx gt hd hi b
  case iastore =>
    obtain rfl : len = 1 := by simpa [eIl] using hlen
    exact es_iastore cx gt hd hi b
  case castore =>
    obtain rfl : len = 1 := by simpa [eIl] using hlen
    exact es_castore cx gt hd hi b
  case lastore =>
    obtain rfl : len = 1 := by simpa [eIl] using hlen
    exact es_lastore cx gt hd hi b
  case aastore =>
    obtain rfl : len = 1 := by simpa [eIl] using hlen
    exact es_aastore cx gt gl hd hi b
  case arraylength =>
    obtain rfl : len = 1 := by simpa [eIl] using hlen
    exact es_arraylength cx hd hi b
  case newarray at1 =>
    obtain rfl : len = 2 := by simpa [eIl] using hlen
    cases at1
    case int => exact es_newarray_int cx gt gn hd hi b
    case long => exact es_newarray_long cx gt gn hd hi b
    case char => exact es_newarray_char cx gt gn hd hi b
    all_goals cases hi
  case anewarray ix =>
    obtain rfl : len = 3 := by simpa [eIl] using hlen
    exact es_anewarray cx gn hd hi b
  case new ix =>
    obtain rfl : len = 3 := by simpa [eIl] using hlen
    exact es_new cx gn hd hi b
  all_goals cases hi
theorem e_copy {ix k0 na : Nat} (cx : eCx P N G X p s m args meth c k) (ga : gAll P N G.cl) (hm : P.mth (eOwn P k) ix = some (6, k0, na)) (hd : decode (N.cd k) pc = .ok (.invokestatic ix, 3)) (hq : eCopy h st (fun h' r => eN (pc + 3) lo r h') = some x) (hrs : eCat (st.drop na) ≤ 8)
    (b : eBa P G s k c0 s0 lo h H locs cells slots ls) (hfr : 12 ≤ R.frames ∧ 700 ≤ R.locals) (kk : eNext P G p l e R s m args below meth c Q k c0 s0 x) : W p l e R s m args below meth c H locs cells slots Q (F0 m pc ls (st.map (eVal G))) := by
  have gm := ga.2.2.2.2.2.1
  have gt := ga.2.2.1
  obtain ⟨rfl, -⟩ := (gm _ _ _ _ _ hm).2.2.2.2.2.2.2 rfl
  unfold eCopy at hq
  split at hq
  · rename_i n dp d sp a rs
    split at hq
    · cases hq
    · rename_i hz
      have ha : ¬ a = 0 := fun z => hz (Or.inl z)
      have hd0 : ¬ d = 0 := fun z => hz (Or.inr (Or.inl z))
      have h3 : ¬ n < 0 := fun z => hz (Or.inr (Or.inr (Or.inl z)))
      have h2 : ¬ dp < 0 := fun z => hz (Or.inr (Or.inr (Or.inr (Or.inl z))))
      have h1 : ¬ sp < 0 := fun z => hz (Or.inr (Or.inr (Or.inr (Or.inr z))))
      split at hq
      · rename_i na f nb g hca hcd
        split at hq
        · cases hq
        · rename_i hy
          obtain rfl := eN_inj hq
          exact e_copy_one (t := 0) (mk := Value.int) (wrap := fun f => .inl f) (fun j f z H => Iff.rfl) cx gm gt.1 rfl (fun z => rfl) (fun z w q => by cases q) hm hd hrs b hfr ha hd0 hca hcd h1 h2 h3 (Nat.not_lt.mp fun z => hy (Or.inl z)) (Nat.not_lt.mp fun z => hy (Or.inr z)) kk
      · rename_i na f nb g hca hcd
        split at hq
        · cases hq
        · rename_i hy
          obtain rfl := eN_inj hq
          exact e_copy_one (t := 1) (mk := Value.long) (wrap := fun f => .inr (.inl f)) (fun j f z H => Iff.rfl) cx gm gt.2.1 rfl (fun z => rfl) (fun z w q => by cases q) hm hd hrs b hfr ha hd0 hca hcd h1 h2 h3 (Nat.not_lt.mp fun z => hy (Or.inl z)) (Nat.not_lt.mp fun z => hy (Or.inr z)) kk
      · cases hq
  · cases hq
theorem e_own {i : Instr} {kd ix kind k0 na : Nat} (cx : eCx P N G X p s m args meth c k) (ga : gAll P N G.cl) (hk : eKd i = (1, kd, ix)) (hm : P.mth (eOwn P k) ix = some (kind, k0, na)) (hd : decode (N.cd k) pc = .ok (i, 3)) (hrs : ¬ (st.length < na ∨ 8 < eCat (st.drop na))) (hi : eOwnless kd kind pc lo st h = some x)
    (b : eBa P G s k c0 s0 lo h H locs cells slots ls) (hfr : 12 ≤ R.frames ∧ 700 ≤ R.locals) (hc : h.2.1 ≤ R.cells + c0) (hs : h.2.2 ≤ R.slots + s0) (kk : eNext P G p l e R s m args below meth c Q k c0 s0 x) : W p l e R s m args below meth c H locs cells slots Q (F0 m pc ls (st.map (eVal G))) := by
  have gm := ga.2.2.2.2.2.1
  have hrs' : eCat (st.drop na) ≤ 8 := Nat.not_lt.mp fun z => hrs (Or.inr z)
  have hsp : kd = 2 → i = .invokespecial ix := fun z => by
    subst z
    cases i <;> first | (cases hk; done) | (cases hk; rfl)
  have hst : kd = 0 → i = .invokestatic ix := fun z => by
    subst z
    cases i <;> first | (cases hk; done) | (cases hk; rfl)
  rcases eOn_some hi with ⟨rfl, h1, a, r, rfl, rfl⟩ | ⟨rfl, h1, y, z, r, rfl, rfl⟩ | ⟨rfl, h1, hq⟩
  · rw [hsp h1] at hd
    exact es_init cx gm hm hd hrs' b hfr kk
  · rw [hst h1] at hd
    exact es_min cx gm hm hd hrs' b hfr hc hs kk
  · rw [hst h1] at hd
    exact e_copy cx ga hm hd hq hrs' b hfr kk
end ES8

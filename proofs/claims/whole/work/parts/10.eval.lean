abbrev eA : Type := Nat × ((Nat → Int32) ⊕ ((Nat → Int64) ⊕ (Nat → Option Nat)))
abbrev eE : Type := (Nat × eA) ⊕ (Nat × List Value)
abbrev eH : Type := (Nat → Option eE) × Nat × Nat
abbrev eLo : Type := List (Option Value)
abbrev eS : Type := Nat × eLo × List Value × eH
abbrev eR : Type := Option Value ⊕ Nat
abbrev eT : Type := eS
abbrev eI : Type := Nat → Nat → Option (Instr × Nat)
abbrev eM : Type := Nat → Nat × Nat × Option FieldType × List (Nat × Nat × Nat × Nat)
abbrev eF : Type := Nat → Nat → Option (Nat × Nat × FieldType × Bool)
abbrev eC : Type := Nat → Nat → Option (Nat × Nat × Nat)
abbrev eK : Type := Nat → Nat → Option Nat
abbrev eV : Type := Nat → Nat → Option Value
abbrev eD : Type := Nat → List Value × Nat
abbrev eP : Type := eI × eM × eF × eC × eK × eK × eV × eD × (Nat → Option Nat) × (Nat → Bool) × (Nat → Nat → Option (Nat × Nat × Nat × Nat))
def eP.ins (P : eP) : eI := P.1
def eP.met (P : eP) : eM := P.2.1
def eP.fld (P : eP) : eF := P.2.2.1
def eP.mth (P : eP) : eC := P.2.2.2.1
def eP.cls (P : eP) : eK := P.2.2.2.2.1
def eP.arr (P : eP) : eK := P.2.2.2.2.2.1
def eP.con (P : eP) : eV := P.2.2.2.2.2.2.1
def eP.bla (P : eP) : eD := P.2.2.2.2.2.2.2.1
def eP.elt (P : eP) : Nat → Option Nat := P.2.2.2.2.2.2.2.2.1
def eP.ini (P : eP) : Nat → Bool := P.2.2.2.2.2.2.2.2.2.1
def eP.thr (P : eP) : Nat → Nat → Option (Nat × Nat × Nat × Nat) := P.2.2.2.2.2.2.2.2.2.2
def eOwn (P : eP) (k : Nat) : Nat := (P.met k).1
def eNL (P : eP) (k : Nat) : Nat := (P.met k).2.1
def eRt (P : eP) (k : Nat) : Option FieldType := (P.met k).2.2.1
def eHs (P : eP) (k : Nat) : List (Nat × Nat × Nat × Nat) := (P.met k).2.2.2
def eN (pc : Nat) (lo : eLo) (st : List Value) (h : eH) : Option eT := some (pc, lo, st, h)
def eI1 (st : List Value) (f : Int32 → List Value → Option eT) : Option eT := match st with
  | .int x :: r => f x r
  | _ => none
def eI2 (st : List Value) (f : Int32 → Int32 → List Value → Option eT) : Option eT := match st with
  | .int y :: .int x :: r => f x y r
  | _ => none
def eJ1 (st : List Value) (f : Int64 → List Value → Option eT) : Option eT := match st with
  | .long x :: r => f x r
  | _ => none
def eJ2 (st : List Value) (f : Int64 → Int64 → List Value → Option eT) : Option eT := match st with
  | .long y :: .long x :: r => f x y r
  | _ => none
def eJI (st : List Value) (f : Int64 → Int32 → List Value → Option eT) : Option eT := match st with
  | .int y :: .long x :: r => f x y r
  | _ => none
def eR1 (st : List Value) (f : Nat → List Value → Option eT) : Option eT := match st with
  | .ref a :: r => f a r
  | _ => none
def eQ1 (st : List Value) (f : Option Nat → List Value → Option eT) : Option eT := match st with
  | .ref a :: r => f (some a) r
  | .null :: r => f none r
  | _ => none
def eIA (st : List Value) (f : Nat → Int32 → List Value → Option eT) : Option eT := match st with
  | .int i :: .ref a :: r => f a i r
  | _ => none
def eGet (lo : eLo) (i : Nat) : Option Value := (lo[i]?).join
def eKill (lo : eLo) (i : Nat) : eLo := match i with
  | 0 => lo
  | j + 1 => match lo[j]? with
    | some (some w) => if w.category = 2 then lo.set j none else lo
    | _ => lo
def eSt1 (lo : eLo) (i : Nat) (v : Value) : eLo := (eKill lo i).set i (some v)
def eSt2 (lo : eLo) (i : Nat) (v : Value) : eLo := ((eKill lo i).set i (some v)).set (i + 1) none
def eTo (pc : Nat) (off : Int) (f : Nat → Option eT) : Option eT := match (pc : Int) + off with
  | .ofNat t => f t
  | .negSucc _ => none
def eBr (c : Bool) (pc : Nat) (off : Int) (lo : eLo) (r : List Value) (h : eH) : Option eT :=
  eTo pc off fun t => match c with
    | true => eN t lo r h
    | false => eN (pc + 3) lo r h
def eIf (cd : ClassFile.Cond) (x y : Int32) (pc : Nat) (off : Int) (lo : eLo) (r : List Value) (h : eH) : Option eT := match cd with
  | .eq => eBr (decide (x = y)) pc off lo r h
  | .ne => eBr (decide (¬ x = y)) pc off lo r h
  | .lt => eBr (decide (x < y)) pc off lo r h
  | .ge => eBr (decide (y ≤ x)) pc off lo r h
  | .gt => eBr (decide (y < x)) pc off lo r h
  | .le => eBr (decide (x ≤ y)) pc off lo r h
def eLoI (lo : eLo) (i : Nat) (f : Int32 → Option eT) : Option eT := match eGet lo i with
  | some (.int x) => f x
  | _ => none
def eLoJ (lo : eLo) (i : Nat) (f : Int64 → Option eT) : Option eT := match eGet lo i with
  | some (.long x) => f x
  | _ => none
def eLoA (lo : eLo) (i : Nat) (f : Option Nat → Option eT) : Option eT := match eGet lo i with
  | some (.ref a) => f (some a)
  | some .null => f none
  | _ => none
def eRf (r : Option Nat) : Value := match r with
  | none => .null
  | some a => .ref a
def eFit (ty : FieldType) (v : Value) : Bool := match ty, v with
  | .int, .int _ => true
  | .long, .long _ => true
  | .boolean, .int x => x == 0 || x == 1
  | .object _, .ref _ => true
  | .object _, .null => true
  | .array _, .ref _ => true
  | .array _, .null => true
  | _, _ => false
def eUp {α : Type} (f : Nat → α) (k : Nat) (x : α) : Nat → α := fun j => if j = k then x else f j
def eSetH (h : eH) (a : Nat) (e : eE) : eH := (eUp h.1 a (some e), h.2.1, h.2.2)
def eNew (h : eH) (e : eE) (n : Nat) : eH := (eUp h.1 h.2.1 (some e), h.2.1 + 1, h.2.2 + n)
def eIn (i : Int32) (n : Nat) (x : Option eT) : Option eT := if i < 0 ∨ n ≤ i.toNatClampNeg then none else x
def eLdI (X : Nat × (Nat → Int32)) (h : eH) (t : Nat) (st : List Value) (k : Int32 → List Value → Option eT) : Option eT := eIA st fun a i r => match a with
  | 0 => if t = 0 then eIn i X.1 (k (X.2 i.toNatClampNeg) r) else none
  | b + 1 => match h.1 (b + 1) with
    | some (.inl (t', n, .inl f)) => if t' = t then eIn i n (k (f i.toNatClampNeg) r) else none
    | _ => none
def eLdJ (h : eH) (st : List Value) (k : Int64 → List Value → Option eT) : Option eT := eIA st fun a i r => match h.1 a with
  | some (.inl (1, n, .inr (.inl f))) => if a = 0 then none else eIn i n (k (f i.toNatClampNeg) r)
  | _ => none
def eLdA (P : eP) (h : eH) (st : List Value) (k : Option Nat → List Value → Option eT) : Option eT := eIA st fun a i r => match h.1 a with
  | some (.inl (t, n, .inr (.inr f))) => if a = 0 ∨ P.elt t = none then none else eIn i n (k (f i.toNatClampNeg) r)
  | _ => none
def eStI (h : eH) (t : Nat) (g : Int32 → Int32) (st : List Value) (k : eH → List Value → Option eT) : Option eT := match st with
  | .int x :: .int i :: .ref a :: r => match h.1 a with
    | some (.inl (t', n, .inl f)) => if a = 0 ∨ ¬ t' = t then none else eIn i n (k (eSetH h a (.inl (t', n, .inl (eUp f i.toNatClampNeg (g x))))) r)
    | _ => none
  | _ => none
def eStJ (h : eH) (st : List Value) (k : eH → List Value → Option eT) : Option eT := match st with
  | .long x :: .int i :: .ref a :: r => match h.1 a with
    | some (.inl (1, n, .inr (.inl f))) => if a = 0 then none else eIn i n (k (eSetH h a (.inl (1, n, .inr (.inl (eUp f i.toNatClampNeg x))))) r)
    | _ => none
  | _ => none
def eStA (P : eP) (h : eH) (st : List Value) (k : eH → List Value → Option eT) : Option eT := match st with
  | .ref v :: .int i :: .ref a :: r => match h.1 a with
    | some (.inl (t, n, .inr (.inr f))) => match h.1 v with
      | some (.inr (c, _)) => if a = 0 ∨ v = 0 ∨ ¬ P.elt t = some c then none else eIn i n (k (eSetH h a (.inl (t, n, .inr (.inr (eUp f i.toNatClampNeg (some v)))))) r)
      | _ => none
    | _ => none
  | .null :: .int i :: .ref a :: r => match h.1 a with
    | some (.inl (t, n, .inr (.inr f))) => if a = 0 ∨ P.elt t = none then none else eIn i n (k (eSetH h a (.inl (t, n, .inr (.inr (eUp f i.toNatClampNeg none))))) r)
    | _ => none
  | _ => none
def eLen (X : Nat × (Nat → Int32)) (st : List Value) (k : Int32 → List Value → Option eT) : Option eT := eR1 st fun a r => match a with
  | 0 => k (Int32.ofNat X.1) r
  | _ + 1 => none
def eNwA (h : eH) (t : Nat) (w : Nat) (d : (Nat → Int32) ⊕ ((Nat → Int64) ⊕ (Nat → Option Nat))) (st : List Value) (k : eH → Nat → List Value → Option eT) : Option eT := eI1 st fun n r =>
  if n < 0 ∨ 536870912 < n.toNatClampNeg * w then none else k (eNew h (.inl (t, n.toNatClampNeg, d)) n.toNatClampNeg) h.2.1 r
def eGf (P : eP) (o : Nat) (ix : Nat) (h : eH) (st : List Value) (k : Value → List Value → Option eT) : Option eT := eR1 st fun a r => match P.fld o ix with
  | some (c, j, _) => match h.1 a with
    | some (.inr (c', fs)) => if a = 0 ∨ ¬ c' = c then none else match fs[j]? with
      | some v => k v r
      | none => none
    | _ => none
  | none => none
def ePf (P : eP) (m : Nat) (ix : Nat) (h : eH) (st : List Value) (k : eH → List Value → Option eT) : Option eT := match st with
  | v :: .ref a :: r => match P.fld (eOwn P m) ix with
    | some (c, j, ty, fin) => match h.1 a with
      | some (.inr (c', fs)) => if a = 0 ∨ ¬ c' = c ∨ eFit ty v = false ∨ fs.length ≤ j ∨ (fin && !(P.ini m && eOwn P m == c)) = true then none else k (eSetH h a (.inr (c', fs.set j v))) r
      | _ => none
    | none => none
  | _ => none
def eCpy {α : Type} (f g : Nat → α) (sp dp n : Nat) : Nat → α := fun k => if dp ≤ k ∧ k < dp + n then f (sp + (k - dp)) else g k
def eCopy (h : eH) (st : List Value) (k : eH → List Value → Option eT) : Option eT := match st with
  | .int n :: .int dp :: .ref b :: .int sp :: .ref a :: r =>
    if a = 0 ∨ b = 0 ∨ n < 0 ∨ dp < 0 ∨ sp < 0 then none else match h.1 a, h.1 b with
      | some (.inl (0, na, .inl f)), some (.inl (0, nb, .inl g)) => if na < sp.toNatClampNeg + n.toNatClampNeg ∨ nb < dp.toNatClampNeg + n.toNatClampNeg then none else
          k (eSetH h b (.inl (0, nb, .inl (eCpy f g sp.toNatClampNeg dp.toNatClampNeg n.toNatClampNeg)))) r
      | some (.inl (1, na, .inr (.inl f))), some (.inl (1, nb, .inr (.inl g))) => if na < sp.toNatClampNeg + n.toNatClampNeg ∨ nb < dp.toNatClampNeg + n.toNatClampNeg then none else
          k (eSetH h b (.inl (1, nb, .inr (.inl (eCpy f g sp.toNatClampNeg dp.toNatClampNeg n.toNatClampNeg))))) r
      | _, _ => none
  | _ => none
def eCat (st : List Value) : Nat := (st.map fun v => v.category).sum
def eOwnless (kd kind pc : Nat) (lo : eLo) (st : List Value) (h : eH) : Option eT := match kind with
  | 3 => if kd = 2 then eR1 st fun _ r => eN (pc + 3) lo r h else none
  | 5 => if kd = 0 then eI2 st fun x y r => eN (pc + 3) lo (.int (if y < x then y else x) :: r) h else none
  | 6 => if kd = 0 then eCopy h st fun h' r => eN (pc + 3) lo r h' else none
  | _ => none
def eArgs (P : eP) (kd kind k n : Nat) (st : List Value) (h : eH) : Option (List Value × List Value) :=
  if ¬ kd = kind then none else match kind with
  | 0 => some ((st.take n).reverse, st.drop n)
  | 1 => match (st.take n).reverse with
    | .ref a :: _ => match h.1 a with
      | some (.inr (c, _)) => if a = 0 ∨ ¬ c = eOwn P k then none else some ((st.take n).reverse, st.drop n)
      | _ => none
    | _ => none
  | 2 => match (st.take n).reverse with
    | .ref _ :: _ => some ((st.take n).reverse, st.drop n)
    | _ => none
  | _ => none
def eNar (ty : Option FieldType) (v : Value) : Option Value := match ty, v with
  | some .int, .int x => some (.int x)
  | some .boolean, .int x => some (.int (x &&& 1))
  | some .long, .long x => some (.long x)
  | some (.object _), .ref a => some (.ref a)
  | some (.object _), .null => some .null
  | some (.array _), .ref a => some (.ref a)
  | some (.array _), .null => some .null
  | _, _ => none
def eEnd (P : eP) (k : Nat) (h : eH) (v : Value) : Option (eR × eH) := match eNar (eRt P k) v with
  | some w => some (.inl (some w), h)
  | none => none
def eRet (P : eP) (k : Nat) (i : Instr) (st : List Value) (h : eH) : Option (eR × eH) := match i with
  | .ireturn => match st with
    | [.int x] => eEnd P k h (.int x)
    | _ => none
  | .lreturn => match st with
    | [.long x] => eEnd P k h (.long x)
    | _ => none
  | .areturn => match st with
    | [.ref a] => eEnd P k h (.ref a)
    | [.null] => eEnd P k h .null
    | _ => none
  | .return_ => match st with
    | [] => if eRt P k = none then some (.inl none, h) else none
    | _ => none
  | .athrow => if eHs P k = [] then match st with
      | .ref a :: _ => if a = 0 then none else some (.inr a, h)
      | _ => none
    else none
  | _ => none
def eIns (P : eP) (X : Nat × (Nat → Int32)) (k : Nat) (i : Instr) (pc : Nat) (lo : eLo) (st : List Value) (h : eH) : Option eT := match i with
  | .iconst n => eN (pc + 1) lo (.int (Int32.ofInt n) :: st) h
  | .bipush n => eN (pc + 2) lo (.int (Int8.ofInt n).toInt32 :: st) h
  | .sipush n => eN (pc + 3) lo (.int (Int16.ofInt n).toInt32 :: st) h
  | .lconst n => eN (pc + 1) lo (.long (Int64.ofNat (n : Nat)) :: st) h
  | .aconst_null => eN (pc + 1) lo (.null :: st) h
  | .ldc ix => match P.con (eOwn P k) ix with
    | some (.int v) => eN (pc + 2) lo (.int v :: st) h
    | _ => none
  | .ldc2_w ix => match P.con (eOwn P k) ix with
    | some (.long v) => eN (pc + 3) lo (.long v :: st) h
    | _ => none
  | .iload i => eLoI lo i fun x => eN (pc + 2) lo (.int x :: st) h
  | .iload_n i => eLoI lo i fun x => eN (pc + 1) lo (.int x :: st) h
  | .lload i => eLoJ lo i fun x => eN (pc + 2) lo (.long x :: st) h
  | .lload_n i => eLoJ lo i fun x => eN (pc + 1) lo (.long x :: st) h
  | .aload i => eLoA lo i fun x => eN (pc + 2) lo (eRf x :: st) h
  | .aload_n i => eLoA lo i fun x => eN (pc + 1) lo (eRf x :: st) h
  | .istore i => eI1 st fun x r => if i < lo.length then eN (pc + 2) (eSt1 lo i (.int x)) r h else none
  | .istore_n i => eI1 st fun x r => if (i : Nat) < lo.length then eN (pc + 1) (eSt1 lo i (.int x)) r h else none
  | .lstore i => eJ1 st fun x r => if i + 1 < lo.length then eN (pc + 2) (eSt2 lo i (.long x)) r h else none
  | .lstore_n i => eJ1 st fun x r => if (i : Nat) + 1 < lo.length then eN (pc + 1) (eSt2 lo i (.long x)) r h else none
  | .astore i => eQ1 st fun x r => if i < lo.length then eN (pc + 2) (eSt1 lo i (eRf x)) r h else none
  | .astore_n i => eQ1 st fun x r => if (i : Nat) < lo.length then eN (pc + 1) (eSt1 lo i (eRf x)) r h else none
  | .iinc i n => eLoI lo i fun x => if i < lo.length then eN (pc + 3) (eSt1 lo i (.int (x + Int32.ofInt n))) st h else none
  | .iadd => eI2 st fun x y r => eN (pc + 1) lo (.int (x + y) :: r) h
  | .isub => eI2 st fun x y r => eN (pc + 1) lo (.int (x - y) :: r) h
  | .imul => eI2 st fun x y r => eN (pc + 1) lo (.int (x * y) :: r) h
  | .idiv => eI2 st fun x y r => if y = 0 then none else eN (pc + 1) lo (.int (x / y) :: r) h
  | .iand => eI2 st fun x y r => eN (pc + 1) lo (.int (x &&& y) :: r) h
  | .ior => eI2 st fun x y r => eN (pc + 1) lo (.int (x ||| y) :: r) h
  | .ishl => eI2 st fun x y r => eN (pc + 1) lo (.int (x <<< (y &&& 31)) :: r) h
  | .ishr => eI2 st fun x y r => eN (pc + 1) lo (.int (x >>> (y &&& 31)) :: r) h
  | .ineg => eI1 st fun x r => eN (pc + 1) lo (.int (-x) :: r) h
  | .ladd => eJ2 st fun x y r => eN (pc + 1) lo (.long (x + y) :: r) h
  | .lsub => eJ2 st fun x y r => eN (pc + 1) lo (.long (x - y) :: r) h
  | .lmul => eJ2 st fun x y r => eN (pc + 1) lo (.long (x * y) :: r) h
  | .land => eJ2 st fun x y r => eN (pc + 1) lo (.long (x &&& y) :: r) h
  | .lor => eJ2 st fun x y r => eN (pc + 1) lo (.long (x ||| y) :: r) h
  | .lcmp => eJ2 st fun x y r => eN (pc + 1) lo (.int (lg_cmp x y) :: r) h
  | .lshl => eJI st fun x y r => eN (pc + 1) lo (.long (x <<< (y.toInt64 &&& 63)) :: r) h
  | .lushr => eJI st fun x y r => eN (pc + 1) lo (.long (x.toUInt64 >>> (y.toInt64.toUInt64 &&& Int64.toUInt64 63)).toInt64 :: r) h
  | .i2l => eI1 st fun x r => eN (pc + 1) lo (.long x.toInt64 :: r) h
  | .l2i => eJ1 st fun x r => eN (pc + 1) lo (.int x.toInt32 :: r) h
  | .i2c => eI1 st fun x r => eN (pc + 1) lo (.int (x.toUInt32 % 65536).toInt32 :: r) h
  | .dup => match st with
    | v :: r => if v.category = 1 then eN (pc + 1) lo (v :: v :: r) h else none
    | _ => none
  | .dup2 => match st with
    | .int y :: .ref x :: r => eN (pc + 1) lo (.int y :: .ref x :: .int y :: .ref x :: r) h
    | _ => none
  | .goto off => eTo pc off fun t => eN t lo st h
  | .ifCond cd off => eI1 st fun x r => eIf cd x 0 pc off lo r h
  | .if_icmp cd off => eI2 st fun x y r => eIf cd x y pc off lo r h
  | .ifnull off => eQ1 st fun x r => eBr x.isNone pc off lo r h
  | .tableswitch d lw hi offs => eI1 st fun x r => if x.toInt < lw ∨ hi < x.toInt then eTo pc d fun t => eN t lo r h else
      match offs[(x.toInt - lw).toNat]? with
      | some off => eTo pc off fun t => eN t lo r h
      | none => none
  | .getfield ix => eGf P (eOwn P k) ix h st fun v r => eN (pc + 3) lo (v :: r) h
  | .putfield ix => ePf P k ix h st fun h' r => eN (pc + 3) lo r h'
  | .iaload => eLdI X h 0 st fun x r => eN (pc + 1) lo (.int x :: r) h
  | .caload => eLdI X h 2 st fun x r => eN (pc + 1) lo (.int x :: r) h
  | .laload => eLdJ h st fun x r => eN (pc + 1) lo (.long x :: r) h
  | .aaload => eLdA P h st fun x r => eN (pc + 1) lo (eRf x :: r) h
  | .iastore => eStI h 0 (fun x => x) st fun h' r => eN (pc + 1) lo r h'
  | .castore => eStI h 2 (vp_nar .char) st fun h' r => eN (pc + 1) lo r h'
  | .lastore => eStJ h st fun h' r => eN (pc + 1) lo r h'
  | .aastore => eStA P h st fun h' r => eN (pc + 1) lo r h'
  | .arraylength => eLen X st fun x r => eN (pc + 1) lo (.int x :: r) h
  | .newarray .int => eNwA h 0 4 (.inl fun _ => 0) st fun h' a r => eN (pc + 2) lo (.ref a :: r) h'
  | .newarray .long => eNwA h 1 8 (.inr (.inl fun _ => 0)) st fun h' a r => eN (pc + 2) lo (.ref a :: r) h'
  | .newarray .char => eNwA h 2 2 (.inl fun _ => 0) st fun h' a r => eN (pc + 2) lo (.ref a :: r) h'
  | .anewarray ix => match P.arr (eOwn P k) ix with
    | some t => eNwA h t 4 (.inr (.inr fun _ => none)) st fun h' a r => eN (pc + 3) lo (.ref a :: r) h'
    | none => none
  | .new ix => match P.cls (eOwn P k) ix with
    | some c => eN (pc + 3) lo (.ref h.2.1 :: st) (eNew h (.inr (c, (P.bla c).1)) (P.bla c).2)
    | none => none
  | _ => none
def eKd (i : Instr) : Nat × Nat × Nat := match i with
  | .invokestatic ix => (1, 0, ix)
  | .invokevirtual ix => (1, 1, ix)
  | .invokespecial ix => (1, 2, ix)
  | .ireturn => (2, 0, 0)
  | .lreturn => (2, 0, 0)
  | .areturn => (2, 0, 0)
  | .return_ => (2, 0, 0)
  | .athrow => (2, 0, 0)
  | _ => (0, 0, 0)
def eHan (hs : List (Nat × Nat × Nat × Nat)) (pc c : Nat) : Option Nat := match hs with
  | [] => none
  | (a, b, t, c') :: hs => if a ≤ pc ∧ pc < b ∧ c' = c then some t else eHan hs pc c
def eGo (P : eP) (X : Nat × (Nat → Int32)) (call : Nat → List Value → eH → Option (eR × eH)) (k : Nat) : Nat → eS → Option (eR × eH)
  | 0, _ => none
  | n + 1, (pc, lo, st, h) => match P.ins k pc with
    | none => match P.thr k pc with
      | none => none
      | some q => if eHs P k = [] ∧ eCat st ≤ 8 then some (.inr h.2.1, eNew h (.inr (q.1, (P.bla q.1).1)) (P.bla q.1).2) else none
    | some (i, _) => match eKd i with
      | (0, _, _) => match eIns P X k i pc lo st h with
        | none => none
        | some x => eGo P X call k n x
      | (1, kd, ix) => match P.mth (eOwn P k) ix with
        | none => none
        | some (kind, k', na) => if st.length < na ∨ 8 < eCat (st.drop na) then none else
          if 3 ≤ kind then match eOwnless kd kind pc lo st h with
            | none => none
            | some x => eGo P X call k n x
          else match eArgs P kd kind k' na st h with
            | none => none
            | some (as, r) => match call k' as h with
              | none => none
              | some (.inl v, h') => eGo P X call k n (pc + 3, lo, v.toList ++ r, h')
              | some (.inr a, h') => if a = 0 ∨ ¬ eHs P k' = [] ∨ P.ini k' = true then none else match h'.1 a with
                | some (.inr (c, _)) => match eHan (eHs P k) pc c with
                  | some t => eGo P X call k n (t, lo, [.ref a], h')
                  | none => if eHs P k = [] then some (.inr a, h') else none
                | _ => none
      | _ => eRet P k i st h
def eArg (as : List Value) : eLo := match as with
  | [] => []
  | v :: r => if v.category = 2 then some v :: none :: eArg r else some v :: eArg r
def eEntry (nL : Nat) (as : List Value) : eLo := eArg as ++ List.replicate (nL - (eArg as).length) none
def eRun (P : eP) (X : Nat × (Nat → Int32)) (n : Nat) : Nat → Nat → List Value → eH → Option (eR × eH)
  | 0, _, _, _ => none
  | d + 1, k, as, h => if eNL P k < (eArg as).length then none else eGo P X (eRun P X n d) k n (0, eEntry (eNL P k) as, [], h)

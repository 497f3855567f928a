/-! THE SMALL MACHINE: values, memory, shapes, one step as a condition. Cell ids are (kind, instance, column); references never change once the objects are made. -/
abbrev xI : Type := Nat × Nat × Nat
abbrev xV : Type := Int32 ⊕ Int64 ⊕ Option xI
abbrev xM : Type := xI → Nat → Int32
abbrev vI (x : Int32) : xV := Sum.inl x
abbrev vL (x : Int64) : xV := Sum.inr (Sum.inl x)
abbrev vR (q : xI) : xV := Sum.inr (Sum.inr (some q))
abbrev vN : xV := Sum.inr (Sum.inr none)
abbrev xP : Type := Option xV → xM → Prop
/-- a method: name, bytes, locals, what it returns, how many arguments (the receiver not counted) -/
abbrev xD : Type := MethodName × ByteArray × Nat × Option FieldType × Nat
/-- an instruction: place, instruction, length, numbers (a local, targets, a field), a constant -/
abbrev xT : Type := Nat × Instr × Nat × List Nat × xV
abbrev xC : Type := xD → List xV → xM → xP → Prop
abbrev xK : Type := List xT → List xV → List xV → xM → Prop
/-- of a class: fields (entry, class, place, kind), methods of objects (entry, class, method), static methods, constants, natives (entry, which) -/
abbrev xCE : Type := List (Nat × Nat × Nat × Nat) × List (Nat × Nat × xD) × List (Nat × Nat × xD) × List (Nat × xV) × List (Nat × Nat)
/-- a method's text: its class's number, the method, its instructions, its heads with their live locals, its class's tables -/
abbrev xE : Type := Nat × xD × List xT × List (Nat × List Bool) × xCE
def xst (μ : xM) (q : xI) (k : Nat) (v : Int32) : xM := fun p => if p = q then upd (μ q) k v else μ p
def xcp (μ : xM) (a b : xI) (sp dp n : Nat) : xM := fun p => if p = b then va_cpy (μ a) (μ b) sp dp n else μ p
def xlenc : Nat → Nat
  | 0 => 60 | 1 => 60 | 2 => 60
  | 3 => 48 | 4 => 48 | 5 => 48 | 6 => 48 | 7 => 48 | 8 => 48 | 9 => 48 | 10 => 48 | 11 => 48
  | 12 => 60 | 13 => 60 | 14 => 70 | 15 => 70 | 16 => 70
  | 20 => 60 | 21 => 60 | 22 => 60 | 23 => 48 | 24 => 48 | 25 => 48 | 26 => 48 | 27 => 48 | 28 => 48 | 29 => 48 | 30 => 48 | 31 => 48
  | 32 => 3 | 33 => 48 | 34 => 48
  | _ => 0
def xarr : xI → Option (Nat × Nat)
  | (1, _, c) => some (0, xlenc c)
  | _ => none
def xobj : xI → Option (Nat × List (Option xI))
  | (0, j, c) => some (5, [some (1, j, c)])
  | (2, j, _) => some (2, [none, some (0, j, 0), some (0, j, 1), some (0, j, 2)])
  | (3, j, _) => some (4, [none, none, none, some (0, j, 3), some (0, j, 4), some (0, j, 5), some (0, j, 6), some (0, j, 7), some (0, j, 8), some (0, j, 9), some (0, j, 10), some (0, j, 11)])
  | (4, j, _) => some (6, [some (2, j, 0), some (3, j, 0)])
  | (5, _, _) => some (3, [none, none, some (10, 0, 0)])
  | (6, _, _) => some (0, [none, some (0, 0, 14), none, none, none])
  | (7, _, _) => some (1, [none, some (0, 0, 15), some (0, 0, 16)])
  | (8, _, _) => some (7, [some (4, 0, 0), some (4, 1, 0), some (5, 0, 0), some (6, 0, 0), some (7, 0, 0), some (2, 7, 0), some (0, 0, 12), some (0, 0, 13), none])
  | _ => none
/-- the cells of the world: with the two rows that come and go, or without -/
def xok (b : Bool) (q : xI) : Bool :=
  if q.1 = 0 then (decide (q.2.2 < 3) && decide (q.2.1 < 8)) || (decide (3 ≤ q.2.2) && decide (q.2.2 < 12) && decide (q.2.1 < 7)) || (decide (12 ≤ q.2.2) && decide (q.2.2 < 17) && decide (q.2.1 = 0))
  else if q.1 = 1 then (decide (q.2.2 < 3) && decide (q.2.1 < 8)) || (decide (3 ≤ q.2.2) && decide (q.2.2 < 12) && decide (q.2.1 < 7)) || (decide (12 ≤ q.2.2) && decide (q.2.2 < 17) && decide (q.2.1 = 0)) || (decide (20 ≤ q.2.2) && decide (q.2.2 < 33) && decide (q.2.1 = 0)) || (b && decide (33 ≤ q.2.2) && decide (q.2.2 < 35) && decide (q.2.1 = 0))
  else if q.1 = 2 then decide (q.2.2 = 0) && decide (q.2.1 < 8)
  else if q.1 = 3 then decide (q.2.2 = 0) && decide (q.2.1 < 7)
  else if q.1 = 4 then decide (q.2.2 = 0) && decide (q.2.1 < 7)
  else decide (q.1 < 11) && decide (q.1 ≠ 9) && decide (q.2.1 = 0) && decide (q.2.2 = 0)
def xids (b : Bool) : List xI := ((List.range 11).flatMap fun k => (List.range 8).flatMap fun j => (List.range 35).map fun c => (k, j, c)).filter (xok b)
/-- the script -/
abbrev xsc : xI := (13, 0, 0)
/-- a machine's value -/
def xrv (ad : xI → Nat) : xV → Value
  | .inl x => .int x
  | .inr (.inl x) => .long x
  | .inr (.inr (some q)) => .ref (ad q)
  | .inr (.inr none) => .null
def xvok (b : Bool) : xV → Prop
  | .inr (.inr (some q)) => q = xsc ∨ xok b q = true
  | _ => True
def xfs (ad : xI → Nat) (f : Nat → Int32) : Nat → List (Option xI) → List Value
  | _, [] => []
  | k, none :: l => .int (f k) :: xfs ad f (k + 1) l
  | k, some r :: l => .ref (ad r) :: xfs ad f (k + 1) l
def xcell (ad : xI → Nat) (cA : Nat → ClassId) (μ : xM) (q : xI) : va_E := match xobj q with
  | some (ci, fs) => .inr (ci, xfs ad (μ q) 0 fs)
  | none => match xarr q with
    | some (t, n) => .inl (cA t, n, .inl (μ q))
    | none => .inl (cA 1, 5, .inr (.inr (.inr (.inr fun i => some (ad (4, 2 + i, 0))))))
def xwld (b : Bool) (ad : xI → Nat) (cA : Nat → ClassId) (μ : xM) : va_W := (xids b).map fun q => (ad q, xcell ad cA μ q)
def xtys (cA : Nat → ClassId) : List (ClassId × FieldType) := [(cA 0, .int), (cA 1, .object "BoxedProofs$State")]
-- reading stack and locals
def xpI (st : List xV) (f : Int32 → List xV → Prop) : Prop := match st with
  | .inl x :: r => f x r
  | _ => False
def xpL (st : List xV) (f : Int64 → List xV → Prop) : Prop := match st with
  | .inr (.inl x) :: r => f x r
  | _ => False
def xpR (st : List xV) (f : xI → List xV → Prop) : Prop := match st with
  | .inr (.inr (some q)) :: r => f q r
  | _ => False
def xnth : List xV → Nat → xV
  | [], _ => vN
  | v :: _, 0 => v
  | _ :: l, i + 1 => xnth l i
def xgI (lv : List xV) (i : Nat) (f : Int32 → Prop) : Prop := match xnth lv i with
  | .inl x => f x
  | _ => False
def xgL (lv : List xV) (i : Nat) (f : Int64 → Prop) : Prop := match xnth lv i with
  | .inr (.inl x) => f x
  | _ => False
def xgR (lv : List xV) (i : Nat) (f : xI → Prop) : Prop := match xnth lv i with
  | .inr (.inr (some q)) => f q
  | _ => False
def xcI (c : xV) (f : Int32 → Prop) : Prop := match c with
  | .inl x => f x
  | _ => False
def xcL (c : xV) (f : Int64 → Prop) : Prop := match c with
  | .inr (.inl x) => f x
  | _ => False
def xax (q : xI) (t : Nat) (f : Nat → Prop) : Prop := match xarr q with
  | some (t', n) => (match Nat.beq t' t with | true => f n | false => False)
  | none => False
def xal (q : xI) (f : Nat → Prop) : Prop := match xarr q with
  | some (_, n) => f n
  | none => (match q with | (10, _, _) => f 5 | _ => False)
def xrg (q : xI) (f : Prop) : Prop := match q with
  | (10, _, _) => f
  | _ => False
def xro (q : xI) (t : Nat) (f : Prop) : Prop := match xobj q with
  | some (ci, _) => (match Nat.beq ci t with | true => f | false => False)
  | none => False
def xpQ (st : List xV) (f : Option xI → List xV → Prop) : Prop := match st with
  | .inr (.inr q) :: r => f q r
  | _ => False
def xnil (l : List xV) (f : Prop) : Prop := match l with
  | [] => f
  | _ => False
def xri (rt : Option FieldType) (x : Int32) (f : Prop) : Prop := match rt with
  | some .int => f
  | some .boolean => (x = 0 ∨ x = 1) ∧ f
  | _ => False
def xrl (rt : Option FieldType) (f : Prop) : Prop := match rt with
  | some .long => f
  | _ => False
def xra (rt : Option FieldType) (f : Prop) : Prop := match rt with
  | some (.object _) => f
  | _ => False
def xrn (rt : Option FieldType) (f : Prop) : Prop := match rt with
  | none => f
  | _ => False
def xpb (c : xV) (x : Int32) (f : Prop) : Prop := match c with
  | .inl _ => (x = 0 ∨ x = 1) ∧ f
  | _ => f
def xset : List xV → Nat → xV → List xV
  | [], _, _ => []
  | _ :: l, 0, v => v :: l
  | a :: l, i + 1, v => a :: xset l i v
def xclr (lv : List xV) : Nat → List xV
  | 0 => lv
  | i + 1 => match xnth lv i with
    | .inr (.inl _) => xset lv i vN
    | _ => lv
def xs1 (lv : List xV) (i : Nat) (v : xV) : List xV := xset (xclr lv i) i v
def xs2 (lv : List xV) (i : Nat) (v : xV) : List xV := xset (xset (xclr lv i) (i + 1) vN) i v
def xmask : List Bool → List xV → List xV
  | true :: b, v :: l => v :: xmask b l
  | false :: b, _ :: l => vN :: xmask b l
  | _, _ => []
def xlook : List (Nat × List Bool) → Nat → Option (List Bool)
  | [], _ => none
  | (a, b) :: l, n => match Nat.beq a n with
    | true => some b
    | false => xlook l n
def xt0 : List Nat → Nat
  | a :: _ => a
  | [] => 0
def xt1 : List Nat → Nat
  | _ :: a :: _ => a
  | _ => 0
def xcats : List xV → Nat
  | [] => 0
  | .inr (.inl _) :: l => 2 + xcats l
  | _ :: l => 1 + xcats l
def xargs : Nat → List xV → List xV → (List xV → List xV → Prop) → Prop
  | 0, st, acc, f => f acc st
  | n + 1, v :: r, acc, f => xargs n r (v :: acc) f
  | _ + 1, [], _, _ => False
def xfind (l : List (Nat × Nat × xD)) (i : Nat) (f : xD → Prop) : Prop := match l, i with
  | [], _ => False
  | (_, _, D) :: _, 0 => f D
  | _ :: l, i + 1 => xfind l i f
def xif8 (l : List xV) (f : Prop) : Prop := match Nat.ble (xcats l) 8 with
  | true => f
  | false => False
def xifv (l : List xV) (D : xD) (f : Prop) : Prop := match Nat.ble (xcats l) 8 with
  | true => (match Nat.ble D.2.2.1 18 with | true => f | false => False)
  | false => False
def xif26 (l : List xV) (D : xD) (f : Prop) : Prop := match Nat.ble (xcats l + D.2.2.1) 26 with
  | true => f
  | false => False
def xrI (k : Int32 → xM → Prop) : xP := fun r μ' => match r with
  | some (.inl x) => k x μ'
  | _ => False
def xrL (k : Int64 → xM → Prop) : xP := fun r μ' => match r with
  | some (.inr (.inl x)) => k x μ'
  | _ => False
def xrR (k : xI → xM → Prop) : xP := fun r μ' => match r with
  | some (.inr (.inr (some q))) => k q μ'
  | _ => False
def xrV (k : xM → Prop) : xP := fun r μ' => match r with
  | none => k μ'
  | _ => False
/-- behind a call: what it returned goes onto the stack -/
def xret (rt : Option FieldType) (rest : List xV) (k : List xV → xM → Prop) : xP := match rt with
  | none => xrV fun μ' => k rest μ'
  | some .long => xrL fun x μ' => k (vL x :: rest) μ'
  | some (.object _) => xrR fun q μ' => k (vR q :: rest) μ'
  | some _ => xrI fun x μ' => k (vI x :: rest) μ'
def xtsw (x : Int32) : Int → List Nat → (Nat → Prop) → Prop → Prop
  | _, [], _, d => d
  | lo, t :: l, k, d => (x = Int32.ofInt lo → k t) ∧ (¬ x = Int32.ofInt lo → xtsw x (lo + 1) l k d)
def xlsw (x : Int32) : List (Int × Int) → List Nat → (Nat → Prop) → Prop → Prop
  | [], _, _, d => d
  | (a, _) :: l, t :: ts, k, d => (x = Int32.ofInt a → k t) ∧ (¬ x = Int32.ofInt a → xlsw x l ts k d)
  | _ :: _, [], _, _ => False
def xif (c : Prop) (a b : Prop) : Prop := (c → a) ∧ (¬ c → b)
def xfld (q : xI) (ci k : Nat) (fi : Prop) (fr : xI → Prop) : Prop := match xobj q with
  | some (ci', fs) => (match Nat.beq ci' ci with
    | true => (match fs[k]? with
      | some none => fi
      | some (some r) => fr r
      | none => False)
    | false => False)
  | none => False
def xstep (cl : xC) (E : xE) (Q : xP) (e : xT) (r : List xT) (lv st : List xV) (μ : xM) (k : xK) : Prop :=
  match e.2.1 with
  | .aload_n _ => xgR lv (xt0 e.2.2.2.1) fun q => k r lv (vR q :: st) μ
  | .aload _ => xgR lv (xt0 e.2.2.2.1) fun q => k r lv (vR q :: st) μ
  | .iload_n _ => xgI lv (xt0 e.2.2.2.1) fun x => k r lv (vI x :: st) μ
  | .iload _ => xgI lv (xt0 e.2.2.2.1) fun x => k r lv (vI x :: st) μ
  | .lload_n _ => xgL lv (xt0 e.2.2.2.1) fun x => k r lv (vL x :: st) μ
  | .lload _ => xgL lv (xt0 e.2.2.2.1) fun x => k r lv (vL x :: st) μ
  | .istore_n _ => xpI st fun x s' => k r (xs1 lv (xt0 e.2.2.2.1) (vI x)) s' μ
  | .istore _ => xpI st fun x s' => k r (xs1 lv (xt0 e.2.2.2.1) (vI x)) s' μ
  | .lstore_n _ => xpL st fun x s' => k r (xs2 lv (xt0 e.2.2.2.1) (vL x)) s' μ
  | .lstore _ => xpL st fun x s' => k r (xs2 lv (xt0 e.2.2.2.1) (vL x)) s' μ
  | .astore_n _ => xpR st fun q s' => k r (xs1 lv (xt0 e.2.2.2.1) (vR q)) s' μ
  | .astore _ => xpR st fun q s' => k r (xs1 lv (xt0 e.2.2.2.1) (vR q)) s' μ
  | .iconst _ => xcI e.2.2.2.2 fun x => k r lv (vI x :: st) μ
  | .bipush _ => xcI e.2.2.2.2 fun x => k r lv (vI x :: st) μ
  | .sipush _ => xcI e.2.2.2.2 fun x => k r lv (vI x :: st) μ
  | .ldc _ => xcI e.2.2.2.2 fun x => k r lv (vI x :: st) μ
  | .ldc_w _ => xcI e.2.2.2.2 fun x => k r lv (vI x :: st) μ
  | .lconst _ => xcL e.2.2.2.2 fun x => k r lv (vL x :: st) μ
  | .ldc2_w _ => xcL e.2.2.2.2 fun x => k r lv (vL x :: st) μ
  | .aconst_null => k r lv (vN :: st) μ
  | .iadd => xpI st fun y s' => xpI s' fun x s' => k r lv (vI (x + y) :: s') μ
  | .isub => xpI st fun y s' => xpI s' fun x s' => k r lv (vI (x - y) :: s') μ
  | .imul => xpI st fun y s' => xpI s' fun x s' => k r lv (vI (x * y) :: s') μ
  | .iand => xpI st fun y s' => xpI s' fun x s' => k r lv (vI (x &&& y) :: s') μ
  | .ior => xpI st fun y s' => xpI s' fun x s' => k r lv (vI (x ||| y) :: s') μ
  | .ixor => xpI st fun y s' => xpI s' fun x s' => k r lv (vI (x ^^^ y) :: s') μ
  | .idiv => xpI st fun y s' => xpI s' fun x s' => ¬ y = 0 ∧ k r lv (vI (x / y) :: s') μ
  | .irem => xpI st fun y s' => xpI s' fun x s' => ¬ y = 0 ∧ k r lv (vI (x - x / y * y) :: s') μ
  | .ineg => xpI st fun x s' => k r lv (vI (-x) :: s') μ
  | .ishl => xpI st fun y s' => xpI s' fun x s' => k r lv (vI (x <<< (y &&& 31)) :: s') μ
  | .ishr => xpI st fun y s' => xpI s' fun x s' => k r lv (vI (x >>> (y &&& 31)) :: s') μ
  | .iushr => xpI st fun y s' => xpI s' fun x s' => k r lv (vI ((x.toUInt32 >>> (y.toUInt32 &&& Int32.toUInt32 31)).toInt32) :: s') μ
  | .i2c => xpI st fun x s' => k r lv (vI ((x.toUInt32 % 65536).toInt32) :: s') μ
  | .i2l => xpI st fun x s' => k r lv (vL x.toInt64 :: s') μ
  | .l2i => xpL st fun x s' => k r lv (vI x.toInt32 :: s') μ
  | .ladd => xpL st fun y s' => xpL s' fun x s' => k r lv (vL (x + y) :: s') μ
  | .lmul => xpL st fun y s' => xpL s' fun x s' => k r lv (vL (x * y) :: s') μ
  | .ldiv => xpL st fun y s' => xpL s' fun x s' => ¬ y = 0 ∧ k r lv (vL (x / y) :: s') μ
  | .lrem => xpL st fun y s' => xpL s' fun x s' => ¬ y = 0 ∧ k r lv (vL (x - x / y * y) :: s') μ
  | .lsub => xpL st fun y s' => xpL s' fun x s' => k r lv (vL (x - y) :: s') μ
  | .land => xpL st fun y s' => xpL s' fun x s' => k r lv (vL (x &&& y) :: s') μ
  | .lor => xpL st fun y s' => xpL s' fun x s' => k r lv (vL (x ||| y) :: s') μ
  | .lshl => xpI st fun y s' => xpL s' fun x s' => k r lv (vL (x <<< (y.toInt64 &&& 63)) :: s') μ
  | .lshr => xpI st fun y s' => xpL s' fun x s' => k r lv (vL (x >>> (y.toInt64 &&& 63)) :: s') μ
  | .lushr => xpI st fun y s' => xpL s' fun x s' => k r lv (vL ((x.toUInt64 >>> (y.toInt64.toUInt64 &&& Int64.toUInt64 63)).toInt64) :: s') μ
  | .lcmp => xpL st fun y s' => xpL s' fun x s' => k r lv (vI (lg_cmp x y) :: s') μ
  | .iinc _ _ => xcI e.2.2.2.2 fun n => xgI lv (xt0 e.2.2.2.1) fun x => k r (xs1 lv (xt0 e.2.2.2.1) (vI (x + n))) st μ
  | .dup => (match st with | .inl x :: s' => k r lv (vI x :: vI x :: s') μ | .inr (.inr (some q)) :: s' => k r lv (vR q :: vR q :: s') μ | _ => False)
  | .dup2 => xpI st fun x s' => xpR s' fun q s' => k r lv (vI x :: vR q :: vI x :: vR q :: s') μ
  | .pop => xpI st fun _ s' => k r lv s' μ
  | .ifCond .eq _ => xpI st fun x s' => xif (x = 0) (k (E.2.2.1.drop (xt0 e.2.2.2.1)) lv s' μ) (k r lv s' μ)
  | .ifCond .ne _ => xpI st fun x s' => xif (x = 0) (k r lv s' μ) (k (E.2.2.1.drop (xt0 e.2.2.2.1)) lv s' μ)
  | .ifCond .lt _ => xpI st fun x s' => xif (x < 0) (k (E.2.2.1.drop (xt0 e.2.2.2.1)) lv s' μ) (k r lv s' μ)
  | .ifCond .ge _ => xpI st fun x s' => xif (0 ≤ x) (k (E.2.2.1.drop (xt0 e.2.2.2.1)) lv s' μ) (k r lv s' μ)
  | .ifCond .gt _ => xpI st fun x s' => xif (0 < x) (k (E.2.2.1.drop (xt0 e.2.2.2.1)) lv s' μ) (k r lv s' μ)
  | .ifCond .le _ => xpI st fun x s' => xif (x ≤ 0) (k (E.2.2.1.drop (xt0 e.2.2.2.1)) lv s' μ) (k r lv s' μ)
  | .if_icmp .eq _ => xpI st fun y s' => xpI s' fun x s' => xif (x = y) (k (E.2.2.1.drop (xt0 e.2.2.2.1)) lv s' μ) (k r lv s' μ)
  | .if_icmp .ne _ => xpI st fun y s' => xpI s' fun x s' => xif (x = y) (k r lv s' μ) (k (E.2.2.1.drop (xt0 e.2.2.2.1)) lv s' μ)
  | .if_icmp .lt _ => xpI st fun y s' => xpI s' fun x s' => xif (x < y) (k (E.2.2.1.drop (xt0 e.2.2.2.1)) lv s' μ) (k r lv s' μ)
  | .if_icmp .ge _ => xpI st fun y s' => xpI s' fun x s' => xif (y ≤ x) (k (E.2.2.1.drop (xt0 e.2.2.2.1)) lv s' μ) (k r lv s' μ)
  | .if_icmp .gt _ => xpI st fun y s' => xpI s' fun x s' => xif (y < x) (k (E.2.2.1.drop (xt0 e.2.2.2.1)) lv s' μ) (k r lv s' μ)
  | .if_icmp .le _ => xpI st fun y s' => xpI s' fun x s' => xif (x ≤ y) (k (E.2.2.1.drop (xt0 e.2.2.2.1)) lv s' μ) (k r lv s' μ)
  | .ifnull _ => xpR st fun _ s' => k r lv s' μ
  | .goto _ => k (E.2.2.1.drop (xt0 e.2.2.2.1)) lv st μ
  | .tableswitch _ lo _ _ => xpI st fun x s' => (match e.2.2.2.1 with | d :: l => xtsw x lo l (fun t => k (E.2.2.1.drop t) lv s' μ) (k (E.2.2.1.drop d) lv s' μ) | [] => False)
  | .lookupswitch _ ps => xpI st fun x s' => (match e.2.2.2.1 with | d :: l => xlsw x ps.toList l (fun t => k (E.2.2.1.drop t) lv s' μ) (k (E.2.2.1.drop d) lv s' μ) | [] => False)
  | .getfield _ => xpR st fun q s' => xfld q (xt0 e.2.2.2.1) (xt1 e.2.2.2.1) (k r lv (vI (μ q (xt1 e.2.2.2.1)) :: s') μ) (fun p => k r lv (vR p :: s') μ)
  | .putfield _ => xpI st fun x s' => xpR s' fun q s' => xfld q (xt0 e.2.2.2.1) (xt1 e.2.2.2.1) (xpb e.2.2.2.2 x (k r lv s' (xst μ q (xt1 e.2.2.2.1) x))) (fun _ => False)
  | .arraylength => xpR st fun q s' => xal q fun n => k r lv (vI (Int32.ofNat n) :: s') μ
  | .iaload => xpI st fun i s' => xpR s' fun q s' => xax q 0 fun n => vp_in i n ∧ k r lv (vI (μ q i.toNatClampNeg) :: s') μ
  | .iastore => xpI st fun x s' => xpI s' fun i s' => xpR s' fun q s' => xax q 0 fun n => vp_in i n ∧ k r lv s' (xst μ q i.toNatClampNeg x)
  | .aaload => xpI st fun i s' => xpR s' fun q s' => xrg q (vp_in i 5 ∧ k r lv (vR (4, 2 + i.toNatClampNeg, 0) :: s') μ)
  | .invokevirtual _ => xfind E.2.2.2.2.2.1 (xt0 e.2.2.2.1) fun D => xargs D.2.2.2.2 st [] fun As s' => xpR s' fun q s' => xro q (xt1 e.2.2.2.1) (xifv s' D (cl D (vR q :: As) μ (xret D.2.2.2.1 s' fun s'' μ' => k r lv s'' μ')))
  | .invokestatic _ => (match xt1 e.2.2.2.1 with
    | 0 => xfind E.2.2.2.2.2.2.1 (xt0 e.2.2.2.1) fun D => xargs D.2.2.2.2 st [] fun As s' => xif26 s' D (cl D As μ (xret D.2.2.2.1 s' fun s'' μ' => k r lv s'' μ'))
    | 1 => xpI st fun y s' => xpI s' fun x s' => xif8 s' (k r lv (vI (if y < x then y else x) :: s') μ)
    | 2 => xpI st fun n s' => xpI s' fun dp s' => xpR s' fun b s' => xpI s' fun sp s' => xpR s' fun a s' => xax a 0 fun n0 => xax b 0 fun n1 => xnil s' (¬ sp < 0 ∧ ¬ dp < 0 ∧ ¬ n < 0 ∧ sp.toNatClampNeg + n.toNatClampNeg ≤ n0 ∧ dp.toNatClampNeg + n.toNatClampNeg ≤ n1 ∧ k r lv [] (xcp μ a b sp.toNatClampNeg dp.toNatClampNeg n.toNatClampNeg))
    | _ => False)
  | .ireturn => xpI st fun x s' => xnil s' (xri E.2.1.2.2.2.1 x (Q (some (vI x)) μ))
  | .lreturn => xpL st fun x s' => xnil s' (xrl E.2.1.2.2.2.1 (Q (some (vL x)) μ))
  | .areturn => xpQ st fun q s' => xnil s' (xra E.2.1.2.2.2.1 (Q (some (.inr (.inr q))) μ))
  | .return_ => xnil st (xrn E.2.1.2.2.2.1 (Q none μ))
  | _ => False

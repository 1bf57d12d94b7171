/-! The pure machine: memory by cell and place, resolved code, one instruction's meaning by continuation. -/
abbrev PM : Type := (Nat → Nat → Int32) × (Nat → Nat → Int64)
def up2 {α : Type} (f : Nat → Nat → α) (k j : Nat) (v : α) : Nat → Nat → α := fun a b => if a = k then (if b = j then v else f a b) else f a b
def mI (M : PM) (k j : Nat) (v : Int32) : PM := (up2 M.1 k j v, M.2)
def mJ (M : PM) (k j : Nat) (v : Int64) : PM := (M.1, up2 M.2 k j v)
/-- a cell's shape: an object (number, fields: a fixed cell or a typed place) or an array (number of its type, length, type, fixed cells) -/
abbrev PSh : Type := (Nat × List (Nat ⊕ FieldType)) ⊕ (Nat × Nat × FieldType × List Nat)
def rv (ρ : Nat → Nat) (v : Value) : Value := match v with
  | .ref k => .ref (ρ k)
  | v => v
def p_fv (ρ : Nat → Nat) (M : PM) (k j : Nat) (f : Nat ⊕ FieldType) : Value := match f with
  | .inl x => .ref (ρ x)
  | .inr .long => .long (M.2 k j)
  | .inr _ => .int (M.1 k j)
def p_cell (ρ : Nat → Nat) (cA : Nat → ClassId) (M : PM) (k : Nat) (sh : PSh) : va_E := match sh with
  | .inl (c, fs) => .inr (c, fs.mapIdx (p_fv ρ M k))
  | .inr (t, n, ty, rs) => .inl (cA t, n, match ty with
    | .long => .inr (.inl (M.2 k))
    | .object _ => .inr (.inr (.inr (.inr (fun i => (rs[i]?).map ρ))))
    | _ => .inl (M.1 k))
def p_w (ρ : Nat → Nat) (cA : Nat → ClassId) (Sh : List PSh) (M : PM) : va_W := Sh.mapIdx (fun k sh => (ρ k, p_cell ρ cA M k sh))
/-- storing into the locals by place; a long that the place cuts is gone -/
def p_cut (a : Option Value) : Option Value := match a with
  | some (.long _) => none
  | some (.double _) => none
  | a => a
def st1 : List (Option Value) → Nat → Option Value → List (Option Value)
  | [], _, _ => []
  | _ :: t, 0, v => v :: t
  | a :: t, 1, v => p_cut a :: (match t with
    | [] => []
    | _ :: t' => v :: t')
  | a :: t, n + 2, v => a :: st1 t (n + 1) v
def st2 : List (Option Value) → Nat → Option Value → List (Option Value)
  | [], _, _ => []
  | _ :: t, 0, v => v :: (match t with
    | [] => []
    | _ :: t' => none :: t')
  | a :: t, 1, v => p_cut a :: (match t with
    | [] => []
    | _ :: t' => v :: (match t' with
      | [] => []
      | _ :: t'' => none :: t''))
  | a :: t, n + 2, v => a :: st2 t (n + 1) v
/-- the locals at a method's entry -/
def p_ent : List Value → List (Option Value)
  | [] => []
  | .long x :: r => some (.long x) :: none :: p_ent r
  | .double x :: r => some (.double x) :: none :: p_ent r
  | v :: r => some v :: p_ent r
def p_ent0 (n : Nat) (vs : List Value) : List (Option Value) := p_ent vs ++ List.replicate (n - (p_ent vs).length) none
/-- what a method asks of what it calls -/
abbrev PEnv : Type := Nat → List Value → PM → (Option (Option Value) → PM → Prop) → Prop
abbrev PI : Type := Instr × Nat × Nat × Nat × List Nat × Value
abbrev PCode : Type := Nat → Option PI
/-- both roads of a branch -/
def p_br (c : Prop) (a b : Prop) : Prop := (c → a) ∧ (¬ c → b)
def p_icmp (op : ClassFile.Cond) (x y : Int32) : Prop := match op with
  | .eq => x = y
  | .ne => ¬ x = y
  | .lt => x < y
  | .ge => y ≤ x
  | .gt => y < x
  | .le => x ≤ y
/-- a throw at pc: to the handler there, behind its store, or out -/
def p_th (hn : Nat → Option (Nat × Nat)) (pc : Nat) (L : List (Option Value)) (M : PM) (K : Nat → List (Option Value) → List Value → PM → Prop) (Q : Option (Option Value) → PM → Prop) : Prop := match hn pc with
  | some (p2, i) => K p2 (st1 L i none) [] M
  | none => Q none M
/-- a table of jumps -/
def p_sw (x : Int32) (k : Nat → Prop) (d : Nat) : Int → List Nat → Prop
  | _, [] => k d
  | v, t :: ts => p_br (x = Int32.ofInt v) (k t) (p_sw x k d (v + 1) ts)
/-- the number of the thrown thing's kind -/
abbrev p_xc : Nat := 0
def p_ld (L : List (Option Value)) (i : Nat) (k : Value → Prop) : Prop := match L[i]? with
  | some (some v) => k v
  | _ => False
def p_isI (v : Value) (k : Int32 → Prop) : Prop := match v with
  | .int x => k x
  | _ => False
def p_isJ (v : Value) (k : Int64 → Prop) : Prop := match v with
  | .long x => k x
  | _ => False
def p_isR (v : Value) (k : Nat → Prop) : Prop := match v with
  | .ref x => k x
  | _ => False
def p_pop (st : List Value) (k : Value → List Value → Prop) : Prop := match st with
  | v :: r => k v r
  | [] => False
def p_popI (st : List Value) (k : Int32 → List Value → Prop) : Prop := match st with
  | .int x :: r => k x r
  | _ => False
def p_popJ (st : List Value) (k : Int64 → List Value → Prop) : Prop := match st with
  | .long x :: r => k x r
  | _ => False
def p_popR (st : List Value) (k : Nat → List Value → Prop) : Prop := match st with
  | .ref x :: r => k x r
  | _ => False
def p_obj (Sh : List PSh) (c k : Nat) (f : List (Nat ⊕ FieldType) → Prop) : Prop := match Sh[k]? with
  | some (.inl (c', fs)) => if c' = c then f fs else False
  | _ => False
def p_arr (Sh : List PSh) (k : Nat) (f : Nat → Nat → FieldType → List Nat → Prop) : Prop := match Sh[k]? with
  | some (.inr (t, n, ty, rs)) => f t n ty rs
  | _ => False
/-- int or boolean -/
def p_small (ty : FieldType) : Prop := match ty with
  | .int => True
  | .boolean => True
  | _ => False
def p_ex (Sh : List PSh) (E : PEnv) (hn : Nat → Option (Nat × Nat)) (ret : Option FieldType) (pc : Nat) (ins : Instr) (nx : Nat) (a0 b0 : Nat) (ts0 : List Nat) (cv : Value) (L : List (Option Value)) (st : List Value) (M : PM) (K : Nat → List (Option Value) → List Value → PM → Prop) (Q : Option (Option Value) → PM → Prop) : Prop :=
  match ins with
  | .iconst _ => K nx L (cv :: st) M
  | .bipush _ => K nx L (cv :: st) M
  | .sipush _ => K nx L (cv :: st) M
  | .lconst _ => K nx L (cv :: st) M
  | .ldc _ => K nx L (cv :: st) M
  | .ldc2_w _ => K nx L (cv :: st) M
  | .iload_n _ => p_ld L a0 fun v => p_isI v fun x => K nx L (.int x :: st) M
  | .iload _ => p_ld L a0 fun v => p_isI v fun x => K nx L (.int x :: st) M
  | .lload_n _ => p_ld L a0 fun v => p_isJ v fun x => K nx L (.long x :: st) M
  | .lload _ => p_ld L a0 fun v => p_isJ v fun x => K nx L (.long x :: st) M
  | .aload_n _ => p_ld L a0 fun v => p_isR v fun x => K nx L (.ref x :: st) M
  | .aload _ => p_ld L a0 fun v => p_isR v fun x => K nx L (.ref x :: st) M
  | .istore_n _ => p_popI st fun x r => K nx (st1 L a0 (some (.int x))) r M
  | .istore _ => p_popI st fun x r => K nx (st1 L a0 (some (.int x))) r M
  | .lstore_n _ => p_popJ st fun x r => K nx (st2 L a0 (some (.long x))) r M
  | .lstore _ => p_popJ st fun x r => K nx (st2 L a0 (some (.long x))) r M
  | .astore_n _ => p_popR st fun x r => K nx (st1 L a0 (some (.ref x))) r M
  | .astore _ => p_popR st fun x r => K nx (st1 L a0 (some (.ref x))) r M
  | .iinc _ _ => p_ld L a0 fun v => p_isI v fun x => p_isI cv fun n => K nx (st1 L a0 (some (.int (x + n)))) st M
  | .iadd => p_popI st fun y r => p_popI r fun x r => K nx L (.int (x + y) :: r) M
  | .isub => p_popI st fun y r => p_popI r fun x r => K nx L (.int (x - y) :: r) M
  | .imul => p_popI st fun y r => p_popI r fun x r => K nx L (.int (x * y) :: r) M
  | .iand => p_popI st fun y r => p_popI r fun x r => K nx L (.int (x &&& y) :: r) M
  | .ishr => p_popI st fun y r => p_popI r fun x r => K nx L (.int (x >>> (y &&& 31)) :: r) M
  | .iushr => p_popI st fun y r => p_popI r fun x r => K nx L (.int ((x.toUInt32 >>> (y.toUInt32 &&& Int32.toUInt32 31)).toInt32) :: r) M
  | .idiv => p_popI st fun y r => p_popI r fun x r => ¬ y = 0 ∧ K nx L (.int (x / y) :: r) M
  | .irem => p_popI st fun y r => p_popI r fun x r => ¬ y = 0 ∧ K nx L (.int (x - x / y * y) :: r) M
  | .ladd => p_popJ st fun y r => p_popJ r fun x r => K nx L (.long (x + y) :: r) M
  | .lsub => p_popJ st fun y r => p_popJ r fun x r => K nx L (.long (x - y) :: r) M
  | .lmul => p_popJ st fun y r => p_popJ r fun x r => K nx L (.long (x * y) :: r) M
  | .land => p_popJ st fun y r => p_popJ r fun x r => K nx L (.long (x &&& y) :: r) M
  | .lor => p_popJ st fun y r => p_popJ r fun x r => K nx L (.long (x ||| y) :: r) M
  | .ldiv => p_popJ st fun y r => p_popJ r fun x r => ¬ y = 0 ∧ K nx L (.long (x / y) :: r) M
  | .lrem => p_popJ st fun y r => p_popJ r fun x r => ¬ y = 0 ∧ K nx L (.long (x - x / y * y) :: r) M
  | .lneg => p_popJ st fun x r => K nx L (.long (-x) :: r) M
  | .i2b => p_popI st fun x r => K nx L (.int x.toInt8.toInt32 :: r) M
  | .i2l => p_popI st fun x r => K nx L (.long x.toInt64 :: r) M
  | .l2i => p_popJ st fun x r => K nx L (.int x.toInt32 :: r) M
  | .lcmp => p_popJ st fun y r => p_popJ r fun x r => K nx L (.int (lg_cmp x y) :: r) M
  | .dup => p_pop st fun v r => if v.category = 1 then K nx L (v :: v :: r) M else False
  | .dup2 => p_pop st fun v r => p_pop r fun w r => if v.category = 1 then (if w.category = 1 then K nx L (v :: w :: v :: w :: r) M else False) else False
  | .ifCond c _ => p_popI st fun x r => p_br (p_icmp c x 0) (K a0 L r M) (K nx L r M)
  | .if_icmp c _ => p_popI st fun y r => p_popI r fun x r => p_br (p_icmp c x y) (K a0 L r M) (K nx L r M)
  | .goto _ => K a0 L st M
  | .tableswitch _ lo _ _ => p_popI st fun x r => p_sw x (fun t => K t L r M) a0 lo ts0
  | .getfield _ => p_popR st fun k r => p_obj Sh a0 k fun fs => match fs[b0]? with
    | some (.inl x) => K nx L (.ref x :: r) M
    | some (.inr .long) => K nx L (.long (M.2 k b0) :: r) M
    | some (.inr _) => K nx L (.int (M.1 k b0) :: r) M
    | none => False
  | .putfield _ => p_pop st fun v r => p_popR r fun k r => p_obj Sh a0 k fun fs => match fs[b0]? with
    | some (.inr .long) => p_isJ v fun x => K nx L r (mJ M k b0 x)
    | some (.inr .int) => p_isI v fun x => K nx L r (mI M k b0 x)
    | some (.inr .boolean) => p_isI v fun x => narrow .boolean (.int x) = .int x ∧ fits .boolean (.int x) = true ∧ K nx L r (mI M k b0 x)
    | _ => False
  | .iaload => p_popI st fun i r => p_popR r fun k r => p_arr Sh k fun _ n ty _ => ty = .int ∧ vp_in i n ∧ K nx L (.int (M.1 k i.toNatClampNeg) :: r) M
  | .baload => p_popI st fun i r => p_popR r fun k r => p_arr Sh k fun _ n ty _ => (ty = .byte ∨ ty = .boolean) ∧ vp_in i n ∧ K nx L (.int (M.1 k i.toNatClampNeg) :: r) M
  | .laload => p_popI st fun i r => p_popR r fun k r => p_arr Sh k fun _ n ty _ => ty = .long ∧ vp_in i n ∧ K nx L (.long (M.2 k i.toNatClampNeg) :: r) M
  | .aaload => p_popI st fun i r => p_popR r fun k r => p_arr Sh k fun _ n ty rs => (∃ C, ty = .object C) ∧ vp_in i n ∧ ∃ x, rs[i.toNatClampNeg]? = some x ∧ K nx L (.ref x :: r) M
  | .iastore => p_popI st fun x r => p_popI r fun i r => p_popR r fun k r => p_arr Sh k fun _ n ty _ => ty = .int ∧ vp_in i n ∧ K nx L r (mI M k i.toNatClampNeg x)
  | .bastore => p_popI st fun x r => p_popI r fun i r => p_popR r fun k r => p_arr Sh k fun _ n ty _ => (ty = .byte ∨ ty = .boolean) ∧ vp_in i n ∧ K nx L r (mI M k i.toNatClampNeg (vp_nar ty x))
  | .lastore => p_popJ st fun x r => p_popI r fun i r => p_popR r fun k r => p_arr Sh k fun _ n ty _ => ty = .long ∧ vp_in i n ∧ K nx L r (mJ M k i.toNatClampNeg x)
  | .arraylength => p_popR st fun k r => p_arr Sh k fun _ n _ _ => K nx L (.int (Int32.ofNat n) :: r) M
  | .invokevirtual _ => ((st.drop b0).map fun v => v.category).sum ≤ 8 ∧ ∃ Q0, E a0 (st.take b0).reverse M Q0 ∧ (∀ v M', Q0 (some v) M' → K nx L (v.toList ++ st.drop b0) M') ∧ ∀ M', Q0 none M' → p_th hn pc L M' K Q
  | .invokestatic _ => if b0 = 1000 then (p_popI st fun y r => p_popI r fun x r => (r.map fun v => v.category).sum ≤ 8 ∧ K nx L (.int (if x < y then y else x) :: r) M) else if b0 = 1001 then (p_popJ st fun x r => (r.map fun v => v.category).sum ≤ 8 ∧ K nx L (.long (if 0 < x then x else -x) :: r) M) else (((st.drop b0).map fun v => v.category).sum ≤ 8 ∧ ∃ Q0, E a0 (st.take b0).reverse M Q0 ∧ (∀ v M', Q0 (some v) M' → K nx L (v.toList ++ st.drop b0) M') ∧ ∀ M', Q0 none M' → p_th hn pc L M' K Q)
  | .ireturn => p_popI st fun x r => r = [] ∧ (∃ ty, ret = some ty ∧ p_small ty ∧ narrow ty (.int x) = .int x) ∧ Q (some (some (.int x))) M
  | .lreturn => p_popJ st fun x r => r = [] ∧ ret = some .long ∧ Q (some (some (.long x))) M
  | .areturn => p_popR st fun x r => r = [] ∧ (∃ C, ret = some (.object C)) ∧ Q (some (some (.ref x))) M
  | .return_ => st = [] ∧ ret = none ∧ Q (some none) M
  | .athrow => p_popR st fun k _ => p_obj Sh p_xc k fun _ => p_th hn pc L M K Q
  | _ => False

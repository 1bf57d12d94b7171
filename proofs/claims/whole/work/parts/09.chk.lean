/-! A method's code checked by program. -/
/-- what a call asks of the called method -/
def p_cal (cl : List vw_C) (Ts : List Cond) (MT : Nat → Option PMeth) (st : Bool) (k n : Nat) (y : MethodName) : Prop := ∃ q, MT k = some q ∧ q.y = y ∧ Cond.initialized q.y.cls ∈ Ts ∧ q.cw ∈ Ts ∧ (q.y.cls ≠ "java/lang/invoke/MethodHandle" ∧ q.y.cls ≠ "java/lang/invoke/VarHandle") ∧ (parseMethodDescriptor q.y.desc).map (fun d => d.parameters.length) = some q.np ∧
  match st with
  | true => q.rc = none ∧ n = q.np ∧ Cond.static q.y ∈ Ts
  | false => n = q.np + 1 ∧ Cond.instanceMethod q.y ∈ Ts ∧ Cond.selects q.y.cls q.y q.y ∈ Ts ∧ ∃ ci T N, q.rc = some ci ∧ cl[ci]? = some (q.y.cls, T, N)
theorem p_cal.ok {cl : List vw_C} {Ts : List Cond} {MT : Nat → Option PMeth} {st : Bool} {k n : Nat} {y : MethodName} (h : p_cal cl Ts MT st k n y) {own : String} {idx : Nat} (hl : Cond.methodLink own idx y ∈ Ts) : p_cok cl Ts MT own st idx k n := by
  obtain ⟨q, h1, rfl, h2, h3, h4, h5, h6⟩ := h
  exact ⟨q, h1, hl, h2, h3, h4, h5, h6⟩
/-- a call's entry, virtual or static -/
def p_cx (cl : List vw_C) (Ts : List Cond) (MT : Nat → Option PMeth) (own : String) (st : Bool) (i k n : Nat) : Prop := match st with
  | true => p_csx cl Ts MT own i k n
  | false => p_cok cl Ts MT own false i k n
theorem p_cal.okS {cl : List vw_C} {Ts : List Cond} {MT : Nat → Option PMeth} {k n : Nat} {y : MethodName} (h : p_cal cl Ts MT true k n y) (h0 : n ≠ 1000) (h1 : n ≠ 1001) {own : String} {idx : Nat} (hl : Cond.methodLink own idx y ∈ Ts) : p_cx cl Ts MT own true idx k n := by
  show p_csx cl Ts MT own idx k n
  unfold p_csx
  rw [if_neg h0, if_neg h1]
  exact h.ok hl
def p_ckI (F : List (Nat × Nat × Nat)) (Ml : List (Bool × Nat × Nat × Nat)) (Kc : List (Nat × Int64)) (nL pc : Nat) (ins : Instr) (len : Nat) (a0 b0 : Nat) (ts0 : List Nat) (cv : Value) : Bool := match ins with
  | .iconst n => len == 1 && decide (cv = .int (Int32.ofInt n))
  | .bipush n => len == 2 && decide (cv = .int (Int8.ofInt n).toInt32)
  | .sipush n => len == 3 && decide (cv = .int (Int16.ofInt n).toInt32)
  | .lconst n => len == 1 && decide (cv = .long (Int64.ofNat (n : Nat)))
  | .ldc _ => false
  | .ldc2_w i => len == 3 && (match cv with
    | .long v => decide ((i, v) ∈ Kc)
    | _ => false)
  | .iload_n k => len == 1 && (k : Nat) == a0
  | .lload_n k => len == 1 && (k : Nat) == a0
  | .aload_n k => len == 1 && (k : Nat) == a0
  | .iload k => len == 2 && k == a0
  | .lload k => len == 2 && k == a0
  | .aload k => len == 2 && k == a0
  | .istore_n k => len == 1 && ((k : Nat) == a0 && decide (a0 < nL))
  | .astore_n k => len == 1 && ((k : Nat) == a0 && decide (a0 < nL))
  | .lstore_n k => len == 1 && ((k : Nat) == a0 && decide (a0 + 1 < nL))
  | .istore k => len == 2 && (k == a0 && decide (a0 < nL))
  | .astore k => len == 2 && (k == a0 && decide (a0 < nL))
  | .lstore k => len == 2 && (k == a0 && decide (a0 + 1 < nL))
  | .iinc k n => len == 3 && (k == a0 && (decide (a0 < nL) && decide (cv = .int (Int32.ofInt n))))
  | .ifCond _ off => len == 3 && decide ((pc : Int) + off = (a0 : Int))
  | .if_icmp _ off => len == 3 && decide ((pc : Int) + off = (a0 : Int))
  | .goto off => len == 3 && decide ((pc : Int) + off = (a0 : Int))
  | .tableswitch d lo hi offs => decide ((pc : Int) + d = (a0 : Int)) && (decide (-2147483648 ≤ lo) && (decide (hi ≤ 2147483647) && (decide (hi = lo + ts0.length - 1) && decide (offs.toList.map (fun o => (pc : Int) + o) = ts0.map (fun t : Nat => (t : Int))))))
  | .getfield i => len == 3 && decide ((i, a0, b0) ∈ F)
  | .putfield i => len == 3 && decide ((i, a0, b0) ∈ F)
  | .invokevirtual i => len == 3 && decide ((false, i, a0, b0) ∈ Ml)
  | .invokestatic i => len == 3 && decide ((true, i, a0, b0) ∈ Ml)
  | _ => len == 1
def p_ckB (F : List (Nat × Nat × Nat)) (Ml : List (Bool × Nat × Nat × Nat)) (Kc : List (Nat × Int64)) (nL : Nat) (bytes : ByteArray) (pc : Nat) (o : Option PI) : Bool := match o with
  | none => true
  | some (ins, nx, a0, b0, ts0, cv) => decide (decode bytes pc = .ok (ins, nx - pc)) && (decide (pc ≤ nx) && p_ckI F Ml Kc nL pc ins (nx - pc) a0 b0 ts0 cv)
set_option maxHeartbeats 4000000 in
theorem p_ckI_ok {cl : List vw_C} {Ts : List Cond} {MT : Nat → Option PMeth} {own : String} {F : List (Nat × Nat × Nat)} {Ml : List (Bool × Nat × Nat × Nat)} {Kc : List (Nat × Int64)} {nL pc : Nat} {ins : Instr} {len : Nat} {a0 b0 : Nat} {ts0 : List Nat} {cv : Value}
    (hF : ∀ t ∈ F, p_fok cl Ts own t.1 t.2.1 t.2.2) (hM : ∀ t ∈ Ml, p_cx cl Ts MT own t.1 t.2.1 t.2.2.1 t.2.2.2) (hC : ∀ t ∈ Kc, Cond.constantLong own t.1 t.2 ∈ Ts) (h : p_ckI F Ml Kc nL pc ins len a0 b0 ts0 cv = true) :
    p_chk cl Ts own nL pc ins len a0 b0 ts0 cv ∧ (∀ i, ins = .invokevirtual i → p_cok cl Ts MT own false i a0 b0) ∧ (∀ i, ins = .invokestatic i → p_csx cl Ts MT own i a0 b0) := by
  cases ins
  case ldc => exact Bool.noConfusion h
  case ldc2_w i =>
    simp only [p_ckI, Bool.and_eq_true, beq_iff_eq] at h
    obtain ⟨h1, h2⟩ := h
    cases cv <;> first | exact Bool.noConfusion h2 | skip
    exact ⟨⟨h1, _, rfl, hC _ (of_decide_eq_true h2)⟩, fun _ h9 => Instr.noConfusion h9, fun _ h9 => Instr.noConfusion h9⟩
  case getfield i =>
    simp only [p_ckI, Bool.and_eq_true, beq_iff_eq, decide_eq_true_eq] at h
    exact ⟨⟨h.1, hF _ h.2⟩, fun _ h9 => Instr.noConfusion h9, fun _ h9 => Instr.noConfusion h9⟩
  case putfield i =>
    simp only [p_ckI, Bool.and_eq_true, beq_iff_eq, decide_eq_true_eq] at h
    exact ⟨⟨h.1, hF _ h.2⟩, fun _ h9 => Instr.noConfusion h9, fun _ h9 => Instr.noConfusion h9⟩
  case invokevirtual i =>
    simp only [p_ckI, Bool.and_eq_true, beq_iff_eq, decide_eq_true_eq] at h
    exact ⟨h.1, fun _ h9 => by cases h9; exact hM _ h.2, fun _ h9 => Instr.noConfusion h9⟩
  case invokestatic i =>
    simp only [p_ckI, Bool.and_eq_true, beq_iff_eq, decide_eq_true_eq] at h
    exact ⟨h.1, fun _ h9 => Instr.noConfusion h9, fun _ h9 => by cases h9; exact hM _ h.2⟩
  all_goals (simp only [p_ckI, Bool.and_eq_true, beq_iff_eq, decide_eq_true_eq] at h; exact ⟨h, fun _ h9 => Instr.noConfusion h9, fun _ h9 => Instr.noConfusion h9⟩)
/-- a code's table: nothing from N on, below it all is checked -/
theorem p_ck_ok {cl : List vw_C} {Ts : List Cond} {MT : Nat → Option PMeth} {XN : String} {F : List (Nat × Nat × Nat)} {Ml : List (Bool × Nat × Nat × Nat)} {Kc : List (Nat × Int64)} {q : PMeth} (N : Nat) (hpl : plainName q.y.cls = true) (hh : p_hok Ts q.y.cls XN q.bytes q.maxL q.hh q.hn)
    (hF : ∀ t ∈ F, p_fok cl Ts q.y.cls t.1 t.2.1 t.2.2) (hM : ∀ t ∈ Ml, p_cx cl Ts MT q.y.cls t.1 t.2.1 t.2.2.1 t.2.2.2) (hC : ∀ t ∈ Kc, Cond.constantLong q.y.cls t.1 t.2 ∈ Ts)
    (hN : ∀ pc, ¬ pc < N → q.code pc = none) (h : ∀ pc, pc < N → p_ckB F Ml Kc q.maxL q.bytes pc (q.code pc) = true) : p_mok cl Ts MT XN q := by
  refine ⟨hpl, hh, fun pc ins nx a0 b0 ts0 cv hc => ?_⟩
  have hlt : pc < N := Decidable.byContradiction fun h9 => by rw [hN pc h9] at hc; cases hc
  have h1 := h pc hlt
  rw [hc] at h1
  simp only [p_ckB, Bool.and_eq_true, decide_eq_true_eq] at h1
  obtain ⟨h2, h3, h4⟩ := h1
  obtain ⟨k1, k2, k3⟩ := p_ckI_ok hF hM hC h4
  exact ⟨nx - pc, h2, by omega, k1, k2, k3⟩
theorem p_hok_nil {Ts : List Cond} {own XN : String} {bytes : ByteArray} {nL : Nat} : p_hok Ts own XN bytes nL [] (fun _ => none) :=
  ⟨fun _ _ x hx => (List.not_mem_nil hx).elim, fun _ _ _ h => by cases h⟩
def TS : List Cond := lw_tbl.filter goodWord
theorem TS_good : ∀ w ∈ TS, goodWord w = true := fun w h => (List.mem_filter.mp h).2
theorem mT {w : Cond} (i : Nat) (h : lw_tbl[i]? = some w) (hg : goodWord w = true) : w ∈ TS := List.mem_filter.mpr ⟨List.mem_of_getElem? h, hg⟩

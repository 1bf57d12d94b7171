/-! Each instruction of the pure machine is the real one's. -/
section PS1
variable {p : Program} {l : Launch} {e : Env} {R : Room} {s : State} {m : MethodId} {args : Array Value} {below : List Frame} {meth : Method} {c : Code} {H : Heap} {locs : List Loc} {cells slots : Nat} {Q : State → Prop} {cc : ByteArray} {pc : Nat} {ls : Array Slot} {rest : List Value}
theorem w_athrow (hexec : p.tables.exec = Jvm.exec) (hb : c.code = cc) {a : Addr} (hdg : decode cc pc = .ok (.athrow, 1)) (kk : vx_W p l e R s m args below meth c H locs cells slots Q (F0 m pc ls rest) a) : W p l e R s m args below meth c H locs cells slots Q (F0 m pc ls (.ref a :: rest)) := by
  intro T hT X
  obtain ⟨t, a1, b1⟩ := kk T hT X
  refine ⟨t, ?_, b1⟩
  subst hb
  have hat : At T (F0 m pc ls (.ref a :: rest)).method c below := X.here
  jvm_step hat [hexec, hdg, athrow.wp_sem]
  exact a1
end PS1
/-- a kind of objects, by its number: its name, its fields' table, what the tables say -/
def p_kind (cl : List vw_C) (Ts : List Cond) (ci : Nat) (C : String) (T : u_T) (N : Nat) (ty : Nat → FieldType) : Prop :=
  cl[ci]? = some (C, T, N) ∧ (∀ w ∈ u_ws C T N, w ∈ Ts) ∧ (∀ k, k < N → parseFieldDescriptor (T k).2.2.1 = some (ty k)) ∧ (∀ a, a < N → ∀ b, b < N → a ≠ b → (T a).2.1 ≠ (T b).2.1)
/-- the entry 'index' of own's pool names the place j of the kind ci -/
def p_fok (cl : List vw_C) (Ts : List Cond) (own : String) (index ci j : Nat) : Prop := ∃ C T N ty, p_kind cl Ts ci C T N ty ∧ j < N ∧ Cond.fieldLink own index (T j).1 (T j).2.1 (T j).2.2.1 ∈ Ts
/-- and it is no final one, of that type -/
def p_fput (cl : List vw_C) (ci j : Nat) (ty : FieldType) : Prop := ∀ C T N, cl[ci]? = some (C, T, N) → (T j).2.2.2 = false ∧ parseFieldDescriptor (T j).2.2.1 = some ty
/-- the shapes fit the kinds and the arrays' types -/
def p_shok (cl : List vw_C) (tys : List (ClassId × FieldType)) (cA : Nat → ClassId) (Sh : List PSh) : Prop :=
  (∀ (k t n : Nat) (ty : FieldType) (rs : List Nat), Sh[k]? = some (.inr (t, n, ty, rs)) → tys[t]? = some (cA t, ty)) ∧ (∀ (k ci : Nat) (fs : List (Nat ⊕ FieldType)) (j : Nat) (ty : FieldType), Sh[k]? = some (.inl (ci, fs)) → fs[j]? = some (.inr ty) → p_fput cl ci j ty)
/-- the words of a method of java.lang.Math -/
def p_mw (Ts : List Cond) (own : String) (i : Nat) (y : MethodName) (cw : Cond) : Prop := Cond.methodLink own i y ∈ Ts ∧ Cond.static y ∈ Ts ∧ Cond.initialized "java/lang/Math" ∈ Ts ∧ cw ∈ Ts
abbrev p_mmax : Cond := .code Lib.Math.max.name Lib.Math.max.code 2 (some .int)
abbrev p_mabs : Cond := .code Lib.MathLoose.abs_long.x Lib.MathLoose.abs_long.code 2 (some .long)
/-- what is asked of a resolved instruction at pc, decoded with length len -/
def p_chk (cl : List vw_C) (Ts : List Cond) (own : String) (nL pc : Nat) (ins : Instr) (len : Nat) (a0 b0 : Nat) (ts0 : List Nat) (cv : Value) : Prop := match ins with
  | .iconst n => len = 1 ∧ cv = .int (Int32.ofInt n)
  | .bipush n => len = 2 ∧ cv = .int (Int8.ofInt n).toInt32
  | .sipush n => len = 3 ∧ cv = .int (Int16.ofInt n).toInt32
  | .lconst n => len = 1 ∧ cv = .long (Int64.ofNat (n : Nat))
  | .ldc i => len = 2 ∧ ∃ v, cv = .int v ∧ Cond.constant own i v ∈ Ts
  | .ldc2_w i => len = 3 ∧ ∃ v, cv = .long v ∧ Cond.constantLong own i v ∈ Ts
  | .iload_n k => len = 1 ∧ (k : Nat) = a0
  | .lload_n k => len = 1 ∧ (k : Nat) = a0
  | .aload_n k => len = 1 ∧ (k : Nat) = a0
  | .iload k => len = 2 ∧ k = a0
  | .lload k => len = 2 ∧ k = a0
  | .aload k => len = 2 ∧ k = a0
  | .istore_n k => len = 1 ∧ (k : Nat) = a0 ∧ a0 < nL
  | .astore_n k => len = 1 ∧ (k : Nat) = a0 ∧ a0 < nL
  | .lstore_n k => len = 1 ∧ (k : Nat) = a0 ∧ a0 + 1 < nL
  | .istore k => len = 2 ∧ k = a0 ∧ a0 < nL
  | .astore k => len = 2 ∧ k = a0 ∧ a0 < nL
  | .lstore k => len = 2 ∧ k = a0 ∧ a0 + 1 < nL
  | .iinc k n => len = 3 ∧ k = a0 ∧ a0 < nL ∧ cv = .int (Int32.ofInt n)
  | .ifCond _ off => len = 3 ∧ (pc : Int) + off = (a0 : Int)
  | .if_icmp _ off => len = 3 ∧ (pc : Int) + off = (a0 : Int)
  | .goto off => len = 3 ∧ (pc : Int) + off = (a0 : Int)
  | .tableswitch d lo hi offs => (pc : Int) + d = (a0 : Int) ∧ -2147483648 ≤ lo ∧ hi ≤ 2147483647 ∧ hi = lo + ts0.length - 1 ∧ offs.toList.map (fun o => (pc : Int) + o) = ts0.map (fun t : Nat => (t : Int))
  | .getfield i => len = 3 ∧ p_fok cl Ts own i a0 b0
  | .putfield i => len = 3 ∧ p_fok cl Ts own i a0 b0
  | .invokevirtual _ => len = 3
  | .invokestatic _ => len = 3
  | _ => len = 1
section PS2
variable {p : Program} {l : Launch} {e : Env} {R : Room} {s : State} {m : MethodId} {args : Array Value} {below : List Frame} {meth : Method} {c : Code} {H0 : Heap} {cells slots mc ms : Nat} {D : va_G} {cl : List vw_C} {tys : List (ClassId × FieldType)} {A free : Nat → Prop} {ρ : Nat → Nat} {cA : Nat → ClassId} {Sh : List PSh} {cc : ByteArray} {nL : Nat} {own : String} {Ts : List Cond} {Qc : Array Value → State → Outcome → State → Prop} {XC : String → State → State → Prop}
/-- the real machine at a point of the pure one -/
def p_sm (p : Program) (l : Launch) (e : Env) (R : Room) (s : State) (m : MethodId) (args : Array Value) (below : List Frame) (meth : Method) (c : Code) (H0 : Heap) (cells slots : Nat) (Qw : State → Prop) (D : va_G) (cl : List vw_C) (A : Nat → Prop) (ρ : Nat → Nat) (cA : Nat → ClassId) (Sh : List PSh) (nL : Nat) (pc : Nat) (L : List (Option Value)) (st : List Value) (M : PM) : Prop :=
  ∀ (H : Heap) (locs : List Loc) (ls : Array Slot), p_Lr ρ nL L ls → va_P D cl (p_w ρ cA Sh M) H → va_D A (p_w ρ cA Sh M) → va_S A H0 H locs → W p l e R s m args below meth c H locs cells slots Qw (F0 m pc ls (st.map (rv ρ)))
/-- the same, with something thrown over it -/
def p_sx (p : Program) (l : Launch) (e : Env) (R : Room) (s : State) (m : MethodId) (args : Array Value) (below : List Frame) (meth : Method) (c : Code) (H0 : Heap) (cells slots : Nat) (Qw : State → Prop) (D : va_G) (cl : List vw_C) (A : Nat → Prop) (ρ : Nat → Nat) (cA : Nat → ClassId) (Sh : List PSh) (nL : Nat) (XN : String) (pc : Nat) (L : List (Option Value)) (M : PM) : Prop :=
  ∀ (H : Heap) (locs : List Loc) (ls : Array Slot) (rest : List Value) (q : Addr) (ce : Cell), p_Lr ρ nL L ls → va_P D cl (p_w ρ cA Sh M) H → va_D A (p_w ρ cA Sh M) → va_S A H0 H locs → H[q]? = some ce → ce.vm = .none → s.vm.findClass XN = some ce.cls → vx_W p l e R s m args below meth c H locs cells slots Qw (F0 m pc ls rest) q
theorem p_sw_e {x : Int32} {k : Nat → Prop} {d : Nat} : ∀ (ts : List Nat) (v : Int), -2147483648 ≤ v → v + ts.length ≤ 2147483648 → p_sw x k d v ts → (x.toInt < v → k d) ∧ (v + ts.length ≤ x.toInt → k d) ∧ ∀ (j t : Nat), ts[j]? = some t → x.toInt = v + j → k t
  | [], v, _, _, h => ⟨fun _ => h, fun _ => h, fun j t ht => by simp at ht⟩
  | t0 :: ts, v, h1, h2, h => by
    simp only [List.length_cons] at h2 ⊢
    have hv : (Int32.ofInt v).toInt = v := Int32.toInt_ofInt_of_le (by show -2 ^ 31 ≤ v; omega) (by show v < 2 ^ 31; omega)
    by_cases hx : x = Int32.ofInt v
    · have hxv : x.toInt = v := by rw [hx, hv]
      refine ⟨fun h9 => by omega, fun h9 => by omega, fun j t ht hj => ?_⟩
      have hj0 : j = 0 := by omega
      subst hj0
      cases ht
      exact h.1 hx
    · have hxv : x.toInt ≠ v := fun h9 => hx (Int32.toInt_inj.mp (by rw [hv]; exact h9))
      obtain ⟨a1, a2, a3⟩ := p_sw_e ts (v + 1) (by omega) (by omega) (h.2 hx)
      refine ⟨fun h9 => a1 (by omega), fun h9 => a2 (by omega), fun j t ht hj => ?_⟩
      cases j with
      | zero => omega
      | succ j => exact a3 j t ht (by omega)
set_option maxHeartbeats 8000000 in
set_option maxRecDepth 20000 in
theorem p_ex_snd {E : PEnv} {hn : Nat → Option (Nat × Nat)} {ret : Option FieldType} {pc : Nat} {ins : Instr} {nx len : Nat} {a0 b0 : Nat} {ts0 : List Nat} {cv : Value} {L : List (Option Value)} {st : List Value} {M : PM} {K : Nat → List (Option Value) → List Value → PM → Prop} {Qp : Option (Option Value) → PM → Prop} {XN : String}
    (hx : p.tables.exec = Jvm.exec) (hb : c.code = cc) (hown : s.vm.findClass own = some m.cls) (hts : ∀ w ∈ Ts, w.before args s = true) (hK : va_K D cl tys s) (hsh : p_shok cl tys cA Sh) (hlocks : meth.locks = false) (hret : meth.sig.returnType = ret) (hmc : cells ≤ mc) (hms : slots ≤ ms) (hAf : ∀ q, A q → free q)
    (hd : decode cc pc = .ok (ins, len)) (hnx : nx = pc + len) (hc : p_chk cl Ts own nL pc ins len a0 b0 ts0 cv) (hml : c.maxLocals = nL) (hR1 : 1 ≤ R.frames ∧ 21 ≤ R.locals ∧ cells ≤ R.cells ∧ slots ≤ R.slots)
    (hmx : ∀ i, ins = .invokestatic i → b0 = 1000 → p_mw Ts own i Lib.Math.max.name p_mmax) (hab : ∀ i, ins = .invokestatic i → b0 = 1001 → p_mw Ts own i Lib.MathLoose.abs_long.x p_mabs)
    (hkind0 : ∀ k fs, Sh[k]? = some (.inl (p_xc, fs)) → ∃ T N, cl[p_xc]? = some (XN, T, N) ∧ ∀ H, va_P D cl (p_w ρ cA Sh M) H → ∃ ce : Cell, H[ρ k]? = some ce ∧ ce.vm = .none)
    (hKK : ∀ pc L st M, K pc L st M → p_sm p l e R s m args below meth c H0 cells slots (vx_MQ below Qc XC args s mc ms free) D cl A ρ cA Sh nL pc L st M)
    (hcall : ∀ (k n : Nat) (L : List (Option Value)) (st : List Value) (M : PM) (Q0 : Option (Option Value) → PM → Prop), (∃ i, ins = .invokevirtual i ∨ (ins = .invokestatic i ∧ b0 ≠ 1000 ∧ b0 ≠ 1001)) → k = a0 → n = b0 → ((st.drop n).map fun v => v.category).sum ≤ 8 → E k (st.take n).reverse M Q0 →
      (∀ v M', Q0 (some v) M' → p_sm p l e R s m args below meth c H0 cells slots (vx_MQ below Qc XC args s mc ms free) D cl A ρ cA Sh nL (pc + 3) L (v.toList ++ st.drop n) M') →
      (∀ M', Q0 none M' → p_sx p l e R s m args below meth c H0 cells slots (vx_MQ below Qc XC args s mc ms free) D cl A ρ cA Sh nL XN pc L M') →
      p_sm p l e R s m args below meth c H0 cells slots (vx_MQ below Qc XC args s mc ms free) D cl A ρ cA Sh nL pc L st M)
    (hth : ∀ (L : List (Option Value)) (M : PM), p_th hn pc L M K Qp → p_sx p l e R s m args below meth c H0 cells slots (vx_MQ below Qc XC args s mc ms free) D cl A ρ cA Sh nL XN pc L M)
    (hQ : ∀ (v : Option Value) (M : PM) (H : Heap) (locs : List Loc), Qp (some v) M → va_P D cl (p_w ρ cA Sh M) H → va_D A (p_w ρ cA Sh M) → va_S A H0 H locs → ∀ t : State, t.heap = H → s.WarmedH t.vm → Qc args s (.returned (v.map (rv ρ))) t)
    (hk : p_ex Sh E hn ret pc ins nx a0 b0 ts0 cv L st M K Qp) : p_sm p l e R s m args below meth c H0 cells slots (vx_MQ below Qc XC args s mc ms free) D cl A ρ cA Sh nL pc L st M := by
  subst hnx
  have hcS : ∀ {k n : Nat} {L : List (Option Value)} {st : List Value} {M : PM}, (∃ i, ins = .invokevirtual i ∨ (ins = .invokestatic i ∧ b0 ≠ 1000 ∧ b0 ≠ 1001)) → len = 3 → k = a0 → n = b0 → (((st.drop n).map fun v => v.category).sum ≤ 8 ∧ ∃ Q0, E k (st.take n).reverse M Q0 ∧ (∀ v M', Q0 (some v) M' → K (pc + len) L (v.toList ++ st.drop n) M') ∧ ∀ M', Q0 none M' → p_th hn pc L M' K Qp) → p_sm p l e R s m args below meth c H0 cells slots (vx_MQ below Qc XC args s mc ms free) D cl A ρ cA Sh nL pc L st M := by
    rintro k n L st M hi rfl e1 e2 ⟨h0, Q0, h1, h2, h3⟩
    exact hcall k n L st M Q0 hi e1 e2 h0 h1 (fun v M' hq => hKK _ _ _ _ (h2 v M' hq)) (fun M' hq => hth _ _ (h3 M' hq))
  cases ins
  case iconst n => obtain ⟨rfl, rfl⟩ := hc; exact fun H locs ls hL hP hD hS => lv_iconst hx hb hd rfl (hKK _ _ _ _ hk H locs ls hL hP hD hS)
  case bipush n => obtain ⟨rfl, rfl⟩ := hc; exact fun H locs ls hL hP hD hS => lv_bipush hx hb hd rfl (hKK _ _ _ _ hk H locs ls hL hP hD hS)
  case sipush n => obtain ⟨rfl, rfl⟩ := hc; exact fun H locs ls hL hP hD hS => lv_sipush hx hb hd rfl (hKK _ _ _ _ hk H locs ls hL hP hD hS)
  case lconst n => obtain ⟨rfl, rfl⟩ := hc; exact fun H locs ls hL hP hD hS => lv_lconst hx hb hd rfl (hKK _ _ _ _ hk H locs ls hL hP hD hS)
  case ldc n => obtain ⟨rfl, v, rfl, hw⟩ := hc; exact fun H locs ls hL hP hD hS => lv_ldc hx hb hown (hts _ hw) hd (hKK _ _ _ _ hk H locs ls hL hP hD hS)
  case ldc2_w n => obtain ⟨rfl, v, rfl, hw⟩ := hc; exact fun H locs ls hL hP hD hS => lv_ldc2 hx hb hown (hts _ hw) hd (hKK _ _ _ _ hk H locs ls hL hP hD hS)
  case iload_n i => obtain ⟨rfl, hi⟩ := hc; obtain ⟨v, hv, hk⟩ := p_ld_e hk; obtain ⟨x, rfl, hk⟩ := p_isI_e hk; exact fun H locs ls hL hP hD hS => lv_iload_n hx hb hd hi (hL.at hv) (hKK _ _ _ _ hk H locs ls hL hP hD hS)
  case lload_n i => obtain ⟨rfl, hi⟩ := hc; obtain ⟨v, hv, hk⟩ := p_ld_e hk; obtain ⟨x, rfl, hk⟩ := p_isJ_e hk; exact fun H locs ls hL hP hD hS => lv_lload_n hx hb hd hi (hL.at hv) (hKK _ _ _ _ hk H locs ls hL hP hD hS)
  case aload_n i => obtain ⟨rfl, hi⟩ := hc; obtain ⟨v, hv, hk⟩ := p_ld_e hk; obtain ⟨x, rfl, hk⟩ := p_isR_e hk; exact fun H locs ls hL hP hD hS => lv_aload_n hx hb hd hi (hL.at hv) (hKK _ _ _ _ hk H locs ls hL hP hD hS)
  case iload i => obtain ⟨rfl, rfl⟩ := hc; obtain ⟨v, hv, hk⟩ := p_ld_e hk; obtain ⟨x, rfl, hk⟩ := p_isI_e hk; exact fun H locs ls hL hP hD hS => lv_iload hx hb hd (hL.at hv) (hKK _ _ _ _ hk H locs ls hL hP hD hS)
  case lload i => obtain ⟨rfl, rfl⟩ := hc; obtain ⟨v, hv, hk⟩ := p_ld_e hk; obtain ⟨x, rfl, hk⟩ := p_isJ_e hk; exact fun H locs ls hL hP hD hS => lv_lload hx hb hd (hL.at hv) (hKK _ _ _ _ hk H locs ls hL hP hD hS)
  case aload i => obtain ⟨rfl, rfl⟩ := hc; obtain ⟨v, hv, hk⟩ := p_ld_e hk; obtain ⟨x, rfl, hk⟩ := p_isR_e hk; exact fun H locs ls hL hP hD hS => lv_aload hx hb hd (hL.at hv) (hKK _ _ _ _ hk H locs ls hL hP hD hS)
  case istore_n i => obtain ⟨rfl, hi, hlt⟩ := hc; obtain ⟨x, r, rfl, hk⟩ := p_popI_e hk; exact fun H locs ls hL hP hD hS => lv_istore_n hx hb hd hi hL.2 hlt rfl (fun ls' hl' => hKK _ _ _ _ hk H locs ls' (hL.set1 hlt (fun w hw => by cases hw; rfl) hl') hP hD hS)
  case astore_n i => obtain ⟨rfl, hi, hlt⟩ := hc; obtain ⟨x, r, rfl, hk⟩ := p_popR_e hk; exact fun H locs ls hL hP hD hS => lv_astore_n hx hb hd hi hL.2 hlt rfl (fun ls' hl' => hKK _ _ _ _ hk H locs ls' (hL.set1 hlt (fun w hw => by cases hw; rfl) hl') hP hD hS)
  case lstore_n i => obtain ⟨rfl, hi, hlt⟩ := hc; obtain ⟨x, r, rfl, hk⟩ := p_popJ_e hk; exact fun H locs ls hL hP hD hS => lv_lstore_n hx hb hd hi hL.2 hlt rfl (fun ls' hl' => hKK _ _ _ _ hk H locs ls' (hL.set2 hlt (fun w hw => by cases hw; rfl) hl') hP hD hS)
  case istore i => obtain ⟨rfl, rfl, hlt⟩ := hc; obtain ⟨x, r, rfl, hk⟩ := p_popI_e hk; exact fun H locs ls hL hP hD hS => lv_istore hx hb hd hL.2 hlt rfl (fun ls' hl' => hKK _ _ _ _ hk H locs ls' (hL.set1 hlt (fun w hw => by cases hw; rfl) hl') hP hD hS)
  case astore i => obtain ⟨rfl, rfl, hlt⟩ := hc; obtain ⟨x, r, rfl, hk⟩ := p_popR_e hk; exact fun H locs ls hL hP hD hS => lv_astore hx hb hd hL.2 hlt rfl (fun ls' hl' => hKK _ _ _ _ hk H locs ls' (hL.set1 hlt (fun w hw => by cases hw; rfl) hl') hP hD hS)
  case lstore i => obtain ⟨rfl, rfl, hlt⟩ := hc; obtain ⟨x, r, rfl, hk⟩ := p_popJ_e hk; exact fun H locs ls hL hP hD hS => lv_lstore hx hb hd hL.2 hlt rfl (fun ls' hl' => hKK _ _ _ _ hk H locs ls' (hL.set2 hlt (fun w hw => by cases hw; rfl) hl') hP hD hS)
  case iinc i n =>
    obtain ⟨rfl, rfl, hlt, rfl⟩ := hc; obtain ⟨v, hv, hk⟩ := p_ld_e hk; obtain ⟨x, rfl, hk⟩ := p_isI_e hk
    intro H locs ls hL hP hD hS
    obtain ⟨kk, hkk⟩ := List.getElem?_of_mem (lvl_mem.mpr ⟨.int x, hv, rfl⟩ : (_, rv ρ (.int x)) ∈ lvl ρ L)
    exact lv_iinc hx hb hd hL.2 hkk rfl hlt rfl (fun ls' hl' => hKK _ _ _ _ hk H locs ls' (hL.set1 hlt (fun w hw => by cases hw; rfl) hl') hP hD hS)
  case iadd => obtain rfl : len = 1 := hc; obtain ⟨y, r, rfl, hk⟩ := p_popI_e hk; obtain ⟨x, r, rfl, hk⟩ := p_popI_e hk; exact fun H locs ls hL hP hD hS => lv_iadd hx hb hd (hKK _ _ _ _ hk H locs ls hL hP hD hS)
  case isub => obtain rfl : len = 1 := hc; obtain ⟨y, r, rfl, hk⟩ := p_popI_e hk; obtain ⟨x, r, rfl, hk⟩ := p_popI_e hk; exact fun H locs ls hL hP hD hS => lv_isub hx hb hd (hKK _ _ _ _ hk H locs ls hL hP hD hS)
  case imul => obtain rfl : len = 1 := hc; obtain ⟨y, r, rfl, hk⟩ := p_popI_e hk; obtain ⟨x, r, rfl, hk⟩ := p_popI_e hk; exact fun H locs ls hL hP hD hS => lv_imul hx hb hd (hKK _ _ _ _ hk H locs ls hL hP hD hS)
  case iand => obtain rfl : len = 1 := hc; obtain ⟨y, r, rfl, hk⟩ := p_popI_e hk; obtain ⟨x, r, rfl, hk⟩ := p_popI_e hk; exact fun H locs ls hL hP hD hS => lv_iand hx hb hd (hKK _ _ _ _ hk H locs ls hL hP hD hS)
  case ishr => obtain rfl : len = 1 := hc; obtain ⟨y, r, rfl, hk⟩ := p_popI_e hk; obtain ⟨x, r, rfl, hk⟩ := p_popI_e hk; exact fun H locs ls hL hP hD hS => lv_ishr hx hb hd (hKK _ _ _ _ hk H locs ls hL hP hD hS)
  case iushr => obtain rfl : len = 1 := hc; obtain ⟨y, r, rfl, hk⟩ := p_popI_e hk; obtain ⟨x, r, rfl, hk⟩ := p_popI_e hk; exact fun H locs ls hL hP hD hS => lv_iushr hx hb hd rfl (hKK _ _ _ _ hk H locs ls hL hP hD hS)
  case idiv => obtain rfl : len = 1 := hc; obtain ⟨y, r, rfl, hk⟩ := p_popI_e hk; obtain ⟨x, r, rfl, hk⟩ := p_popI_e hk; exact fun H locs ls hL hP hD hS => lv_idiv hx hb hd hk.1 (hKK _ _ _ _ hk.2 H locs ls hL hP hD hS)
  case irem => obtain rfl : len = 1 := hc; obtain ⟨y, r, rfl, hk⟩ := p_popI_e hk; obtain ⟨x, r, rfl, hk⟩ := p_popI_e hk; exact fun H locs ls hL hP hD hS => lv_irem hx hb hd hk.1 (hKK _ _ _ _ hk.2 H locs ls hL hP hD hS)
  case ladd => obtain rfl : len = 1 := hc; obtain ⟨y, r, rfl, hk⟩ := p_popJ_e hk; obtain ⟨x, r, rfl, hk⟩ := p_popJ_e hk; exact fun H locs ls hL hP hD hS => lv_ladd hx hb hd (hKK _ _ _ _ hk H locs ls hL hP hD hS)
  case lsub => obtain rfl : len = 1 := hc; obtain ⟨y, r, rfl, hk⟩ := p_popJ_e hk; obtain ⟨x, r, rfl, hk⟩ := p_popJ_e hk; exact fun H locs ls hL hP hD hS => lv_lsub hx hb hd (hKK _ _ _ _ hk H locs ls hL hP hD hS)
  case lmul => obtain rfl : len = 1 := hc; obtain ⟨y, r, rfl, hk⟩ := p_popJ_e hk; obtain ⟨x, r, rfl, hk⟩ := p_popJ_e hk; exact fun H locs ls hL hP hD hS => lv_lmul hx hb hd (hKK _ _ _ _ hk H locs ls hL hP hD hS)
  case land => obtain rfl : len = 1 := hc; obtain ⟨y, r, rfl, hk⟩ := p_popJ_e hk; obtain ⟨x, r, rfl, hk⟩ := p_popJ_e hk; exact fun H locs ls hL hP hD hS => lv_land hx hb hd (hKK _ _ _ _ hk H locs ls hL hP hD hS)
  case lor => obtain rfl : len = 1 := hc; obtain ⟨y, r, rfl, hk⟩ := p_popJ_e hk; obtain ⟨x, r, rfl, hk⟩ := p_popJ_e hk; exact fun H locs ls hL hP hD hS => lv_lor hx hb hd (hKK _ _ _ _ hk H locs ls hL hP hD hS)
  case ldiv => obtain rfl : len = 1 := hc; obtain ⟨y, r, rfl, hk⟩ := p_popJ_e hk; obtain ⟨x, r, rfl, hk⟩ := p_popJ_e hk; exact fun H locs ls hL hP hD hS => lv_ldiv hx hb hd hk.1 (hKK _ _ _ _ hk.2 H locs ls hL hP hD hS)
  case lrem => obtain rfl : len = 1 := hc; obtain ⟨y, r, rfl, hk⟩ := p_popJ_e hk; obtain ⟨x, r, rfl, hk⟩ := p_popJ_e hk; exact fun H locs ls hL hP hD hS => lv_lrem hx hb hd hk.1 (hKK _ _ _ _ hk.2 H locs ls hL hP hD hS)
  case lneg => obtain rfl : len = 1 := hc; obtain ⟨x, r, rfl, hk⟩ := p_popJ_e hk; exact fun H locs ls hL hP hD hS => lv_lneg hx hb hd (hKK _ _ _ _ hk H locs ls hL hP hD hS)
  case i2b => obtain rfl : len = 1 := hc; obtain ⟨x, r, rfl, hk⟩ := p_popI_e hk; exact fun H locs ls hL hP hD hS => lv_i2b hx hb hd rfl (hKK _ _ _ _ hk H locs ls hL hP hD hS)
  case i2l => obtain rfl : len = 1 := hc; obtain ⟨x, r, rfl, hk⟩ := p_popI_e hk; exact fun H locs ls hL hP hD hS => lv_i2l hx hb hd rfl (hKK _ _ _ _ hk H locs ls hL hP hD hS)
  case l2i => obtain rfl : len = 1 := hc; obtain ⟨x, r, rfl, hk⟩ := p_popJ_e hk; exact fun H locs ls hL hP hD hS => lv_l2i hx hb hd rfl (hKK _ _ _ _ hk H locs ls hL hP hD hS)
  case lcmp => obtain rfl : len = 1 := hc; obtain ⟨y, r, rfl, hk⟩ := p_popJ_e hk; obtain ⟨x, r, rfl, hk⟩ := p_popJ_e hk; exact fun H locs ls hL hP hD hS => W.lcmp hx hb hd (hKK _ _ _ _ hk H locs ls hL hP hD hS)
  case dup =>
    obtain rfl : len = 1 := hc; obtain ⟨v, r, rfl, hk1⟩ := p_pop_e hk
    by_cases hv : v.category = 1
    case neg => rw [if_neg hv] at hk1; exact hk1.elim
    rw [if_pos hv] at hk1
    exact fun H locs ls hL hP hD hS => lv_dup hx hb hd (by rw [rv_cat]; exact hv) (hKK _ _ _ _ hk1 H locs ls hL hP hD hS)
  case dup2 =>
    obtain rfl : len = 1 := hc; obtain ⟨v, r0, rfl, hk1⟩ := p_pop_e hk; obtain ⟨w, r, rfl, hk2⟩ := p_pop_e hk1
    by_cases hv : v.category = 1
    case neg => rw [if_neg hv] at hk2; exact hk2.elim
    rw [if_pos hv] at hk2
    by_cases hw : w.category = 1
    case neg => rw [if_neg hw] at hk2; exact hk2.elim
    rw [if_pos hw] at hk2
    exact fun H locs ls hL hP hD hS => lv_dup2_11 hx hb hd (by rw [rv_cat]; exact hv) (by rw [rv_cat]; exact hw) (hKK _ _ _ _ hk2 H locs ls hL hP hD hS)
  case ifCond op off =>
    obtain ⟨rfl, ho⟩ := hc; obtain ⟨x, r, rfl, hk⟩ := p_popI_e hk
    intro H locs ls hL hP hD hS
    cases op
    · exact lv_if_eq hx hb hd ho (fun h => hKK _ _ _ _ (hk.1 h) H locs ls hL hP hD hS) (fun h => hKK _ _ _ _ (hk.2 h) H locs ls hL hP hD hS)
    · exact lv_if_ne hx hb hd ho (fun h => hKK _ _ _ _ (hk.1 h) H locs ls hL hP hD hS) (fun h => hKK _ _ _ _ (hk.2 (fun q => q h)) H locs ls hL hP hD hS)
    · exact lv_if_lt hx hb hd ho (fun h => hKK _ _ _ _ (hk.1 h) H locs ls hL hP hD hS) (fun h => hKK _ _ _ _ (hk.2 h) H locs ls hL hP hD hS)
    · exact lv_if_ge hx hb hd ho (fun h => hKK _ _ _ _ (hk.1 h) H locs ls hL hP hD hS) (fun h => hKK _ _ _ _ (hk.2 h) H locs ls hL hP hD hS)
    · exact lv_if_gt hx hb hd ho (fun h => hKK _ _ _ _ (hk.1 h) H locs ls hL hP hD hS) (fun h => hKK _ _ _ _ (hk.2 h) H locs ls hL hP hD hS)
    · exact lv_if_le hx hb hd ho (fun h => hKK _ _ _ _ (hk.1 h) H locs ls hL hP hD hS) (fun h => hKK _ _ _ _ (hk.2 h) H locs ls hL hP hD hS)
  case if_icmp op off =>
    obtain ⟨rfl, ho⟩ := hc; obtain ⟨y, r, rfl, hk⟩ := p_popI_e hk; obtain ⟨x, r, rfl, hk⟩ := p_popI_e hk
    intro H locs ls hL hP hD hS
    cases op
    · exact lv_icmp_eq hx hb hd ho (fun h => hKK _ _ _ _ (hk.1 h) H locs ls hL hP hD hS) (fun h => hKK _ _ _ _ (hk.2 h) H locs ls hL hP hD hS)
    · exact lv_icmp_ne hx hb hd ho (fun h => hKK _ _ _ _ (hk.1 h) H locs ls hL hP hD hS) (fun h => hKK _ _ _ _ (hk.2 (fun q => q h)) H locs ls hL hP hD hS)
    · exact lv_icmp_lt hx hb hd ho (fun h => hKK _ _ _ _ (hk.1 h) H locs ls hL hP hD hS) (fun h => hKK _ _ _ _ (hk.2 h) H locs ls hL hP hD hS)
    · exact lv_icmp_ge hx hb hd ho (fun h => hKK _ _ _ _ (hk.1 h) H locs ls hL hP hD hS) (fun h => hKK _ _ _ _ (hk.2 h) H locs ls hL hP hD hS)
    · exact lv_icmp_gt hx hb hd ho (fun h => hKK _ _ _ _ (hk.1 h) H locs ls hL hP hD hS) (fun h => hKK _ _ _ _ (hk.2 h) H locs ls hL hP hD hS)
    · exact lv_icmp_le hx hb hd ho (fun h => hKK _ _ _ _ (hk.1 h) H locs ls hL hP hD hS) (fun h => hKK _ _ _ _ (hk.2 h) H locs ls hL hP hD hS)
  case goto off => obtain ⟨rfl, ho⟩ := hc; exact fun H locs ls hL hP hD hS => lv_goto hx hb hd ho (hKK _ _ _ _ hk H locs ls hL hP hD hS)
  case tableswitch d lo hi offs =>
    obtain ⟨h1, h2, h3, h4, h5⟩ := hc; obtain ⟨x, r, rfl, hk⟩ := p_popI_e hk
    intro H locs ls hL hP hD hS
    obtain ⟨a1, a2, a3⟩ := p_sw_e _ _ h2 (by omega) hk
    by_cases hlo : x.toInt < lo
    · exact lv_tableOut hx hb hd (Or.inl hlo) h1 (hKK _ _ _ _ (a1 hlo) H locs ls hL hP hD hS)
    · by_cases hhi : hi < x.toInt
      · exact lv_tableOut hx hb hd (Or.inr hhi) h1 (hKK _ _ _ _ (a2 (by omega)) H locs ls hL hP hD hS)
      · have hlt : (x.toInt - lo).toNat < ts0.length := by omega
        have ht : ts0[(x.toInt - lo).toNat]? = some ts0[(x.toInt - lo).toNat] := List.getElem?_eq_getElem hlt
        have h6 : (offs.toList.map (fun o => (pc : Int) + o))[(x.toInt - lo).toNat]? = some ((ts0[(x.toInt - lo).toNat] : Nat) : Int) := by rw [h5, List.getElem?_map, ht]; rfl
        rw [List.getElem?_map] at h6
        cases ho : offs.toList[(x.toInt - lo).toNat]? with
        | none => rw [ho] at h6; cases h6
        | some o =>
          rw [ho] at h6
          exact lv_tableIn hx hb hd hlo hhi (by rw [← Array.getElem?_toList]; exact ho) (Option.some.inj h6) (hKK _ _ _ _ (a3 _ _ ht (by omega)) H locs ls hL hP hD hS)
  case getfield i =>
    obtain ⟨rfl, C, T, N, ty, ⟨k1, k2, k3, k4⟩, hj, hw⟩ := hc; obtain ⟨k, r, rfl, hk⟩ := p_popR_e hk; obtain ⟨fs, hfs, hk⟩ := p_obj_e hk
    intro H locs ls hL hP hD hS
    have hg : ∀ f, fs[b0]? = some f → (fs.mapIdx (p_fv ρ M k))[b0]? = some (p_fv ρ M k b0 f) := fun f hf => by rw [List.getElem?_mapIdx, hf]; rfl
    split at hk
    · rename_i x hf
      exact va_get hx hb hts k2 hown hK hP k (p_w_get hfs) k1 b0 hj (hts _ hw) (fun _ h9 => h9) (hg _ hf) hd (hKK _ _ _ _ hk H locs ls hL hP hD hS)
    · rename_i hf
      exact va_get hx hb hts k2 hown hK hP k (p_w_get hfs) k1 b0 hj (hts _ hw) (fun _ h9 => h9) (hg _ hf) hd (hKK _ _ _ _ hk H locs ls hL hP hD hS)
    · rename_i t9 hnl hf
      have e9 : p_fv ρ M k b0 (.inr t9) = .int (M.1 k b0) := by
        cases t9 <;> first | rfl | exact absurd rfl hnl
      have g9 := hg _ hf
      rw [e9] at g9
      exact va_get hx hb hts k2 hown hK hP k (p_w_get hfs) k1 b0 hj (hts _ hw) (fun _ h9 => h9) g9 hd (hKK _ _ _ _ hk H locs ls hL hP hD hS)
    · exact hk.elim
  case putfield i =>
    obtain ⟨rfl, C, T, N, ty, ⟨k1, k2, k3, k4⟩, hj, hw⟩ := hc; obtain ⟨v, r, rfl, hk⟩ := p_pop_e hk; obtain ⟨k, r, rfl, hk⟩ := p_popR_e hk; obtain ⟨fs, hfs, hk⟩ := p_obj_e hk
    intro H locs ls hL hP hD hS
    have hlen : ∀ {f}, fs[b0]? = some f → b0 < (fs.mapIdx (p_fv ρ M k)).length := fun hf => by rw [List.length_mapIdx]; exact (List.getElem?_eq_some_iff.mp hf).1
    split at hk
    · rename_i hf
      obtain ⟨x, rfl, hk⟩ := p_isJ_e hk
      obtain ⟨f1, f2⟩ := hsh.2 k _ _ _ _ hfs hf C T N k1
      refine va_put (v := .long x) hx hb hts k2 ty k3 k4 hown hK hP hD hS k (p_w_get hfs) k1 b0 hj (hts _ hw) (fun _ h9 => h9) f1 f2 rfl rfl (hlen hf) hd (fun H1 locs1 hP1 hD1 hS1 => ?_)
      rw [p_w_putJ hfs hf] at hP1 hD1
      exact hKK _ _ _ _ hk H1 locs1 ls hL hP1 hD1 hS1
    · rename_i hf
      obtain ⟨x, rfl, hk⟩ := p_isI_e hk
      obtain ⟨f1, f2⟩ := hsh.2 k _ _ _ _ hfs hf C T N k1
      refine va_put (v := .int x) hx hb hts k2 ty k3 k4 hown hK hP hD hS k (p_w_get hfs) k1 b0 hj (hts _ hw) (fun _ h9 => h9) f1 f2 rfl rfl (hlen hf) hd (fun H1 locs1 hP1 hD1 hS1 => ?_)
      rw [p_w_putI hfs hf trivial] at hP1 hD1
      exact hKK _ _ _ _ hk H1 locs1 ls hL hP1 hD1 hS1
    · rename_i hf
      obtain ⟨x, rfl, h8, h9, hk⟩ := p_isI_e hk
      obtain ⟨f1, f2⟩ := hsh.2 k _ _ _ _ hfs hf C T N k1
      refine va_put (v := .int x) hx hb hts k2 ty k3 k4 hown hK hP hD hS k (p_w_get hfs) k1 b0 hj (hts _ hw) (fun _ h9 => h9) f1 f2 h8 h9 (hlen hf) hd (fun H1 locs1 hP1 hD1 hS1 => ?_)
      rw [p_w_putI hfs hf trivial] at hP1 hD1
      exact hKK _ _ _ _ hk H1 locs1 ls hL hP1 hD1 hS1
    · exact hk.elim
  case iaload =>
    obtain rfl : len = 1 := hc; obtain ⟨i, r, rfl, hk⟩ := p_popI_e hk; obtain ⟨k, r, rfl, hk⟩ := p_popR_e hk; obtain ⟨t, n, ty, rs, hs, rfl, hin, hk⟩ := p_arr_e hk
    exact fun H locs ls hL hP hD hS => va_iald hx hb hK hP k t (p_w_get hs) (hsh.1 _ _ _ _ _ hs) hin hd (hKK _ _ _ _ hk H locs ls hL hP hD hS)
  case baload =>
    obtain rfl : len = 1 := hc; obtain ⟨i, r, rfl, hk⟩ := p_popI_e hk; obtain ⟨k, r, rfl, hk⟩ := p_popR_e hk; obtain ⟨t, n, ty, rs, hs, hty, hin, hk⟩ := p_arr_e hk
    rcases hty with rfl | rfl
    · exact fun H locs ls hL hP hD hS => va_bald hx hb hK hP k t (p_w_get hs) (hsh.1 _ _ _ _ _ hs) hin hd (hKK _ _ _ _ hk H locs ls hL hP hD hS)
    · exact fun H locs ls hL hP hD hS => va_zald hx hb hK hP k t (p_w_get hs) (hsh.1 _ _ _ _ _ hs) hin hd (hKK _ _ _ _ hk H locs ls hL hP hD hS)
  case laload =>
    obtain rfl : len = 1 := hc; obtain ⟨i, r, rfl, hk⟩ := p_popI_e hk; obtain ⟨k, r, rfl, hk⟩ := p_popR_e hk; obtain ⟨t, n, ty, rs, hs, rfl, hin, hk⟩ := p_arr_e hk
    exact fun H locs ls hL hP hD hS => va_lald hx hb hK hP k t (p_w_get hs) (hsh.1 _ _ _ _ _ hs) hin hd (hKK _ _ _ _ hk H locs ls hL hP hD hS)
  case aaload =>
    obtain rfl : len = 1 := hc; obtain ⟨i, r, rfl, hk⟩ := p_popI_e hk; obtain ⟨k, r, rfl, hk⟩ := p_popR_e hk; obtain ⟨t, n, ty, rs, hs, ⟨C, rfl⟩, hin, x, hrs, hk⟩ := p_arr_e hk
    intro H locs ls hL hP hD hS
    refine va_aldq hx hb hK hP k t (p_w_get hs) (hsh.1 _ _ _ _ _ hs) hin hd ?_
    rw [hrs]
    exact hKK _ _ _ _ hk H locs ls hL hP hD hS
  case iastore =>
    obtain rfl : len = 1 := hc; obtain ⟨x, r, rfl, hk⟩ := p_popI_e hk; obtain ⟨i, r, rfl, hk⟩ := p_popI_e hk; obtain ⟨k, r, rfl, hk⟩ := p_popR_e hk; obtain ⟨t, n, ty, rs, hs, rfl, hin, hk⟩ := p_arr_e hk
    intro H locs ls hL hP hD hS
    refine va_iast hx hb hK hP hD hS k t (p_w_get hs) (hsh.1 _ _ _ _ _ hs) hin hd (fun H1 locs1 hP1 hD1 hS1 => ?_)
    rw [p_w_arrI hs (Or.inl rfl)] at hP1 hD1
    exact hKK _ _ _ _ hk H1 locs1 ls hL hP1 hD1 hS1
  case bastore =>
    obtain rfl : len = 1 := hc; obtain ⟨x, r, rfl, hk⟩ := p_popI_e hk; obtain ⟨i, r, rfl, hk⟩ := p_popI_e hk; obtain ⟨k, r, rfl, hk⟩ := p_popR_e hk; obtain ⟨t, n, ty, rs, hs, hty, hin, hk⟩ := p_arr_e hk
    intro H locs ls hL hP hD hS
    rcases hty with rfl | rfl
    · refine va_bast hx hb hK hP hD hS k t (p_w_get hs) (hsh.1 _ _ _ _ _ hs) hin hd (fun H1 locs1 hP1 hD1 hS1 => ?_)
      rw [p_w_arrI hs (Or.inr (Or.inl rfl))] at hP1 hD1
      exact hKK _ _ _ _ hk H1 locs1 ls hL hP1 hD1 hS1
    · refine va_zast hx hb hK hP hD hS k t (p_w_get hs) (hsh.1 _ _ _ _ _ hs) hin hd (fun H1 locs1 hP1 hD1 hS1 => ?_)
      rw [p_w_arrI hs (Or.inr (Or.inr rfl))] at hP1 hD1
      exact hKK _ _ _ _ hk H1 locs1 ls hL hP1 hD1 hS1
  case lastore =>
    obtain rfl : len = 1 := hc; obtain ⟨x, r, rfl, hk⟩ := p_popJ_e hk; obtain ⟨i, r, rfl, hk⟩ := p_popI_e hk; obtain ⟨k, r, rfl, hk⟩ := p_popR_e hk; obtain ⟨t, n, ty, rs, hs, rfl, hin, hk⟩ := p_arr_e hk
    intro H locs ls hL hP hD hS
    refine va_last hx hb hK hP hD hS k t (p_w_get hs) (hsh.1 _ _ _ _ _ hs) hin hd (fun H1 locs1 hP1 hD1 hS1 => ?_)
    rw [p_w_arrJ hs] at hP1 hD1
    exact hKK _ _ _ _ hk H1 locs1 ls hL hP1 hD1 hS1
  case arraylength =>
    obtain rfl : len = 1 := hc; obtain ⟨k, r, rfl, hk⟩ := p_popR_e hk; obtain ⟨t, n, ty, rs, hs, hk⟩ := p_arr_e hk
    exact fun H locs ls hL hP hD hS => va_alen hx hb hK hP k t (p_w_get hs) (hsh.1 _ _ _ _ _ hs) rfl hd (hKK _ _ _ _ hk H locs ls hL hP hD hS)
  case invokevirtual i => exact hcS ⟨i, Or.inl rfl⟩ hc rfl rfl hk
  case invokestatic i =>
    have hcat : ∀ r : List Value, ((r.map (rv ρ)).map fun v => v.category).sum = (r.map fun v => v.category).sum := fun r => by rw [List.map_map, show (fun v : Value => v.category) ∘ rv ρ = fun v => v.category from funext fun v => rv_cat ρ v]
    unfold p_ex at hk
    dsimp only at hk
    split at hk
    · rename_i h0
      obtain rfl : len = 3 := hc
      obtain ⟨y, r0, rfl, hk2⟩ := p_popI_e hk; obtain ⟨x, r, rfl, h8, hk3⟩ := p_popI_e hk2
      obtain ⟨w1, w2, w3, w4⟩ := hmx i rfl h0
      exact fun H locs ls hL hP hD hS => va_mmax hx hb (hml.trans hL.2.1.symm) hown (hts _ w1) (hts _ w2) (hts _ w3) (hts _ w4) hR1.1 (by rw [hcat]; omega) hR1.2.2.1 hR1.2.2.2 hd (hKK _ _ _ _ hk3 H locs ls hL hP hD hS)
    · rename_i h0
      split at hk
      · rename_i h1
        obtain rfl : len = 3 := hc
        obtain ⟨x, r, rfl, h8, hk2⟩ := p_popJ_e hk
        obtain ⟨w1, w2, w3, w4⟩ := hab i rfl h1
        exact fun H locs ls hL hP hD hS => va_mabs_long hx hb (hml.trans hL.2.1.symm) hown (hts _ w1) (hts _ w2) (hts _ w3) (hts _ w4) hR1.1 (by rw [hcat]; omega) hR1.2.2.1 hR1.2.2.2 hd (hKK _ _ _ _ hk2 H locs ls hL hP hD hS)
      · rename_i h1
        exact hcS ⟨i, Or.inr ⟨rfl, h0, h1⟩⟩ hc rfl rfl hk
  case ireturn =>
    obtain rfl : len = 1 := hc; obtain ⟨x, r, rfl, rfl, ⟨ty, hty, hsm, hnr⟩, hk⟩ := p_popI_e hk
    exact fun H locs ls hL hP hD hS => W.widen hmc hms (vx_ret (W.zret hx hb (hret.trans hty) hnr (hQ _ M H locs hk hP hD hS) (fun q hq => hAf _ (hS.2.2 q hq)) hd))
  case lreturn =>
    obtain rfl : len = 1 := hc; obtain ⟨x, r, rfl, rfl, hty, hk⟩ := p_popJ_e hk
    exact fun H locs ls hL hP hD hS => W.widen hmc hms (vx_ret (W.lret hx hb (hret.trans hty) (hQ _ M H locs hk hP hD hS) (fun q hq => hAf _ (hS.2.2 q hq)) hd))
  case areturn =>
    obtain rfl : len = 1 := hc; obtain ⟨x, r, rfl, rfl, ⟨C, hC⟩, hk⟩ := p_popR_e hk
    exact fun H locs ls hL hP hD hS => W.widen hmc hms (vx_ret (W.aret hx hb (hret.trans hC) (Or.inl ⟨C, rfl⟩) (Or.inr ⟨_, rfl⟩) (hQ _ M H locs hk hP hD hS) (fun q hq => hAf _ (hS.2.2 q hq)) hd))
  case return_ =>
    obtain rfl : len = 1 := hc; obtain ⟨rfl, hty, hk⟩ := hk
    exact fun H locs ls hL hP hD hS => W.widen hmc hms (vx_ret (W.vret hx hb (hret.trans hty) (hQ none M H locs hk hP hD hS) (fun q hq => hAf _ (hS.2.2 q hq)) hd))
  case athrow =>
    obtain rfl : len = 1 := hc; obtain ⟨k, r, rfl, hk⟩ := p_popR_e hk; obtain ⟨fs, hfs, hk⟩ := p_obj_e hk
    intro H locs ls hL hP hD hS
    obtain ⟨T, N, hcl, hce⟩ := hkind0 k fs hfs
    obtain ⟨ce, hce, hcv⟩ := hce H hP
    obtain ⟨cell, r1, r2, r3⟩ := va_recv hK hP hcl (p_w_get hfs)
    cases Option.some.inj (hce.symm.trans r1)
    exact w_athrow hx hb hd (hth _ _ hk H locs ls _ _ _ hL hP hD hS hce hcv r3)
  all_goals exact hk.elim
end PS2

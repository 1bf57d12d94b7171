/-! The least meaning of a method's code: Ev. -/
theorem p_br_mono {c a b a' b' : Prop} (h1 : a → a') (h2 : b → b') (h : p_br c a b) : p_br c a' b' := ⟨fun hc => h1 (h.1 hc), fun hc => h2 (h.2 hc)⟩
theorem p_th_mono {hn : Nat → Option (Nat × Nat)} {pc : Nat} {L : List (Option Value)} {M : PM} {K K' : Nat → List (Option Value) → List Value → PM → Prop} {Q : Option (Option Value) → PM → Prop} (h : ∀ pc L st M, K pc L st M → K' pc L st M) (hk : p_th hn pc L M K Q) : p_th hn pc L M K' Q := by
  unfold p_th at hk ⊢
  split at hk
  · exact h _ _ _ _ hk
  · exact hk
theorem p_sw_mono {x : Int32} {k k' : Nat → Prop} {d : Nat} (h : ∀ t, k t → k' t) : ∀ (ts : List Nat) (v : Int), p_sw x k d v ts → p_sw x k' d v ts
  | [], _, hk => h _ hk
  | _ :: ts, v, hk => p_br_mono (h _) (p_sw_mono h ts (v + 1)) hk
theorem p_ld_mono {L : List (Option Value)} {i : Nat} {k k' : Value → Prop} (h : ∀ v, k v → k' v) (hk : p_ld L i k) : p_ld L i k' := by
  unfold p_ld at hk ⊢
  split at hk
  · exact h _ hk
  · exact hk
theorem p_isI_mono {v : Value} {k k' : Int32 → Prop} (h : ∀ v, k v → k' v) (hk : p_isI v k) : p_isI v k' := by
  cases v <;> first | exact h _ hk | exact hk
theorem p_isJ_mono {v : Value} {k k' : Int64 → Prop} (h : ∀ v, k v → k' v) (hk : p_isJ v k) : p_isJ v k' := by
  cases v <;> first | exact h _ hk | exact hk
theorem p_isR_mono {v : Value} {k k' : Nat → Prop} (h : ∀ v, k v → k' v) (hk : p_isR v k) : p_isR v k' := by
  cases v <;> first | exact h _ hk | exact hk
theorem p_pop_mono {st : List Value} {k k' : Value → List Value → Prop} (h : ∀ v r, k v r → k' v r) (hk : p_pop st k) : p_pop st k' := by
  cases st with
  | nil => exact hk
  | cons v r => exact h _ _ hk
theorem p_popI_mono {st : List Value} {k k' : Int32 → List Value → Prop} (h : ∀ v r, k v r → k' v r) (hk : p_popI st k) : p_popI st k' := by
  cases st with
  | nil => exact hk
  | cons v r => cases v <;> first | exact h _ _ hk | exact hk
theorem p_popJ_mono {st : List Value} {k k' : Int64 → List Value → Prop} (h : ∀ v r, k v r → k' v r) (hk : p_popJ st k) : p_popJ st k' := by
  cases st with
  | nil => exact hk
  | cons v r => cases v <;> first | exact h _ _ hk | exact hk
theorem p_popR_mono {st : List Value} {k k' : Nat → List Value → Prop} (h : ∀ v r, k v r → k' v r) (hk : p_popR st k) : p_popR st k' := by
  cases st with
  | nil => exact hk
  | cons v r => cases v <;> first | exact h _ _ hk | exact hk
theorem p_obj_mono {Sh : List PSh} {c k : Nat} {f f' : List (Nat ⊕ FieldType) → Prop} (h : ∀ v, f v → f' v) (hk : p_obj Sh c k f) : p_obj Sh c k f' := by
  unfold p_obj at hk ⊢
  split at hk
  · split at hk
    · rename_i h9; rw [if_pos h9]; exact h _ hk
    · exact hk.elim
  · exact hk
theorem p_arr_mono {Sh : List PSh} {k : Nat} {f f' : Nat → Nat → FieldType → List Nat → Prop} (h : ∀ a b c d, f a b c d → f' a b c d) (hk : p_arr Sh k f) : p_arr Sh k f' := by
  unfold p_arr at hk ⊢
  split at hk
  · exact h _ _ _ _ hk
  · exact hk
set_option maxHeartbeats 4000000 in
theorem p_ex_mono {Sh : List PSh} {E : PEnv} {hn : Nat → Option (Nat × Nat)} {ret : Option FieldType} {pc : Nat} {ins : Instr} {nx : Nat} {a0 b0 : Nat} {ts0 : List Nat} {cv : Value} {L : List (Option Value)} {st : List Value} {M : PM} {K K' : Nat → List (Option Value) → List Value → PM → Prop} {Q : Option (Option Value) → PM → Prop}
    (h : ∀ pc L st M, K pc L st M → K' pc L st M) (hk : p_ex Sh E hn ret pc ins nx a0 b0 ts0 cv L st M K Q) : p_ex Sh E hn ret pc ins nx a0 b0 ts0 cv L st M K' Q := by
  have hQ0 : ∀ {st : List Value}, (((st.drop b0).map fun v => v.category).sum ≤ 8 ∧ ∃ Q0, E a0 (st.take b0).reverse M Q0 ∧ (∀ v M', Q0 (some v) M' → K nx L (v.toList ++ st.drop b0) M') ∧ ∀ M', Q0 none M' → p_th hn pc L M' K Q) → (((st.drop b0).map fun v => v.category).sum ≤ 8 ∧ ∃ Q0, E a0 (st.take b0).reverse M Q0 ∧ (∀ v M', Q0 (some v) M' → K' nx L (v.toList ++ st.drop b0) M') ∧ ∀ M', Q0 none M' → p_th hn pc L M' K' Q) := by
    rintro st ⟨h0, Q0, h1, h2, h3⟩
    exact ⟨h0, Q0, h1, fun v M' hq => h _ _ _ _ (h2 v M' hq), fun M' hq => p_th_mono h (h3 M' hq)⟩
  cases ins
  case iconst => exact h _ _ _ _ hk
  case bipush => exact h _ _ _ _ hk
  case sipush => exact h _ _ _ _ hk
  case lconst => exact h _ _ _ _ hk
  case ldc => exact h _ _ _ _ hk
  case ldc2_w => exact h _ _ _ _ hk
  case iload_n => exact p_ld_mono (fun _ => p_isI_mono fun _ => h _ _ _ _) hk
  case iload => exact p_ld_mono (fun _ => p_isI_mono fun _ => h _ _ _ _) hk
  case lload_n => exact p_ld_mono (fun _ => p_isJ_mono fun _ => h _ _ _ _) hk
  case lload => exact p_ld_mono (fun _ => p_isJ_mono fun _ => h _ _ _ _) hk
  case aload_n => exact p_ld_mono (fun _ => p_isR_mono fun _ => h _ _ _ _) hk
  case aload => exact p_ld_mono (fun _ => p_isR_mono fun _ => h _ _ _ _) hk
  case istore_n => exact p_popI_mono (fun _ _ => h _ _ _ _) hk
  case istore => exact p_popI_mono (fun _ _ => h _ _ _ _) hk
  case lstore_n => exact p_popJ_mono (fun _ _ => h _ _ _ _) hk
  case lstore => exact p_popJ_mono (fun _ _ => h _ _ _ _) hk
  case astore_n => exact p_popR_mono (fun _ _ => h _ _ _ _) hk
  case astore => exact p_popR_mono (fun _ _ => h _ _ _ _) hk
  case iinc => exact p_ld_mono (fun _ => p_isI_mono fun _ => p_isI_mono fun _ => h _ _ _ _) hk
  case iadd => exact p_popI_mono (fun _ _ => p_popI_mono fun _ _ => h _ _ _ _) hk
  case isub => exact p_popI_mono (fun _ _ => p_popI_mono fun _ _ => h _ _ _ _) hk
  case imul => exact p_popI_mono (fun _ _ => p_popI_mono fun _ _ => h _ _ _ _) hk
  case iand => exact p_popI_mono (fun _ _ => p_popI_mono fun _ _ => h _ _ _ _) hk
  case ishr => exact p_popI_mono (fun _ _ => p_popI_mono fun _ _ => h _ _ _ _) hk
  case iushr => exact p_popI_mono (fun _ _ => p_popI_mono fun _ _ => h _ _ _ _) hk
  case idiv => exact p_popI_mono (fun _ _ => p_popI_mono fun _ _ h9 => ⟨h9.1, h _ _ _ _ h9.2⟩) hk
  case irem => exact p_popI_mono (fun _ _ => p_popI_mono fun _ _ h9 => ⟨h9.1, h _ _ _ _ h9.2⟩) hk
  case ladd => exact p_popJ_mono (fun _ _ => p_popJ_mono fun _ _ => h _ _ _ _) hk
  case lsub => exact p_popJ_mono (fun _ _ => p_popJ_mono fun _ _ => h _ _ _ _) hk
  case lmul => exact p_popJ_mono (fun _ _ => p_popJ_mono fun _ _ => h _ _ _ _) hk
  case land => exact p_popJ_mono (fun _ _ => p_popJ_mono fun _ _ => h _ _ _ _) hk
  case lor => exact p_popJ_mono (fun _ _ => p_popJ_mono fun _ _ => h _ _ _ _) hk
  case ldiv => exact p_popJ_mono (fun _ _ => p_popJ_mono fun _ _ h9 => ⟨h9.1, h _ _ _ _ h9.2⟩) hk
  case lrem => exact p_popJ_mono (fun _ _ => p_popJ_mono fun _ _ h9 => ⟨h9.1, h _ _ _ _ h9.2⟩) hk
  case lneg => exact p_popJ_mono (fun _ _ => h _ _ _ _) hk
  case i2b => exact p_popI_mono (fun _ _ => h _ _ _ _) hk
  case i2l => exact p_popI_mono (fun _ _ => h _ _ _ _) hk
  case l2i => exact p_popJ_mono (fun _ _ => h _ _ _ _) hk
  case lcmp => exact p_popJ_mono (fun _ _ => p_popJ_mono fun _ _ => h _ _ _ _) hk
  case dup =>
    refine p_pop_mono (fun v r h9 => ?_) hk
    split at h9
    · rename_i h8; rw [if_pos h8]; exact h _ _ _ _ h9
    · exact h9.elim
  case dup2 =>
    refine p_pop_mono (fun v r => p_pop_mono fun w r h9 => ?_) hk
    split at h9
    · rename_i h8
      rw [if_pos h8]
      split at h9
      · rename_i h7; rw [if_pos h7]; exact h _ _ _ _ h9
      · exact h9.elim
    · exact h9.elim
  case ifCond => exact p_popI_mono (fun _ _ => p_br_mono (h _ _ _ _) (h _ _ _ _)) hk
  case if_icmp => exact p_popI_mono (fun _ _ => p_popI_mono fun _ _ => p_br_mono (h _ _ _ _) (h _ _ _ _)) hk
  case goto => exact h _ _ _ _ hk
  case tableswitch => exact p_popI_mono (fun _ _ => p_sw_mono (fun _ => h _ _ _ _) _ _) hk
  case getfield =>
    refine p_popR_mono (fun _ _ => p_obj_mono fun fs h9 => ?_) hk
    split at h9
    · exact h _ _ _ _ h9
    · exact h _ _ _ _ h9
    · exact h _ _ _ _ h9
    · exact h9
  case putfield =>
    refine p_pop_mono (fun _ _ => p_popR_mono fun _ _ => p_obj_mono fun fs h9 => ?_) hk
    split at h9
    · exact p_isJ_mono (fun _ => h _ _ _ _) h9
    · exact p_isI_mono (fun _ => h _ _ _ _) h9
    · exact p_isI_mono (fun _ h8 => ⟨h8.1, h8.2.1, h _ _ _ _ h8.2.2⟩) h9
    · exact h9
  case iaload => exact p_popI_mono (fun _ _ => p_popR_mono fun _ _ => p_arr_mono fun _ _ _ _ h9 => ⟨h9.1, h9.2.1, h _ _ _ _ h9.2.2⟩) hk
  case baload => exact p_popI_mono (fun _ _ => p_popR_mono fun _ _ => p_arr_mono fun _ _ _ _ h9 => ⟨h9.1, h9.2.1, h _ _ _ _ h9.2.2⟩) hk
  case laload => exact p_popI_mono (fun _ _ => p_popR_mono fun _ _ => p_arr_mono fun _ _ _ _ h9 => ⟨h9.1, h9.2.1, h _ _ _ _ h9.2.2⟩) hk
  case aaload => exact p_popI_mono (fun _ _ => p_popR_mono fun _ _ => p_arr_mono fun _ _ _ _ ⟨h7, h8, x, hx, h9⟩ => ⟨h7, h8, x, hx, h _ _ _ _ h9⟩) hk
  case iastore => exact p_popI_mono (fun _ _ => p_popI_mono fun _ _ => p_popR_mono fun _ _ => p_arr_mono fun _ _ _ _ h9 => ⟨h9.1, h9.2.1, h _ _ _ _ h9.2.2⟩) hk
  case bastore => exact p_popI_mono (fun _ _ => p_popI_mono fun _ _ => p_popR_mono fun _ _ => p_arr_mono fun _ _ _ _ h9 => ⟨h9.1, h9.2.1, h _ _ _ _ h9.2.2⟩) hk
  case lastore => exact p_popJ_mono (fun _ _ => p_popI_mono fun _ _ => p_popR_mono fun _ _ => p_arr_mono fun _ _ _ _ h9 => ⟨h9.1, h9.2.1, h _ _ _ _ h9.2.2⟩) hk
  case arraylength => exact p_popR_mono (fun _ _ => p_arr_mono fun _ _ _ _ => h _ _ _ _) hk
  case invokevirtual => exact hQ0 hk
  case invokestatic =>
    unfold p_ex at hk ⊢
    dsimp only at hk ⊢
    split at hk
    · rename_i h0; rw [if_pos h0]; exact p_popI_mono (fun _ _ => p_popI_mono fun _ _ h9 => ⟨h9.1, h _ _ _ _ h9.2⟩) hk
    · rename_i h0
      rw [if_neg h0]
      split at hk
      · rename_i h1; rw [if_pos h1]; exact p_popJ_mono (fun _ _ h9 => ⟨h9.1, h _ _ _ _ h9.2⟩) hk
      · rename_i h1; rw [if_neg h1]; exact hQ0 hk
  case ireturn => exact hk
  case lreturn => exact hk
  case areturn => exact hk
  case return_ => exact hk
  case athrow => exact p_popR_mono (fun _ _ => p_obj_mono fun _ => p_th_mono h) hk
  all_goals exact hk
/-- what a body is: the world's shape, what it calls, its handlers, its answer's type, its code, what holds where the code ends -/
abbrev PBody : Type := List PSh × PEnv × (Nat → Option (Nat × Nat)) × Option FieldType × PCode × (Nat → List (Option Value) → List Value → PM → Prop)
def p_st (B : PBody) (Q : Option (Option Value) → PM → Prop) (pc : Nat) (L : List (Option Value)) (st : List Value) (M : PM) (K : Nat → List (Option Value) → List Value → PM → Prop) : Prop := match B.2.2.2.2.1 pc with
  | none => B.2.2.2.2.2 pc L st M
  | some (ins, nx, a0, b0, ts0, cv) => p_ex B.1 B.2.1 B.2.2.1 B.2.2.2.1 pc ins nx a0 b0 ts0 cv L st M K Q
def Ev (B : PBody) (Q : Option (Option Value) → PM → Prop) (pc : Nat) (L : List (Option Value)) (st : List Value) (M : PM) : Prop :=
  ∀ P : Nat → List (Option Value) → List Value → PM → Prop, (∀ pc L st M, p_st B Q pc L st M P → P pc L st M) → P pc L st M
theorem p_st_mono {B : PBody} {Q : Option (Option Value) → PM → Prop} {pc : Nat} {L : List (Option Value)} {st : List Value} {M : PM} {K K' : Nat → List (Option Value) → List Value → PM → Prop} (h : ∀ pc L st M, K pc L st M → K' pc L st M) (hk : p_st B Q pc L st M K) : p_st B Q pc L st M K' := by
  unfold p_st at hk ⊢
  split at hk
  · exact hk
  · exact p_ex_mono h hk
theorem Ev.step {B : PBody} {Q : Option (Option Value) → PM → Prop} {pc : Nat} {L : List (Option Value)} {st : List Value} {M : PM} (h : p_st B Q pc L st M (Ev B Q)) : Ev B Q pc L st M :=
  fun P hP => hP _ _ _ _ (p_st_mono (fun _ _ _ _ hk => hk P hP) h)
/-- n steps at once; places in 'cut' are left as they are -/
def p_vc (B : PBody) (Q : Option (Option Value) → PM → Prop) (cut : List Nat) : Nat → Nat → List (Option Value) → List Value → PM → Prop
  | 0, pc, L, st, M => Ev B Q pc L st M
  | n + 1, pc, L, st, M => if cut.contains pc then Ev B Q pc L st M else p_st B Q pc L st M (p_vc B Q cut n)
theorem p_vc_ev {B : PBody} {Q : Option (Option Value) → PM → Prop} {cut : List Nat} : ∀ (n : Nat) {pc : Nat} {L : List (Option Value)} {st : List Value} {M : PM}, p_vc B Q cut n pc L st M → Ev B Q pc L st M
  | 0, _, _, _, _, h => h
  | n + 1, pc, L, st, M, h => by
    unfold p_vc at h
    split at h
    · exact h
    · exact Ev.step (p_st_mono (fun _ _ _ _ => p_vc_ev n) h)
theorem Ev.go {B : PBody} {Q : Option (Option Value) → PM → Prop} (cut : List Nat) (n : Nat) {pc : Nat} {L : List (Option Value)} {st : List Value} {M : PM} (h : p_st B Q pc L st M (p_vc B Q cut n)) : Ev B Q pc L st M :=
  Ev.step (p_st_mono (fun _ _ _ _ => p_vc_ev n) h)
theorem ev_s {B : PBody} {Q : Option (Option Value) → PM → Prop} {pc : Nat} {L : List (Option Value)} {st : List Value} {M : PM} {ins : Instr} {nx a0 b0 : Nat} {ts0 : List Nat} {cv : Value} (hc : B.2.2.2.2.1 pc = some (ins, nx, a0, b0, ts0, cv)) (h : p_ex B.1 B.2.1 B.2.2.1 B.2.2.2.1 pc ins nx a0 b0 ts0 cv L st M (Ev B Q) Q) : Ev B Q pc L st M := by
  refine Ev.step ?_
  unfold p_st
  rw [hc]
  exact h

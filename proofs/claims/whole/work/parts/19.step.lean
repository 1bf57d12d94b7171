/-! Steps of the pure machine, as rows. -/
section STEPS
variable {B : PBody} {Q : Option (Option Value) → PM → Prop} {pc : Nat} {L : List (Option Value)} {st r : List Value} {M : PM} {nx ci j k i : Nat} {ts0 : List Nat} {cv : Value} {fs : List (Nat ⊕ FieldType)} {t n : Nat} {rs : List Nat}
theorem ev_getI (hc : B.2.2.2.2.1 pc = some (.getfield i, nx, ci, j, ts0, cv)) (hs : B.1[k]? = some (.inl (ci, fs))) (hf : fs[j]? = some (.inr .int)) (h : Ev B Q nx L (.int (M.1 k j) :: r) M) : Ev B Q pc L (.ref k :: r) M := by
  refine ev_s hc ?_
  show p_obj _ _ _ _
  unfold p_obj
  rw [hs]
  dsimp only
  rw [if_pos rfl, hf]
  exact h
theorem ev_getJ (hc : B.2.2.2.2.1 pc = some (.getfield i, nx, ci, j, ts0, cv)) (hs : B.1[k]? = some (.inl (ci, fs))) (hf : fs[j]? = some (.inr .long)) (h : Ev B Q nx L (.long (M.2 k j) :: r) M) : Ev B Q pc L (.ref k :: r) M := by
  refine ev_s hc ?_
  show p_obj _ _ _ _
  unfold p_obj
  rw [hs]
  dsimp only
  rw [if_pos rfl, hf]
  exact h
theorem ev_getR {x : Nat} (hc : B.2.2.2.2.1 pc = some (.getfield i, nx, ci, j, ts0, cv)) (hs : B.1[k]? = some (.inl (ci, fs))) (hf : fs[j]? = some (.inl x)) (h : Ev B Q nx L (.ref x :: r) M) : Ev B Q pc L (.ref k :: r) M := by
  refine ev_s hc ?_
  show p_obj _ _ _ _
  unfold p_obj
  rw [hs]
  dsimp only
  rw [if_pos rfl, hf]
  exact h
theorem ev_putI {x : Int32} (hc : B.2.2.2.2.1 pc = some (.putfield i, nx, ci, j, ts0, cv)) (hs : B.1[k]? = some (.inl (ci, fs))) (hf : fs[j]? = some (.inr .int)) (h : Ev B Q nx L r (mI M k j x)) : Ev B Q pc L (.int x :: .ref k :: r) M := by
  refine ev_s hc ?_
  show p_obj _ _ _ _
  unfold p_obj
  rw [hs]
  dsimp only
  rw [if_pos rfl, hf]
  exact h
theorem ev_putJ {x : Int64} (hc : B.2.2.2.2.1 pc = some (.putfield i, nx, ci, j, ts0, cv)) (hs : B.1[k]? = some (.inl (ci, fs))) (hf : fs[j]? = some (.inr .long)) (h : Ev B Q nx L r (mJ M k j x)) : Ev B Q pc L (.long x :: .ref k :: r) M := by
  refine ev_s hc ?_
  show p_obj _ _ _ _
  unfold p_obj
  rw [hs]
  dsimp only
  rw [if_pos rfl, hf]
  exact h
theorem ev_lald {x : Int32} (hc : B.2.2.2.2.1 pc = some (.laload, nx, ci, j, ts0, cv)) (hs : B.1[k]? = some (.inr (t, n, .long, rs))) (hi : vp_in x n) (h : Ev B Q nx L (.long (M.2 k x.toNatClampNeg) :: r) M) : Ev B Q pc L (.int x :: .ref k :: r) M := by
  refine ev_s hc ?_
  show p_arr _ _ _
  unfold p_arr
  rw [hs]
  exact ⟨rfl, hi, h⟩
theorem ev_iald {x : Int32} (hc : B.2.2.2.2.1 pc = some (.iaload, nx, ci, j, ts0, cv)) (hs : B.1[k]? = some (.inr (t, n, .int, rs))) (hi : vp_in x n) (h : Ev B Q nx L (.int (M.1 k x.toNatClampNeg) :: r) M) : Ev B Q pc L (.int x :: .ref k :: r) M := by
  refine ev_s hc ?_
  show p_arr _ _ _
  unfold p_arr
  rw [hs]
  exact ⟨rfl, hi, h⟩
theorem ev_bald {x : Int32} (hc : B.2.2.2.2.1 pc = some (.baload, nx, ci, j, ts0, cv)) (hs : B.1[k]? = some (.inr (t, n, .byte, rs))) (hi : vp_in x n) (h : Ev B Q nx L (.int (M.1 k x.toNatClampNeg) :: r) M) : Ev B Q pc L (.int x :: .ref k :: r) M := by
  refine ev_s hc ?_
  show p_arr _ _ _
  unfold p_arr
  rw [hs]
  exact ⟨Or.inl rfl, hi, h⟩
theorem ev_zald {x : Int32} (hc : B.2.2.2.2.1 pc = some (.baload, nx, ci, j, ts0, cv)) (hs : B.1[k]? = some (.inr (t, n, .boolean, rs))) (hi : vp_in x n) (h : Ev B Q nx L (.int (M.1 k x.toNatClampNeg) :: r) M) : Ev B Q pc L (.int x :: .ref k :: r) M := by
  refine ev_s hc ?_
  show p_arr _ _ _
  unfold p_arr
  rw [hs]
  exact ⟨Or.inr rfl, hi, h⟩
theorem ev_last {x : Int32} {v : Int64} (hc : B.2.2.2.2.1 pc = some (.lastore, nx, ci, j, ts0, cv)) (hs : B.1[k]? = some (.inr (t, n, .long, rs))) (hi : vp_in x n) (h : Ev B Q nx L r (mJ M k x.toNatClampNeg v)) : Ev B Q pc L (.long v :: .int x :: .ref k :: r) M := by
  refine ev_s hc ?_
  show p_arr _ _ _
  unfold p_arr
  rw [hs]
  exact ⟨rfl, hi, h⟩
theorem ev_iast {x : Int32} {v : Int32} (hc : B.2.2.2.2.1 pc = some (.iastore, nx, ci, j, ts0, cv)) (hs : B.1[k]? = some (.inr (t, n, .int, rs))) (hi : vp_in x n) (h : Ev B Q nx L r (mI M k x.toNatClampNeg v)) : Ev B Q pc L (.int v :: .int x :: .ref k :: r) M := by
  refine ev_s hc ?_
  show p_arr _ _ _
  unfold p_arr
  rw [hs]
  exact ⟨rfl, hi, h⟩
theorem ev_bast {x : Int32} {v : Int32} (hc : B.2.2.2.2.1 pc = some (.bastore, nx, ci, j, ts0, cv)) (hs : B.1[k]? = some (.inr (t, n, .byte, rs))) (hi : vp_in x n) (h : Ev B Q nx L r (mI M k x.toNatClampNeg (vp_nar .byte v))) : Ev B Q pc L (.int v :: .int x :: .ref k :: r) M := by
  refine ev_s hc ?_
  show p_arr _ _ _
  unfold p_arr
  rw [hs]
  exact ⟨Or.inl rfl, hi, h⟩
theorem ev_zast {x : Int32} {v : Int32} (hc : B.2.2.2.2.1 pc = some (.bastore, nx, ci, j, ts0, cv)) (hs : B.1[k]? = some (.inr (t, n, .boolean, rs))) (hi : vp_in x n) (h : Ev B Q nx L r (mI M k x.toNatClampNeg (vp_nar .boolean v))) : Ev B Q pc L (.int v :: .int x :: .ref k :: r) M := by
  refine ev_s hc ?_
  show p_arr _ _ _
  unfold p_arr
  rw [hs]
  exact ⟨Or.inr rfl, hi, h⟩
theorem ev_alen (hc : B.2.2.2.2.1 pc = some (.arraylength, nx, ci, j, ts0, cv)) {ty : FieldType} (hs : B.1[k]? = some (.inr (t, n, ty, rs))) (h : Ev B Q nx L (.int (Int32.ofNat n) :: r) M) : Ev B Q pc L (.ref k :: r) M := by
  refine ev_s hc ?_
  show p_arr _ _ _
  unfold p_arr
  rw [hs]
  exact h
/-- a branch: both roads -/
theorem ev_if {c : ClassFile.Cond} {off : Int} {x : Int32} {tg b0 : Nat} (hc : B.2.2.2.2.1 pc = some (.ifCond c off, nx, tg, b0, ts0, cv)) (h1 : p_icmp c x 0 → Ev B Q tg L r M) (h2 : ¬ p_icmp c x 0 → Ev B Q nx L r M) : Ev B Q pc L (.int x :: r) M := ev_s hc ⟨h1, h2⟩
theorem ev_ic {c : ClassFile.Cond} {off : Int} {x y : Int32} {tg b0 : Nat} (hc : B.2.2.2.2.1 pc = some (.if_icmp c off, nx, tg, b0, ts0, cv)) (h1 : p_icmp c x y → Ev B Q tg L r M) (h2 : ¬ p_icmp c x y → Ev B Q nx L r M) : Ev B Q pc L (.int y :: .int x :: r) M := ev_s hc ⟨h1, h2⟩
/-- a call whose answer is told -/
theorem ev_cv {i k n : Nat} {as rest : List Value} (hc : B.2.2.2.2.1 pc = some (.invokevirtual i, nx, k, n, ts0, cv)) (hs : st.take n = as.reverse) (hr : st.drop n = rest) (hcat : (rest.map fun v => v.category).sum ≤ 8)
    (h : B.2.1 k as M (fun o M' => match o with
      | some v => Ev B Q nx L (v.toList ++ rest) M'
      | none => p_th B.2.2.1 pc L M' (Ev B Q) Q)) : Ev B Q pc L st M := by
  refine ev_s hc ?_
  refine ⟨by rw [hr]; exact hcat, (fun o M' => match o with
      | some v => Ev B Q nx L (v.toList ++ rest) M'
      | none => p_th B.2.2.1 pc L M' (Ev B Q) Q), ?_, fun v M' h9 => ?_, fun M' h9 => ?_⟩
  · rw [hs, List.reverse_reverse]; exact h
  · rw [hr]; exact h9
  · exact h9
theorem ev_cs {i k n : Nat} {as rest : List Value} (hc : B.2.2.2.2.1 pc = some (.invokestatic i, nx, k, n, ts0, cv)) (h0 : n ≠ 1000) (h1 : n ≠ 1001) (hs : st.take n = as.reverse) (hr : st.drop n = rest) (hcat : (rest.map fun v => v.category).sum ≤ 8)
    (h : B.2.1 k as M (fun o M' => match o with
      | some v => Ev B Q nx L (v.toList ++ rest) M'
      | none => p_th B.2.2.1 pc L M' (Ev B Q) Q)) : Ev B Q pc L st M := by
  refine ev_s hc ?_
  unfold p_ex
  dsimp only
  rw [if_neg h0, if_neg h1]
  refine ⟨by rw [hr]; exact hcat, (fun o M' => match o with
      | some v => Ev B Q nx L (v.toList ++ rest) M'
      | none => p_th B.2.2.1 pc L M' (Ev B Q) Q), ?_, fun v M' h9 => ?_, fun M' h9 => ?_⟩
  · rw [hs, List.reverse_reverse]; exact h
  · rw [hr]; exact h9
  · exact h9
end STEPS
/-- a branch over a compare of longs -/
def p_lc (op : ClassFile.Cond) (x y : Int64) : Prop := match op with
  | .eq => x = y
  | .ne => ¬ x = y
  | .lt => x < y
  | .ge => y ≤ x
  | .gt => y < x
  | .le => x ≤ y
theorem p_lc_iff (op : ClassFile.Cond) (x y : Int64) : p_icmp op (lg_cmp x y) 0 ↔ p_lc op x y := by
  cases op
  · exact lg_cmp_eq x y
  · exact not_congr (lg_cmp_eq x y)
  · exact lg_cmp_lt x y
  · exact lg_cmp_ge x y
  · exact lg_cmp_gt x y
  · exact lg_cmp_le x y
section STEPS2
variable {B : PBody} {Q : Option (Option Value) → PM → Prop} {pc : Nat} {L : List (Option Value)} {st r : List Value} {M : PM} {nx tg b0 : Nat} {ts0 : List Nat} {cv : Value}
theorem ev_lif {c : ClassFile.Cond} {off : Int} {x y : Int64} (hc : B.2.2.2.2.1 pc = some (.ifCond c off, nx, tg, b0, ts0, cv)) (h1 : p_lc c x y → Ev B Q tg L r M) (h2 : ¬ p_lc c x y → Ev B Q nx L r M) : Ev B Q pc L (.int (lg_cmp x y) :: r) M :=
  ev_s hc ⟨fun h => h1 ((p_lc_iff c x y).mp h), fun h => h2 (fun h9 => h ((p_lc_iff c x y).mpr h9))⟩
theorem ev_ifT {c : ClassFile.Cond} {off : Int} {x : Int32} (hc : B.2.2.2.2.1 pc = some (.ifCond c off, nx, tg, b0, ts0, cv)) (hd : p_icmp c x 0) (h : Ev B Q tg L r M) : Ev B Q pc L (.int x :: r) M := ev_s hc ⟨fun _ => h, fun h9 => (h9 hd).elim⟩
theorem ev_ifF {c : ClassFile.Cond} {off : Int} {x : Int32} (hc : B.2.2.2.2.1 pc = some (.ifCond c off, nx, tg, b0, ts0, cv)) (hd : ¬ p_icmp c x 0) (h : Ev B Q nx L r M) : Ev B Q pc L (.int x :: r) M := ev_s hc ⟨fun h9 => (hd h9).elim, fun _ => h⟩
theorem ev_icT {c : ClassFile.Cond} {off : Int} {x y : Int32} (hc : B.2.2.2.2.1 pc = some (.if_icmp c off, nx, tg, b0, ts0, cv)) (hd : p_icmp c x y) (h : Ev B Q tg L r M) : Ev B Q pc L (.int y :: .int x :: r) M := ev_s hc ⟨fun _ => h, fun h9 => (h9 hd).elim⟩
theorem ev_icF {c : ClassFile.Cond} {off : Int} {x y : Int32} (hc : B.2.2.2.2.1 pc = some (.if_icmp c off, nx, tg, b0, ts0, cv)) (hd : ¬ p_icmp c x y) (h : Ev B Q nx L r M) : Ev B Q pc L (.int y :: .int x :: r) M := ev_s hc ⟨fun h9 => (hd h9).elim, fun _ => h⟩
theorem ev_lifT {c : ClassFile.Cond} {off : Int} {x y : Int64} (hc : B.2.2.2.2.1 pc = some (.ifCond c off, nx, tg, b0, ts0, cv)) (hd : p_lc c x y) (h : Ev B Q tg L r M) : Ev B Q pc L (.int (lg_cmp x y) :: r) M := ev_lif hc (fun _ => h) (fun h9 => (h9 hd).elim)
theorem ev_lifF {c : ClassFile.Cond} {off : Int} {x y : Int64} (hc : B.2.2.2.2.1 pc = some (.ifCond c off, nx, tg, b0, ts0, cv)) (hd : ¬ p_lc c x y) (h : Ev B Q nx L r M) : Ev B Q pc L (.int (lg_cmp x y) :: r) M := ev_lif hc (fun h9 => (hd h9).elim) (fun _ => h)
theorem ev_reti {x : Int32} {ty : FieldType} (hc : B.2.2.2.2.1 pc = some (.ireturn, nx, tg, b0, ts0, cv)) (hr : B.2.2.2.1 = some ty) (hs : p_small ty) (hn : narrow ty (.int x) = .int x) (h : Q (some (some (.int x))) M) : Ev B Q pc L [.int x] M := ev_s hc ⟨rfl, ⟨ty, hr, hs, hn⟩, h⟩
theorem ev_retl {x : Int64} (hc : B.2.2.2.2.1 pc = some (.lreturn, nx, tg, b0, ts0, cv)) (hr : B.2.2.2.1 = some .long) (h : Q (some (some (.long x))) M) : Ev B Q pc L [.long x] M := ev_s hc ⟨rfl, hr, h⟩
theorem ev_retv (hc : B.2.2.2.2.1 pc = some (.return_, nx, tg, b0, ts0, cv)) (hr : B.2.2.2.1 = none) (h : Q (some none) M) : Ev B Q pc L [] M := ev_s hc ⟨rfl, hr, h⟩
end STEPS2
/-- nothing has changed but in the cells ids -/
def Same (ids : List Nat) (M M' : PM) : Prop := ∀ k, k ∉ ids → M'.1 k = M.1 k ∧ M'.2 k = M.2 k
theorem Same.rf {ids : List Nat} {M : PM} : Same ids M M := fun _ _ => ⟨rfl, rfl⟩
theorem Same.tr {ids ids' : List Nat} {M M' M'' : PM} (h : Same ids M M') (h' : Same ids' M' M'') : Same (ids ++ ids') M M'' := fun k hk => by
  rw [List.mem_append, not_or] at hk
  exact ⟨(h' k hk.2).1.trans (h k hk.1).1, (h' k hk.2).2.trans (h k hk.1).2⟩
theorem Same.sub {ids ids' : List Nat} {M M' : PM} (h : Same ids M M') (hs : ∀ k ∈ ids, k ∈ ids') : Same ids' M M' := fun k hk => h k (fun h9 => hk (hs k h9))
theorem Same.I {M : PM} {k j : Nat} {v : Int32} : Same [k] M (mI M k j v) := fun i hi => ⟨up2_ne (fun h => hi (List.mem_singleton.mpr h)), rfl⟩
theorem Same.J {M : PM} {k j : Nat} {v : Int64} : Same [k] M (mJ M k j v) := fun i hi => ⟨rfl, up2_ne (fun h => hi (List.mem_singleton.mpr h))⟩
theorem mI_at {M : PM} {k j : Nat} {v : Int32} : (mI M k j v).1 k j = v := by simp [mI, up2]
theorem mI_ne {M : PM} {k j a b : Nat} {v : Int32} (h : a ≠ k ∨ b ≠ j) : (mI M k j v).1 a b = M.1 a b := by
  rcases h with h | h <;> simp [mI, up2, h]
theorem mI_2 {M : PM} {k j : Nat} {v : Int32} : (mI M k j v).2 = M.2 := rfl
theorem mJ_1 {M : PM} {k j : Nat} {v : Int64} : (mJ M k j v).1 = M.1 := rfl
theorem mJ_at {M : PM} {k j : Nat} {v : Int64} : (mJ M k j v).2 k j = v := by simp [mJ, up2]
theorem mJ_ne {M : PM} {k j a b : Nat} {v : Int64} (h : a ≠ k ∨ b ≠ j) : (mJ M k j v).2 a b = M.2 a b := by
  rcases h with h | h <;> simp [mJ, up2, h]

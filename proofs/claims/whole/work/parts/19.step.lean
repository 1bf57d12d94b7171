/-! Steps of the pure machine, as rows. -/
section STEPS
variable {B : PBody} {Q : Option (Option Value) → PM → Prop} {pc : Nat} {L : List (Option Value)} {st r : List Value} {M : PM} {nx ci j k i : Nat} {ts0 : List Nat} {cv : Value} {fs : List (Nat ⊕ FieldType)} {t n : Nat} {rs : List Nat}
theorem ev_getI (hc : B.2.2.2.2.1 pc = some (.getfield i, nx, ci, j, ts0, cv)) (hs : B.1[k]? = some (.inl (ci, fs))) (hf : fs[j]? = some (.inr .int)) (h : Ev B Q nx L (.int (M.1 k j) :: r) M) : Ev B Q pc L (.ref k :: r) M := by
  refine ev_s hc ?_
  show p_obj _ _ _ _
  unfold p_obj
  rw [hs]
  refine ⟨rfl, ?_⟩
  dsimp only
  rw [hf]
  exact h
theorem ev_getJ (hc : B.2.2.2.2.1 pc = some (.getfield i, nx, ci, j, ts0, cv)) (hs : B.1[k]? = some (.inl (ci, fs))) (hf : fs[j]? = some (.inr .long)) (h : Ev B Q nx L (.long (M.2 k j) :: r) M) : Ev B Q pc L (.ref k :: r) M := by
  refine ev_s hc ?_
  show p_obj _ _ _ _
  unfold p_obj
  rw [hs]
  refine ⟨rfl, ?_⟩
  dsimp only
  rw [hf]
  exact h
theorem ev_getR {x : Nat} (hc : B.2.2.2.2.1 pc = some (.getfield i, nx, ci, j, ts0, cv)) (hs : B.1[k]? = some (.inl (ci, fs))) (hf : fs[j]? = some (.inl x)) (h : Ev B Q nx L (.ref x :: r) M) : Ev B Q pc L (.ref k :: r) M := by
  refine ev_s hc ?_
  show p_obj _ _ _ _
  unfold p_obj
  rw [hs]
  refine ⟨rfl, ?_⟩
  dsimp only
  rw [hf]
  exact h
theorem ev_putI {x : Int32} (hc : B.2.2.2.2.1 pc = some (.putfield i, nx, ci, j, ts0, cv)) (hs : B.1[k]? = some (.inl (ci, fs))) (hf : fs[j]? = some (.inr .int)) (h : Ev B Q nx L r (mI M k j x)) : Ev B Q pc L (.int x :: .ref k :: r) M := by
  refine ev_s hc ?_
  show p_obj _ _ _ _
  unfold p_obj
  rw [hs]
  refine ⟨rfl, ?_⟩
  dsimp only
  rw [hf]
  exact ⟨trivial, rfl, rfl, h⟩
theorem ev_putJ {x : Int64} (hc : B.2.2.2.2.1 pc = some (.putfield i, nx, ci, j, ts0, cv)) (hs : B.1[k]? = some (.inl (ci, fs))) (hf : fs[j]? = some (.inr .long)) (h : Ev B Q nx L r (mJ M k j x)) : Ev B Q pc L (.long x :: .ref k :: r) M := by
  refine ev_s hc ?_
  show p_obj _ _ _ _
  unfold p_obj
  rw [hs]
  refine ⟨rfl, ?_⟩
  dsimp only
  rw [hf]
  exact h
theorem ev_lald {x : Int32} (hc : B.2.2.2.2.1 pc = some (.laload, nx, ci, j, ts0, cv)) (hs : B.1[k]? = some (.inr (t, n, .long, rs))) (hi : vp_in x n) (h : Ev B Q nx L (.long (M.2 k x.toNatClampNeg) :: r) M) : Ev B Q pc L (.int x :: .ref k :: r) M := by
  refine ev_s hc ?_
  show p_arr _ _ _
  unfold p_arr
  rw [hs]
  exact ⟨rfl, hi, h⟩
theorem ev_iald {x : Int32} (hc : B.2.2.2.2.1 pc = some (.iaload, nx, ci, j, ts0, cv)) (hs : B.1[k]? = some (.inr (t, n, .int, rs))) (hi : vp_in x n) (h : Ev B Q nx L (.int (M.1 k x.toNatClampNeg) :: r) M) : Ev B Q pc L (.int x :: .ref k :: r) M := by
  refine ev_s hc ?_
  show p_arr _ _ _
  unfold p_arr
  rw [hs]
  exact ⟨rfl, hi, h⟩
theorem ev_bald {x : Int32} (hc : B.2.2.2.2.1 pc = some (.baload, nx, ci, j, ts0, cv)) (hs : B.1[k]? = some (.inr (t, n, .byte, rs))) (hi : vp_in x n) (h : Ev B Q nx L (.int (M.1 k x.toNatClampNeg) :: r) M) : Ev B Q pc L (.int x :: .ref k :: r) M := by
  refine ev_s hc ?_
  show p_arr _ _ _
  unfold p_arr
  rw [hs]
  exact ⟨Or.inl rfl, hi, h⟩
theorem ev_zald {x : Int32} (hc : B.2.2.2.2.1 pc = some (.baload, nx, ci, j, ts0, cv)) (hs : B.1[k]? = some (.inr (t, n, .boolean, rs))) (hi : vp_in x n) (h : Ev B Q nx L (.int (M.1 k x.toNatClampNeg) :: r) M) : Ev B Q pc L (.int x :: .ref k :: r) M := by
  refine ev_s hc ?_
  show p_arr _ _ _
  unfold p_arr
  rw [hs]
  exact ⟨Or.inr rfl, hi, h⟩
theorem ev_last {x : Int32} {v : Int64} (hc : B.2.2.2.2.1 pc = some (.lastore, nx, ci, j, ts0, cv)) (hs : B.1[k]? = some (.inr (t, n, .long, rs))) (hi : vp_in x n) (h : Ev B Q nx L r (mJ M k x.toNatClampNeg v)) : Ev B Q pc L (.long v :: .int x :: .ref k :: r) M := by
  refine ev_s hc ?_
  show p_arr _ _ _
  unfold p_arr
  rw [hs]
  exact ⟨rfl, hi, h⟩
theorem ev_iast {x : Int32} {v : Int32} (hc : B.2.2.2.2.1 pc = some (.iastore, nx, ci, j, ts0, cv)) (hs : B.1[k]? = some (.inr (t, n, .int, rs))) (hi : vp_in x n) (h : Ev B Q nx L r (mI M k x.toNatClampNeg v)) : Ev B Q pc L (.int v :: .int x :: .ref k :: r) M := by
  refine ev_s hc ?_
  show p_arr _ _ _
  unfold p_arr
  rw [hs]
  exact ⟨rfl, hi, h⟩
theorem ev_bast {x : Int32} {v : Int32} (hc : B.2.2.2.2.1 pc = some (.bastore, nx, ci, j, ts0, cv)) (hs : B.1[k]? = some (.inr (t, n, .byte, rs))) (hi : vp_in x n) (h : Ev B Q nx L r (mI M k x.toNatClampNeg (vp_nar .byte v))) : Ev B Q pc L (.int v :: .int x :: .ref k :: r) M := by
  refine ev_s hc ?_
  show p_arr _ _ _
  unfold p_arr
  rw [hs]
  exact ⟨Or.inl rfl, hi, h⟩
theorem ev_zast {x : Int32} {v : Int32} (hc : B.2.2.2.2.1 pc = some (.bastore, nx, ci, j, ts0, cv)) (hs : B.1[k]? = some (.inr (t, n, .boolean, rs))) (hi : vp_in x n) (h : Ev B Q nx L r (mI M k x.toNatClampNeg (vp_nar .boolean v))) : Ev B Q pc L (.int v :: .int x :: .ref k :: r) M := by
  refine ev_s hc ?_
  show p_arr _ _ _
  unfold p_arr
  rw [hs]
  exact ⟨Or.inr rfl, hi, h⟩
theorem ev_alen (hc : B.2.2.2.2.1 pc = some (.arraylength, nx, ci, j, ts0, cv)) {ty : FieldType} (hs : B.1[k]? = some (.inr (t, n, ty, rs))) (h : Ev B Q nx L (.int (Int32.ofNat n) :: r) M) : Ev B Q pc L (.ref k :: r) M := by
  refine ev_s hc ?_
  show p_arr _ _ _
  unfold p_arr
  rw [hs]
  exact h
/-- a branch: both roads -/
theorem ev_if {c : ClassFile.Cond} {off : Int} {x : Int32} {tg b0 : Nat} (hc : B.2.2.2.2.1 pc = some (.ifCond c off, nx, tg, b0, ts0, cv)) (h1 : p_icmp c x 0 → Ev B Q tg L r M) (h2 : ¬ p_icmp c x 0 → Ev B Q nx L r M) : Ev B Q pc L (.int x :: r) M := ev_s hc ⟨h1, h2⟩
theorem ev_ic {c : ClassFile.Cond} {off : Int} {x y : Int32} {tg b0 : Nat} (hc : B.2.2.2.2.1 pc = some (.if_icmp c off, nx, tg, b0, ts0, cv)) (h1 : p_icmp c x y → Ev B Q tg L r M) (h2 : ¬ p_icmp c x y → Ev B Q nx L r M) : Ev B Q pc L (.int y :: .int x :: r) M := ev_s hc ⟨h1, h2⟩
/-- a call whose answer is told -/
theorem ev_cv {i k n : Nat} {as rest : List Value} (hc : B.2.2.2.2.1 pc = some (.invokevirtual i, nx, k, n, ts0, cv)) (hs : st.take n = as.reverse) (hr : st.drop n = rest) (hcat : (rest.map fun v => v.category).sum ≤ 8)
    (h : B.2.1 k as M (fun o M' => match o with
      | some v => Ev B Q nx L (v.toList ++ rest) M'
      | none => p_th B.2.2.1 pc L M' (Ev B Q) Q)) : Ev B Q pc L st M := by
  refine ev_s hc ?_
  refine ⟨by rw [hr]; exact hcat, (fun o M' => match o with
      | some v => Ev B Q nx L (v.toList ++ rest) M'
      | none => p_th B.2.2.1 pc L M' (Ev B Q) Q), ?_, fun v M' h9 => ?_, fun M' h9 => ?_⟩
  · rw [hs, List.reverse_reverse]; exact h
  · rw [hr]; exact h9
  · exact h9
theorem ev_cs {i k n : Nat} {as rest : List Value} (hc : B.2.2.2.2.1 pc = some (.invokestatic i, nx, k, n, ts0, cv)) (h0 : n ≠ 1000) (h1 : n ≠ 1001) (hs : st.take n = as.reverse) (hr : st.drop n = rest) (hcat : (rest.map fun v => v.category).sum ≤ 8)
    (h : B.2.1 k as M (fun o M' => match o with
      | some v => Ev B Q nx L (v.toList ++ rest) M'
      | none => p_th B.2.2.1 pc L M' (Ev B Q) Q)) : Ev B Q pc L st M := by
  refine ev_s hc ?_
  unfold p_ex
  dsimp only
  rw [if_neg h0, if_neg h1]
  refine ⟨by rw [hr]; exact hcat, (fun o M' => match o with
      | some v => Ev B Q nx L (v.toList ++ rest) M'
      | none => p_th B.2.2.1 pc L M' (Ev B Q) Q), ?_, fun v M' h9 => ?_, fun M' h9 => ?_⟩
  · rw [hs, List.reverse_reverse]; exact h
  · rw [hr]; exact h9
  · exact h9
end STEPS

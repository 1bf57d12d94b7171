/-! takeArgument, takeInHand, takeValue. -/
section TAKE2
variable {M : PM} {fr : List Nat} {ψ : Nat → Nat} {ns lim : Nat} {H : AHp} {nid : Nat} {x e f : AV} {fns : List (Option AV)} {ha pe sk : List AV} {frs : List AF} {fl mo : Nat}
theorem LiveA.mode (h : LiveA M fr ψ ns lim H nid x e f fns ha frs fl mo) {m : Int32} : LiveA (mI M 27 11 m) fr ψ ns lim H nid x e f fns ha frs fl mo :=
  h.same Same.I (by decide) (by rw [mI_ne (Or.inr (by decide))]) (by rw [mI_ne (Or.inr (by decide))]) (by rw [mI_ne (Or.inr (by decide))]) (by rw [mI_ne (Or.inr (by decide))])
theorem m_takeInHand {d : Nat} {fn l fe : AV} {vs : List AV} {r : List AF} (hL : LiveW M fr ψ ns lim H nid x e f fns ha ((fn, l, fe, vs) :: r) fl mo) (h10 : vs.length ≤ 10) (hr : FrOk r) {Q : Option (Option Value) → PM → Prop} (h : ∀ M', PostM ns lim fns M (aAp x e fn vs r fl mo H nid) M' → Q (some none) M') : SC (d + 3) 44 [.ref 27, .int (nI (flatA r).length)] M Q := by
  refine ⟨qX2_takeInHand, rfl, ⟨Nat.le_of_ble_eq_true rfl, rfl, 27, _, _, rfl, rfl⟩, ?_⟩
  show Ev (BC (d + 2) qX2_takeInHand) Q 0 [some (.ref 27), some (.int (nI (flatA r).length)), none] [] M
  have hlen : (flatA r).length ≤ 2600 := by
    have h1 := flatA_len r (fun F hF => (hr F hF).2)
    have h2 := hL.2.2.2.2.2.2.1
    simp at h2
    omega
  have hflen : (flatA ((fn, l, fe, vs) :: r)).length = (flatA r).length + 3 + vs.length := by rw [flatA_cons]; simp; omega
  repeat (refine ev_s rfl (?_ : Ev _ _ _ _ _ _))
  refine ev_cv rfl (as := [.ref 27]) rfl rfl (Nat.le_of_ble_eq_true rfl) ?_
  refine m_emptyHand0 hL.1 hL.2.2.2.2.2.2.2.1.2.2.1 (fun M1 g1 g2 => ?_)
  show Ev _ _ _ _ [] _
  repeat (refine ev_s rfl (?_ : Ev _ _ _ _ _ _))
  refine ev_cv rfl (as := [.ref 15, .int (nI (flatA r).length)]) rfl rfl (Nat.le_of_ble_eq_true rfl) ?_
  refine rowA_at r_stk g1.2.2.2.2.2.2.2.2 (b := fn) (by have := flat_at (r := r) (fn := fn) (l := l) (fe := fe) (vs := vs) 0; simpa using this) (fun w hw => ?_)
  show Ev _ _ _ _ [.long w, .ref 1] _
  iterate 5 (refine ev_s rfl (?_ : Ev _ _ _ _ _ _))
  rw [show nI (flatA r).length + 3 = nI ((flatA r).length + 3) from by rw [show (3 : Int32) = nI 3 from rfl, nI_add]]
  have s2 : Same [1, 13] M (mJ M1 1 6 w) := (g2.tr Same.J).sub (by decide)
  have hL2 := hL.core rfl (g1.setF hw) s2 (by decide)
  have loop : ∀ (n j : Nat) (M2 : PM), vs.length - j < n → j ≤ vs.length → LiveW M2 fr ψ ns lim H nid x e fn fns (vs.take j) ((fn, l, fe, vs) :: r) fl mo → Same [1, 13, 14] M M2 → Ev (BC (d + 2) qX2_takeInHand) Q 23 [some (.ref 27), some (.int (nI (flatA r).length)), some (.int (nI ((flatA r).length + 3 + j)))] [] M2 := by
    intro n
    induction n with
    | zero => intro j M2 h9; omega
    | succ n ih =>
      intro j M2 hn hj hL3 hs3
      repeat (refine ev_s rfl (?_ : Ev _ _ _ _ _ _))
      refine ev_cv rfl (as := [.ref 15]) rfl rfl (Nat.le_of_ble_eq_true rfl) ?_
      refine rowA_size r_stk hL3.1.2.2.2.2.2.2.2.2 ?_
      rw [hflen]
      show Ev _ _ _ _ [.int (nI ((flatA r).length + 3 + vs.length)), .int (nI ((flatA r).length + 3 + j))] _
      refine ev_ic rfl (fun hc => ?_) (fun hc => ?_)
      · have hj2 : vs.length ≤ j := by
          have := (nI_leI (by omega) (by omega)).mp hc
          omega
        have ej : j = vs.length := by omega
        subst ej
        rw [List.take_length] at hL3
        repeat (refine ev_s rfl (?_ : Ev _ _ _ _ _ _))
        refine ev_cv rfl (as := [.ref 27, .int (nI (flatA r).length)]) rfl rfl (Nat.le_of_ble_eq_true rfl) ?_
        refine m_popFrame hL3 hr (fun M4 g5 g6 => ?_)
        show Ev _ _ _ _ [] _
        repeat (refine ev_s rfl (?_ : Ev _ _ _ _ _ _))
        refine ev_retv rfl rfl (h _ ⟨((hs3.tr g6).tr Same.I).sub (by decide), fr, ψ, g5.mode, mI_at, fun h9 => by omega⟩)
      · have hj2 : j < vs.length := by
          have := (nI_ltI (by omega) (by omega)).mp (Int32.not_le.mp hc)
          omega
        have e1 : vs[j]? = some vs[j] := List.getElem?_eq_getElem hj2
        repeat (refine ev_s rfl (?_ : Ev _ _ _ _ _ _))
        refine ev_cv rfl (as := [.ref 15, .int (nI ((flatA r).length + 3 + j))]) rfl rfl (Nat.le_of_ble_eq_true rfl) ?_
        refine rowA_at r_stk hL3.1.2.2.2.2.2.2.2.2 (b := vs[j]) (by rw [Nat.add_assoc, flat_at, Nat.add_comm 3 j]; simpa using e1) (fun w2 hw2 => ?_)
        show Ev _ _ _ _ [.long w2, .ref 13] _
        refine ev_cv rfl (as := [.ref 13, .long w2]) rfl rfl (Nat.le_of_ble_eq_true rfl) ?_
        refine rowA_add r_hand hL3.1.2.2.2.2.2.2.2.1 hw2 (by rw [List.length_take]; omega) (fun M4 g5 g6 => ?_)
        show Ev _ _ _ _ [] _
        iterate 2 (refine ev_s rfl (?_ : Ev _ _ _ _ _ _))
        rw [nI_1]
        rw [show vs.take j ++ [vs[j]] = vs.take (j + 1) from List.take_append_getElem hj2] at g5
        exact ih (j + 1) M4 (by omega) (by omega) (hL3.core rfl (hL3.1.setHa g6 (by decide) g5) g6 (by decide)) ((hs3.tr g6).sub (by decide))
  exact loop (vs.length + 1) 0 (mJ M1 1 6 w) (by omega) (by omega) hL2 (s2.sub (by decide))
theorem m_takeArgument {d : Nat} {fn l v : AV} {vs : List AV} {r : List AF} (hL : LiveA M fr ψ ns lim H nid x e (aS 0) fns [] ((fn, l, e, vs) :: r) fl mo) (hv : Tv fr ψ ns (M.2 27 12) v) {Q : Option (Option Value) → PM → Prop} (h : ∀ M', PostM ns lim fns M (if vs.length < 10 then (match aTl H l with
      | none => aFl 5 fl mo H nid
      | some l' => match aHd H l' with
        | some x' => aEv x' e ((fn, l', e, vs ++ [v]) :: r) fl mo H nid
        | none => if l' = aS 0 then aAp x e fn (vs ++ [v]) r fl mo H nid else aFl 5 fl mo H nid)
    else aFl 11 fl mo H nid) M' → Q (some none) M') : SC (d + 4) 43 [.ref 27, .int (nI (flatA r).length)] M Q := by
  refine ⟨qX2_takeArgument, rfl, ⟨Nat.le_of_ble_eq_true rfl, rfl, 27, _, _, rfl, rfl⟩, ?_⟩
  show Ev (BC (d + 3) qX2_takeArgument) Q 0 [some (.ref 27), some (.int (nI (flatA r).length)), none, none] [] M
  have hsk := hL.1.2.2.2.2.2.2.2.2
  have kf := hL.2.2.2.2.2.2.1
  have hfr : FrOk r := fun F hF => kf F (List.mem_cons_of_mem _ hF)
  have h10 : vs.length ≤ 10 := (kf _ List.mem_cons_self).2
  obtain ⟨i, hi⟩ := (kf _ List.mem_cons_self).1
  dsimp only at hi
  subst hi
  have hm := hL.1.1
  have hlen : (flatA r).length ≤ 13 * 199 := by
    have h1 := flatA_len r (fun F hF => (hfr F hF).2)
    have h2 := hL.2.2.2.2.2.2.2.1
    simp at h2
    omega
  have hflen : (flatA ((fn, aC i, e, vs) :: r)).length = (flatA r).length + 3 + vs.length := by rw [flatA_cons]; simp; omega
  repeat (refine ev_s rfl (?_ : Ev _ _ _ _ _ _))
  refine ev_cv rfl (as := [.ref 15]) rfl rfl (Nat.le_of_ble_eq_true rfl) ?_
  refine rowA_size r_stk hsk ?_
  rw [hflen]
  show Ev _ _ _ _ [.int (nI ((flatA r).length + 3 + vs.length))] _
  repeat (refine ev_s rfl (?_ : Ev _ _ _ _ _ _))
  rw [pk_sub (by omega), show (flatA r).length + 3 + vs.length - (flatA r).length = 3 + vs.length by omega]
  refine ev_ic rfl (fun hc => ?_) (fun hc => ?_)
  · have hlt : vs.length < 10 := by
      have := (nI_ltI (b := 13) (by omega) (by decide)).mp hc
      omega
    rw [if_pos hlt] at h
    repeat (refine ev_s rfl (?_ : Ev _ _ _ _ _ _))
    refine ev_cv rfl (as := [.ref 15, .long (M.2 27 12)]) rfl rfl (Nat.le_of_ble_eq_true rfl) ?_
    refine rowA_add r_stk hsk hv (by omega) (fun M1 g1 g2 => ?_)
    rw [show flatA ((fn, aC i, e, vs) :: r) ++ [v] = flatA ((fn, aC i, e, vs ++ [v]) :: r) by rw [flatA_cons, flatA_cons]; simp] at g1
    have hL1 := hL.w.core rfl (hL.1.setSk g2 (by decide) g1) g2 (by decide)
    show Ev _ _ _ _ [] _
    repeat (refine ev_s rfl (?_ : Ev _ _ _ _ _ _))
    rw [nI_1]
    refine ev_cv rfl (as := [.ref 15, .int (nI ((flatA r).length + 1))]) rfl rfl (Nat.le_of_ble_eq_true rfl) ?_
    refine rowA_at r_stk g1 (b := aC i) (by rw [flat_at]; rfl) (fun w hw => ?_)
    show Ev _ _ _ _ [.long w, .ref 27] _
    refine ev_cv rfl (as := [.ref 27, .long w]) rfl rfl (Nat.le_of_ble_eq_true rfl) ?_
    refine m_askTail_a hL1.1.1 hw (fun b w2 hb hw2 => ?_) (fun hb => by cases hb)
    rw [hb] at h
    dsimp only at h
    show Ev _ _ _ _ [.long w2] _
    repeat (refine ev_s rfl (?_ : Ev _ _ _ _ _ _))
    rw [nI_1]
    refine ev_cv rfl (as := [.ref 15, .int (nI ((flatA r).length + 1)), .long w2]) rfl rfl (Nat.le_of_ble_eq_true rfl) ?_
    refine rowA_put r_stk g1 hw2 (by rw [flatA_cons]; simp) (fun M2 g3 g4 => ?_)
    rw [flat_set] at g3
    have hs4 : Same [15, 16] M1 M2 := g4.sub (by decide)
    have hL2 := hL1.core rfl (hL1.1.setSk hs4 (by decide) g3) hs4 (by decide)
    have hs2 : Same [15, 16] M M2 := (g2.tr hs4).sub (by decide)
    show Ev _ _ _ _ [] _
    repeat (refine ev_s rfl (?_ : Ev _ _ _ _ _ _))
    refine ev_cs rfl (by decide) (by decide) (as := [.long w2]) rfl rfl (Nat.le_of_ble_eq_true rfl) ?_
    refine v_isCell (fun hc2 => ?_) (fun hc2 => ?_)
    · have eb := hw2.cell hc2
      subst eb
      have hL3 := hL2.a (fun F hF => by
        rcases List.mem_cons.mp hF with rfl | hF
        · exact ⟨⟨_, rfl⟩, by simp; omega⟩
        · exact hfr F hF)
      show Ev _ _ _ _ [.int 1] _
      refine ev_ifF rfl (show ¬ (1 : Int32) = 0 by decide) ?_
      repeat (refine ev_s rfl (?_ : Ev _ _ _ _ _ _))
      refine ev_cv rfl (as := [.ref 17, .long w2]) rfl rfl (Nat.le_of_ble_eq_true rfl) ?_
      refine cell_head hc2 ?_
      have p1 := (CoreA.part hL3.1.1 hw2).1
      show Ev _ _ _ _ [.long (M2.2 19 (cix w2)), .ref 27] _
      refine ev_cv rfl (as := [.ref 27, .long (M2.2 19 (cix w2))]) rfl rfl (Nat.le_of_ble_eq_true rfl) ?_
      refine m_next hL3 p1 (fun M3 g5 => ?_)
      show Ev _ _ _ _ [] _
      repeat (refine ev_s rfl (?_ : Ev _ _ _ _ _ _))
      exact ev_retv rfl rfl (h M3 (g5.of hs2 (by decide)))
    · rw [aHd_none.mpr (hw2.ncell hc2)] at h
      dsimp only at h
      show Ev _ _ _ _ [.int 0] _
      refine ev_ifT rfl (show (0 : Int32) = 0 from rfl) ?_
      repeat (refine ev_s rfl (?_ : Ev _ _ _ _ _ _))
      refine ev_lif rfl (fun hc3 => ?_) (fun hc3 => ?_)
      · have hb0 : ¬ b = aS 0 := fun h9 => hc3 ((hw2.eqS (k := 0) (by decide)).mpr h9)
        rw [if_neg hb0] at h
        repeat (refine ev_s rfl (?_ : Ev _ _ _ _ _ _))
        refine ev_cv rfl (as := [.ref 27, .int 5]) rfl rfl (Nat.le_of_ble_eq_true rfl) ?_
        refine m_fail ?_
        show Ev _ _ _ _ [] _
        exact ev_retv rfl rfl (h _ ((hL2.flt (c := 5) (by decide) (by decide)).of hs2 (by decide)))
      · have hb0 : b = aS 0 := (hw2.eqS (k := 0) (by decide)).mp (Decidable.not_not.mp hc3)
        rw [if_pos hb0] at h
        repeat (refine ev_s rfl (?_ : Ev _ _ _ _ _ _))
        refine ev_cv rfl (as := [.ref 27, .int (nI (flatA r).length)]) rfl rfl (Nat.le_of_ble_eq_true rfl) ?_
        refine m_takeInHand hL2 (by simp; omega) hfr (fun M3 g5 => ?_)
        show Ev _ _ _ _ [] _
        repeat (refine ev_s rfl (?_ : Ev _ _ _ _ _ _))
        exact ev_retv rfl rfl (h M3 (g5.of hs2 (by decide)))
  · have hge : ¬ vs.length < 10 := fun h9 => hc (nI_lt (b := 13) (by omega) (by decide))
    rw [if_neg hge] at h
    repeat (refine ev_s rfl (?_ : Ev _ _ _ _ _ _))
    refine ev_cv rfl (as := [.ref 27, .int 11]) rfl rfl (Nat.le_of_ble_eq_true rfl) ?_
    refine m_fail ?_
    show Ev _ _ _ _ [] _
    exact ev_retv rfl rfl (h _ (hL.flt (c := 11) (by decide) (by decide)))
theorem m_takeValue {d : Nat} {v : AV} (hL : LiveA M fr ψ ns lim H nid x e (aS 0) fns [] frs fl mo) (hv : Tv fr ψ ns (M.2 27 12) v) {Q : Option (Option Value) → PM → Prop} (h : ∀ M', PostM ns lim fns M (aTake x e v frs fl mo H nid) M' → Q (some none) M') : SC (d + 5) 41 [.ref 27] M Q := by
  refine ⟨qX2_takeValue, rfl, ⟨Nat.le_of_ble_eq_true rfl, rfl, 27, _, _, rfl, rfl⟩, ?_⟩
  show Ev (BC (d + 4) qX2_takeValue) Q 0 [some (.ref 27), none] [] M
  have k6 := hL.2.1
  have k200 := hL.2.2.2.2.2.2.2.1
  repeat (refine ev_s rfl (?_ : Ev _ _ _ _ _ _))
  rw [k6]
  cases frs with
  | nil =>
    refine ev_ifT rfl (show nI ([] : List AF).length ≤ 0 by decide) ?_
    repeat (refine ev_s rfl (?_ : Ev _ _ _ _ _ _))
    refine ev_retv rfl rfl (h _ ⟨Same.I.sub (by decide), fr, ψ, hL.mode, mI_at, fun _ => ?_⟩)
    rw [mI_2]; exact hv
  | cons F r =>
    obtain ⟨fn, l, fe, vs⟩ := F
    have el : ((fn, l, fe, vs) :: r).length = r.length + 1 := rfl
    rw [el] at k6 k200 ⊢
    refine ev_ifF rfl (nI_nle (by omega) (by omega)) ?_
    repeat (refine ev_s rfl (?_ : Ev _ _ _ _ _ _))
    rw [k6]
    refine ev_icT rfl (nI_le (b := 200) (by omega) (by decide)) ?_
    repeat (refine ev_s rfl (?_ : Ev _ _ _ _ _ _))
    rw [k6]
    repeat (refine ev_s rfl (?_ : Ev _ _ _ _ _ _))
    rw [nI_pred]
    refine ev_iald rfl rfl (vp_in_nI (show r.length < 200 by omega) (by decide)) ?_
    rw [nI_clamp (by omega), hL.2.2.2.2.2.1.1]
    repeat (refine ev_s rfl (?_ : Ev _ _ _ _ _ _))
    rw [show nI (flatA r).length + 2 = nI ((flatA r).length + 2) from by rw [show (2 : Int32) = nI 2 from rfl, nI_add]]
    refine ev_cv rfl (as := [.ref 15, .int (nI ((flatA r).length + 2))]) rfl rfl (Nat.le_of_ble_eq_true rfl) ?_
    refine rowA_at r_stk hL.1.2.2.2.2.2.2.2.2 (b := fe) (by rw [flat_at]; rfl) (fun w hw => ?_)
    show Ev _ _ _ _ [.long w, .ref 1] _
    have hL1 := hL.core (hL.1.setE hw) Same.J (by decide)
    have hs1 : Same [1] M (mJ M 1 5 w) := Same.J
    have hv1 : Tv fr ψ ns ((mJ M 1 5 w).2 27 12) v := by rw [mJ_ne (Or.inl (by decide))]; exact hv
    repeat (refine ev_s rfl (?_ : Ev _ _ _ _ _ _))
    generalize mJ M 1 5 w = M1 at *
    refine ev_cv rfl (as := [.ref 15, .int (nI (flatA r).length)]) rfl rfl (Nat.le_of_ble_eq_true rfl) ?_
    refine rowA_at r_stk hL1.1.2.2.2.2.2.2.2.2 (b := fn) (by have := flat_at (r := r) (fn := fn) (l := l) (fe := fe) (vs := vs) 0; simpa using this) (fun w0 hw0 => ?_)
    show Ev _ _ _ _ [.long w0] _
    repeat (refine ev_s rfl (?_ : Ev _ _ _ _ _ _))
    refine ev_lif rfl (fun hc => ?_) (fun hc => ?_)
    · have hn : ¬ fn = aS 3 := fun h9 => hc ((hw0.eqS (k := 3) (by decide)).mpr h9)
      repeat (refine ev_s rfl (?_ : Ev _ _ _ _ _ _))
      refine ev_cv rfl (as := [.ref 27, .int (nI (flatA r).length)]) rfl rfl (Nat.le_of_ble_eq_true rfl) ?_
      refine m_takeArgument hL1 hv1 (fun M2 g => ?_)
      show Ev _ _ _ _ [] _
      refine ev_retv rfl rfl (h M2 ?_)
      unfold aTake
      dsimp only
      rw [if_neg hn]
      exact g.of hs1 (by decide)
    · have hn : fn = aS 3 := (hw0.eqS (k := 3) (by decide)).mp (Decidable.not_not.mp hc)
      repeat (refine ev_s rfl (?_ : Ev _ _ _ _ _ _))
      refine ev_cv rfl (as := [.ref 27, .int (nI (flatA r).length)]) rfl rfl (Nat.le_of_ble_eq_true rfl) ?_
      refine m_takeChoice hL1 hv1 (fun M2 g => ?_)
      show Ev _ _ _ _ [] _
      repeat (refine ev_s rfl (?_ : Ev _ _ _ _ _ _))
      refine ev_retv rfl rfl (h M2 ?_)
      unfold aTake
      dsimp only
      rw [if_pos hn]
      exact g.of hs1 (by decide)
end TAKE2

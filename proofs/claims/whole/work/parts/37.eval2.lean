/-! evaluate: COND, FUNCTION, calls. -/
theorem aCons_ok {α : Type} {lim : Nat} {fns : List (Option AV)} {rt : List AV} {a b : AV} {H : AHp} {n : Nat} {ok : AV → AHp → Nat → α} {no : AHp → Nat → α} (h : acnt H (ARt fns rt a b) n < lim) : aCons lim fns rt a b H n ok no = ok (aC n) (ahUp H n a b) (n + 1) := if_pos h
theorem aCons_no {α : Type} {lim : Nat} {fns : List (Option AV)} {rt : List AV} {a b : AV} {H : AHp} {n : Nat} {ok : AV → AHp → Nat → α} {no : AHp → Nat → α} (h : ¬ acnt H (ARt fns rt a b) n < lim) : aCons lim fns rt a b H n ok no = no H n := if_neg h
section EVAL2
variable {M : PM} {fr : List Nat} {ψ : Nat → Nat} {ns lim : Nat} {H : AHp} {nid : Nat} {x e f : AV} {fns : List (Option AV)} {ha : List AV} {frs : List AF} {fl mo : Nat}
theorem m_evalCond {d : Nat} {l : Int64} {b : AV} (hL : LiveA M fr ψ ns lim H nid x e f fns ha frs fl mo) (hl : Tv fr ψ ns l b) {Q : Option (Option Value) → PM → Prop} (h : ∀ M', PostM ns lim fns M (match aHd H b with
      | none => aFl 9 fl mo H nid
      | some p => aPush (aS 3, b, e, []) frs fl mo H nid fun frs' mo' => match aHd H p with
        | none => aFl 5 fl mo' H nid
        | some x' => aEv x' e frs' fl mo' H nid) M' → Q (some none) M') : SC (d + 4) 36 [.ref 27, .long l] M Q := by
  refine ⟨qX2_evaluateCond, rfl, ⟨Nat.le_of_ble_eq_true rfl, rfl, 27, _, _, rfl, rfl⟩, ?_⟩
  show Ev (BC (d + 3) qX2_evaluateCond) Q 0 [some (.ref 27), some (.long l), none] [] M
  repeat (refine ev_s rfl (?_ : Ev _ _ _ _ _ _))
  refine ev_cs rfl (by decide) (by decide) (as := [.long l]) rfl rfl (Nat.le_of_ble_eq_true rfl) ?_
  refine v_isCell (fun hc => ?_) (fun hc => ?_)
  · have e1 := hl.cell hc
    subst e1
    show Ev _ _ _ _ [.int 1] _
    refine ev_ifT rfl (show ¬ (1 : Int32) = 0 by decide) ?_
    repeat (refine ev_s rfl (?_ : Ev _ _ _ _ _ _))
    refine ev_cv rfl (as := [.ref 27, .long (lN 3), .long l]) rfl rfl (Nat.le_of_ble_eq_true rfl) ?_
    refine m_pushFrame hL (hL.nil (k := 3) (by decide)) hl (fun hlt M1 g1 g2 => ?_) (fun hge => ?_)
    · show Ev _ _ _ _ [] _
      repeat (refine ev_s rfl (?_ : Ev _ _ _ _ _ _))
      refine ev_cv rfl (as := [.ref 17, .long l]) rfl rfl (Nat.le_of_ble_eq_true rfl) ?_
      refine cell_head hc ?_
      have p1 := (CoreA.part g1.1.1 hl).1
      show Ev _ _ _ _ [.long (M1.2 19 (cix l)), .ref 27, .ref 27] _
      refine ev_cv rfl (as := [.ref 27, .long (M1.2 19 (cix l))]) rfl rfl (Nat.le_of_ble_eq_true rfl) ?_
      refine m_askHead_a g1.1.1 p1 (fun b2 w2 hb2 hw2 => ?_) (fun hb2 => ?_)
      · show Ev _ _ _ _ [.long w2, .ref 27] _
        refine ev_cv rfl (as := [.ref 27, .long w2]) rfl rfl (Nat.le_of_ble_eq_true rfl) ?_
        refine m_next g1 hw2 (fun M2 g3 => ?_)
        show Ev _ _ _ _ [] _
        refine ev_retv rfl rfl (h M2 ?_)
        show PostM _ _ _ _ (aPush _ _ _ _ _ _ _) _
        unfold aPush
        rw [if_pos hlt, hb2]
        exact g3.of g2 (by decide)
      · show Ev _ _ _ _ [.long 0, .ref 27] _
        refine ev_cv rfl (as := [.ref 27, .long 0]) rfl rfl (Nat.le_of_ble_eq_true rfl) ?_
        refine m_next_d (failM_Dd g1.2.2.2.2.1 (by decide)) ?_
        show Ev _ _ _ _ [] _
        refine ev_retv rfl rfl (h _ ?_)
        show PostM _ _ _ _ (aPush _ _ _ _ _ _ _) _
        unfold aPush
        rw [if_pos hlt, hb2]
        exact (g1.flt (c := 5) (by decide) (by decide)).of g2 (by decide)
    · have hD := failM_Dd (c := 12) hL.2.2.2.2.1 (by decide)
      show Ev _ _ _ _ [] _
      repeat (refine ev_s rfl (?_ : Ev _ _ _ _ _ _))
      refine ev_cv rfl (as := [.ref 17, .long l]) rfl rfl (Nat.le_of_ble_eq_true rfl) ?_
      refine cell_head hc ?_
      show Ev _ _ _ _ [.long ((failM 12 M).2 19 (cix l)), .ref 27, .ref 27] _
      refine ev_cv rfl (as := [.ref 27, .long ((failM 12 M).2 19 (cix l))]) rfl rfl (Nat.le_of_ble_eq_true rfl) ?_
      refine m_askHead_d hD (fun w => ?_)
      show Ev _ _ _ _ [.long w, .ref 27] _
      refine ev_cv rfl (as := [.ref 27, .long w]) rfl rfl (Nat.le_of_ble_eq_true rfl) ?_
      refine m_next_d hD ?_
      show Ev _ _ _ _ [] _
      refine ev_retv rfl rfl (h _ ?_)
      show PostM _ _ _ _ (aPush _ _ _ _ _ _ _) _
      unfold aPush
      rw [if_neg hge]
      exact hL.flt (c := 12) (by decide) (by decide)
  · show Ev _ _ _ _ [.int 0] _
    refine ev_ifF rfl (show ¬ ¬ (0 : Int32) = 0 by decide) ?_
    repeat (refine ev_s rfl (?_ : Ev _ _ _ _ _ _))
    refine ev_cv rfl (as := [.ref 27, .int 9]) rfl rfl (Nat.le_of_ble_eq_true rfl) ?_
    refine m_fail ?_
    show Ev _ _ _ _ [] _
    refine ev_retv rfl rfl (h _ ?_)
    rw [aHd_none.mpr (hl.ncell hc)]
    exact hL.flt (c := 9) (by decide) (by decide)
theorem m_evalFunction {d : Nat} {l : Int64} {b : AV} (hL : LiveA M fr ψ ns lim H nid x e (aS 0) fns [] frs fl mo) (hl : Tv fr ψ ns l b) (hb : ∀ RA : AV → Prop, RA x → ∀ k, b = aC k → AR H RA k) {Q : Option (Option Value) → PM → Prop} (h : ∀ M', PostM ns lim fns M (aCons lim fns (rts x e (aS 0) [] [] (flatA frs)) e (aS 0) H nid (fun c H n => aCons lim fns (rts x e (aS 0) [] [] (flatA frs)) b c H n (fun c H n => aCons lim fns (rts x e (aS 0) [] [] (flatA frs)) (aS 7) c H n (fun c H n => aRet x e c frs fl mo H n) (aFl 8 fl mo)) (aFl 8 fl mo)) (aFl 8 fl mo)) M' → Q (some none) M') : SC (d + 5) 37 [.ref 27, .long l] M Q := by
  refine ⟨qX2_evaluateFunction, rfl, ⟨Nat.le_of_ble_eq_true rfl, rfl, 27, _, _, rfl, rfl⟩, ?_⟩
  show Ev (BC (d + 4) qX2_evaluateFunction) Q 0 [some (.ref 27), some (.long l), none, none, none] [] M
  repeat (refine ev_s rfl (?_ : Ev _ _ _ _ _ _))
  refine ev_cv rfl (as := [.ref 27, .long (M.2 1 5), .long (lN 0)]) rfl rfl (Nat.le_of_ble_eq_true rfl) ?_
  refine m_cons hL hL.1.2.2.2.1 (hL.nil (k := 0) (by decide)) (fun hlt M1 fr1 ψ1 v1 g1 g2 g3 g4 => ?_) (fun hge M1 hD g1 => ?_)
  · rw [aCons_ok hlt] at h
    have hl1 := g3 l b hl (fun k hk => hb _ (Or.inr (Or.inl (by simp))) k hk)
    show Ev _ _ _ _ [.long v1] _
    repeat (refine ev_s rfl (?_ : Ev _ _ _ _ _ _))
    refine ev_cv rfl (as := [.ref 27, .long l, .long v1]) rfl rfl (Nat.le_of_ble_eq_true rfl) ?_
    refine m_cons g1 hl1 g2 (fun hlt2 M2 fr2 ψ2 v2 g5 g6 g7 g8 => ?_) (fun hge M2 hD g5 => ?_)
    · rw [aCons_ok hlt2] at h
      show Ev _ _ _ _ [.long v2] _
      repeat (refine ev_s rfl (?_ : Ev _ _ _ _ _ _))
      refine ev_cv rfl (as := [.ref 27, .long (lN 7), .long v2]) rfl rfl (Nat.le_of_ble_eq_true rfl) ?_
      refine m_cons g5 (g5.nil (k := 7) (by decide)) g6 (fun hlt3 M3 fr3 ψ3 v3 g9 g10 g11 g12 => ?_) (fun hge M3 hD g9 => ?_)
      · rw [aCons_ok hlt3] at h
        show Ev _ _ _ _ [.long v3, .ref 27] _
        refine ev_cv rfl (as := [.ref 27, .long v3]) rfl rfl (Nat.le_of_ble_eq_true rfl) ?_
        refine m_give g9 g10 (fun M4 g13 => ?_)
        show Ev _ _ _ _ [] _
        exact ev_retv rfl rfl (h M4 (g13.of ((g4.tr g8).tr g12) (by decide)))
      · rw [aCons_no hge] at h
        show Ev _ _ _ _ [.long (-1), .ref 27] _
        refine ev_cv rfl (as := [.ref 27, .long (-1)]) rfl rfl (Nat.le_of_ble_eq_true rfl) ?_
        refine m_give_d hD ?_
        show Ev _ _ _ _ [] _
        exact ev_retv rfl rfl (h M3 (g9.of (g4.tr g8) (by decide)))
    · rw [aCons_no hge] at h
      show Ev _ _ _ _ [.long (-1)] _
      repeat (refine ev_s rfl (?_ : Ev _ _ _ _ _ _))
      refine ev_cv rfl (as := [.ref 27, .long (lN 7), .long (-1)]) rfl rfl (Nat.le_of_ble_eq_true rfl) ?_
      refine m_cons_d hD ?_
      show Ev _ _ _ _ [.long 0, .ref 27] _
      refine ev_cv rfl (as := [.ref 27, .long 0]) rfl rfl (Nat.le_of_ble_eq_true rfl) ?_
      refine m_give_d hD ?_
      show Ev _ _ _ _ [] _
      exact ev_retv rfl rfl (h M2 (g5.of g4 (by decide)))
  · rw [aCons_no hge] at h
    show Ev _ _ _ _ [.long (-1)] _
    repeat (refine ev_s rfl (?_ : Ev _ _ _ _ _ _))
    refine ev_cv rfl (as := [.ref 27, .long l, .long (-1)]) rfl rfl (Nat.le_of_ble_eq_true rfl) ?_
    refine m_cons_d hD ?_
    show Ev _ _ _ _ [.long 0] _
    repeat (refine ev_s rfl (?_ : Ev _ _ _ _ _ _))
    refine ev_cv rfl (as := [.ref 27, .long (lN 7), .long 0]) rfl rfl (Nat.le_of_ble_eq_true rfl) ?_
    refine m_cons_d hD ?_
    show Ev _ _ _ _ [.long 0, .ref 27] _
    refine ev_cv rfl (as := [.ref 27, .long 0]) rfl rfl (Nat.le_of_ble_eq_true rfl) ?_
    refine m_give_d hD ?_
    show Ev _ _ _ _ [] _
    exact ev_retv rfl rfl (h M1 g1)
theorem m_evalFunction_d {d : Nat} {l : Int64} (hD : Dd M) {Q : Option (Option Value) → PM → Prop} (h : Q (some none) M) : SC (d + 5) 37 [.ref 27, .long l] M Q := by
  refine ⟨qX2_evaluateFunction, rfl, ⟨Nat.le_of_ble_eq_true rfl, rfl, 27, _, _, rfl, rfl⟩, ?_⟩
  show Ev (BC (d + 4) qX2_evaluateFunction) Q 0 [some (.ref 27), some (.long l), none, none, none] [] M
  repeat (refine ev_s rfl (?_ : Ev _ _ _ _ _ _))
  refine ev_cv rfl (as := [.ref 27, .long (M.2 1 5), .long (lN 0)]) rfl rfl (Nat.le_of_ble_eq_true rfl) ?_
  refine m_cons_d hD ?_
  show Ev _ _ _ _ [.long 0] _
  repeat (refine ev_s rfl (?_ : Ev _ _ _ _ _ _))
  refine ev_cv rfl (as := [.ref 27, .long l, .long 0]) rfl rfl (Nat.le_of_ble_eq_true rfl) ?_
  refine m_cons_d hD ?_
  show Ev _ _ _ _ [.long 0] _
  repeat (refine ev_s rfl (?_ : Ev _ _ _ _ _ _))
  refine ev_cv rfl (as := [.ref 27, .long (lN 7), .long 0]) rfl rfl (Nat.le_of_ble_eq_true rfl) ?_
  refine m_cons_d hD ?_
  show Ev _ _ _ _ [.long 0, .ref 27] _
  refine ev_cv rfl (as := [.ref 27, .long 0]) rfl rfl (Nat.le_of_ble_eq_true rfl) ?_
  refine m_give_d hD ?_
  show Ev _ _ _ _ [] _
  exact ev_retv rfl rfl h
theorem m_evalCall {d : Nat} {fn l : Int64} {a b : AV} (hL : LiveA M fr ψ ns lim H nid x e (aS 0) fns [] frs fl mo) (hf : Tv fr ψ ns fn a) (hl : Tv fr ψ ns l b) {Q : Option (Option Value) → PM → Prop} (h : ∀ M', PostM ns lim fns M (match aHd H b with
      | some x' => aPush (a, b, e, []) frs fl mo H nid fun frs' mo' => aEv x' e frs' fl mo' H nid
      | none => if b = aS 0 then aAp x e a [] frs fl mo H nid else aFl 5 fl mo H nid) M' → Q (some none) M') : SC (d + 4) 38 [.ref 27, .long fn, .long l] M Q := by
  refine ⟨qX2_evaluateCall, rfl, ⟨Nat.le_of_ble_eq_true rfl, rfl, 27, _, _, rfl, rfl⟩, ?_⟩
  show Ev (BC (d + 3) qX2_evaluateCall) Q 0 [some (.ref 27), some (.long fn), none, some (.long l), none] [] M
  repeat (refine ev_s rfl (?_ : Ev _ _ _ _ _ _))
  refine ev_cs rfl (by decide) (by decide) (as := [.long l]) rfl rfl (Nat.le_of_ble_eq_true rfl) ?_
  refine v_isCell (fun hc => ?_) (fun hc => ?_)
  · have e1 := hl.cell hc
    subst e1
    show Ev _ _ _ _ [.int 1] _
    refine ev_ifF rfl (show ¬ (1 : Int32) = 0 by decide) ?_
    repeat (refine ev_s rfl (?_ : Ev _ _ _ _ _ _))
    refine ev_cv rfl (as := [.ref 27, .long fn, .long l]) rfl rfl (Nat.le_of_ble_eq_true rfl) ?_
    refine m_pushFrame hL hf hl (fun hlt M1 g1 g2 => ?_) (fun hge => ?_)
    · show Ev _ _ _ _ [] _
      repeat (refine ev_s rfl (?_ : Ev _ _ _ _ _ _))
      refine ev_cv rfl (as := [.ref 17, .long l]) rfl rfl (Nat.le_of_ble_eq_true rfl) ?_
      refine cell_head hc ?_
      have p1 := (CoreA.part g1.1.1 hl).1
      show Ev _ _ _ _ [.long (M1.2 19 (cix l)), .ref 27] _
      refine ev_cv rfl (as := [.ref 27, .long (M1.2 19 (cix l))]) rfl rfl (Nat.le_of_ble_eq_true rfl) ?_
      refine m_next g1 p1 (fun M2 g3 => ?_)
      show Ev _ _ _ _ [] _
      repeat (refine ev_s rfl (?_ : Ev _ _ _ _ _ _))
      refine ev_retv rfl rfl (h M2 ?_)
      show PostM _ _ _ _ (aPush _ _ _ _ _ _ _) _
      unfold aPush
      rw [if_pos hlt]
      exact g3.of g2 (by decide)
    · have hD := failM_Dd (c := 12) hL.2.2.2.2.1 (by decide)
      show Ev _ _ _ _ [] _
      repeat (refine ev_s rfl (?_ : Ev _ _ _ _ _ _))
      refine ev_cv rfl (as := [.ref 17, .long l]) rfl rfl (Nat.le_of_ble_eq_true rfl) ?_
      refine cell_head hc ?_
      show Ev _ _ _ _ [.long ((failM 12 M).2 19 (cix l)), .ref 27] _
      refine ev_cv rfl (as := [.ref 27, .long ((failM 12 M).2 19 (cix l))]) rfl rfl (Nat.le_of_ble_eq_true rfl) ?_
      refine m_next_d hD ?_
      show Ev _ _ _ _ [] _
      repeat (refine ev_s rfl (?_ : Ev _ _ _ _ _ _))
      refine ev_retv rfl rfl (h _ ?_)
      show PostM _ _ _ _ (aPush _ _ _ _ _ _ _) _
      unfold aPush
      rw [if_neg hge]
      exact hL.flt (c := 12) (by decide) (by decide)
  · rw [aHd_none.mpr (hl.ncell hc)] at h
    show Ev _ _ _ _ [.int 0] _
    refine ev_ifT rfl (show (0 : Int32) = 0 from rfl) ?_
    repeat (refine ev_s rfl (?_ : Ev _ _ _ _ _ _))
    refine ev_lif rfl (fun hc2 => ?_) (fun hc2 => ?_)
    · have hb : ¬ b = aS 0 := fun h9 => hc2 ((hl.eqS (k := 0) (by decide)).mpr h9)
      repeat (refine ev_s rfl (?_ : Ev _ _ _ _ _ _))
      refine ev_cv rfl (as := [.ref 27, .int 5]) rfl rfl (Nat.le_of_ble_eq_true rfl) ?_
      refine m_fail ?_
      show Ev _ _ _ _ [] _
      refine ev_retv rfl rfl (h _ ?_)
      dsimp only
      rw [if_neg hb]
      exact hL.flt (c := 5) (by decide) (by decide)
    · have hb : b = aS 0 := (hl.eqS (k := 0) (by decide)).mp (Decidable.not_not.mp hc2)
      repeat (refine ev_s rfl (?_ : Ev _ _ _ _ _ _))
      refine ev_retv rfl rfl (h _ ?_)
      dsimp only
      rw [if_pos hb]
      have g1 := hL.core (hL.1.setF hf) Same.J (by decide)
      have hs : Same [27] (mJ M 1 6 fn) (mI (mJ M 1 6 fn) 27 11 3) := Same.I
      refine ⟨(Same.J.tr hs).sub (by decide), fr, ψ, g1.same hs (by decide) ?_ ?_ ?_ ?_, mI_at, fun h9 => by omega⟩
      · rw [mI_ne (Or.inr (by decide))]
      · rw [mI_ne (Or.inr (by decide))]
      · rw [mI_ne (Or.inr (by decide))]
      · rw [mI_ne (Or.inr (by decide))]
theorem m_evaluate {d : Nat} (hL : LiveA M fr ψ ns lim H nid x e (aS 0) fns [] frs fl mo) {Q : Option (Option Value) → PM → Prop} (h : ∀ M', PostM ns lim fns M (aEval lim fns x e frs fl mo H nid) M' → Q (some none) M') : SC (d + 6) 34 [.ref 27] M Q := by
  refine ⟨qX2_evaluate, rfl, ⟨Nat.le_of_ble_eq_true rfl, rfl, 27, _, _, rfl, rfl⟩, ?_⟩
  show Ev (BC (d + 5) qX2_evaluate) Q 0 [some (.ref 27), none, none, none, none] [] M
  have hx := hL.1.2.2.1
  have hm := hL.1.1
  repeat (refine ev_s rfl (?_ : Ev _ _ _ _ _ _))
  refine ev_cs rfl (by decide) (by decide) (as := [.long (M.2 1 4)]) rfl rfl (Nat.le_of_ble_eq_true rfl) ?_
  refine v_isCell (fun hc => ?_) (fun hc => ?_)
  · have e1 := hx.cell hc
    show Ev _ _ _ _ [.int 1] _
    refine ev_ifT rfl (show ¬ (1 : Int32) = 0 by decide) ?_
    repeat (refine ev_s rfl (?_ : Ev _ _ _ _ _ _))
    refine ev_cv rfl (as := [.ref 17, .long (M.2 1 4)]) rfl rfl (Nat.le_of_ble_eq_true rfl) ?_
    refine cell_head hc ?_
    have hx1 := hx
    rw [e1] at hx1
    have ev : aEval lim fns x e frs fl mo H nid = aEval lim fns (aC (ψ (cix (M.2 1 4)))) e frs fl mo H nid := by rw [← e1]
    generalize hi : ψ (cix (M.2 1 4)) = i at *
    obtain ⟨p1, p2, -⟩ := CoreA.part hm hx1
    generalize hw1 : M.2 19 (cix (M.2 1 4)) = w1 at *
    generalize hw2 : M.2 20 (cix (M.2 1 4)) = w2 at *
    show Ev _ _ _ _ [.long w1] _
    repeat (refine ev_s rfl (?_ : Ev _ _ _ _ _ _))
    have q2 := p1.eqS (k := 2) (by decide)
    have q3 := p1.eqS (k := 3) (by decide)
    have q4 := p1.eqS (k := 4) (by decide)
    refine ev_lif rfl (fun hc2 => ?_) (fun hc2 => ?_)
    · have n2 : ¬ (H i).1 = aS 2 := fun h9 => hc2 (q2.mpr h9)
      repeat (refine ev_s rfl (?_ : Ev _ _ _ _ _ _))
      refine ev_lif rfl (fun hc3 => ?_) (fun hc3 => ?_)
      · have n3 : ¬ (H i).1 = aS 3 := fun h9 => hc3 (q3.mpr h9)
        repeat (refine ev_s rfl (?_ : Ev _ _ _ _ _ _))
        refine ev_lif rfl (fun hc4 => ?_) (fun hc4 => ?_)
        · have n4 : ¬ (H i).1 = aS 4 := fun h9 => hc4 (q4.mpr h9)
          repeat (refine ev_s rfl (?_ : Ev _ _ _ _ _ _))
          refine ev_cv rfl (as := [.ref 17, .long (M.2 1 4)]) rfl rfl (Nat.le_of_ble_eq_true rfl) ?_
          refine cell_tail hc ?_
          rw [hw2]
          show Ev _ _ _ _ [.long w2, .long w1, .ref 27] _
          refine ev_cv rfl (as := [.ref 27, .long w1, .long w2]) rfl rfl (Nat.le_of_ble_eq_true rfl) ?_
          refine m_evalCall hL p1 p2 (fun M' g => ?_)
          show Ev _ _ _ _ [] _
          refine ev_retv rfl rfl (h M' ?_)
          rw [ev]
          unfold aEval
          dsimp only
          rw [if_neg n2, if_neg n3, if_neg n4, ← e1]
          exact g
        · have y4 : (H i).1 = aS 4 := q4.mp (Decidable.not_not.mp hc4)
          have ev2 : aEval lim fns x e frs fl mo H nid = (match a2 H (aC i) with
            | none => aFl 5 fl mo H nid
            | some fn => aCons lim fns (rts x e (aS 0) [] [] (flatA frs)) e (aS 0) H nid (fun c H n => aCons lim fns (rts x e (aS 0) [] [] (flatA frs)) fn c H n (fun c H n => aCons lim fns (rts x e (aS 0) [] [] (flatA frs)) (aS 7) c H n (fun c H n => aRet x e c frs fl mo H n) (aFl 8 fl mo)) (aFl 8 fl mo)) (aFl 8 fl mo)) := by
            rw [ev]
            unfold aEval
            dsimp only
            rw [if_neg n2, if_neg n3, if_pos y4, ← e1]
            rfl
          repeat (refine ev_s rfl (?_ : Ev _ _ _ _ _ _))
          refine ev_cv rfl (as := [.ref 27, .long (M.2 1 4)]) rfl rfl (Nat.le_of_ble_eq_true rfl) ?_
          refine m_askSecond hm hL.2.2.2.2.1 hx1 (fun b w hb hw => ?_) (fun hb w => ?_)
          · rw [ev2, hb] at h
            show Ev _ _ _ _ [.long w, .ref 27] _
            refine ev_cv rfl (as := [.ref 27, .long w]) rfl rfl (Nat.le_of_ble_eq_true rfl) ?_
            refine m_evalFunction hL hw (fun RA hRA k hk => ?_) (fun M' g => ?_)
            · obtain ⟨c1, g1, g2⟩ := Option.bind_eq_some_iff.mp hb
              obtain ⟨j, rfl, g4⟩ := aHd_C g2
              have : AR H RA i := AR.root (by rw [← e1]; exact hRA)
              exact (this.tl (Option.some.inj g1)).hd (g4.trans hk)
            · show Ev _ _ _ _ [] _
              repeat (refine ev_s rfl (?_ : Ev _ _ _ _ _ _))
              exact ev_retv rfl rfl (h M' g)
          · rw [ev2, hb] at h
            show Ev _ _ _ _ [.long w, .ref 27] _
            refine ev_cv rfl (as := [.ref 27, .long w]) rfl rfl (Nat.le_of_ble_eq_true rfl) ?_
            refine m_evalFunction_d (failM_Dd hL.2.2.2.2.1 (by decide)) ?_
            show Ev _ _ _ _ [] _
            repeat (refine ev_s rfl (?_ : Ev _ _ _ _ _ _))
            exact ev_retv rfl rfl (h _ (hL.flt (c := 5) (by decide) (by decide)))
      · have y3 : (H i).1 = aS 3 := q3.mp (Decidable.not_not.mp hc3)
        repeat (refine ev_s rfl (?_ : Ev _ _ _ _ _ _))
        refine ev_cv rfl (as := [.ref 17, .long (M.2 1 4)]) rfl rfl (Nat.le_of_ble_eq_true rfl) ?_
        refine cell_tail hc ?_
        rw [hw2]
        show Ev _ _ _ _ [.long w2, .ref 27] _
        refine ev_cv rfl (as := [.ref 27, .long w2]) rfl rfl (Nat.le_of_ble_eq_true rfl) ?_
        refine m_evalCond hL p2 (fun M' g => ?_)
        show Ev _ _ _ _ [] _
        repeat (refine ev_s rfl (?_ : Ev _ _ _ _ _ _))
        refine ev_retv rfl rfl (h M' ?_)
        rw [ev]
        unfold aEval
        dsimp only
        rw [if_neg n2, if_pos y3]
        exact g
    · have y2 : (H i).1 = aS 2 := q2.mp (Decidable.not_not.mp hc2)
      have ev2 : aEval lim fns x e frs fl mo H nid = (match a2 H (aC i) with
        | some v => aRet x e v frs fl mo H nid
        | none => aFl 5 fl mo H nid) := by
        rw [ev]
        unfold aEval
        dsimp only
        rw [if_pos y2, ← e1]
        rfl
      repeat (refine ev_s rfl (?_ : Ev _ _ _ _ _ _))
      refine ev_cv rfl (as := [.ref 27, .long (M.2 1 4)]) rfl rfl (Nat.le_of_ble_eq_true rfl) ?_
      refine m_askSecond hm hL.2.2.2.2.1 hx1 (fun b w hb hw => ?_) (fun hb w => ?_)
      · rw [ev2, hb] at h
        show Ev _ _ _ _ [.long w, .ref 27] _
        refine ev_cv rfl (as := [.ref 27, .long w]) rfl rfl (Nat.le_of_ble_eq_true rfl) ?_
        refine m_give hL hw (fun M' g => ?_)
        show Ev _ _ _ _ [] _
        repeat (refine ev_s rfl (?_ : Ev _ _ _ _ _ _))
        exact ev_retv rfl rfl (h M' g)
      · rw [ev2, hb] at h
        show Ev _ _ _ _ [.long w, .ref 27] _
        refine ev_cv rfl (as := [.ref 27, .long w]) rfl rfl (Nat.le_of_ble_eq_true rfl) ?_
        refine m_give_d (failM_Dd hL.2.2.2.2.1 (by decide)) ?_
        show Ev _ _ _ _ [] _
        repeat (refine ev_s rfl (?_ : Ev _ _ _ _ _ _))
        exact ev_retv rfl rfl (h _ (hL.flt (c := 5) (by decide) (by decide)))
  · show Ev _ _ _ _ [.int 0] _
    refine ev_ifF rfl (show ¬ ¬ (0 : Int32) = 0 by decide) ?_
    repeat (refine ev_s rfl (?_ : Ev _ _ _ _ _ _))
    refine ev_cv rfl (as := [.ref 27, .long (M.2 1 4)]) rfl rfl (Nat.le_of_ble_eq_true rfl) ?_
    refine m_evalAtom hL hx (hx.ncell hc) (fun M' g => ?_)
    show Ev _ _ _ _ [] _
    exact ev_retv rfl rfl (h M' g)
end EVAL2

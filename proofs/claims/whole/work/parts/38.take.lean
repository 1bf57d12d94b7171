/-! takeValue. -/
section TAKE
variable {M : PM} {fr : List Nat} {ψ : Nat → Nat} {ns lim : Nat} {H : AHp} {nid : Nat} {x e f : AV} {fns : List (Option AV)} {ha pe sk : List AV} {frs : List AF} {fl mo : Nat}
/-- LiveA without what it says of the frames' lists -/
def LiveW (M : PM) (fr : List Nat) (ψ : Nat → Nat) (ns lim : Nat) (H : AHp) (nid : Nat) (x e f : AV) (fns : List (Option AV)) (ha : List AV) (frs : List AF) (fl mo : Nat) : Prop :=
  CoreA M fr ψ ns lim H nid x e f fns [] ha (flatA frs) ∧ M.1 27 6 = nI frs.length ∧ M.1 27 7 = nI mo ∧ M.1 27 8 = nI fl ∧ M.1 27 10 = 0 ∧ BasesOk M frs ∧ frs.length ≤ 200 ∧ (fl ≤ 20000 ∧ mo ≤ 200 ∧ 23 ≤ ns ∧ ns ≤ 300) ∧ ∃ vl, RowIs M 28 29 10 vl
theorem LiveA.w (h : LiveA M fr ψ ns lim H nid x e f fns ha frs fl mo) : LiveW M fr ψ ns lim H nid x e f fns ha frs fl mo := by
  obtain ⟨hC, k6, k7, k8, k10, kb, kf, k200, kn, vl, kv⟩ := h
  exact ⟨hC, k6, k7, k8, k10, kb, k200, kn, vl, kv⟩
theorem LiveW.a (h : LiveW M fr ψ ns lim H nid x e f fns ha frs fl mo) (kf : FrOk frs) : LiveA M fr ψ ns lim H nid x e f fns ha frs fl mo := by
  obtain ⟨hC, k6, k7, k8, k10, kb, k200, kn, vl, kv⟩ := h
  exact ⟨hC, k6, k7, k8, k10, kb, kf, k200, kn, vl, kv⟩
theorem LiveW.flt (h : LiveW M fr ψ ns lim H nid x e f fns ha frs fl mo) {c : Nat} (h0 : 0 < c) (h1 : c < 14) : PostM ns lim fns M (aFl c fl mo H nid) (failM (nI c) M) := by
  refine ⟨failM_same.sub (by decide), ?_⟩
  obtain ⟨hC, k6, k7, k8, k10, kb, k200, ⟨kfl, kmo, kns⟩, vl, kv⟩ := h
  have hC2 := hC.same failM_same (by decide) (M' := failM (nI c) M)
  obtain ⟨c1, c2, c3, c4, c5, c6, c7, ⟨lh, q1, q2, q3⟩, ⟨ls, s1, s2, s3⟩⟩ := hC2
  refine ⟨⟨fr, ψ, c1, c2, c6, c7⟩, ⟨lh, q1⟩, ⟨ls, s1⟩, ?_, ?_, ?_, ?_, ⟨vl, kv.same failM_same (by decide) (by decide)⟩, h0, h1, kfl, kmo⟩
  · rw [failM_eq k10, mI_ne (Or.inr (by decide)), mI_at]
  · rw [failM_eq k10, mI_at]
  · rw [failM_eq k10, mI_ne (Or.inr (by decide)), mI_ne (Or.inr (by decide))]; exact k8
  · rw [failM_eq k10, mI_ne (Or.inr (by decide)), mI_ne (Or.inr (by decide))]; exact k7
/-- a change of the stack and of the other roots -/
theorem LiveW.core (h : LiveW M fr ψ ns lim H nid x e f fns ha frs fl mo) {M' : PM} {x' e' f' : AV} {ha' : List AV} {F F' : AF} {r : List AF} {ids : List Nat} (hfr : frs = F :: r) (hC : CoreA M' fr ψ ns lim H nid x' e' f' fns [] ha' (flatA (F' :: r))) (hs : Same ids M M') (hd : ∀ k ∈ [27, 28, 29, 30], k ∉ ids) : LiveW M' fr ψ ns lim H nid x' e' f' fns ha' (F' :: r) fl mo := by
  obtain ⟨-, k6, k7, k8, k10, kb, k200, kn, vl, kv⟩ := h
  subst hfr
  have e27 := (hs 27 (hd 27 (by decide))).1
  have e30 := (hs 30 (hd 30 (by decide))).1
  exact ⟨hC, by rw [e27]; exact k6, by rw [e27]; exact k7, by rw [e27]; exact k8, by rw [e27]; exact k10, ⟨by rw [e30]; exact kb.1, kb.2.congr (fun i _ => by rw [e30])⟩, k200, kn, vl, kv.same hs (hd 28 (by decide)) (hd 29 (by decide))⟩
theorem m_emptyHand0 {d : Nat} (hC : CoreA M fr ψ ns lim H nid x e f fns pe ha sk) (hn : 23 ≤ ns) {Q : Option (Option Value) → PM → Prop} (h : ∀ M', CoreA M' fr ψ ns lim H nid x e (aS 0) fns pe [] sk → Same [1, 13] M M' → Q (some none) M') : SC (d + 2) 23 [.ref 27] M Q := by
  refine ⟨qX2_emptyHand, rfl, ⟨Nat.le_of_ble_eq_true rfl, rfl, 27, _, _, rfl, rfl⟩, ?_⟩
  show Ev (BC (d + 1) qX2_emptyHand) Q 0 [some (.ref 27)] [] M
  repeat (refine ev_s rfl (?_ : Ev _ _ _ _ _ _))
  have h1 := hC.setF (v := 0) (Tv.lN (k := 0) (by omega) (by decide))
  refine ev_cv rfl (as := [.ref 13, .int (nI 0)]) rfl rfl (Nat.le_of_ble_eq_true rfl) ?_
  refine rowA_cut r_hand h1.2.2.2.2.2.2.2.1 (Nat.zero_le _) (fun M' g1 g2 => ?_)
  show Ev _ _ _ _ [] _
  have hs : Same [1, 13] M M' := (Same.J.tr g2).sub (by decide)
  exact ev_retv rfl rfl (h M' (h1.setHa g2 (by decide) g1) hs)
theorem flatA_cons {fn l fe : AV} {vs : List AV} {r : List AF} : flatA ((fn, l, fe, vs) :: r) = flatA r ++ (fn :: l :: fe :: vs) := rfl
/-- the top frame goes -/
theorem m_popFrame {d : Nat} {F : AF} {r : List AF} (hL : LiveW M fr ψ ns lim H nid x e f fns ha (F :: r) fl mo) (hr : FrOk r) {Q : Option (Option Value) → PM → Prop} (h : ∀ M', LiveA M' fr ψ ns lim H nid x e f fns ha r fl mo → Same [15, 27] M M' → Q (some none) M') : SC (d + 2) 40 [.ref 27, .int (nI (flatA r).length)] M Q := by
  obtain ⟨fn, l, fe, vs⟩ := F
  obtain ⟨hC, k6, k7, k8, k10, kb, k200, kn, vl, kv⟩ := hL
  refine ⟨qX2_popFrame, rfl, ⟨Nat.le_of_ble_eq_true rfl, rfl, 27, _, _, rfl, rfl⟩, ?_⟩
  show Ev (BC (d + 1) qX2_popFrame) Q 0 [some (.ref 27), some (.int (nI (flatA r).length))] [] M
  repeat (refine ev_s rfl (?_ : Ev _ _ _ _ _ _))
  refine ev_cv rfl (as := [.ref 15, .int (nI (flatA r).length)]) rfl rfl (Nat.le_of_ble_eq_true rfl) ?_
  refine rowA_cut r_stk hC.2.2.2.2.2.2.2.2 (by rw [flatA_cons]; simp) (fun M1 g1 g2 => ?_)
  rw [flatA_cons, List.take_left] at g1
  have e6 : M1.1 27 6 = nI (r.length + 1) := by rw [(g2 27 (by decide)).1]; exact k6
  show Ev _ _ _ _ [] _
  repeat (refine ev_s rfl (?_ : Ev _ _ _ _ _ _))
  rw [e6, nI_pred]
  have hs : Same [15, 27] M (mI M1 27 6 (nI r.length)) := (g2.tr Same.I).sub (by decide)
  have hC1 := (hC.setSk g2 (by decide) g1).same (M' := mI M1 27 6 (nI r.length)) Same.I (by decide)
  have e27 := (g2 27 (by decide)).1
  refine ev_retv rfl rfl (h _ ⟨hC1, mI_at, ?_, ?_, ?_, kb.2.congr (fun i _ => by rw [(hs 30 (by decide)).1]), hr, by simp at k200; omega, kn, vl, kv.same hs (by decide) (by decide)⟩ hs)
  · rw [mI_ne (Or.inr (by decide)), e27]; exact k7
  · rw [mI_ne (Or.inr (by decide)), e27]; exact k8
  · rw [mI_ne (Or.inr (by decide)), e27]; exact k10
theorem flat_at {r : List AF} {fn l fe : AV} {vs : List AV} (j : Nat) : (flatA ((fn, l, fe, vs) :: r))[(flatA r).length + j]? = (fn :: l :: fe :: vs)[j]? := by
  rw [flatA_cons, List.getElem?_append_right (by omega)]
  congr 1; omega
theorem flat_set {r : List AF} {fn l l' fe : AV} {vs : List AV} : (flatA ((fn, l, fe, vs) :: r)).set ((flatA r).length + 1) l' = flatA ((fn, l', fe, vs) :: r) := by
  rw [flatA_cons, flatA_cons, List.set_append_right _ _ (by omega)]
  congr 1
  rw [show (flatA r).length + 1 - (flatA r).length = 1 by omega]
  rfl
theorem m_takeChoice {d : Nat} {fn l v : AV} {vs : List AV} {r : List AF} (hL : LiveA M fr ψ ns lim H nid x e (aS 0) fns [] ((fn, l, e, vs) :: r) fl mo) (hv : Tv fr ψ ns (M.2 27 12) v) {Q : Option (Option Value) → PM → Prop} (h : ∀ M', PostM ns lim fns M (if v = aS 0 then (match aTl H l with
        | none => aFl 5 fl mo H nid
        | some l' => match aHd H l' with
          | none => aFl 9 fl mo H nid
          | some p => match aHd H p with
            | none => aFl 5 fl mo H nid
            | some x' => aEv x' e ((fn, l', e, vs) :: r) fl mo H nid)
      else (match (aHd H l).bind (a2 H) with
        | none => aFl 5 fl mo H nid
        | some x' => aEv x' e r fl mo H nid)) M' → Q (some none) M') : SC (d + 4) 42 [.ref 27, .int (nI (flatA r).length)] M Q := by
  refine ⟨qX2_takeChoice, rfl, ⟨Nat.le_of_ble_eq_true rfl, rfl, 27, _, _, rfl, rfl⟩, ?_⟩
  show Ev (BC (d + 3) qX2_takeChoice) Q 0 [some (.ref 27), some (.int (nI (flatA r).length)), none, none, none, none] [] M
  have hsk := hL.1.2.2.2.2.2.2.2.2
  have kf := hL.2.2.2.2.2.2.1
  have hfr : FrOk r := fun F hF => kf F (List.mem_cons_of_mem _ hF)
  obtain ⟨i, hi⟩ := (kf _ List.mem_cons_self).1
  dsimp only at hi
  subst hi
  have hm := hL.1.1
  repeat (refine ev_s rfl (?_ : Ev _ _ _ _ _ _))
  rw [nI_1]
  refine ev_cv rfl (as := [.ref 15, .int (nI ((flatA r).length + 1))]) rfl rfl (Nat.le_of_ble_eq_true rfl) ?_
  refine rowA_at r_stk hsk (b := aC i) (by rw [flat_at]; rfl) (fun w hw => ?_)
  show Ev _ _ _ _ [.long w] _
  repeat (refine ev_s rfl (?_ : Ev _ _ _ _ _ _))
  refine ev_lif rfl (fun hc => ?_) (fun hc => ?_)
  · have hv0 : v = aS 0 := (hv.eqS (k := 0) (by decide)).mp hc
    rw [if_pos hv0] at h
    repeat (refine ev_s rfl (?_ : Ev _ _ _ _ _ _))
    refine ev_cv rfl (as := [.ref 27, .long w]) rfl rfl (Nat.le_of_ble_eq_true rfl) ?_
    refine m_askTail_a hm hw (fun b w2 hb hw2 => ?_) (fun hb => by cases hb)
    rw [hb] at h
    dsimp only at h
    show Ev _ _ _ _ [.long w2] _
    repeat (refine ev_s rfl (?_ : Ev _ _ _ _ _ _))
    rw [nI_1]
    refine ev_cv rfl (as := [.ref 15, .int (nI ((flatA r).length + 1)), .long w2]) rfl rfl (Nat.le_of_ble_eq_true rfl) ?_
    refine rowA_put r_stk hsk hw2 (by rw [flatA_cons]; simp) (fun M1 g1 g2 => ?_)
    rw [flat_set] at g1
    have hs1 : Same [15, 16] M M1 := g2.sub (by decide)
    have hL1 := hL.w.core rfl (hL.1.setSk hs1 (by decide) g1) hs1 (by decide)
    show Ev _ _ _ _ [] _
    repeat (refine ev_s rfl (?_ : Ev _ _ _ _ _ _))
    refine ev_cs rfl (by decide) (by decide) (as := [.long w2]) rfl rfl (Nat.le_of_ble_eq_true rfl) ?_
    refine v_isCell (fun hc2 => ?_) (fun hc2 => ?_)
    · have eb := hw2.cell hc2
      subst eb
      have hL2 := hL1.a (fun F hF => by
        rcases List.mem_cons.mp hF with rfl | hF
        · exact ⟨⟨_, rfl⟩, (kf _ List.mem_cons_self).2⟩
        · exact hfr F hF)
      show Ev _ _ _ _ [.int 1] _
      refine ev_ifF rfl (show ¬ (1 : Int32) = 0 by decide) ?_
      repeat (refine ev_s rfl (?_ : Ev _ _ _ _ _ _))
      refine ev_cv rfl (as := [.ref 17, .long w2]) rfl rfl (Nat.le_of_ble_eq_true rfl) ?_
      refine cell_head hc2 ?_
      have p1 := (CoreA.part hL2.1.1 hw2).1
      show Ev _ _ _ _ [.long (M1.2 19 (cix w2)), .ref 27, .ref 27] _
      refine ev_cv rfl (as := [.ref 27, .long (M1.2 19 (cix w2))]) rfl rfl (Nat.le_of_ble_eq_true rfl) ?_
      refine m_askHead_a hL2.1.1 p1 (fun b3 w3 hb3 hw3 => ?_) (fun hb3 => ?_)
      · show Ev _ _ _ _ [.long w3, .ref 27] _
        refine ev_cv rfl (as := [.ref 27, .long w3]) rfl rfl (Nat.le_of_ble_eq_true rfl) ?_
        refine m_next hL2 hw3 (fun M2 g3 => ?_)
        show Ev _ _ _ _ [] _
        repeat (refine ev_s rfl (?_ : Ev _ _ _ _ _ _))
        refine ev_retv rfl rfl (h M2 ?_)
        show PostM _ _ _ _ (match aHd H (H (ψ (cix w2))).1 with
            | none => aFl 5 fl mo H nid
            | some x' => aEv x' e ((fn, aC (ψ (cix w2)), e, vs) :: r) fl mo H nid) _
        rw [hb3]
        exact g3.of hs1 (by decide)
      · show Ev _ _ _ _ [.long 0, .ref 27] _
        refine ev_cv rfl (as := [.ref 27, .long 0]) rfl rfl (Nat.le_of_ble_eq_true rfl) ?_
        refine m_next_d (failM_Dd hL2.2.2.2.2.1 (by decide)) ?_
        show Ev _ _ _ _ [] _
        repeat (refine ev_s rfl (?_ : Ev _ _ _ _ _ _))
        refine ev_retv rfl rfl (h _ ?_)
        show PostM _ _ _ _ (match aHd H (H (ψ (cix w2))).1 with
            | none => aFl 5 fl mo H nid
            | some x' => aEv x' e ((fn, aC (ψ (cix w2)), e, vs) :: r) fl mo H nid) _
        rw [hb3]
        exact (hL2.flt (c := 5) (by decide) (by decide)).of hs1 (by decide)
    · show Ev _ _ _ _ [.int 0] _
      refine ev_ifT rfl (show (0 : Int32) = 0 from rfl) ?_
      repeat (refine ev_s rfl (?_ : Ev _ _ _ _ _ _))
      refine ev_cv rfl (as := [.ref 27, .int 9]) rfl rfl (Nat.le_of_ble_eq_true rfl) ?_
      refine m_fail ?_
      show Ev _ _ _ _ [] _
      refine ev_retv rfl rfl (h _ ?_)
      rw [aHd_none.mpr (hw2.ncell hc2)]
      exact (hL1.flt (c := 9) (by decide) (by decide)).of hs1 (by decide)
  · have hv0 : ¬ v = aS 0 := fun h9 => hc ((hv.eqS (k := 0) (by decide)).mpr h9)
    rw [if_neg hv0] at h
    repeat (refine ev_s rfl (?_ : Ev _ _ _ _ _ _))
    refine ev_cv rfl (as := [.ref 27, .int (nI (flatA r).length)]) rfl rfl (Nat.le_of_ble_eq_true rfl) ?_
    refine m_popFrame hL.w hfr (fun M1 g1 g2 => ?_)
    show Ev _ _ _ _ [] _
    repeat (refine ev_s rfl (?_ : Ev _ _ _ _ _ _))
    refine ev_cv rfl (as := [.ref 27, .long w]) rfl rfl (Nat.le_of_ble_eq_true rfl) ?_
    refine m_askHead_a g1.1.1 hw (fun b3 w3 hb3 hw3 => ?_) (fun hb3 => by cases hb3)
    rw [hb3] at h
    show Ev _ _ _ _ [.long w3, .ref 27, .ref 27] _
    refine ev_cv rfl (as := [.ref 27, .long w3]) rfl rfl (Nat.le_of_ble_eq_true rfl) ?_
    refine m_askSecond g1.1.1 g1.2.2.2.2.1 hw3 (fun b4 w4 hb4 hw4 => ?_) (fun hb4 w4 => ?_)
    · show Ev _ _ _ _ [.long w4, .ref 27] _
      refine ev_cv rfl (as := [.ref 27, .long w4]) rfl rfl (Nat.le_of_ble_eq_true rfl) ?_
      refine m_next g1 hw4 (fun M2 g3 => ?_)
      show Ev _ _ _ _ [] _
      refine ev_retv rfl rfl (h M2 ?_)
      show PostM _ _ _ _ (match a2 H b3 with
        | none => aFl 5 fl mo H nid
        | some x' => aEv x' e r fl mo H nid) _
      rw [hb4]
      exact g3.of g2 (by decide)
    · show Ev _ _ _ _ [.long w4, .ref 27] _
      refine ev_cv rfl (as := [.ref 27, .long w4]) rfl rfl (Nat.le_of_ble_eq_true rfl) ?_
      refine m_next_d (failM_Dd g1.2.2.2.2.1 (by decide)) ?_
      show Ev _ _ _ _ [] _
      refine ev_retv rfl rfl (h _ ?_)
      show PostM _ _ _ _ (match a2 H b3 with
        | none => aFl 5 fl mo H nid
        | some x' => aEv x' e r fl mo H nid) _
      rw [hb4]
      exact (g1.flt (c := 5) (by decide) (by decide)).of g2 (by decide)
end TAKE

/-! LAMBDA, LABEL, FUNARG. -/
section LAMBDA
variable {M : PM} {fr : List Nat} {ψ : Nat → Nat} {ns lim : Nat} {H : AHp} {nid : Nat} {x e f : AV} {fns : List (Option AV)} {ha pe sk vs : List AV} {frs : List AF} {fl mo : Nat}
theorem aHd_up {n i : Nat} {a b : AV} (hi : i < n) : aHd (ahUp H n a b) (aC i) = aHd H (aC i) := by
  show some (ahUp H n a b i).1 = some (H i).1
  rw [ahUp_old hi]
theorem aTl_up {n i : Nat} {a b : AV} (hi : i < n) : aTl (ahUp H n a b) (aC i) = aTl H (aC i) := by
  show some (ahUp H n a b i).2 = some (H i).2
  rw [ahUp_old hi]
theorem aHd_up' {n : Nat} {a b v : AV} (hv : ∀ i, v = aC i → i < n) : aHd (ahUp H n a b) v = aHd H v := by
  rcases v with k | m | i
  · rfl
  · rfl
  · exact aHd_up (hv i rfl)
theorem aTl_up' {n : Nat} {a b v : AV} (hv : ∀ i, v = aC i → i < n) : aTl (ahUp H n a b) v = aTl H v := by
  rcases v with k | m | i
  · rfl
  · rfl
  · exact aTl_up (hv i rfl)
theorem a3_up {n i : Nat} {a b : AV} (hac : Acy H n) (hi : i < n) : a3 (ahUp H n a b) (aC i) = a3 H (aC i) := by
  have s1 : ∀ j, (H i).2 = aC j → j < n := fun j hj => by have := hac i hi j (Or.inr hj); omega
  unfold a3
  rw [aTl_up hi]
  show (aTl _ (H i).2).bind _ = (aTl _ (H i).2).bind _
  rw [aTl_up' s1]
  cases h2 : aTl H (H i).2 with
  | none => rfl
  | some v =>
    show aHd _ v = aHd _ v
    refine aHd_up' (fun j hj => ?_)
    obtain ⟨k, k1, k2⟩ := aTl_C h2
    have := s1 k k1
    have := hac k (by omega) j (Or.inr (k2.trans hj))
    omega
theorem a3_AR {b : AV} {RA : AV → Prop} (h : a3 H f = some b) (hf : RA f) : ∀ k, b = aC k → AR H RA k := by
  intro k hk
  obtain ⟨v, h1, h2⟩ := Option.bind_eq_some_iff.mp h
  obtain ⟨u, h3, h4⟩ := Option.bind_eq_some_iff.mp h1
  obtain ⟨i, rfl, h5⟩ := aTl_C h3
  obtain ⟨j, rfl, h6⟩ := aTl_C h4
  obtain ⟨l, rfl, h7⟩ := aHd_C h2
  exact (((AR.root hf).tl h5).tl h6).hd (h7.trans hk)
theorem a2_AR {b : AV} {RA : AV → Prop} (h : a2 H f = some b) (hf : RA f) : ∀ k, b = aC k → AR H RA k := by
  intro k hk
  obtain ⟨v, h1, h2⟩ := Option.bind_eq_some_iff.mp h
  obtain ⟨i, rfl, h5⟩ := aTl_C h1
  obtain ⟨l, rfl, h7⟩ := aHd_C h2
  exact ((AR.root hf).tl h5).hd (h7.trans hk)
theorem VarsIs.same {M' : PM} {vars : List AV} {ids : List Nat} (h : VarsIs M ns vars) (hs : Same ids M M') (h1 : 28 ∉ ids) (h2 : 29 ∉ ids) : VarsIs M' ns vars := by
  obtain ⟨vl, k1, k2⟩ := h
  exact ⟨vl, k1.same hs h1 h2, k2⟩
theorem m_applyLambda {d i : Nat} {fn : Int64} (hL : LiveA M fr ψ ns lim H nid x e (aC i) fns vs frs fl mo) (hf : Tv fr ψ ns fn (aC i)) {Q : Option (Option Value) → PM → Prop} (h : ∀ M', PostM ns lim fns M (aLambda lim fns x e (aC i) vs frs fl mo H nid) M' → Q (some none) M') : SC (d + 5) 48 [.ref 27, .long fn] M Q := by
  refine ⟨qX2_applyLambda, rfl, ⟨Nat.le_of_ble_eq_true rfl, rfl, 27, _, _, rfl, rfl⟩, ?_⟩
  show Ev (BC (d + 4) qX2_applyLambda) Q 0 [some (.ref 27), some (.long fn), none, none, none, none, none, none, none, none, none] [] M
  have h10 : vs.length ≤ 10 := hL.1.2.2.2.2.2.2.2.1.len
  -- with a fault
  have d118 : ∀ (M1 : PM) (c3 c6 z7 z8 z9 z10 : Option Value) (wb : Int64), Dd M1 → Q (some none) M1 → Ev (BC (d + 4) qX2_applyLambda) Q 118 [some (.ref 27), some (.long fn), none, c3, some (.long wb), none, c6, z7, z8, z9, z10] [] M1 := by
    intro M1 c3 c6 z7 z8 z9 z10 wb hD hq
    repeat (refine ev_s rfl (?_ : Ev _ _ _ _ _ _))
    refine ev_cv rfl (as := [.ref 27, .long wb]) rfl rfl (Nat.le_of_ble_eq_true rfl) ?_
    refine m_next_d hD ?_
    show Ev _ _ _ _ [] _
    exact ev_retv rfl rfl hq
  have d45 : ∀ (M1 : PM) (c3 z7 z8 z9 z10 : Option Value) (wb : Int64) (k : Int32), Dd M1 → Q (some none) M1 → Ev (BC (d + 4) qX2_applyLambda) Q 45 [some (.ref 27), some (.long fn), none, c3, some (.long wb), none, some (.int k), z7, z8, z9, z10] [] M1 := by
    intro M1 c3 z7 z8 z9 z10 wb k hD hq
    repeat (refine ev_s rfl (?_ : Ev _ _ _ _ _ _))
    refine ev_if rfl (fun _ => d118 M1 _ _ _ _ _ _ wb hD hq) (fun _ => ?_)
    repeat (refine ev_s rfl (?_ : Ev _ _ _ _ _ _))
    refine ev_ifT rfl (show ¬ M1.1 27 10 = 0 from hD.1) ?_
    exact d118 M1 _ _ _ _ _ _ wb hD hq
  have d34 : ∀ (M1 : PM) (c3 c6 z7 z8 z9 z10 : Option Value) (wb : Int64), Dd M1 → Q (some none) M1 → Ev (BC (d + 4) qX2_applyLambda) Q 34 [some (.ref 27), some (.long fn), none, c3, some (.long wb), none, c6, z7, z8, z9, z10] [] M1 := by
    intro M1 c3 c6 z7 z8 z9 z10 wb hD hq
    repeat (refine ev_s rfl (?_ : Ev _ _ _ _ _ _))
    refine ev_cv rfl (as := [.ref 13]) rfl rfl (Nat.le_of_ble_eq_true rfl) ?_
    refine row_size r_hand ?_
    show Ev _ _ _ _ [.int (M1.1 13 1)] _
    iterate 3 (refine ev_s rfl (?_ : Ev _ _ _ _ _ _))
    exact d45 M1 _ _ _ _ _ wb _ hD hq
  have d17 : ∀ (M1 : PM) (n : Int32) (c6 z7 z8 z9 z10 : Option Value) (wb : Int64), Dd M1 → Q (some none) M1 → Ev (BC (d + 4) qX2_applyLambda) Q 17 [some (.ref 27), some (.long fn), none, some (.int n), some (.long wb), none, c6, z7, z8, z9, z10] [] M1 := by
    intro M1 n c6 z7 z8 z9 z10 wb hD hq
    repeat (refine ev_s rfl (?_ : Ev _ _ _ _ _ _))
    refine ev_cv rfl (as := [.ref 13]) rfl rfl (Nat.le_of_ble_eq_true rfl) ?_
    refine row_size r_hand ?_
    show Ev _ _ _ _ [.int (M1.1 13 1), .int n] _
    refine ev_ic rfl (fun _ => d34 M1 _ _ _ _ _ _ wb hD hq) (fun _ => ?_)
    repeat (refine ev_s rfl (?_ : Ev _ _ _ _ _ _))
    refine ev_cv rfl (as := [.ref 27, .int 11]) rfl rfl (Nat.le_of_ble_eq_true rfl) ?_
    refine m_fail ?_
    rw [failM_dead hD]
    show Ev _ _ _ _ [] _
    exact d34 M1 _ _ _ _ _ _ wb hD hq
  have d9 : ∀ (M1 : PM) (n : Int32), Dd M1 → Q (some none) M1 → Ev (BC (d + 4) qX2_applyLambda) Q 9 [some (.ref 27), some (.long fn), none, none, none, none, none, none, none, none, none] [.int n] M1 := by
    intro M1 n hD hq
    repeat (refine ev_s rfl (?_ : Ev _ _ _ _ _ _))
    refine ev_cv rfl (as := [.ref 27, .long fn]) rfl rfl (Nat.le_of_ble_eq_true rfl) ?_
    refine m_askThird_d hD (fun w => ?_)
    show Ev _ _ _ _ [.long w] _
    iterate 1 (refine ev_s rfl (?_ : Ev _ _ _ _ _ _))
    exact d17 M1 n _ _ _ _ _ w hD hq
  -- the pairs
  have loop : ∀ (j : Nat) (vars : List AV) (body : AV) (wb : Int64) (M1 : PM) (fr1 : List Nat) (ψ1 : Nat → Nat) (H1 : AHp) (n1 : Nat) (e1 : AV) (c3 z7 z8 z9 z10 : Option Value), vars.length = vs.length → j ≤ vs.length → LiveA M1 fr1 ψ1 ns lim H1 n1 x e1 (aC i) fns vs frs fl mo → VarsIs M1 ns vars → Tv fr1 ψ1 ns wb body → a3 H1 (aC i) = some body → i < n1 → Same IDM M M1 → (∀ M', PostM ns lim fns M (aBind lim fns x (aC i) vs (flatA frs) ((vars.zip vs).take j).reverse e1 H1 n1 (fun e H n => aEv body e frs fl mo H n) (aFl 8 fl mo)) M' → Q (some none) M') →
      Ev (BC (d + 4) qX2_applyLambda) Q 45 [some (.ref 27), some (.long fn), none, c3, some (.long wb), none, some (.int (nI j - 1)), z7, z8, z9, z10] [] M1 := by
    intro j
    induction j with
    | zero =>
      intro vars body wb M1 fr1 ψ1 H1 n1 e1 c3 z7 z8 z9 z10 hvl hj hL1 hV hwb hb hi hs1 hq
      repeat (refine ev_s rfl (?_ : Ev _ _ _ _ _ _))
      refine ev_ifT rfl (show nI 0 - 1 < 0 by decide) ?_
      repeat (refine ev_s rfl (?_ : Ev _ _ _ _ _ _))
      refine ev_cv rfl (as := [.ref 27, .long wb]) rfl rfl (Nat.le_of_ble_eq_true rfl) ?_
      refine m_next hL1 hwb (fun M2 g => ?_)
      show Ev _ _ _ _ [] _
      exact ev_retv rfl rfl (hq M2 (g.from hs1))
    | succ j ih =>
      intro vars body wb M1 fr1 ψ1 H1 n1 e1 c3 z7 z8 z9 z10 hvl hj hL1 hV hwb hb hi hs1 hq
      have hjv : j < vs.length := by omega
      have hz : ((vars.zip vs).take (j + 1)).reverse = (vars[j], vs[j]) :: ((vars.zip vs).take j).reverse := by
        have hl : j < (vars.zip vs).length := by simp; omega
        rw [← List.take_append_getElem hl, List.reverse_append]
        simp
      rw [hz] at hq
      unfold aBind at hq
      rw [nI_pred]
      repeat (refine ev_s rfl (?_ : Ev _ _ _ _ _ _))
      refine ev_ifF rfl (nI_pos (by omega)) ?_
      repeat (refine ev_s rfl (?_ : Ev _ _ _ _ _ _))
      rw [hL1.2.2.2.2.1]
      refine ev_ifF rfl (show ¬ ¬ (0 : Int32) = 0 by decide) ?_
      repeat (refine ev_s rfl (?_ : Ev _ _ _ _ _ _))
      obtain ⟨vl, v1, v2⟩ := id hV
      obtain ⟨v3, v4⟩ := v2 (by omega)
      have hjl : j < vl.length := by omega
      obtain ⟨k, k1, k2, k3, k4⟩ := v4 j vl[j] (List.getElem?_eq_getElem hjl)
      have hvar : vars[j] = aS k := by
        rw [List.getElem?_eq_getElem (by omega)] at k4
        exact Option.some.inj k4
      refine ev_cv rfl (as := [.ref 28, .int (nI j)]) rfl rfl (Nat.le_of_ble_eq_true rfl) ?_
      refine row_at r_var v1 ?_
      rw [rowAt_nI (by omega), List.getElem?_eq_getElem hjl]
      show Ev _ _ _ _ [.long vl[j], .ref 27] _
      rw [k3]
      repeat (refine ev_s rfl (?_ : Ev _ _ _ _ _ _))
      refine ev_cv rfl (as := [.ref 13, .int (nI j)]) rfl rfl (Nat.le_of_ble_eq_true rfl) ?_
      refine rowA_at r_hand hL1.1.2.2.2.2.2.2.2.1 (b := vs[j]) (List.getElem?_eq_getElem hjv) (fun w hw => ?_)
      show Ev _ _ _ _ [.long w, .long (lN k), .ref 27] _
      refine ev_cv rfl (as := [.ref 27, .long (lN k), .long w]) rfl rfl (Nat.le_of_ble_eq_true rfl) ?_
      rw [hvar] at hq
      refine m_cons hL1 (Tv.lN k1 k2) hw (fun hlt M2 fr2 ψ2 p g1 g2 g3 g4 => ?_) (fun hge M2 hD g1 => ?_)
      · rw [aCons_ok hlt] at hq
        have hwb2 := g3 wb body hwb (a3_AR hb (Or.inr (Or.inl (by simp))))
        have hb2 := (a3_up (a := aS k) (b := vs[j]) hL1.1.2.1 hi).trans hb
        show Ev _ _ _ _ [.long p] _
        repeat (refine ev_s rfl (?_ : Ev _ _ _ _ _ _))
        refine ev_cv rfl (as := [.ref 27, .long p, .long (M2.2 1 5)]) rfl rfl (Nat.le_of_ble_eq_true rfl) ?_
        refine m_cons g1 g2 g1.1.2.2.2.1 (fun hlt2 M3 fr3 ψ3 p2 g5 g6 g7 g8 => ?_) (fun hge M3 hD g5 => ?_)
        · rw [aCons_ok hlt2] at hq
          have hwb3 := g7 wb body hwb2 (a3_AR hb2 (Or.inr (Or.inl (by simp))))
          have hb3 := (a3_up (a := aC n1) (b := e1) g1.1.2.1 (by omega)).trans hb2
          show Ev _ _ _ _ [.long p2] _
          repeat (refine ev_s rfl (?_ : Ev _ _ _ _ _ _))
          rw [g5.2.2.2.2.1]
          refine ev_ifF rfl (show ¬ ¬ (0 : Int32) = 0 by decide) ?_
          iterate 6 (refine ev_s rfl (?_ : Ev _ _ _ _ _ _))
          rw [← Int32.sub_eq_add_neg]
          refine ih vars body wb (mJ M3 1 5 p2) fr3 ψ3 _ _ _ _ _ _ _ _ hvl (by omega) (g5.core (g5.1.setE g6) Same.J (by decide)) ?_ hwb3 hb3 (by omega) ?_ hq
          · exact ((hV.same g4 (by decide) (by decide)).same g8 (by decide) (by decide)).same (Same.J (k := 1)) (by decide) (by decide)
          · exact (((hs1.tr g4).tr g8).tr (Same.J (k := 1) (j := 5) (v := p2))).sub (by decide)
        · rw [aCons_no hge] at hq
          show Ev _ _ _ _ [.long (-1)] _
          repeat (refine ev_s rfl (?_ : Ev _ _ _ _ _ _))
          refine ev_ifT rfl (show ¬ M3.1 27 10 = 0 from hD.1) ?_
          iterate 2 (refine ev_s rfl (?_ : Ev _ _ _ _ _ _))
          exact d45 M3 _ _ _ _ _ wb _ hD (hq M3 (g5.from ((hs1.tr g4).sub (by decide))))
      · rw [aCons_no hge] at hq
        show Ev _ _ _ _ [.long (-1)] _
        repeat (refine ev_s rfl (?_ : Ev _ _ _ _ _ _))
        refine ev_cv rfl (as := [.ref 27, .long (-1), .long (M2.2 1 5)]) rfl rfl (Nat.le_of_ble_eq_true rfl) ?_
        refine m_cons_d hD ?_
        show Ev _ _ _ _ [.long 0] _
        repeat (refine ev_s rfl (?_ : Ev _ _ _ _ _ _))
        refine ev_ifT rfl (show ¬ M2.1 27 10 = 0 from hD.1) ?_
        iterate 2 (refine ev_s rfl (?_ : Ev _ _ _ _ _ _))
        exact d45 M2 _ _ _ _ _ wb _ hD (hq M2 (g1.from hs1))
  have hi := (CoreA.part hL.1.1 hf).2.2
  -- the second element
  repeat (refine ev_s rfl (?_ : Ev _ _ _ _ _ _))
  refine ev_cv rfl (as := [.ref 27, .long fn]) rfl rfl (Nat.le_of_ble_eq_true rfl) ?_
  refine m_askSecond hL.1.1 hL.2.2.2.2.1 hf (fun b w hb hw => ?_) (fun hb w => ?_)
  · unfold aLambda at h
    rw [hb] at h
    show Ev _ _ _ _ [.long w, .ref 27] _
    refine ev_cv rfl (as := [.ref 27, .long w]) rfl rfl (Nat.le_of_ble_eq_true rfl) ?_
    refine m_lookAt hL hw (fun vars M1 q1 q2 q3 q4 q5 => ?_) (fun q1 n M1 hD q2 q3 => ?_)
    · have h' : ∀ M', PostM ns lim fns M (match a3 H (aC i) with
          | some body => if vars.length = vs.length then aBind lim fns x (aC i) vs (flatA frs) (vars.zip vs).reverse e H nid (fun e H n => aEv body e frs fl mo H n) (aFl 8 fl mo) else aFl 11 fl mo H nid
          | none => aFl 5 fl mo H nid) M' → Q (some none) M' := fun M' g => h M' (by
        show PostM _ _ _ _ (match aVars H (nid + 1) b, a3 H (aC i) with
          | some vars, some body => if vars.length = vs.length then aBind lim fns x (aC i) vs (flatA frs) (vars.zip vs).reverse e H nid (fun e H n => aEv body e frs fl mo H n) (aFl 8 fl mo) else aFl 11 fl mo H nid
          | _, _ => aFl 5 fl mo H nid) _
        rw [q1]
        cases ha3 : a3 H (aC i) with
        | none => rw [ha3] at g; exact g
        | some body => rw [ha3] at g; exact g)
      show Ev _ _ _ _ [.int (nI vars.length)] _
      repeat (refine ev_s rfl (?_ : Ev _ _ _ _ _ _))
      refine ev_cv rfl (as := [.ref 27, .long fn]) rfl rfl (Nat.le_of_ble_eq_true rfl) ?_
      refine m_askThird q2.1.1 q2.2.2.2.2.1 hf (fun body wb hb3 hwb => ?_) (fun hb3 wb => ?_)
      · rw [hb3] at h'
        dsimp only at h'
        show Ev _ _ _ _ [.long wb] _
        repeat (refine ev_s rfl (?_ : Ev _ _ _ _ _ _))
        refine ev_cv rfl (as := [.ref 13]) rfl rfl (Nat.le_of_ble_eq_true rfl) ?_
        refine rowA_size r_hand q2.1.2.2.2.2.2.2.2.1 ?_
        show Ev _ _ _ _ [.int (nI vs.length), .int (nI vars.length)] _
        refine ev_ic rfl (fun hc => ?_) (fun hc => ?_)
        · have hl : vars.length = vs.length := (nI_eq (by omega) (by omega)).mp hc
          rw [if_pos hl] at h'
          repeat (refine ev_s rfl (?_ : Ev _ _ _ _ _ _))
          refine ev_cv rfl (as := [.ref 13]) rfl rfl (Nat.le_of_ble_eq_true rfl) ?_
          refine rowA_size r_hand q2.1.2.2.2.2.2.2.2.1 ?_
          show Ev _ _ _ _ [.int (nI vs.length)] _
          iterate 3 (refine ev_s rfl (?_ : Ev _ _ _ _ _ _))
          refine loop vs.length vars body wb M1 fr ψ H nid e _ _ _ _ _ hl (Nat.le_refl _) q2 q3 hwb hb3 hi (q5.sub (by decide)) ?_
          rw [List.take_of_length_le (by simp; omega)]
          exact h'
        · have hl : ¬ vars.length = vs.length := fun h9 => hc (by rw [h9]; rfl)
          rw [if_neg hl] at h'
          repeat (refine ev_s rfl (?_ : Ev _ _ _ _ _ _))
          refine ev_cv rfl (as := [.ref 27, .int 11]) rfl rfl (Nat.le_of_ble_eq_true rfl) ?_
          refine m_fail ?_
          show Ev _ _ _ _ [] _
          exact d34 _ _ _ _ _ _ _ wb (failM_Dd q2.2.2.2.2.1 (by decide)) (h' _ ((q2.flt (c := 11) (by decide) (by decide)).of q5 (by decide)))
      · rw [hb3] at h'
        show Ev _ _ _ _ [.long wb] _
        iterate 1 (refine ev_s rfl (?_ : Ev _ _ _ _ _ _))
        exact d17 _ _ _ _ _ _ _ wb (failM_Dd q2.2.2.2.2.1 (by decide)) (h' _ ((q2.flt (c := 5) (by decide) (by decide)).of q5 (by decide)))
    · have h' : ∀ M', PostM ns lim fns M (aFl 5 fl mo H nid) M' → Q (some none) M' := fun M' g => h M' (by
        show PostM _ _ _ _ (match aVars H (nid + 1) b, a3 H (aC i) with
          | some vars, some body => if vars.length = vs.length then aBind lim fns x (aC i) vs (flatA frs) (vars.zip vs).reverse e H nid (fun e H n => aEv body e frs fl mo H n) (aFl 8 fl mo) else aFl 11 fl mo H nid
          | _, _ => aFl 5 fl mo H nid) _
        rw [q1]
        exact g)
      show Ev _ _ _ _ [.int n] _
      exact d9 M1 n hD (h' M1 ⟨q3.sub (by decide), q2⟩)
  · have hD := failM_Dd (c := 5) hL.2.2.2.2.1 (by decide)
    have hA := hL.dead (c := 5) (by decide) (by decide)
    show Ev _ _ _ _ [.long w, .ref 27] _
    refine ev_cv rfl (as := [.ref 27, .long w]) rfl rfl (Nat.le_of_ble_eq_true rfl) ?_
    refine m_lookAt_d hD hA (fun n M1 q1 q2 q3 => ?_)
    show Ev _ _ _ _ [.int n] _
    refine d9 M1 n q1 (h M1 ?_)
    unfold aLambda
    rw [hb]
    exact ⟨(failM_same.tr q3).sub (by decide), q2⟩
end LAMBDA

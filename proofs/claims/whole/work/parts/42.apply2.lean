/-! LABEL, FUNARG, apply. -/
section APPLY2
variable {M : PM} {fr : List Nat} {ψ : Nat → Nat} {ns lim : Nat} {H : AHp} {nid : Nat} {x e f : AV} {fns : List (Option AV)} {ha pe sk vs : List AV} {frs : List AF} {fl mo : Nat}
theorem m_applyLabel {d i : Nat} {fn : Int64} (hL : LiveA M fr ψ ns lim H nid x e (aC i) fns vs frs fl mo) (hn : M.1 27 11 = 3) (hf : Tv fr ψ ns fn (aC i)) {Q : Option (Option Value) → PM → Prop} (h : ∀ M', PostM ns lim fns M (aLabel lim fns x e (aC i) vs frs fl mo H nid) M' → Q (some none) M') : SC (d + 5) 51 [.ref 27, .long fn] M Q := by
  refine ⟨qX2_applyLabel, rfl, ⟨Nat.le_of_ble_eq_true rfl, rfl, 27, _, _, rfl, rfl⟩, ?_⟩
  show Ev (BC (d + 4) qX2_applyLabel) Q 0 [some (.ref 27), some (.long fn), none, none, none, none, none, none, none, none, none] [] M
  have d42 : ∀ (M1 : PM) (z3 z4 z5 z6 z7 z8 z9 z10 : Option Value), Dd M1 → Q (some none) M1 → Ev (BC (d + 4) qX2_applyLabel) Q 42 [some (.ref 27), some (.long fn), none, z3, z4, z5, z6, z7, z8, z9, z10] [] M1 := by
    intro M1 z3 z4 z5 z6 z7 z8 z9 z10 hD hq
    repeat (refine ev_s rfl (?_ : Ev _ _ _ _ _ _))
    refine ev_ifT rfl (show ¬ M1.1 27 10 = 0 from hD.1) ?_
    exact ev_retv rfl rfl hq
  have d27 : ∀ (M1 : PM) (z3 z4 z5 z6 z8 z9 z10 : Option Value) (w7 : Int64), Dd M1 → Q (some none) M1 → Ev (BC (d + 4) qX2_applyLabel) Q 27 [some (.ref 27), some (.long fn), none, z3, z4, z5, z6, some (.long w7), z8, z9, z10] [] M1 := by
    intro M1 z3 z4 z5 z6 z8 z9 z10 w7 hD hq
    repeat (refine ev_s rfl (?_ : Ev _ _ _ _ _ _))
    refine ev_cv rfl (as := [.ref 27, .long w7, .long (M1.2 1 5)]) rfl rfl (Nat.le_of_ble_eq_true rfl) ?_
    refine m_cons_d hD ?_
    show Ev _ _ _ _ [.long 0] _
    iterate 1 (refine ev_s rfl (?_ : Ev _ _ _ _ _ _))
    exact d42 M1 _ _ _ _ _ _ _ _ hD hq
  have d18 : ∀ (M1 : PM) (z4 z6 z7 z8 z9 z10 : Option Value) (w3 w5 : Int64), Dd M1 → Q (some none) M1 → Ev (BC (d + 4) qX2_applyLabel) Q 18 [some (.ref 27), some (.long fn), none, some (.long w3), z4, some (.long w5), z6, z7, z8, z9, z10] [] M1 := by
    intro M1 z4 z6 z7 z8 z9 z10 w3 w5 hD hq
    repeat (refine ev_s rfl (?_ : Ev _ _ _ _ _ _))
    refine ev_cv rfl (as := [.ref 27, .long w3, .long w5]) rfl rfl (Nat.le_of_ble_eq_true rfl) ?_
    refine m_cons_d hD ?_
    show Ev _ _ _ _ [.long 0] _
    iterate 1 (refine ev_s rfl (?_ : Ev _ _ _ _ _ _))
    exact d27 M1 _ _ _ _ _ _ _ _ hD hq
  have d11 : ∀ (M1 : PM) (z4 : Option Value) (w3 w5 : Int64), Dd M1 → Q (some none) M1 → Ev (BC (d + 4) qX2_applyLabel) Q 11 [some (.ref 27), some (.long fn), none, some (.long w3), z4, none, none, none, none, none, none] [.long w5] M1 := by
    intro M1 z4 w3 w5 hD hq
    repeat (refine ev_s rfl (?_ : Ev _ _ _ _ _ _))
    refine ev_cv rfl (as := [.ref 27, .long w3]) rfl rfl (Nat.le_of_ble_eq_true rfl) ?_
    refine m_askVariable_d hD ?_
    show Ev _ _ _ _ [] _
    exact d18 M1 _ _ _ _ _ _ _ _ hD hq
  repeat (refine ev_s rfl (?_ : Ev _ _ _ _ _ _))
  refine ev_cv rfl (as := [.ref 27, .long fn]) rfl rfl (Nat.le_of_ble_eq_true rfl) ?_
  refine m_askSecond hL.1.1 hL.2.2.2.2.1 hf (fun nm w hb hw => ?_) (fun hb w => ?_)
  · unfold aLabel at h
    rw [hb] at h
    show Ev _ _ _ _ [.long w] _
    repeat (refine ev_s rfl (?_ : Ev _ _ _ _ _ _))
    refine ev_cv rfl (as := [.ref 27, .long fn]) rfl rfl (Nat.le_of_ble_eq_true rfl) ?_
    refine m_askThird hL.1.1 hL.2.2.2.2.1 hf (fun g w3 hb3 hw3 => ?_) (fun hb3 w3 => ?_)
    · rw [hb3] at h
      dsimp only at h
      show Ev _ _ _ _ [.long w3] _
      repeat (refine ev_s rfl (?_ : Ev _ _ _ _ _ _))
      refine ev_cv rfl (as := [.ref 27, .long w]) rfl rfl (Nat.le_of_ble_eq_true rfl) ?_
      refine m_askVariable hw (fun hv => ?_) (fun hv => ?_)
      · rw [if_pos (@decide_eq_true _ (Classical.propDecidable _) hv)] at h
        show Ev _ _ _ _ [] _
        repeat (refine ev_s rfl (?_ : Ev _ _ _ _ _ _))
        refine ev_cv rfl (as := [.ref 27, .long w, .long w3]) rfl rfl (Nat.le_of_ble_eq_true rfl) ?_
        refine m_cons hL hw hw3 (fun hlt M1 fr1 ψ1 p g1 g2 g3 g4 => ?_) (fun hge M1 hD g1 => ?_)
        · rw [aCons_ok hlt] at h
          have hw31 := g3 w3 g hw3 (fun k hk => AR.root (by rw [← hk]; exact Or.inr (Or.inr (Or.inr rfl))))
          show Ev _ _ _ _ [.long p] _
          repeat (refine ev_s rfl (?_ : Ev _ _ _ _ _ _))
          refine ev_cv rfl (as := [.ref 27, .long p, .long (M1.2 1 5)]) rfl rfl (Nat.le_of_ble_eq_true rfl) ?_
          refine m_cons g1 g2 g1.1.2.2.2.1 (fun hlt2 M2 fr2 ψ2 p2 g5 g6 g7 g8 => ?_) (fun hge M2 hD g5 => ?_)
          · rw [aCons_ok hlt2] at h
            have hw32 := g7 w3 g hw31 (fun k hk => by
              have h1 : AR (ahUp H nid nm g) (ARt fns (rts x e (aC i) [] vs (flatA frs)) (aC nid) e) nid := AR.root (Or.inr (Or.inr (Or.inl rfl)))
              exact h1.tl (by rw [ahUp_new]; exact hk))
            show Ev _ _ _ _ [.long p2] _
            repeat (refine ev_s rfl (?_ : Ev _ _ _ _ _ _))
            rw [g5.2.2.2.2.1]
            refine ev_ifF rfl (show ¬ ¬ (0 : Int32) = 0 by decide) ?_
            repeat (refine ev_s rfl (?_ : Ev _ _ _ _ _ _))
            have hL3 := g5.core (g5.1.setE g6) Same.J (by decide)
            have hL4 := hL3.core (hL3.1.setF hw32) Same.J (by decide)
            have e27 : M2.1 27 11 = 3 := by rw [(g8 27 (by decide)).1, (g4 27 (by decide)).1]; exact hn
            exact ev_retv rfl rfl (h _ ⟨(((g4.tr g8).tr Same.J).tr Same.J).sub (by decide), fr2, ψ2, hL4, by rw [mJ_1, mJ_1]; exact e27, fun h9 => by omega⟩)
          · rw [aCons_no hge] at h
            show Ev _ _ _ _ [.long (-1)] _
            iterate 1 (refine ev_s rfl (?_ : Ev _ _ _ _ _ _))
            exact d42 M2 _ _ _ _ _ _ _ _ hD (h M2 (g5.of g4 (by decide)))
        · rw [aCons_no hge] at h
          show Ev _ _ _ _ [.long (-1)] _
          iterate 1 (refine ev_s rfl (?_ : Ev _ _ _ _ _ _))
          exact d27 M1 _ _ _ _ _ _ _ _ hD (h M1 g1)
      · rw [if_neg (by simpa using hv)] at h
        show Ev _ _ _ _ [] _
        exact d18 _ _ _ _ _ _ _ _ _ (failM_Dd hL.2.2.2.2.1 (by decide)) (h _ (hL.flt (c := 5) (by decide) (by decide)))
    · rw [hb3] at h
      show Ev _ _ _ _ [.long w3] _
      exact d11 _ _ _ _ (failM_Dd hL.2.2.2.2.1 (by decide)) (h _ (hL.flt (c := 5) (by decide) (by decide)))
  · have hD := failM_Dd (c := 5) hL.2.2.2.2.1 (by decide)
    unfold aLabel at h
    rw [hb] at h
    show Ev _ _ _ _ [.long w] _
    repeat (refine ev_s rfl (?_ : Ev _ _ _ _ _ _))
    refine ev_cv rfl (as := [.ref 27, .long fn]) rfl rfl (Nat.le_of_ble_eq_true rfl) ?_
    refine m_askThird_d hD (fun w3 => ?_)
    show Ev _ _ _ _ [.long w3] _
    exact d11 _ _ _ _ hD (h _ (hL.flt (c := 5) (by decide) (by decide)))
theorem m_applyFunarg {d i : Nat} {fn : Int64} (hL : LiveA M fr ψ ns lim H nid x e (aC i) fns vs frs fl mo) (hn : M.1 27 11 = 3) (hf : Tv fr ψ ns fn (aC i)) {Q : Option (Option Value) → PM → Prop} (h : ∀ M', PostM ns lim fns M (match a2 H (aC i), a3 H (aC i) with
      | some g, some e' => aAp x e' g vs frs fl mo H nid
      | _, _ => aFl 5 fl mo H nid) M' → Q (some none) M') : SC (d + 4) 52 [.ref 27, .long fn] M Q := by
  refine ⟨qX2_applyFunarg, rfl, ⟨Nat.le_of_ble_eq_true rfl, rfl, 27, _, _, rfl, rfl⟩, ?_⟩
  show Ev (BC (d + 3) qX2_applyFunarg) Q 0 [some (.ref 27), some (.long fn), none, none, none, none, none] [] M
  have d13 : ∀ (M1 : PM) (z3 z4 z5 z6 : Option Value), Dd M1 → Q (some none) M1 → Ev (BC (d + 3) qX2_applyFunarg) Q 13 [some (.ref 27), some (.long fn), none, z3, z4, z5, z6] [] M1 := by
    intro M1 z3 z4 z5 z6 hD hq
    repeat (refine ev_s rfl (?_ : Ev _ _ _ _ _ _))
    refine ev_ifT rfl (show ¬ M1.1 27 10 = 0 from hD.1) ?_
    exact ev_retv rfl rfl hq
  repeat (refine ev_s rfl (?_ : Ev _ _ _ _ _ _))
  refine ev_cv rfl (as := [.ref 27, .long fn]) rfl rfl (Nat.le_of_ble_eq_true rfl) ?_
  refine m_askSecond hL.1.1 hL.2.2.2.2.1 hf (fun nm w hb hw => ?_) (fun hb w => ?_)
  · rw [hb] at h
    show Ev _ _ _ _ [.long w] _
    repeat (refine ev_s rfl (?_ : Ev _ _ _ _ _ _))
    refine ev_cv rfl (as := [.ref 27, .long fn]) rfl rfl (Nat.le_of_ble_eq_true rfl) ?_
    refine m_askThird hL.1.1 hL.2.2.2.2.1 hf (fun g w3 hb3 hw3 => ?_) (fun hb3 w3 => ?_)
    · rw [hb3] at h
      dsimp only at h
      show Ev _ _ _ _ [.long w3] _
      repeat (refine ev_s rfl (?_ : Ev _ _ _ _ _ _))
      rw [hL.2.2.2.2.1]
      refine ev_ifF rfl (show ¬ ¬ (0 : Int32) = 0 by decide) ?_
      repeat (refine ev_s rfl (?_ : Ev _ _ _ _ _ _))
      have hL3 := hL.core (hL.1.setF hw) Same.J (by decide)
      have hL4 := hL3.core (hL3.1.setE hw3) Same.J (by decide)
      exact ev_retv rfl rfl (h _ ⟨(Same.J.tr Same.J).sub (by decide), fr, ψ, hL4, by rw [mJ_1, mJ_1]; exact hn, fun h9 => by omega⟩)
    · rw [hb3] at h
      show Ev _ _ _ _ [.long w3] _
      iterate 1 (refine ev_s rfl (?_ : Ev _ _ _ _ _ _))
      exact d13 _ _ _ _ _ (failM_Dd hL.2.2.2.2.1 (by decide)) (h _ (hL.flt (c := 5) (by decide) (by decide)))
  · have hD := failM_Dd (c := 5) hL.2.2.2.2.1 (by decide)
    rw [hb] at h
    show Ev _ _ _ _ [.long w] _
    repeat (refine ev_s rfl (?_ : Ev _ _ _ _ _ _))
    refine ev_cv rfl (as := [.ref 27, .long fn]) rfl rfl (Nat.le_of_ble_eq_true rfl) ?_
    refine m_askThird_d hD (fun w3 => ?_)
    show Ev _ _ _ _ [.long w3] _
    iterate 1 (refine ev_s rfl (?_ : Ev _ _ _ _ _ _))
    exact d13 _ _ _ _ _ hD (h _ (hL.flt (c := 5) (by decide) (by decide)))
/-- one of those from CAR on -/
def aBi (fns : List (Option AV)) (f : AV) : Prop := ∃ k, f = aS k ∧ 8 ≤ k ∧ k ≤ 22 ∧ (fns[k]?).getD none = none
theorem m_isBuiltIn {d : Nat} {v : Int64} (hF : RowF M fr ψ ns fns) (hv : Tv fr ψ ns v f) {Q : Option (Option Value) → PM → Prop} (h1 : aBi fns f → Q (some (some (.int 1))) M) (h0 : ¬ aBi fns f → Q (some (some (.int 0))) M) : SC (d + 2) 45 [.ref 27, .long v] M Q := by
  refine ⟨qX2_isBuiltIn, rfl, ⟨Nat.le_of_ble_eq_true rfl, rfl, 27, _, _, rfl, rfl⟩, ?_⟩
  show Ev (BC (d + 1) qX2_isBuiltIn) Q 0 [some (.ref 27), some (.long v), none] [] M
  have no : ¬ aBi fns f → Ev (BC (d + 1) qX2_isBuiltIn) Q 39 [some (.ref 27), some (.long v), none] [] M := fun h9 => by
    repeat (refine ev_s rfl (?_ : Ev _ _ _ _ _ _))
    exact ev_reti rfl rfl trivial rfl (h0 h9)
  repeat (refine ev_s rfl (?_ : Ev _ _ _ _ _ _))
  refine ev_lif rfl (fun hc => no ?_) (fun hc => ?_)
  · rintro ⟨k, rfl, k1, k2, k3⟩
    obtain ⟨rfl, -, -⟩ := hv.isS
    have := (pk_lLT (a := k) (b := 8) (by omega) (by decide)).mp hc
    omega
  repeat (refine ev_s rfl (?_ : Ev _ _ _ _ _ _))
  refine ev_lif rfl (fun hc2 => no ?_) (fun hc2 => ?_)
  · rintro ⟨k, rfl, k1, k2, k3⟩
    obtain ⟨rfl, -, -⟩ := hv.isS
    have := (pk_lLT (a := 22) (b := k) (by decide) (by omega)).mp hc2
    omega
  have s1 : (8 : Int64) ≤ v := Int64.not_lt.mp hc
  have s2 : v ≤ (22 : Int64) := Int64.not_lt.mp hc2
  obtain ⟨k, rfl⟩ := hv.sym.mp ⟨Int64.le_trans (by decide) s1, Int64.lt_of_le_of_lt s2 (by decide)⟩
  obtain ⟨es, h300, -⟩ := hv.isS
  subst es
  have k8 : 8 ≤ k := (pk_lLE (a := 8) (b := k) (by decide) (by omega)).mp s1
  have k22 : k ≤ 22 := (pk_lLE (a := k) (b := 22) (by omega) (by decide)).mp s2
  repeat (refine ev_s rfl (?_ : Ev _ _ _ _ _ _))
  rw [lN_i32]
  refine ev_cv rfl (as := [.ref 9, .int (nI k)]) rfl rfl (Nat.le_of_ble_eq_true rfl) ?_
  refine rowF_at hF h300 (fun hN => ?_) (fun b w hb hw => ?_)
  · show Ev _ _ _ _ [.long (-1)] _
    repeat (refine ev_s rfl (?_ : Ev _ _ _ _ _ _))
    refine ev_lifF rfl (show ¬ ¬ (-1 : Int64) = -1 from fun h9 => h9 rfl) ?_
    repeat (refine ev_s rfl (?_ : Ev _ _ _ _ _ _))
    exact ev_reti rfl rfl trivial rfl (h1 ⟨k, rfl, k8, k22, hN⟩)
  · show Ev _ _ _ _ [.long w] _
    repeat (refine ev_s rfl (?_ : Ev _ _ _ _ _ _))
    refine ev_lifT rfl (show ¬ w = -1 from hw.miss) ?_
    refine no ?_
    rintro ⟨j, j1, j2, j3, j4⟩
    cases j1
    rw [j4] at hb
    cases hb
theorem m_apply {d : Nat} (hL : LiveA M fr ψ ns lim H nid x e f fns vs frs fl mo) (hn : M.1 27 11 = 3) (hb : ¬ aBi fns f) {Q : Option (Option Value) → PM → Prop} (h : ∀ M', PostM ns lim fns M (aApply lim fns x e f vs frs fl mo H nid) M' → Q (some none) M') : SC (d + 6) 46 [.ref 27] M Q := by
  refine ⟨qX2_apply, rfl, ⟨Nat.le_of_ble_eq_true rfl, rfl, 27, _, _, rfl, rfl⟩, ?_⟩
  show Ev (BC (d + 5) qX2_apply) Q 0 [some (.ref 27), none, none, none, none] [] M
  have hf := hL.1.2.2.2.2.1
  repeat (refine ev_s rfl (?_ : Ev _ _ _ _ _ _))
  generalize hw : M.2 1 6 = w at *
  refine ev_cs rfl (by decide) (by decide) (as := [.long w]) rfl rfl (Nat.le_of_ble_eq_true rfl) ?_
  refine v_isSymbol (fun hc => ?_) (fun hc => ?_)
  · obtain ⟨k, rfl⟩ := hf.sym.mp hc
    show Ev _ _ _ _ [.int 1] _
    refine ev_ifF rfl (show ¬ (1 : Int32) = 0 by decide) ?_
    repeat (refine ev_s rfl (?_ : Ev _ _ _ _ _ _))
    refine ev_cv rfl (as := [.ref 27, .long w]) rfl rfl (Nat.le_of_ble_eq_true rfl) ?_
    refine m_applySymbol hL hn hf (fun h9 h8 => hb ⟨k, rfl, h8.1, h8.2, h9⟩) (fun M' g => ?_)
    show Ev _ _ _ _ [] _
    exact ev_retv rfl rfl (h M' g)
  · show Ev _ _ _ _ [.int 0] _
    refine ev_ifT rfl (show (0 : Int32) = 0 from rfl) ?_
    repeat (refine ev_s rfl (?_ : Ev _ _ _ _ _ _))
    refine ev_cs rfl (by decide) (by decide) (as := [.long w]) rfl rfl (Nat.le_of_ble_eq_true rfl) ?_
    refine v_isCell (fun hc2 => ?_) (fun hc2 => ?_)
    · have ef := hf.cell hc2
      subst ef
      have p1 := (CoreA.part hL.1.1 hf).1
      generalize ψ (cix w) = i at *
      generalize hw1 : M.2 19 (cix w) = w1 at *
      show Ev _ _ _ _ [.int 1] _
      refine ev_ifF rfl (show ¬ (1 : Int32) = 0 by decide) ?_
      repeat (refine ev_s rfl (?_ : Ev _ _ _ _ _ _))
      refine ev_cv rfl (as := [.ref 17, .long w]) rfl rfl (Nat.le_of_ble_eq_true rfl) ?_
      refine cell_head hc2 ?_
      rw [hw1]
      show Ev _ _ _ _ [.long w1] _
      have q5 := p1.eqS (k := 5) (by decide)
      have q6 := p1.eqS (k := 6) (by decide)
      have q7 := p1.eqS (k := 7) (by decide)
      unfold aApply at h
      dsimp only at h
      repeat (refine ev_s rfl (?_ : Ev _ _ _ _ _ _))
      refine ev_lif rfl (fun hc5 => ?_) (fun hc5 => ?_)
      · rw [if_neg (fun h9 => hc5 (q5.mpr h9))] at h
        repeat (refine ev_s rfl (?_ : Ev _ _ _ _ _ _))
        refine ev_lif rfl (fun hc6 => ?_) (fun hc6 => ?_)
        · rw [if_neg (fun h9 => hc6 (q6.mpr h9))] at h
          repeat (refine ev_s rfl (?_ : Ev _ _ _ _ _ _))
          refine ev_lif rfl (fun hc7 => ?_) (fun hc7 => ?_)
          · rw [if_neg (fun h9 => hc7 (q7.mpr h9))] at h
            repeat (refine ev_s rfl (?_ : Ev _ _ _ _ _ _))
            refine ev_cv rfl (as := [.ref 27, .int 10]) rfl rfl (Nat.le_of_ble_eq_true rfl) ?_
            refine m_fail ?_
            show Ev _ _ _ _ [] _
            exact ev_retv rfl rfl (h _ (hL.flt (c := 10) (by decide) (by decide)))
          · rw [if_pos (q7.mp (Decidable.not_not.mp hc7))] at h
            repeat (refine ev_s rfl (?_ : Ev _ _ _ _ _ _))
            refine ev_cv rfl (as := [.ref 27, .long w]) rfl rfl (Nat.le_of_ble_eq_true rfl) ?_
            refine m_applyFunarg hL hn hf (fun M' g => ?_)
            show Ev _ _ _ _ [] _
            repeat (refine ev_s rfl (?_ : Ev _ _ _ _ _ _))
            exact ev_retv rfl rfl (h M' g)
        · rw [if_pos (q6.mp (Decidable.not_not.mp hc6))] at h
          repeat (refine ev_s rfl (?_ : Ev _ _ _ _ _ _))
          refine ev_cv rfl (as := [.ref 27, .long w]) rfl rfl (Nat.le_of_ble_eq_true rfl) ?_
          refine m_applyLabel hL hn hf (fun M' g => ?_)
          show Ev _ _ _ _ [] _
          repeat (refine ev_s rfl (?_ : Ev _ _ _ _ _ _))
          exact ev_retv rfl rfl (h M' g)
      · rw [if_pos (q5.mp (Decidable.not_not.mp hc5))] at h
        repeat (refine ev_s rfl (?_ : Ev _ _ _ _ _ _))
        refine ev_cv rfl (as := [.ref 27, .long w]) rfl rfl (Nat.le_of_ble_eq_true rfl) ?_
        refine m_applyLambda hL hf (fun M' g => ?_)
        show Ev _ _ _ _ [] _
        repeat (refine ev_s rfl (?_ : Ev _ _ _ _ _ _))
        exact ev_retv rfl rfl (h M' g)
    · show Ev _ _ _ _ [.int 0] _
      refine ev_ifT rfl (show (0 : Int32) = 0 from rfl) ?_
      repeat (refine ev_s rfl (?_ : Ev _ _ _ _ _ _))
      refine ev_lifT rfl (show ¬ (-1 : Int64) = 5 by decide) ?_
      repeat (refine ev_s rfl (?_ : Ev _ _ _ _ _ _))
      refine ev_lifT rfl (show ¬ (-1 : Int64) = 6 by decide) ?_
      repeat (refine ev_s rfl (?_ : Ev _ _ _ _ _ _))
      refine ev_lifT rfl (show ¬ (-1 : Int64) = 7 by decide) ?_
      repeat (refine ev_s rfl (?_ : Ev _ _ _ _ _ _))
      refine ev_cv rfl (as := [.ref 27, .int 10]) rfl rfl (Nat.le_of_ble_eq_true rfl) ?_
      refine m_fail ?_
      show Ev _ _ _ _ [] _
      refine ev_retv rfl rfl (h _ ?_)
      rcases f with k | n | i
      · exact (hc (hf.sym.mpr ⟨k, rfl⟩)).elim
      · exact hL.flt (c := 10) (by decide) (by decide)
      · exact (hf.ncell hc2 i rfl).elim
end APPLY2

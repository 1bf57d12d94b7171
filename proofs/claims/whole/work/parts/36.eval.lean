/-! lookUp and evaluate. -/
section EVAL
variable {M : PM} {fr : List Nat} {ψ : Nat → Nat} {ns lim : Nat} {H : AHp} {nid : Nat} {x e f : AV} {fns : List (Option AV)} {ha : List AV} {frs : List AF} {fl mo : Nat}
theorem LiveA.fuel {k : Nat} (h : LiveA M fr ψ ns lim H nid x e f fns ha frs fl mo) (hk : k ≤ fl) : LiveA (mI M 27 8 (nI k)) fr ψ ns lim H nid x e f fns ha frs k mo := by
  obtain ⟨hC, k6, k7, k8, k10, kb, kf, k200, kn, vl, kv⟩ := h
  have hs : Same [27] M (mI M 27 8 (nI k)) := Same.I
  refine ⟨hC.same hs (by decide), ?_, ?_, mI_at, ?_, kb.congr (fun i _ => by rw [(hs 30 (by decide)).1]), kf, k200, ⟨by omega, kn.2⟩, vl, kv.same hs (by decide) (by decide)⟩
  · rw [mI_ne (Or.inr (by decide))]; exact k6
  · rw [mI_ne (Or.inr (by decide))]; exact k7
  · rw [mI_ne (Or.inr (by decide))]; exact k10
theorem aLook_nil {s : AV} {m : Nat} : aLook H s m (aS 0) = (.inr none, m) := by cases m <;> rfl
theorem aLook_bad {s b : AV} {m : Nat} (h1 : ∀ i, b ≠ aC i) (h2 : b ≠ aS 0) : aLook H s m b = (.inl 5, m) := by
  rcases b with k | n | i
  · cases k with
    | zero => exact (h2 rfl).elim
    | succ k => cases m <;> rfl
  · cases m <;> rfl
  · exact (h1 i rfl).elim
theorem aLook_C {s : AV} {m i : Nat} : aLook H s (m + 1) (aC i) = match aHd H (H i).1 with
      | none => (.inl 5, m)
      | some nm => if nm = s then (.inr (aTl H (H i).1), m) else aLook H s m (H i).2 := rfl
theorem m_lookUp {d : Nat} {s : Int64} {a : AV} (hL : LiveA M fr ψ ns lim H nid x e f fns ha frs fl mo) (hs : Tv fr ψ ns s a) {Q : Option (Option Value) → PM → Prop}
    (hF : ∀ c fl' M', aLook H a fl e = (.inl c, fl') → Same [27] M M' → Dd M' → DeadA M' ns lim fns c fl' mo H nid → Q (some (some (.long (-1)))) M')
    (hN : ∀ fl' M', aLook H a fl e = (.inr none, fl') → Same [27] M M' → LiveA M' fr ψ ns lim H nid x e f fns ha frs fl' mo → Q (some (some (.long (-1)))) M')
    (hS : ∀ b w fl' M', aLook H a fl e = (.inr (some b), fl') → Same [27] M M' → LiveA M' fr ψ ns lim H nid x e f fns ha frs fl' mo → Tv fr ψ ns w b → M'.1 27 11 = M.1 27 11 → Q (some (some (.long w))) M') : SC (d + 3) 33 [.ref 27, .long s] M Q := by
  refine ⟨qX2_lookUp, rfl, ⟨Nat.le_of_ble_eq_true rfl, rfl, 27, _, _, rfl, rfl⟩, ?_⟩
  show Ev (BC (d + 2) qX2_lookUp) Q 0 [some (.ref 27), some (.long s), none, none, none, none, none, none, none, none] [] M
  -- the end of the list, or of the fuel
  have fin : ∀ (M1 : PM) (w : Int64) (b : AV) (L : List (Option Value)), L[3]? = some (some (.long w)) → L[0]? = some (some (.ref 27)) → Tv fr ψ ns w b → (Dd M1 → Q (some (some (.long (-1)))) M1) → (¬ Dd M1 → b = aS 0 → Q (some (some (.long (-1)))) M1) → (¬ Dd M1 → b ≠ aS 0 → Q (some (some (.long (-1)))) (failM 5 M1)) → Ev (BC (d + 2) qX2_lookUp) Q 94 L [] M1 := by
    intro M1 w b L hL3 hL0 hw k1 k2 k3
    have out : Q (some (some (.long (-1)))) M1 → Ev (BC (d + 2) qX2_lookUp) Q 105 L [] M1 := fun h9 => by
      repeat (refine ev_s rfl (?_ : Ev _ _ _ _ _ _))
      exact ev_retl rfl rfl h9
    refine ev_s rfl (?_ : p_ld _ _ _)
    unfold p_ld
    rw [hL3]
    show Ev _ _ _ _ [.long w] _
    repeat (refine ev_s rfl (?_ : Ev _ _ _ _ _ _))
    by_cases hD : Dd M1
    · refine ev_lif rfl (fun _ => out (k1 hD)) (fun _ => ?_)
      refine ev_s rfl (?_ : p_ld _ _ _)
      unfold p_ld
      rw [hL0]
      show Ev _ _ _ _ [.ref 27] _
      repeat (refine ev_s rfl (?_ : Ev _ _ _ _ _ _))
      refine ev_cv rfl (as := [.ref 27, .int 5]) rfl rfl (Nat.le_of_ble_eq_true rfl) ?_
      refine m_fail ?_
      rw [failM_dead hD]
      show Ev _ _ _ _ [] _
      exact out (k1 hD)
    · refine ev_lif rfl (fun hc => out (k2 hD ((hw.eqS (k := 0) (by decide)).mp hc))) (fun hc => ?_)
      refine ev_s rfl (?_ : p_ld _ _ _)
      unfold p_ld
      rw [hL0]
      show Ev _ _ _ _ [.ref 27] _
      repeat (refine ev_s rfl (?_ : Ev _ _ _ _ _ _))
      refine ev_cv rfl (as := [.ref 27, .int 5]) rfl rfl (Nat.le_of_ble_eq_true rfl) ?_
      refine m_fail ?_
      show Ev _ _ _ _ [] _
      repeat (refine ev_s rfl (?_ : Ev _ _ _ _ _ _))
      exact ev_retl rfl rfl (k3 hD (fun h9 => hc ((hw.eqS (k := 0) (by decide)).mpr h9)))
  have nd : ∀ {M1 : PM} {m : Nat}, LiveA M1 fr ψ ns lim H nid x e f fns ha frs m mo → ¬ Dd M1 := fun h1 h2 => h2.1 h1.2.2.2.2.1
  -- no cell
  have atom : ∀ (m : Nat) (M1 : PM) (w : Int64) (b : AV) (L : List (Option Value)), L[3]? = some (some (.long w)) → L[0]? = some (some (.ref 27)) → LiveA M1 fr ψ ns lim H nid x e f fns ha frs m mo → Same [27] M M1 → Tv fr ψ ns w b → aLook H a fl e = aLook H a m b → (∀ i, b ≠ aC i) → Ev (BC (d + 2) qX2_lookUp) Q 94 L [] M1 := by
    intro m M1 w b L hL3 hL0 hL1 hs1 hw he hb
    refine fin M1 w b L hL3 hL0 hw (fun h9 => (nd hL1 h9).elim) (fun _ hb0 => ?_) (fun _ hb0 => ?_)
    · subst hb0
      exact hN m M1 (he.trans aLook_nil) hs1 hL1
    · exact hF 5 m _ (he.trans (aLook_bad hb hb0)) ((hs1.tr failM_same).sub (by decide)) (failM_Dd hL1.2.2.2.2.1 (by decide)) (hL1.dead (c := 5) (by decide) (by decide))
  have loop : ∀ (m j : Nat) (M1 : PM) (w : Int64) (b : AV) (z1 z2 z3 z4 : Option Value), j + m ≤ 20000 → LiveA M1 fr ψ ns lim H nid x e f fns ha frs m mo → Same [27] M M1 → Tv fr ψ ns w b → aLook H a fl e = aLook H a m b → M1.1 27 11 = M.1 27 11 →
      Ev (BC (d + 2) qX2_lookUp) Q 11 [some (.ref 27), some (.long s), none, some (.long w), none, some (.int (nI j)), z1, z2, z3, z4] [] M1 := by
    intro m
    induction m with
    | zero =>
      intro j M1 w b z1 z2 z3 z4 hj hL1 hs1 hw he h11
      repeat (refine ev_s rfl (?_ : Ev _ _ _ _ _ _))
      refine ev_icF rfl (nI_nlt (a := 20000) (b := j) (by omega) (by decide)) ?_
      repeat (refine ev_s rfl (?_ : Ev _ _ _ _ _ _))
      refine ev_cs rfl (by decide) (by decide) (as := [.long w]) rfl rfl (Nat.le_of_ble_eq_true rfl) ?_
      refine v_isCell (fun hc => ?_) (fun hc => ?_)
      · show Ev _ _ _ _ [.int 1] _
        refine ev_ifF rfl (show ¬ (1 : Int32) = 0 by decide) ?_
        repeat (refine ev_s rfl (?_ : Ev _ _ _ _ _ _))
        refine ev_cv rfl (as := [.ref 27]) rfl rfl (Nat.le_of_ble_eq_true rfl) ?_
        refine m_burn hL1.2.2.2.1 (by omega) (fun _ => ?_) (fun k hk => by omega)
        show Ev _ _ _ _ [.int 0] _
        refine ev_ifT rfl (show (0 : Int32) = 0 from rfl) ?_
        have hD := failM_Dd (c := 7) hL1.2.2.2.2.1 (by decide)
        have eb := hw.cell hc
        subst eb
        exact fin _ w _ _ rfl rfl hw (fun _ => hF 7 0 _ he ((hs1.tr failM_same).sub (by decide)) hD (hL1.dead (c := 7) (by decide) (by decide))) (fun h9 => (h9 hD).elim) (fun h9 => (h9 hD).elim)
      · show Ev _ _ _ _ [.int 0] _
        refine ev_ifT rfl (show (0 : Int32) = 0 from rfl) ?_
        exact atom 0 M1 w b _ rfl rfl hL1 hs1 hw he (hw.ncell hc)
    | succ m ih =>
      intro j M1 w b z1 z2 z3 z4 hj hL1 hs1 hw he h11
      repeat (refine ev_s rfl (?_ : Ev _ _ _ _ _ _))
      refine ev_icF rfl (nI_nlt (a := 20000) (b := j) (by omega) (by decide)) ?_
      repeat (refine ev_s rfl (?_ : Ev _ _ _ _ _ _))
      refine ev_cs rfl (by decide) (by decide) (as := [.long w]) rfl rfl (Nat.le_of_ble_eq_true rfl) ?_
      refine v_isCell (fun hc => ?_) (fun hc => ?_)
      · show Ev _ _ _ _ [.int 1] _
        refine ev_ifF rfl (show ¬ (1 : Int32) = 0 by decide) ?_
        repeat (refine ev_s rfl (?_ : Ev _ _ _ _ _ _))
        refine ev_cv rfl (as := [.ref 27]) rfl rfl (Nat.le_of_ble_eq_true rfl) ?_
        refine m_burn hL1.2.2.2.1 (by omega) (fun h9 => by omega) (fun k hk => ?_)
        have ek : k = m := by omega
        subst ek
        show Ev _ _ _ _ [.int 1] _
        refine ev_ifF rfl (show ¬ (1 : Int32) = 0 by decide) ?_
        have hL2 := hL1.fuel (k := k) (by omega)
        have hs2 : Same [27] M (mI M1 27 8 (nI k)) := (hs1.tr Same.I).sub (by decide)
        have eb := hw.cell hc
        subst eb
        obtain ⟨p1, p2, -⟩ := CoreA.part hL2.1.1 hw
        repeat (refine ev_s rfl (?_ : Ev _ _ _ _ _ _))
        refine ev_cv rfl (as := [.ref 17, .long w]) rfl rfl (Nat.le_of_ble_eq_true rfl) ?_
        refine cell_head hc ?_
        show Ev _ _ _ _ [.long ((mI M1 27 8 (nI k)).2 19 (cix w))] _
        repeat (refine ev_s rfl (?_ : Ev _ _ _ _ _ _))
        refine ev_cv rfl (as := [.ref 27, .long ((mI M1 27 8 (nI k)).2 19 (cix w))]) rfl rfl (Nat.le_of_ble_eq_true rfl) ?_
        refine m_askHead_a hL2.1.1 p1 (fun b2 w2 hb2 hw2 => ?_) (fun hb2 => ?_)
        · show Ev _ _ _ _ [.long w2] _
          repeat (refine ev_s rfl (?_ : Ev _ _ _ _ _ _))
          rw [hL2.2.2.2.2.1]
          refine ev_ifT rfl (show (0 : Int32) = 0 from rfl) ?_
          repeat (refine ev_s rfl (?_ : Ev _ _ _ _ _ _))
          refine ev_lif rfl (fun hc2 => ?_) (fun hc2 => ?_)
          · have hne : ¬ b2 = a := fun h9 => hc2 ((hw2.inj hL2.1.1.2.2.2.2.2 hs).mpr h9)
            repeat (refine ev_s rfl (?_ : Ev _ _ _ _ _ _))
            refine ev_cv rfl (as := [.ref 17, .long w]) rfl rfl (Nat.le_of_ble_eq_true rfl) ?_
            refine cell_tail hc ?_
            show Ev _ _ _ _ [.long ((mI M1 27 8 (nI k)).2 20 (cix w))] _
            iterate 3 (refine ev_s rfl (?_ : Ev _ _ _ _ _ _))
            rw [nI_1]
            refine ih (j + 1) _ _ _ _ _ _ _ (by omega) hL2 hs2 p2 (he.trans ?_) ?_
            · rw [aLook_C, hb2]
              exact if_neg hne
            · rw [mI_ne (Or.inr (by decide))]; exact h11
          · have heq : b2 = a := (hw2.inj hL2.1.1.2.2.2.2.2 hs).mp (Decidable.not_not.mp hc2)
            obtain ⟨i2, hi2, hi3⟩ := aHd_C hb2
            rw [hi2] at p1
            obtain ⟨q1, q2, -⟩ := CoreA.part hL2.1.1 p1
            repeat (refine ev_s rfl (?_ : Ev _ _ _ _ _ _))
            refine ev_cv rfl (as := [.ref 17, .long ((mI M1 27 8 (nI k)).2 19 (cix w))]) rfl rfl (Nat.le_of_ble_eq_true rfl) ?_
            refine cell_tail p1.isCl.1 ?_
            show Ev _ _ _ _ [.long ((mI M1 27 8 (nI k)).2 20 (cix ((mI M1 27 8 (nI k)).2 19 (cix w))))] _
            refine ev_retl rfl rfl (hS (H i2).2 _ k _ (he.trans ?_) hs2 hL2 q2 (by rw [mI_ne (Or.inr (by decide))]; exact h11))
            rw [aLook_C, hb2]
            dsimp only
            rw [if_pos heq, hi2]
            rfl
        · show Ev _ _ _ _ [.long 0] _
          repeat (refine ev_s rfl (?_ : Ev _ _ _ _ _ _))
          have hD := failM_Dd (c := 5) hL2.2.2.2.2.1 (by decide)
          refine ev_ifF rfl (show ¬ (failM 5 (mI M1 27 8 (nI k))).1 27 10 = 0 from hD.1) ?_
          repeat (refine ev_s rfl (?_ : Ev _ _ _ _ _ _))
          refine ev_retl rfl rfl (hF 5 k _ (he.trans ?_) ((hs2.tr failM_same).sub (by decide)) hD (hL2.dead (c := 5) (by decide) (by decide)))
          rw [aLook_C, hb2]
      · show Ev _ _ _ _ [.int 0] _
        refine ev_ifT rfl (show (0 : Int32) = 0 from rfl) ?_
        exact atom (m + 1) M1 w b _ rfl rfl hL1 hs1 hw he (hw.ncell hc)
  iterate 6 (refine ev_s rfl (?_ : Ev _ _ _ _ _ _))
  exact loop fl 0 M (M.2 1 5) e _ _ _ _ (by have := hL.2.2.2.2.2.2.2.2.1; omega) hL Same.rf hL.1.2.2.2.1 rfl rfl
theorem PostM.of {M1 M' : PM} {r : MR} {ids : List Nat} (h : PostM ns lim fns M1 r M') (hs : Same ids M M1) (hd : ∀ k ∈ ids, k ∈ IDM) : PostM ns lim fns M r M' := h.from (hs.sub hd)
theorem m_evalAtom {d : Nat} {v : Int64} (hL : LiveA M fr ψ ns lim H nid x e f fns ha frs fl mo) (hv : Tv fr ψ ns v x) (hx : ∀ i, x ≠ aC i) {Q : Option (Option Value) → PM → Prop} (h : ∀ M', PostM ns lim fns M (aEval lim fns x e frs fl mo H nid) M' → Q (some none) M') : SC (d + 4) 35 [.ref 27, .long v] M Q := by
  refine ⟨qX2_evaluateAtom, rfl, ⟨Nat.le_of_ble_eq_true rfl, rfl, 27, _, _, rfl, rfl⟩, ?_⟩
  show Ev (BC (d + 3) qX2_evaluateAtom) Q 0 [some (.ref 27), some (.long v), none, none, none] [] M
  have give : aEval lim fns x e frs fl mo H nid = aRet x e x frs fl mo H nid → Ev (BC (d + 3) qX2_evaluateAtom) Q 19 [some (.ref 27), some (.long v), none, none, none] [] M := fun h9 => by
    repeat (refine ev_s rfl (?_ : Ev _ _ _ _ _ _))
    refine ev_cv rfl (as := [.ref 27, .long v]) rfl rfl (Nat.le_of_ble_eq_true rfl) ?_
    refine m_give hL hv (fun M' g => ?_)
    show Ev _ _ _ _ [] _
    exact ev_retv rfl rfl (h M' (by rw [h9]; exact g))
  repeat (refine ev_s rfl (?_ : Ev _ _ _ _ _ _))
  refine ev_cs rfl (by decide) (by decide) (as := [.long v]) rfl rfl (Nat.le_of_ble_eq_true rfl) ?_
  refine v_isSymbol (fun hc => ?_) (fun hc => ?_)
  · obtain ⟨k, rfl⟩ := hv.sym.mp hc
    show Ev _ _ _ _ [.int 1] _
    refine ev_ifF rfl (show ¬ (1 : Int32) = 0 by decide) ?_
    repeat (refine ev_s rfl (?_ : Ev _ _ _ _ _ _))
    refine ev_lif rfl (fun hc => give ?_) (fun hc => ?_)
    · have := (hv.eqS (k := 0) (by decide)).mp hc
      cases this
      rfl
    repeat (refine ev_s rfl (?_ : Ev _ _ _ _ _ _))
    refine ev_lif rfl (fun hc1 => ?_) (fun hc1 => give ?_)
    · have h0 : k ≠ 0 := fun h9 => hc ((hv.eqS (k := 0) (by decide)).mpr (by rw [h9]))
      have h1 : k ≠ 1 := fun h9 => hc1 ((hv.eqS (k := 1) (by decide)).mpr (by rw [h9]))
      have ev : aEval lim fns (aS k) e frs fl mo H nid = match aLook H (aS k) fl e with
        | (.inl c, fl') => aFl c fl' mo H nid
        | (.inr none, fl') => aFl 6 fl' mo H nid
        | (.inr (some v), fl') => aRet (aS k) e v frs fl' mo H nid := if_neg (by omega)
      repeat (refine ev_s rfl (?_ : Ev _ _ _ _ _ _))
      refine ev_cv rfl (as := [.ref 27, .long v]) rfl rfl (Nat.le_of_ble_eq_true rfl) ?_
      refine m_lookUp hL hv (fun c fl' M' q1 q2 q3 q4 => ?_) (fun fl' M' q1 q2 q3 => ?_) (fun b w fl' M' q1 q2 q3 q4 q5 => ?_)
      · show Ev _ _ _ _ [.long (-1)] _
        repeat (refine ev_s rfl (?_ : Ev _ _ _ _ _ _))
        refine ev_lifF rfl (show ¬ ¬ (-1 : Int64) = -1 from fun h9 => h9 rfl) ?_
        repeat (refine ev_s rfl (?_ : Ev _ _ _ _ _ _))
        refine ev_cv rfl (as := [.ref 27, .int 6]) rfl rfl (Nat.le_of_ble_eq_true rfl) ?_
        refine m_fail ?_
        rw [failM_dead q3]
        show Ev _ _ _ _ [] _
        repeat (refine ev_s rfl (?_ : Ev _ _ _ _ _ _))
        refine ev_retv rfl rfl (h M' ?_)
        rw [ev, q1]
        exact ⟨q2.sub (by decide), q4⟩
      · show Ev _ _ _ _ [.long (-1)] _
        repeat (refine ev_s rfl (?_ : Ev _ _ _ _ _ _))
        refine ev_lifF rfl (show ¬ ¬ (-1 : Int64) = -1 from fun h9 => h9 rfl) ?_
        repeat (refine ev_s rfl (?_ : Ev _ _ _ _ _ _))
        refine ev_cv rfl (as := [.ref 27, .int 6]) rfl rfl (Nat.le_of_ble_eq_true rfl) ?_
        refine m_fail ?_
        show Ev _ _ _ _ [] _
        repeat (refine ev_s rfl (?_ : Ev _ _ _ _ _ _))
        refine ev_retv rfl rfl (h _ ?_)
        rw [ev, q1]
        exact (q3.flt (c := 6) (by decide) (by decide)).of q2 (by decide)
      · show Ev _ _ _ _ [.long w] _
        repeat (refine ev_s rfl (?_ : Ev _ _ _ _ _ _))
        refine ev_lifT rfl (show ¬ w = -1 from q4.miss) ?_
        repeat (refine ev_s rfl (?_ : Ev _ _ _ _ _ _))
        refine ev_cv rfl (as := [.ref 27, .long w]) rfl rfl (Nat.le_of_ble_eq_true rfl) ?_
        refine m_give q3 q4 (fun M2 g => ?_)
        show Ev _ _ _ _ [] _
        refine ev_retv rfl rfl (h M2 ?_)
        rw [ev, q1]
        exact g.of q2 (by decide)
    · have := (hv.eqS (k := 1) (by decide)).mp (Decidable.not_not.mp hc1)
      cases this
      rfl
  · show Ev _ _ _ _ [.int 0] _
    refine ev_ifT rfl (show (0 : Int32) = 0 from rfl) ?_
    refine give ?_
    rcases x with k | n | i
    · exact (hc (hv.sym.mpr ⟨k, rfl⟩)).elim
    · rfl
    · exact (hx i rfl).elim
end EVAL

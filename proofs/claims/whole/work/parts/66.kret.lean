/-! The reference's machine: returns. -/
section KR
variable {M M0 : PM} {U : Nat → Bool} {ψ : Nat → Nat} {ns lim : Nat} {H : AHp} {n : Nat} {x e f : AV} {fns : List (Option AV)} {vs : List AV} {frs : List AF} {v : Int64} {w : AV} {fuel fl mo : Nat}
/-- the top frame -/
theorem FrM.top {F : AF} (h : FrM M U ψ ns (F :: frs)) : FrAt M U ψ ns frs.length F ∧ frs.length < 200 := by
  have h2 := h.2.1
  simp at h2
  exact ⟨h.2.2 frs.length F (by simp), by omega⟩
/-- the top frame changes -/
theorem FrM.upd {F F' : AF} {M' : PM} (h : FrM M U ψ ns (F :: frs)) (h41 : M'.1 0 41 = M.1 0 41) (hF : FrAt M' U ψ ns frs.length F') (hr : ∀ k, k < frs.length → M'.1 15 k = M.1 15 k ∧ M'.2 16 k = M.2 16 k ∧ M'.2 17 k = M.2 17 k ∧ M'.2 18 k = M.2 18 k ∧ M'.1 20 k = M.1 20 k ∧ ∀ i, i < 10 → M'.2 19 (10 * k + i) = M.2 19 (10 * k + i)) : FrM M' U ψ ns (F' :: frs) := by
  refine ⟨h41.trans h.1, h.2.1, fun k G hG => ?_⟩
  rw [List.reverse_cons] at hG
  by_cases hk : k < frs.length
  · rw [List.getElem?_append_left (by rw [List.length_reverse]; exact hk)] at hG
    obtain ⟨e15, e16, e17, e18, e20, e19⟩ := hr k hk
    refine FrAt.congr (h.2.2 k G ?_) e15 e16 e17 e18 e20 e19
    rw [List.reverse_cons, List.getElem?_append_left (by rw [List.length_reverse]; exact hk)]
    exact hG
  · have hk2 := (List.getElem?_eq_some_iff.mp hG).1
    simp at hk2
    have ek : k = frs.length := by omega
    subst ek
    rw [List.getElem?_append_right (by simp), List.length_reverse, Nat.sub_self] at hG
    have eF : F' = G := by simpa using hG
    rw [← eF]
    exact hF
/-- the top frame goes -/
theorem FrM.pop {F : AF} {M' : PM} {ids : List Nat} (h : FrM M U ψ ns (F :: frs)) (hs : SameM ids M M') (hd : ∀ k ∈ [15, 16, 17, 18, 19, 20], k ∉ ids) (h41 : M'.1 0 41 = nI frs.length) : FrM M' U ψ ns frs := by
  have h2 := h.2.1
  simp at h2
  refine ⟨h41, by omega, fun k G hG => ?_⟩
  have hk := (List.getElem?_eq_some_iff.mp hG).1
  refine FrAt.congr (h.2.2 k G ?_) ?_ ?_ ?_ ?_ ?_ (fun i _ => ?_)
  · rw [List.reverse_cons, List.getElem?_append_left hk]; exact hG
  · rw [(hs.1 15 (by decide) (hd 15 (by decide))).1]
  · rw [(hs.1 16 (by decide) (hd 16 (by decide))).2]
  · rw [(hs.1 17 (by decide) (hd 17 (by decide))).2]
  · rw [(hs.1 18 (by decide) (hd 18 (by decide))).2]
  · rw [(hs.1 20 (by decide) (hd 20 (by decide))).1]
  · rw [(hs.1 19 (by decide) (hd 19 (by decide))).2]
/-- other frames -/
theorem CoreM.setFr (h : CoreM M U ψ ns lim H n x e f fns [] vs frs) {M' : PM} {ids : List Nat} {frs' : List AF} (hs : SameM ids M M') (hd : ∀ k ∈ [3, 4, 6, 7, 8, 11, 14, 105, 115, 116, 117, 118, 125, 129, 130, 131, 134], k ∉ ids) (hF : FrM M' U ψ ns frs') : CoreM M' U ψ ns lim H n x e f fns [] vs frs' := by
  obtain ⟨c1, c2, c3, c4, c5, c6, c7, c8, c9, c10, c11⟩ := h
  exact ⟨c1.same hs (fun k hk => hd k (by simp at hk ⊢; omega)), c2, by rw [(hs.2 29 (hd 129 (by decide))).2]; exact c3, by rw [(hs.2 30 (hd 130 (by decide))).2]; exact c4, by rw [(hs.2 31 (hd 131 (by decide))).2]; exact c5, c6.kept (RA := fun _ => True) (H := H) KeptM.rf (fun _ _ => trivial) hs (hd 3 (by decide)) (hd 4 (by decide)), c7.kept (RA := fun _ => True) (H := H) KeptM.rf (fun _ _ => trivial) hs (by decide) (hd 11 (by decide)) (hd 125 (by decide)), c8.kept (RA := fun _ => True) (H := H) KeptM.rf (fun _ _ => trivial) hs (by decide) (hd 14 (by decide)) (hd 134 (by decide)), hF, (hs.2 5 (hd 105 (by decide))).1.trans c10, c11⟩
theorem CoreM.setVs (h : CoreM M U ψ ns lim H n x e f fns [] vs frs) {M' : PM} {ids : List Nat} {vs' : List AV} (hs : SameM ids M M') (hd : ∀ k ∈ [3, 4, 6, 7, 8, 11, 15, 16, 17, 18, 19, 20, 105, 115, 116, 117, 118, 125, 129, 130, 131, 141], k ∉ ids) (hV : RowM M' U ψ ns 34 14 10 vs') : CoreM M' U ψ ns lim H n x e f fns [] vs' frs := by
  obtain ⟨c1, c2, c3, c4, c5, c6, c7, c8, c9, c10, c11⟩ := h
  exact ⟨c1.same hs (fun k hk => hd k (by simp at hk ⊢; omega)), c2, by rw [(hs.2 29 (hd 129 (by decide))).2]; exact c3, by rw [(hs.2 30 (hd 130 (by decide))).2]; exact c4, by rw [(hs.2 31 (hd 131 (by decide))).2]; exact c5, c6.kept (RA := fun _ => True) (H := H) KeptM.rf (fun _ _ => trivial) hs (hd 3 (by decide)) (hd 4 (by decide)), c7.kept (RA := fun _ => True) (H := H) KeptM.rf (fun _ _ => trivial) hs (by decide) (hd 11 (by decide)) (hd 125 (by decide)), hV, c9.kept (RA := fun _ => True) (H := H) KeptM.rf (fun _ _ => trivial) hs (fun k hk => hd k (by simp at hk ⊢; omega)), (hs.2 5 (hd 105 (by decide))).1.trans c10, c11⟩
theorem LiveM.ev2 (h : LiveM fuel lim ns fns M U ψ x e f vs frs fl mo H n) {u : Int64} {e' : AV} (hv : RTv U ψ ns v w) (he : RTv U ψ ns u e') (hs : SameM IDK M0 M) : PostMM fuel lim ns fns M0 (aEv w e' frs fl mo H n) (some (some (.int 0))) (mJ (mJ M 0 29 v) 0 30 u) := by
  have s1 : SameM [129, 130] M (mJ (mJ M 0 29 v) 0 30 u) := (SameM.J0 (j := 29)).t2 (SameM.J0 (j := 30)) (by decide)
  exact ⟨hs.t2 s1 (by decide), rfl, U, ψ, f, vs, h.core s1 (by decide) ((h.1.setX hv).setE he), fun h9 => absurd h9 (by decide), fun h9 => by cases h9⟩
theorem k_returns {d : Nat} (h : LiveM fuel lim ns fns M U ψ x e (aS 0) [] frs fl mo H n) (hv : RTv U ψ ns (M.2 0 32) w) {Q : Option (Option Value) → PM → Prop} (hq : ∀ o M', PostMM fuel lim ns fns M (aTake x e w frs fl mo H n) o M' → Q o M') : SM (d + 4) 143 [.ref 0] M Q := by
  refine ⟨qX10_returns, rfl, ⟨Nat.le_of_ble_eq_true rfl, rfl, 0, _, _, rfl, rfl⟩, ?_⟩
  show Ev (BM (d + 3) qX10_returns) Q 0 [some (.ref 0), none, none] [] M
  obtain ⟨hC, g43, g44, gfl, gfu, g42, gmo⟩ := id h
  obtain ⟨c1, c2, c3, c4, c5, c6, c7, c8, c9, c10, c11, c12⟩ := id hC
  have hH := c1.2.2.2.2.2.2
  cases frs with
  | nil =>
    repeat (refine ev_s rfl (?_ : Ev _ _ _ _ _ _))
    rw [c9.1]
    refine ev_ifF rfl (show ¬ ¬ nI ([] : List AF).length = 0 by decide) ?_
    repeat (refine ev_s rfl (?_ : Ev _ _ _ _ _ _))
    exact ev_reti rfl rfl trivial rfl (hq _ _ ⟨SameM.rf, rfl, U, ψ, _, _, h, fun _ => hv, fun h9 => by cases h9⟩)
  | cons F r =>
    obtain ⟨fn, l, fe, fv⟩ := F
    obtain ⟨⟨t1, t2, t3, t4, t5, t6, t7, t8⟩, t9⟩ := c9.top
    dsimp only at t1 t2 t3 t4 t5 t6 t7 t8
    have el : ((fn, l, fe, fv) :: r).length = r.length + 1 := rfl
    have e41 : M.1 0 41 = nI (r.length + 1) := c9.1
    unfold aTake at hq
    dsimp only at hq
    repeat (refine ev_s rfl (?_ : Ev _ _ _ _ _ _))
    rw [e41]
    refine ev_ifT rfl (nI_ne0 (by omega) (by omega)) ?_
    repeat (refine ev_s rfl (?_ : Ev _ _ _ _ _ _))
    rw [e41, nI_pred]
    repeat (refine ev_s rfl (?_ : Ev _ _ _ _ _ _))
    refine ev_zald rfl rfl (vp_in_nI t9 (by decide)) ?_
    rw [nI_clamp (by omega), t1]
    -- the list of the frame goes on
    have upL : ∀ (u : Int64) (l' : AV), RTv U ψ ns u l' → CoreM (mJ M 16 r.length u) U ψ ns lim H n x e (aS 0) fns [] [] ((fn, l', fe, fv) :: r) := fun u l' hu => by
      have s1 : SameM [16] M (mJ M 16 r.length u) := SameM.Jk (by decide)
      refine hC.setFr s1 (by decide) (c9.upd rfl ⟨t1, ?_, ?_, fun h9 => ?_, fun h9 => ?_, t6, t7, fun i a hi => ?_⟩ (fun k hk => ⟨rfl, mJ_ne (Or.inr (by omega)), ?_, ?_, rfl, fun i _ => ?_⟩))
      · rw [mJ_at]; exact hu
      · rw [mJ_ne (Or.inl (by decide))]; exact t3
      · rw [mJ_ne (Or.inl (by decide))]; exact t4 h9
      · rw [mJ_ne (Or.inl (by decide))]; exact t5 h9
      · rw [mJ_ne (Or.inl (by decide))]; exact t8 i a hi
      · rw [mJ_ne (Or.inl (by decide))]
      · rw [mJ_ne (Or.inl (by decide))]
      · rw [mJ_ne (Or.inl (by decide))]
    by_cases h3 : fn = aS 3
    · rw [if_pos h3] at hq
      rw [if_pos h3]
      refine ev_ifF rfl (show ¬ (1 : Int32) = 0 by decide) ?_
      repeat (refine ev_s rfl (?_ : Ev _ _ _ _ _ _))
      have v0 := hv.eqS (k := 0) (by decide)
      refine ev_lif rfl (fun hc => ?_) (fun hc => ?_)
      · have nv : ¬ w = aS 0 := fun h9 => hc (v0.mpr h9)
        rw [if_neg nv] at hq
        repeat (refine ev_s rfl (?_ : Ev _ _ _ _ _ _))
        rw [e41, nI_pred]
        have s1 : SameM [141] M (mI M 0 41 (nI r.length)) := SameM.I0 (j := 41)
        have hC2 : CoreM (mI M 0 41 (nI r.length)) U ψ ns lim H n x e (aS 0) fns [] [] r := hC.setFr s1 (by decide) (c9.pop s1 (by decide) mI_at)
        have hL2 := h.core s1 (by decide) hC2
        have hH2 := hC2.1.2.2.2.2.2.2
        refine ev_lald rfl rfl (vp_in_nI t9 (by decide)) ?_
        rw [nI_clamp (by omega), mI_2]
        refine ev_cv rfl (as := [.ref 0, .long (M.2 16 r.length)]) rfl rfl (Nat.le_of_ble_eq_true rfl) ?_
        refine k_headOf hH2 t2 (fun p a p1 p2 => ?_) (fun p1 => ?_)
        · have e1 : (aHd H l).bind (a2 H) = a2 H a := by rw [p1]; rfl
          rw [e1] at hq
          show Ev _ _ _ _ [.long p, .ref 0, .ref 0] _
          refine ev_cv rfl (as := [.ref 0, .long p]) rfl rfl (Nat.le_of_ble_eq_true rfl) ?_
          refine k_second hH2 p2 (fun q b q1 q2 => ?_) (fun q1 => ?_)
          · rw [q1] at hq
            show Ev _ _ _ _ [.long q, .ref 0] _
            repeat (refine ev_s rfl (?_ : Ev _ _ _ _ _ _))
            refine ev_lald rfl rfl (vp_in_nI t9 (by decide)) ?_
            rw [nI_clamp (by omega), mJ_ne (Or.inl (by decide)), mI_2]
            repeat (refine ev_s rfl (?_ : Ev _ _ _ _ _ _))
            exact ev_reti rfl rfl trivial rfl (hq _ _ (hL2.ev2 q2 t3 (s1.sub (by decide))))
          · rw [q1] at hq
            exact hq _ _ (hL2.f8 (c := 5) (s1.sub (by decide)) (by decide) (by decide))
        · have e1 : (aHd H l).bind (a2 H) = none := by rw [p1]; rfl
          rw [e1] at hq
          exact hq _ _ (hL2.f8 (c := 5) (s1.sub (by decide)) (by decide) (by decide))
      · have yv : w = aS 0 := v0.mp (Decidable.not_not.mp hc)
        rw [if_pos yv] at hq
        repeat (refine ev_s rfl (?_ : Ev _ _ _ _ _ _))
        refine ev_lald rfl rfl (vp_in_nI t9 (by decide)) ?_
        rw [nI_clamp (by omega)]
        refine ev_cv rfl (as := [.ref 0, .long (M.2 16 r.length)]) rfl rfl (Nat.le_of_ble_eq_true rfl) ?_
        refine k_tailOf hH t2 (fun u l' p1 p2 => ?_) (fun p1 => ?_)
        · rw [p1] at hq
          dsimp only at hq
          have s1 : SameM [16] M (mJ M 16 r.length u) := SameM.Jk (by decide)
          have hC2 := upL u l' p2
          have hL2 := h.core s1 (by decide) hC2
          have hH2 := hC2.1.2.2.2.2.2.2
          show Ev _ _ _ _ [.long u, .int (nI r.length), .ref 16] _
          refine ev_last rfl rfl (vp_in_nI t9 (by decide)) ?_
          rw [nI_clamp (by omega)]
          repeat (refine ev_s rfl (?_ : Ev _ _ _ _ _ _))
          refine ev_lald rfl rfl (vp_in_nI t9 (by decide)) ?_
          rw [nI_clamp (by omega), mJ_at]
          refine ev_cs rfl (by decide) (by decide) (as := [.long u]) rfl rfl (Nat.le_of_ble_eq_true rfl) ?_
          refine k_isCell p2 ?_
          have atom : aHd H l' = none → Ev (BM (d + 3) qX10_returns) Q 64 [some (.ref 0), some (.int (nI r.length)), none] [] (mJ M 16 r.length u) := fun h9 => by
            rw [h9] at hq
            repeat (refine ev_s rfl (?_ : Ev _ _ _ _ _ _))
            refine ev_cv rfl (as := [.ref 0, .int 9]) rfl rfl (Nat.le_of_ble_eq_true rfl) ?_
            refine k_fails ?_
            show Ev _ _ _ _ [.ref 5] _
            exact ev_s rfl (hq _ _ (hL2.f8 (c := 9) (s1.sub (by decide)) (by decide) (by decide)))
          rcases p2.int with ⟨m', w1, _, w3, w4, w5⟩ | ⟨m', w1, w4, w5⟩ | ⟨c', w1, w2, w3, w4, w5⟩
          · rw [w1]
            show Ev _ _ _ _ [.int 0] _
            refine ev_ifF rfl (show ¬ ¬ (0 : Int32) = 0 by decide) ?_
            exact atom (by rw [w1]; rfl)
          · rw [w1]
            show Ev _ _ _ _ [.int 0] _
            refine ev_ifF rfl (show ¬ ¬ (0 : Int32) = 0 by decide) ?_
            exact atom (by rw [w1]; rfl)
          · rw [w1]
            show Ev _ _ _ _ [.int 1] _
            refine ev_ifT rfl (show ¬ (1 : Int32) = 0 by decide) ?_
            have eh : aHd H l' = some (H (ψ c')).1 := by rw [w1]; rfl
            rw [eh] at hq
            dsimp only at hq
            repeat (refine ev_s rfl (?_ : Ev _ _ _ _ _ _))
            refine ev_lald rfl rfl (vp_in_nI t9 (by decide)) ?_
            rw [nI_clamp (by omega), mJ_at]
            refine ev_cv rfl (as := [.ref 0, .long u]) rfl rfl (Nat.le_of_ble_eq_true rfl) ?_
            refine k_headOf hH2 p2 (fun y b6 b7 b8 => ?_) (fun b7 => by rw [eh] at b7; cases b7)
            rw [eh] at b7
            cases b7
            show Ev _ _ _ _ [.long y, .ref 0, .ref 0] _
            refine ev_cv rfl (as := [.ref 0, .long y]) rfl rfl (Nat.le_of_ble_eq_true rfl) ?_
            refine k_headOf hH2 b8 (fun z b9 b10 b11 => ?_) (fun b10 => ?_)
            · rw [b10] at hq
              show Ev _ _ _ _ [.long z, .ref 0] _
              repeat (refine ev_s rfl (?_ : Ev _ _ _ _ _ _))
              refine ev_lald rfl rfl (vp_in_nI t9 (by decide)) ?_
              rw [nI_clamp (by omega), mJ_ne (Or.inl (by decide)), mJ_ne (Or.inl (by decide))]
              repeat (refine ev_s rfl (?_ : Ev _ _ _ _ _ _))
              exact ev_reti rfl rfl trivial rfl (hq _ _ (hL2.ev2 b11 t3 (s1.sub (by decide))))
            · rw [b10] at hq
              exact hq _ _ (hL2.f8 (c := 5) (s1.sub (by decide)) (by decide) (by decide))
        · rw [p1] at hq
          exact hq _ _ (h.f8 (c := 5) SameM.rf (by decide) (by decide))
    · rw [if_neg h3] at hq
      rw [if_neg h3]
      refine ev_ifT rfl (show (0 : Int32) = 0 from rfl) ?_
      repeat (refine ev_s rfl (?_ : Ev _ _ _ _ _ _))
      refine ev_iald rfl rfl (vp_in_nI t9 (by decide)) ?_
      rw [nI_clamp (by omega), t6]
      repeat (refine ev_s rfl (?_ : Ev _ _ _ _ _ _))
      refine ev_ic rfl (fun hc => ?_) (fun hc => ?_)
      · have hlt : fv.length < 10 := by
          have : ¬ fv.length = 10 := fun h9 => hc (by rw [h9]; rfl)
          omega
        rw [if_pos hlt] at hq
        repeat (refine ev_s rfl (?_ : Ev _ _ _ _ _ _))
        refine ev_iald rfl rfl (vp_in_nI t9 (by decide)) ?_
        rw [nI_clamp (by omega), t6]
        repeat (refine ev_s rfl (?_ : Ev _ _ _ _ _ _))
        rw [Int32.mul_comm, nI10]
        refine ev_last rfl rfl (vp_in_nI (show 10 * r.length + fv.length < 2000 by omega) (by decide)) ?_
        rw [nI_clamp (by omega)]
        repeat (refine ev_s rfl (?_ : Ev _ _ _ _ _ _))
        refine ev_iald rfl rfl (vp_in_nI t9 (by decide)) ?_
        rw [nI_clamp (by omega), mJ_1, t6]
        repeat (refine ev_s rfl (?_ : Ev _ _ _ _ _ _))
        rw [nI_1]
        refine ev_iast rfl rfl (vp_in_nI t9 (by decide)) ?_
        rw [nI_clamp (by omega)]
        generalize hM2 : mI (mJ M 19 (10 * r.length + fv.length) (M.2 0 32)) 20 r.length (nI (fv.length + 1)) = M2
        have s2 : SameM [19, 20] M M2 := by
          rw [← hM2]
          exact (SameM.Jk (by decide)).t2 (SameM.Ik (by decide)) (by decide)
        have hF2 : FrAt M2 U ψ ns r.length (fn, l, fe, fv ++ [w]) := by
          refine ⟨by rw [(s2.1 15 (by decide) (by decide)).1]; exact t1, by rw [(s2.1 16 (by decide) (by decide)).2]; exact t2, by rw [(s2.1 17 (by decide) (by decide)).2]; exact t3, fun h9 => (h3 h9).elim, fun h9 => by rw [(s2.1 18 (by decide) (by decide)).2]; exact t5 h9, ?_, by simp; omega, fun i a hi => ?_⟩
          · rw [← hM2, mI_at]; simp
          · rw [← hM2, mI_2]
            dsimp only at hi
            by_cases hil : i < fv.length
            · rw [List.getElem?_append_left hil] at hi
              rw [mJ_ne (Or.inr (by omega))]
              exact t8 i a hi
            · have hi2 := (List.getElem?_eq_some_iff.mp hi).1
              simp at hi2
              have ei : i = fv.length := by omega
              subst ei
              rw [List.getElem?_append_right (Nat.le_refl _), Nat.sub_self] at hi
              have ew : w = a := by simpa using hi
              rw [mJ_at, ← ew]
              exact hv
        have hC2 : CoreM M2 U ψ ns lim H n x e (aS 0) fns [] [] ((fn, l, fe, fv ++ [w]) :: r) := by
          refine hC.setFr s2 (by decide) (c9.upd (s2.2 41 (by decide)).1 hF2 (fun k hk => ⟨by rw [(s2.1 15 (by decide) (by decide)).1], by rw [(s2.1 16 (by decide) (by decide)).2], by rw [(s2.1 17 (by decide) (by decide)).2], by rw [(s2.1 18 (by decide) (by decide)).2], ?_, fun i hi => ?_⟩))
          · rw [← hM2, mI_ne (Or.inr (by omega))]; rfl
          · rw [← hM2, mI_2, mJ_ne (Or.inr (by omega))]
        have e162 := (s2.1 16 (by decide) (by decide)).2
        repeat (refine ev_s rfl (?_ : Ev _ _ _ _ _ _))
        refine ev_lald rfl rfl (vp_in_nI t9 (by decide)) ?_
        rw [nI_clamp (by omega), e162]
        refine ev_cv rfl (as := [.ref 0, .long (M.2 16 r.length)]) rfl rfl (Nat.le_of_ble_eq_true rfl) ?_
        refine k_tailOf hC2.1.2.2.2.2.2.2 t2 (fun u l' p1 p2 => ?_) (fun p1 => ?_)
        · rw [p1] at hq
          dsimp only at hq
          show Ev _ _ _ _ [.long u, .int (nI r.length), .ref 16] _
          refine ev_last rfl rfl (vp_in_nI t9 (by decide)) ?_
          rw [nI_clamp (by omega)]
          repeat (refine ev_s rfl (?_ : Ev _ _ _ _ _ _))
          refine ev_lald rfl rfl (vp_in_nI t9 (by decide)) ?_
          rw [nI_clamp (by omega), mJ_ne (Or.inl (by decide)), (s2.1 17 (by decide) (by decide)).2]
          repeat (refine ev_s rfl (?_ : Ev _ _ _ _ _ _))
          refine ev_lald rfl rfl (vp_in_nI t9 (by decide)) ?_
          rw [nI_clamp (by omega), mJ_ne (Or.inl (by decide)), mJ_at]
          generalize hM3 : mJ (mJ M2 16 r.length u) 0 30 (M.2 17 r.length) = M3
          have s23 : SameM [16, 130] M2 M3 := by
            rw [← hM3]
            exact (SameM.Jk (by decide)).t2 (SameM.J0 (j := 30)) (by decide)
          have s3 : SameM [16, 19, 20, 130] M M3 := s2.t2 s23 (by decide)
          have hF3 : FrAt M3 U ψ ns r.length (fn, l', fe, fv ++ [w]) := by
            obtain ⟨y1, y2, y3, y4, y5, y6, y7, y8⟩ := hF2
            refine ⟨by rw [(s23.1 15 (by decide) (by decide)).1]; exact y1, ?_, by rw [(s23.1 17 (by decide) (by decide)).2]; exact y3, fun h9 => (h3 h9).elim, fun h9 => by rw [(s23.1 18 (by decide) (by decide)).2]; exact y5 h9, by rw [(s23.1 20 (by decide) (by decide)).1]; exact y6, y7, fun i a hi => by rw [(s23.1 19 (by decide) (by decide)).2]; exact y8 i a hi⟩
            rw [← hM3, mJ_ne (Or.inl (by decide)), mJ_at]
            exact p2
          have hC3 : CoreM M3 U ψ ns lim H n x fe (aS 0) fns [] [] ((fn, l', fe, fv ++ [w]) :: r) := by
            have s16 : SameM [16] M2 (mJ M2 16 r.length u) := SameM.Jk (by decide)
            rw [← hM3]
            have hFa : FrAt (mJ M2 16 r.length u) U ψ ns r.length (fn, l', fe, fv ++ [w]) := by
              have s30 : SameM [130] (mJ M2 16 r.length u) M3 := by rw [← hM3]; exact SameM.J0 (j := 30)
              refine hF3.congr ?_ ?_ ?_ ?_ ?_ (fun i _ => ?_)
              · rw [(s30.1 15 (by decide) (by decide)).1]
              · rw [(s30.1 16 (by decide) (by decide)).2]
              · rw [(s30.1 17 (by decide) (by decide)).2]
              · rw [(s30.1 18 (by decide) (by decide)).2]
              · rw [(s30.1 20 (by decide) (by decide)).1]
              · rw [(s30.1 19 (by decide) (by decide)).2]
            refine (hC2.setFr s16 (by decide) (hC2.2.2.2.2.2.2.2.2.1.upd rfl hFa (fun k hk => ⟨rfl, mJ_ne (Or.inr (by omega)), by rw [(s16.1 17 (by decide) (by decide)).2], by rw [(s16.1 18 (by decide) (by decide)).2], rfl, fun i _ => by rw [(s16.1 19 (by decide) (by decide)).2]⟩))).setE t3
          have hL3 := h.core s3 (by decide) hC3
          have e163 : M3.2 16 r.length = u := by rw [← hM3, mJ_ne (Or.inl (by decide)), mJ_at]
          refine ev_cs rfl (by decide) (by decide) (as := [.long u]) rfl rfl (Nat.le_of_ble_eq_true rfl) ?_
          refine k_isCell p2 ?_
          have atom : aHd H l' = none → Ev (BM (d + 3) qX10_returns) Q 234 [some (.ref 0), some (.int (nI r.length)), none] [] M3 := fun h9 => by
            rw [h9] at hq
            dsimp only at hq
            have l0 := p2.eqS (k := 0) (by decide)
            repeat (refine ev_s rfl (?_ : Ev _ _ _ _ _ _))
            refine ev_lald rfl rfl (vp_in_nI t9 (by decide)) ?_
            rw [nI_clamp (by omega), e163]
            repeat (refine ev_s rfl (?_ : Ev _ _ _ _ _ _))
            refine ev_lif rfl (fun hc5 => ?_) (fun hc5 => ?_)
            · rw [if_pos (l0.mp hc5)] at hq
              have e413 : M3.1 0 41 = nI (r.length + 1) := (s3.2 41 (by decide)).1.trans e41
              repeat (refine ev_s rfl (?_ : Ev _ _ _ _ _ _))
              rw [e413, nI_pred]
              refine ev_lald rfl rfl (vp_in_nI t9 (by decide)) ?_
              rw [nI_clamp (by omega), mI_2]
              repeat (refine ev_s rfl (?_ : Ev _ _ _ _ _ _))
              refine ev_iald rfl rfl (vp_in_nI t9 (by decide)) ?_
              rw [nI_clamp (by omega), mJ_1, mI_ne (Or.inl (by decide)), hF3.2.2.2.2.2.1]
              iterate 3 (refine ev_s rfl (?_ : Ev _ _ _ _ _ _))
              have s4a : SameM [141] M3 (mI M3 0 41 (nI r.length)) := SameM.I0 (j := 41)
              have hC4 : CoreM (mJ (mI M3 0 41 (nI r.length)) 0 31 (M3.2 18 r.length)) U ψ ns lim H n x fe fn fns [] [] r := (hC3.setFr s4a (by decide) (hC3.2.2.2.2.2.2.2.2.1.pop s4a (by decide) mI_at)).setF (hF3.2.2.2.2.1 h3)
              generalize hM5 : mI (mJ (mI M3 0 41 (nI r.length)) 0 31 (M3.2 18 r.length)) 0 34 (nI (fv ++ [w]).length) = M5
              have s45 : SameM [134] (mJ (mI M3 0 41 (nI r.length)) 0 31 (M3.2 18 r.length)) M5 := by rw [← hM5]; exact SameM.I0 (j := 34)
              have s35 : SameM [131, 134, 141] M3 M5 := by
                rw [← hM5]
                exact (s4a.t2 (SameM.J0 (j := 31)) (ids'' := [131, 141]) (by decide)).t2 (SameM.I0 (j := 34)) (by decide)
              have hfl := hF3.2.2.2.2.2.2.1
              dsimp only at hfl
              -- the values are copied
              have cp : ∀ (q j : Nat) (M6 : PM), j + q = (fv ++ [w]).length → SameM [14] M5 M6 → (∀ i a, i < j → (fv ++ [w])[i]? = some a → RTv U ψ ns (M6.2 14 i) a) → Ev (BM (d + 3) qX10_returns) Q 285 [some (.ref 0), some (.int (nI r.length)), some (.int (nI j))] [] M6 := by
                intro q
                induction q with
                | zero =>
                  intro j M6 hj hs6 hv6
                  have e34 : M6.1 0 34 = nI (fv ++ [w]).length := by rw [(hs6.2 34 (by decide)).1, ← hM5, mI_at]
                  repeat (refine ev_s rfl (?_ : Ev _ _ _ _ _ _))
                  rw [e34]
                  refine ev_icT rfl (show nI (fv ++ [w]).length ≤ nI j from nI_le (by omega) (by omega)) ?_
                  repeat (refine ev_s rfl (?_ : Ev _ _ _ _ _ _))
                  have s46 := s45.t2 hs6 (ids'' := [14, 134]) (by decide)
                  have s36 := s35.t2 hs6 (ids'' := [14, 131, 134, 141]) (by decide)
                  have hC6 := hC4.setVs (vs' := fv ++ [w]) s46 (by decide) ⟨e34, hfl, fun i a hi => hv6 i a (by have := (List.getElem?_eq_some_iff.mp hi).1; omega) hi⟩
                  have s06 : SameM IDK M M6 := s3.t2 s36 (by decide)
                  exact ev_reti rfl rfl trivial rfl (hq _ _ ⟨s06, rfl, U, ψ, _, _, hL3.core s36 (by decide) hC6, fun h9 => absurd h9 (by decide), fun _ => ⟨rfl, rfl⟩⟩)
                | succ q ih =>
                  intro j M6 hj hs6 hv6
                  have e34 : M6.1 0 34 = nI (fv ++ [w]).length := by rw [(hs6.2 34 (by decide)).1, ← hM5, mI_at]
                  have e19 : M6.2 19 = M3.2 19 := by rw [(hs6.1 19 (by decide) (by decide)).2, (s35.1 19 (by decide) (by decide)).2]
                  have ej : (fv ++ [w])[j]? = some (fv ++ [w])[j] := List.getElem?_eq_getElem (by omega)
                  generalize (fv ++ [w])[j] = a0 at ej
                  repeat (refine ev_s rfl (?_ : Ev _ _ _ _ _ _))
                  rw [e34]
                  refine ev_icF rfl (show ¬ nI (fv ++ [w]).length ≤ nI j from fun h9 => by have := (nI_leI (by omega) (by omega)).mp h9; omega) ?_
                  repeat (refine ev_s rfl (?_ : Ev _ _ _ _ _ _))
                  rw [Int32.mul_comm, nI10]
                  refine ev_lald rfl rfl (vp_in_nI (show 10 * r.length + j < 2000 by omega) (by decide)) ?_
                  rw [nI_clamp (by omega), e19]
                  refine ev_last rfl rfl (vp_in_nI (show j < 10 by omega) (by decide)) ?_
                  rw [nI_clamp (by omega)]
                  iterate 2 (refine ev_s rfl (?_ : Ev _ _ _ _ _ _))
                  rw [nI_1]
                  refine ih (j + 1) _ (by omega) (hs6.t2 (SameM.Jk (by decide)) (by decide)) (fun i a hi hia => ?_)
                  by_cases hij : i = j
                  · subst hij
                    rw [ej] at hia
                    cases hia
                    rw [mJ_at]
                    exact hF3.2.2.2.2.2.2.2 i a0 ej
                  · rw [mJ_ne (Or.inr hij)]
                    exact hv6 i a (by omega) hia
              exact cp _ 0 M5 (Nat.zero_add _) SameM.rf (fun i a hi => by omega)
            · rw [if_neg (fun h9 => hc5 (l0.mpr h9))] at hq
              repeat (refine ev_s rfl (?_ : Ev _ _ _ _ _ _))
              refine ev_cv rfl (as := [.ref 0, .int 5]) rfl rfl (Nat.le_of_ble_eq_true rfl) ?_
              refine k_fails ?_
              show Ev _ _ _ _ [.ref 5] _
              exact ev_s rfl (hq _ _ (hL3.f8 (c := 5) (s3.sub (by decide)) (by decide) (by decide)))
          rcases p2.int with ⟨m', w1, _, w3, w4, w5⟩ | ⟨m', w1, w4, w5⟩ | ⟨c', w1, w2, w3, w4, w5⟩
          · rw [w1]
            show Ev _ _ _ _ [.int 0] _
            refine ev_ifT rfl (show (0 : Int32) = 0 from rfl) ?_
            exact atom (by rw [w1]; rfl)
          · rw [w1]
            show Ev _ _ _ _ [.int 0] _
            refine ev_ifT rfl (show (0 : Int32) = 0 from rfl) ?_
            exact atom (by rw [w1]; rfl)
          · rw [w1]
            show Ev _ _ _ _ [.int 1] _
            refine ev_ifF rfl (show ¬ (1 : Int32) = 0 by decide) ?_
            have eh : aHd H l' = some (H (ψ c')).1 := by rw [w1]; rfl
            rw [eh] at hq
            dsimp only at hq
            repeat (refine ev_s rfl (?_ : Ev _ _ _ _ _ _))
            refine ev_lald rfl rfl (vp_in_nI t9 (by decide)) ?_
            rw [nI_clamp (by omega), e163]
            refine ev_cv rfl (as := [.ref 0, .long u]) rfl rfl (Nat.le_of_ble_eq_true rfl) ?_
            refine k_headOf hC3.1.2.2.2.2.2.2 p2 (fun y b6 b7 b8 => ?_) (fun b7 => by rw [eh] at b7; cases b7)
            rw [eh] at b7
            cases b7
            show Ev _ _ _ _ [.long y, .ref 0] _
            repeat (refine ev_s rfl (?_ : Ev _ _ _ _ _ _))
            exact ev_reti rfl rfl trivial rfl (hq _ _ (hL3.ev b8 (s3.sub (by decide))))
        · rw [p1] at hq
          exact hq _ _ ((h.core s2 (by decide) hC2).f8 (c := 5) (s2.sub (by decide)) (by decide) (by decide))
      · have he : fv.length = 10 := (nI_eq (b := 10) (by omega) (by decide)).mp (Decidable.not_not.mp hc)
        rw [if_neg (by omega)] at hq
        repeat (refine ev_s rfl (?_ : Ev _ _ _ _ _ _))
        refine ev_cv rfl (as := [.ref 0, .int 11]) rfl rfl (Nat.le_of_ble_eq_true rfl) ?_
        refine k_fails ?_
        show Ev _ _ _ _ [.ref 5] _
        exact ev_s rfl (hq _ _ (h.f8 (c := 11) SameM.rf (by decide) (by decide)))
end KR

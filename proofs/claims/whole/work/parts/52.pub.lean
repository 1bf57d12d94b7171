/-! The calls, abstractly, and the class's. -/
section PUB0
variable {M : PM} {fr : List Nat} {ψ : Nat → Nat} {ns lim : Nat} {H : AHp} {nid : Nat} {x e f : AV} {fns : List (Option AV)} {pe ha sk : List AV}
/-- how many cells the functions reach -/
noncomputable def aFns (H : AHp) (fns : List (Option AV)) (n : Nat) : Nat := acnt H (ARt fns (rts (aS 0) (aS 0) (aS 0) [] [] []) (aS 0) (aS 0)) n
theorem core_reached {d : Nat} (hC : CoreA M fr ψ ns lim H nid (aS 0) (aS 0) (aS 0) fns [] [] []) (hns : 0 < ns) {Q : Option (Option Value) → PM → Prop}
    (h : ∀ M' fr', CoreA M' fr' ψ ns lim H nid (aS 0) (aS 0) (aS 0) fns [] [] [] → Same [17, 21, 22, 23] M M' → aFns H fns nid ≤ 2000 → Q (some (some (.int (nI (aFns H fns nid))))) M') : SC (d + 3) 11 [.ref 17] M Q := by
  have h0 : Tv fr ψ ns 0 (aS 0) := Tv.lN (k := 0) hns (by decide)
  obtain ⟨fu, pe0, ha0, sk0, hR, hRA⟩ := hC.rootsA h0 h0
  have hm := hC.1
  obtain ⟨m1, m2, m3, m4, m5, m6⟩ := id hm
  have rt : ∀ v a', Tv fr ψ ns v a' → (∀ i, a' = aC i → AR H (ARt fns (rts (aS 0) (aS 0) (aS 0) [] [] []) (aS 0) (aS 0)) i) → isC v → RC (M.2 19) (M.2 20) (RootsC M fu pe0 ha0 sk0 0 0) (cix v) := by
    intro v a' hv9 hA hc
    obtain ⟨c, c1, c2, c3, c4⟩ := AR_RC hm.2.2.2.2.2 hRA.2 (hA _ (hv9.cell hc))
    obtain ⟨k1, k2, -⟩ := hv9.1.cell hc
    have := hm.2.2.2.2.2.2 _ _ c1 c2 k1 k2 c3
    rw [← this]; exact c4
  refine cell_rbf m2 hR (fun M' fr' X f1 f5 f3 f6 f7 f8 => ?_)
  have g5 : ∀ k, RC (M.2 19) (M.2 20) (RootsC M fu pe0 ha0 sk0 0 0) k → k ∉ fr' := fun k hk h9 => by
    have := ((f5 k).mp h9).2
    rw [(f3 k).mpr hk] at this
    cases this
  have hk : Kept fr ψ ns H (ARt fns (rts (aS 0) (aS 0) (aS 0) [] [] []) (aS 0) (aS 0)) fr' ψ := fun v a' hv9 hA => by
    have h8 := rt v a' hv9 hA
    exact ⟨hv9.1.ofRC (fun hc => g5 _ (h8 hc)), hv9.2⟩
  have hm' : MemC M' fr' ns ψ H nid lim := by
    refine ⟨f1, f6, by rw [f8.1]; exact m3, m4, by rw [f8.2]; exact m5, ?_⟩
    refine (m6.shrink hRA (fun k hk hkf => (f3 k).mp ?_) g5).heads (f7 19 (by decide)).2 (f7 20 (by decide)).2
    cases hx : X k with
    | true => rfl
    | false => exact (hkf ((f5 k).mpr ⟨hk, hx⟩)).elim
  unfold aFns at h
  rw [← cnt_eq m6 hRA f3] at h
  refine h M' fr' ?_ f7 (cntB_le X 2000)
  obtain ⟨h1, h2, h3, h4, h5, h6, h7, h8, h9⟩ := hC
  have e1 := (f7 1 (by decide)).2
  have inR : ∀ w, w ∈ rts (aS 0) (aS 0) (aS 0) [] [] [] → ARt fns (rts (aS 0) (aS 0) (aS 0) [] [] []) (aS 0) (aS 0) w := fun w hw => Or.inr (Or.inl hw)
  refine ⟨hm', h2, ?_, ?_, ?_, RowF.kept hk h6 (fun v hv => Or.inl hv) f7 (by decide) (by decide), RowA.kept hk h7 (fun v hv => inR v (by simp at hv)) f7 (by decide) (by decide), RowA.kept hk h8 (fun v hv => inR v (by simp at hv)) f7 (by decide) (by decide), RowA.kept hk h9 (fun v hv => inR v (by simp at hv)) f7 (by decide) (by decide)⟩
  · rw [e1]; exact hk _ _ h3 (fun i e9 => by cases e9)
  · rw [e1]; exact hk _ _ h4 (fun i e9 => by cases e9)
  · rw [e1]; exact hk _ _ h5 (fun i e9 => by cases e9)
theorem CoreA.setLim (h : CoreA M fr ψ ns lim H nid x e f fns pe ha sk) {k : Nat} (hk : k ≤ 2000) : CoreA (mI M 17 8 (nI k)) fr ψ ns k H nid x e f fns pe ha sk := by
  obtain ⟨⟨⟨a1, a2, a3, a4⟩, m2, m3, m4, m5, m6⟩, h2, h3, h4, h5, h6, h7, h8, h9⟩ := h
  have hs : Same [17] M (mI M 17 8 (nI k)) := Same.I
  refine ⟨⟨⟨by rw [mI_ne (Or.inr (by decide))]; exact a1, a2, a3, fun i c hi => by rw [mI_ne (Or.inl (by decide))]; exact a4 i c hi⟩, fun c hc => by rw [mI_ne (Or.inl (by decide))]; exact m2 c hc, mI_at, hk, by rw [mI_ne (Or.inr (by decide))]; exact m5, m6.heads rfl rfl⟩, h2, h3, h4, h5, h6.same hs (by decide) (by decide), h7.same hs (by decide) (by decide), h8.same hs (by decide) (by decide), h9.same hs (by decide) (by decide)⟩
theorem cell_made {d : Nat} {Q : Option (Option Value) → PM → Prop} (h : Q (some (some (.int (M.1 17 9)))) M) : SC (d + 1) 5 [.ref 17] M Q := by
  refine ⟨qX1_made, rfl, ⟨Nat.le_of_ble_eq_true rfl, rfl, 17, _, _, rfl, rfl⟩, ?_⟩
  show Ev (BC (d) qX1_made) Q 0 [some (.ref 17)] [] M
  repeat (refine ev_s rfl (?_ : Ev _ _ _ _ _ _))
  exact ev_reti rfl rfl trivial rfl h
theorem cell_limit {d : Nat} {Q : Option (Option Value) → PM → Prop} (h : Q (some (some (.int (M.1 17 8)))) M) : SC (d + 1) 6 [.ref 17] M Q := by
  refine ⟨qX1_limit, rfl, ⟨Nat.le_of_ble_eq_true rfl, rfl, 17, _, _, rfl, rfl⟩, ?_⟩
  show Ev (BC (d) qX1_limit) Q 0 [some (.ref 17)] [] M
  repeat (refine ev_s rfl (?_ : Ev _ _ _ _ _ _))
  exact ev_reti rfl rfl trivial rfl h
theorem cell_setLimit {d : Nat} {y : Int32} {Q : Option (Option Value) → PM → Prop} (h : Q (some none) (mI M 17 8 y)) : SC (d + 1) 7 [.ref 17, .int y] M Q := by
  refine ⟨qX1_setLimit, rfl, ⟨Nat.le_of_ble_eq_true rfl, rfl, 17, _, _, rfl, rfl⟩, ?_⟩
  show Ev (BC (d) qX1_setLimit) Q 0 [some (.ref 17), some (.int y)] [] M
  repeat (refine ev_s rfl (?_ : Ev _ _ _ _ _ _))
  exact ev_retv rfl rfl h
theorem m_fault {d : Nat} {Q : Option (Option Value) → PM → Prop} (h : Q (some (some (.int (M.1 27 10)))) M) : SC (d + 1) 16 [.ref 27] M Q := by
  refine ⟨qX2_fault, rfl, ⟨Nat.le_of_ble_eq_true rfl, rfl, 27, _, _, rfl, rfl⟩, ?_⟩
  show Ev (BC (d) qX2_fault) Q 0 [some (.ref 27)] [] M
  repeat (refine ev_s rfl (?_ : Ev _ _ _ _ _ _))
  exact ev_reti rfl rfl trivial rfl h
theorem m_answer {d : Nat} {Q : Option (Option Value) → PM → Prop} (h : Q (some (some (.long (M.2 27 12)))) M) : SC (d + 1) 17 [.ref 27] M Q := by
  refine ⟨qX2_answer, rfl, ⟨Nat.le_of_ble_eq_true rfl, rfl, 27, _, _, rfl, rfl⟩, ?_⟩
  show Ev (BC (d) qX2_answer) Q 0 [some (.ref 27)] [] M
  repeat (refine ev_s rfl (?_ : Ev _ _ _ _ _ _))
  exact ev_retl rfl rfl h
theorem m_fuelTaken {d : Nat} {Q : Option (Option Value) → PM → Prop} (h : Q (some (some (.int (M.1 27 9)))) M) : SC (d + 1) 18 [.ref 27] M Q := by
  refine ⟨qX2_fuelTaken, rfl, ⟨Nat.le_of_ble_eq_true rfl, rfl, 27, _, _, rfl, rfl⟩, ?_⟩
  show Ev (BC (d) qX2_fuelTaken) Q 0 [some (.ref 27)] [] M
  repeat (refine ev_s rfl (?_ : Ev _ _ _ _ _ _))
  exact ev_reti rfl rfl trivial rfl h
theorem m_mostFrames {d : Nat} {Q : Option (Option Value) → PM → Prop} (h : Q (some (some (.int (M.1 27 7)))) M) : SC (d + 1) 19 [.ref 27] M Q := by
  refine ⟨qX2_mostFrames, rfl, ⟨Nat.le_of_ble_eq_true rfl, rfl, 27, _, _, rfl, rfl⟩, ?_⟩
  show Ev (BC (d) qX2_mostFrames) Q 0 [some (.ref 27)] [] M
  repeat (refine ev_s rfl (?_ : Ev _ _ _ _ _ _))
  exact ev_reti rfl rfl trivial rfl h
theorem present_l {d : Nat} {l : List Int64} (hR : RowIs M 9 10 300 l) {Q : Option (Option Value) → PM → Prop} (h : Q (some (some (.int (nI (l.filter (fun v => decide (v ≠ -1))).length)))) M) : SC (d + 1) 88 [.ref 9] M Q := by
  refine ⟨qX6_present, rfl, ⟨Nat.le_of_ble_eq_true rfl, rfl, 9, _, _, rfl, rfl⟩, ?_⟩
  show Ev (BC (d) qX6_present) Q 0 [some (.ref 9), none, none] [] M
  obtain ⟨r1, r2, r3⟩ := id hR
  have loop : ∀ (m j : Nat), j + m = l.length → Ev (BC d qX6_present) Q 4 [some (.ref 9), some (.int (nI ((l.take j).filter (fun v => decide (v ≠ -1))).length)), some (.int (nI j))] [] M := by
    intro m
    induction m with
    | zero =>
      intro j hj
      repeat (refine ev_s rfl (?_ : Ev _ _ _ _ _ _))
      rw [r1]
      refine ev_icT rfl (show nI l.length ≤ nI j from nI_le (by omega) (by omega)) ?_
      repeat (refine ev_s rfl (?_ : Ev _ _ _ _ _ _))
      rw [List.take_of_length_le (by omega)]
      exact ev_reti rfl rfl trivial rfl h
    | succ m ih =>
      intro j hj
      have hjl : j < l.length := by omega
      have ej : l[j]? = some l[j] := List.getElem?_eq_getElem hjl
      have et : l.take (j + 1) = l.take j ++ [l[j]] := by rw [List.take_succ, ej]; rfl
      have hn := ih (j + 1) (by omega)
      repeat (refine ev_s rfl (?_ : Ev _ _ _ _ _ _))
      rw [r1]
      refine ev_icF rfl (show ¬ nI l.length ≤ nI j from fun h9 => by have := (nI_leI (by omega) (by omega)).mp h9; omega) ?_
      repeat (refine ev_s rfl (?_ : Ev _ _ _ _ _ _))
      refine ev_lald rfl rfl (vp_in_nI (show j < 300 by omega) (by decide)) ?_
      rw [nI_clamp (by omega), r3 j _ ej]
      repeat (refine ev_s rfl (?_ : Ev _ _ _ _ _ _))
      refine ev_lif rfl (fun hc => ?_) (fun hc => ?_)
      · iterate 2 (refine ev_s rfl (?_ : Ev _ _ _ _ _ _))
        rw [nI_1]
        rw [et, List.filter_append, List.filter_cons_of_neg (by simp; exact hc), List.filter_nil, List.append_nil] at hn
        exact hn
      · iterate 3 (refine ev_s rfl (?_ : Ev _ _ _ _ _ _))
        rw [nI_1, nI_1]
        rw [et, List.filter_append, List.filter_cons_of_pos (by simp; exact hc), List.filter_nil, List.length_append] at hn
        exact hn
  iterate 4 (refine ev_s rfl (?_ : Ev _ _ _ _ _ _))
  exact loop l.length 0 (by omega)
end PUB0
/-- the tape, the page, the names, the functions, heap, cells made, room, place, fuel taken, most frames -/
abbrev YS : Type := List Nat × List Nat × List (List Nat) × List (Option AV) × AHp × Nat × Nat × Int32 × Nat × Nat
noncomputable def yDefine (S : YS) (N : Nat) : Int32 × YS := match S with
  | (tp, pa, nm, fns, H, n, lim, _, tk, mo) => match rName (tp.take N) nm with
    | .inr (c, p) => (nI c, [], pa, nm, fns, H, n, lim, nI p, tk, mo)
    | .inl (k, q, nm') => match rAll lim fns (tp.take N) 2000 (q, [], [], none, nm', H, n) with
      | .inl (a, nm2, H2, n2) => (0, [], pa, nm2, fns.set k (some a), H2, n2, lim, -1, tk, mo)
      | .inr (c, p, nm2, H2, n2) => (nI c, [], pa, nm2, fns, H2, n2, lim, nI p, tk, mo)
noncomputable def yEcho (S : YS) (N : Nat) : Int32 × YS := match S with
  | (tp, _, nm, fns, H, n, lim, _, tk, mo) => match rAll lim fns (tp.take N) 2000 (0, [], [], none, nm, H, n) with
    | .inl (a, nm2, H2, n2) => (0, [], pg (pTxt nm2 H2 2000 a []), nm2, fns, H2, n2, lim, -1, tk, mo)
    | .inr (c, p, nm2, H2, n2) => (nI c, [], [], nm2, fns, H2, n2, lim, nI p, tk, mo)
noncomputable def yEval (S : YS) (N fuel : Nat) : Int32 × YS := match S with
  | (tp, _, nm, fns, H, n, lim, _, _, _) => match rAll lim fns (tp.take N) 2000 (0, [], [], none, nm, H, n) with
    | .inl (a, nm2, H2, n2) => match aRun lim fns 20001 (1, a, aS 0, aS 0, aS 0, [], [], fuel, 0, H2, n2) with
      | ((c, fl, mo, H3, n3), v) => (nI c, [], if c = 0 then pg (pTxt nm2 H3 2000 v []) else [], nm2, fns, H3, n3, lim, -1, fuel - fl, mo)
    | .inr (c, p, nm2, H2, n2) => (nI c, [], [], nm2, fns, H2, n2, lim, nI p, 0, 0)
def yFeed (S : YS) (a b c d e : Int32) : Int32 × YS := match S with
  | (tp, r) => if tp.length + 20 ≤ 2000 then (nI (tp.length + 20), tp ++ (b4 a ++ (b4 b ++ (b4 c ++ (b4 d ++ b4 e)))), r) else (-1, tp, r)
noncomputable def yRoom (S : YS) (N : Nat) : Int32 × YS := match S with
  | (tp, pa, nm, fns, H, n, lim, pl, tk, mo) => if aFns H fns n ≤ N then (nI (aFns H fns n), tp, pa, nm, fns, H, n, N, pl, tk, mo) else (-1, tp, pa, nm, fns, H, n, lim, pl, tk, mo)
noncomputable def yCount (S : YS) (k : Int32) : Int32 := match S with
  | (tp, pa, nm, fns, H, n, lim, _, tk, mo) => if k = 0 then nI nm.length else if k = 1 then nI (aFns H fns n) else if k = 2 then nI tk else if k = 3 then nI mo else if k = 4 then nI n else if k = 5 then nI pa.length else if k = 6 then nI tp.length else if k = 7 then nI lim else if k = 8 then nI (fns.filter Option.isSome).length else -1
noncomputable def yFun (S : YS) (k : Int32) : Int32 × YS := match S with
  | (tp, pa, nm, fns, H, n, lim, pl, tk, mo) => match (if 0 ≤ k then (fns[k.toNatClampNeg]?).join else none) with
    | some a => (nI (pg (pTxt nm H 2000 a [])).length, tp, pg (pTxt nm H 2000 a []), nm, fns, H, n, lim, pl, tk, mo)
    | none => (-1, tp, pa, nm, fns, H, n, lim, pl, tk, mo)
/-- the class between calls -/
def YC (M : PM) (S : YS) : Prop := match S with
  | (tp, pa, nm, fns, H, n, lim, pl, tk, mo) => (∃ fr ψ, IdleA M fr ψ nm.length lim H n fns) ∧ SymIs M nm ∧ BytesIs M 2 3 tp ∧ BytesIs M 4 5 pa ∧ (∃ l, RowIs M 32 33 2000 l) ∧ fns.length = 300 ∧ M.1 24 10 = pl ∧ M.1 27 9 = nI tk ∧ M.1 27 7 = nI mo
abbrev BX (d : Nat) (q : PMeth) (X : Nat → List (Option Value) → List Value → PM → Prop) : PBody := (ShC, p_sem MT ShC d, q.hn, q.ret, q.code, X)
theorem ev_exit {B : PBody} {Q : Option (Option Value) → PM → Prop} {pc : Nat} {L : List (Option Value)} {st : List Value} {M : PM} (hc : B.2.2.2.2.1 pc = none) (h : B.2.2.2.2.2 pc L st M) : Ev B Q pc L st M := by
  refine Ev.step ?_
  unfold p_st
  rw [hc]
  exact h

/-! Rows of codes; the machine's methods that change its state. -/
section ROWA
variable {M : PM} {fr : List Nat} {ψ : Nat → Nat} {ns r a n : Nat} {as : List AV}
theorem rowA_size {d : Nat} (hr : isRow r a n) (h : RowA M fr ψ ns r a n as) {Q : Option (Option Value) → PM → Prop} (hq : Q (some (some (.int (nI as.length)))) M) : SC (d + 1) 83 [.ref r] M Q := by
  obtain ⟨l, k1, k2, k3⟩ := h
  refine row_size hr ?_
  rw [k1.1]
  rw [k2, List.length_map] at hq
  exact hq
theorem RowA.len (h : RowA M fr ψ ns r a n as) : as.length ≤ n := by
  obtain ⟨l, k1, k2, k3⟩ := h
  rw [k2, List.length_map]; exact k1.2.1
theorem rowA_at {d : Nat} (hr : isRow r a n) (h : RowA M fr ψ ns r a n as) {i : Nat} {b : AV} (hb : as[i]? = some b) {Q : Option (Option Value) → PM → Prop} (hq : ∀ w, Tv fr ψ ns w b → Q (some (some (.long w))) M) : SC (d + 1) 84 [.ref r, .int (nI i)] M Q := by
  obtain ⟨l, k1, k2, k3⟩ := h
  have hi : i < as.length := (List.getElem?_eq_some_iff.mp hb).1
  rw [k2, List.length_map] at hi
  refine row_at hr k1 ?_
  rw [rowAt_nI (by have := k1.2.1; have := hr.2.2.1; omega), List.getElem?_eq_getElem hi]
  refine hq _ ⟨k3 _ (List.getElem_mem hi), ?_⟩
  rw [k2, List.getElem?_map, List.getElem?_eq_getElem hi] at hb
  exact Option.some.inj hb
theorem rowA_add {d : Nat} (hr : isRow r a n) (h : RowA M fr ψ ns r a n as) {v : Int64} {b : AV} (hv : Tv fr ψ ns v b) (hi : as.length < n) {Q : Option (Option Value) → PM → Prop} (hq : ∀ M', RowA M' fr ψ ns r a n (as ++ [b]) → Same [r, a] M M' → Q (some none) M') : SC (d + 1) 86 [.ref r, .long v] M Q := by
  obtain ⟨l, k1, k2, k3⟩ := h
  rw [k2, List.length_map] at hi
  refine row_add hr k1 hi (fun M' g1 g2 => hq M' ⟨l ++ [v], g1, ?_, fun w hw => ?_⟩ g2)
  · rw [k2, List.map_append, List.map_cons, List.map_nil, hv.2]
  · rw [List.mem_append, List.mem_singleton] at hw
    rcases hw with hw | rfl
    · exact k3 w hw
    · exact hv.1
theorem rowA_put {d : Nat} (hr : isRow r a n) (h : RowA M fr ψ ns r a n as) {v : Int64} {b : AV} {i : Nat} (hv : Tv fr ψ ns v b) (hi : i < as.length) {Q : Option (Option Value) → PM → Prop} (hq : ∀ M', RowA M' fr ψ ns r a n (as.set i b) → Same [a] M M' → Q (some none) M') : SC (d + 1) 85 [.ref r, .int (nI i), .long v] M Q := by
  obtain ⟨l, k1, k2, k3⟩ := h
  rw [k2, List.length_map] at hi
  refine row_put hr k1 hi (fun M' g1 g2 => hq M' ⟨l.set i v, g1, ?_, fun w hw => ?_⟩ g2)
  · rw [k2, List.map_set, hv.2]
  · rcases List.mem_or_eq_of_mem_set hw with hw | rfl
    · exact k3 w hw
    · exact hv.1
theorem rowA_cut {d : Nat} (hr : isRow r a n) (h : RowA M fr ψ ns r a n as) {i : Nat} (hi : i ≤ as.length) {Q : Option (Option Value) → PM → Prop} (hq : ∀ M', RowA M' fr ψ ns r a n (as.take i) → Same [r] M M' → Q (some none) M') : SC (d + 1) 87 [.ref r, .int (nI i)] M Q := by
  obtain ⟨l, k1, k2, k3⟩ := h
  rw [k2, List.length_map] at hi
  refine row_cut hr k1 hi (fun M' g1 g2 => hq M' ⟨l.take i, g1, ?_, fun w hw => k3 w (List.mem_of_mem_take hw)⟩ g2)
  rw [k2, List.map_take]
end ROWA
theorem ev_max {B : PBody} {Q : Option (Option Value) → PM → Prop} {pc nx i k : Nat} {ts0 : List Nat} {cv : Value} {L : List (Option Value)} {r : List Value} {M : PM} {x y : Int32} (hc : B.2.2.2.2.1 pc = some (.invokestatic i, nx, k, 1000, ts0, cv)) (hr : (r.map fun v => v.category).sum ≤ 8) (h : Ev B Q nx L (.int (if x < y then y else x) :: r) M) : Ev B Q pc L (.int y :: .int x :: r) M := by
  refine ev_s hc ?_
  unfold p_ex
  dsimp only
  rw [if_pos rfl]
  exact ⟨hr, h⟩
section SETS
variable {M : PM} {fr : List Nat} {ψ : Nat → Nat} {ns lim : Nat} {H : AHp} {nid : Nat} {x e f : AV} {fns : List (Option AV)} {pe ha sk : List AV} {frs : List AF} {fl mo : Nat}
theorem CoreA.set1 (h : CoreA M fr ψ ns lim H nid x e f fns pe ha sk) {M' : PM} {x' e' f' : AV} (hs : Same [1] M M') (hx : Tv fr ψ ns (M'.2 1 4) x') (he : Tv fr ψ ns (M'.2 1 5) e') (hf : Tv fr ψ ns (M'.2 1 6) f') : CoreA M' fr ψ ns lim H nid x' e' f' fns pe ha sk := by
  obtain ⟨h1, h2, h3, h4, h5, h6, h7, h8, h9⟩ := h
  exact ⟨h1.same hs (by decide), h2, hx, he, hf, h6.same hs (by decide) (by decide), h7.same hs (by decide) (by decide), h8.same hs (by decide) (by decide), h9.same hs (by decide) (by decide)⟩
theorem CoreA.setX (h : CoreA M fr ψ ns lim H nid x e f fns pe ha sk) {v : Int64} {a : AV} (hv : Tv fr ψ ns v a) : CoreA (mJ M 1 4 v) fr ψ ns lim H nid a e f fns pe ha sk :=
  h.set1 Same.J (by rw [mJ_at]; exact hv) (by rw [mJ_ne (Or.inr (by decide))]; exact h.2.2.2.1) (by rw [mJ_ne (Or.inr (by decide))]; exact h.2.2.2.2.1)
theorem CoreA.setE (h : CoreA M fr ψ ns lim H nid x e f fns pe ha sk) {v : Int64} {a : AV} (hv : Tv fr ψ ns v a) : CoreA (mJ M 1 5 v) fr ψ ns lim H nid x a f fns pe ha sk :=
  h.set1 Same.J (by rw [mJ_ne (Or.inr (by decide))]; exact h.2.2.1) (by rw [mJ_at]; exact hv) (by rw [mJ_ne (Or.inr (by decide))]; exact h.2.2.2.2.1)
theorem CoreA.setF (h : CoreA M fr ψ ns lim H nid x e f fns pe ha sk) {v : Int64} {a : AV} (hv : Tv fr ψ ns v a) : CoreA (mJ M 1 6 v) fr ψ ns lim H nid x e a fns pe ha sk :=
  h.set1 Same.J (by rw [mJ_ne (Or.inr (by decide))]; exact h.2.2.1) (by rw [mJ_ne (Or.inr (by decide))]; exact h.2.2.2.1) (by rw [mJ_at]; exact hv)
theorem CoreA.setHa (h : CoreA M fr ψ ns lim H nid x e f fns pe ha sk) {M' : PM} {ids : List Nat} {ha' : List AV} (hs : Same ids M M') (hd : ∀ k ∈ [1, 9, 10, 11, 12, 15, 16, 17, 19, 20, 21, 22], k ∉ ids) (hr : RowA M' fr ψ ns 13 14 10 ha') : CoreA M' fr ψ ns lim H nid x e f fns pe ha' sk := by
  obtain ⟨h1, h2, h3, h4, h5, h6, h7, h8, h9⟩ := h
  have e1 := (hs 1 (hd 1 (by decide))).2
  exact ⟨h1.same hs (fun k hk => hd k (by simp at hk ⊢; omega)), h2, by rw [e1]; exact h3, by rw [e1]; exact h4, by rw [e1]; exact h5, h6.same hs (hd 9 (by decide)) (hd 10 (by decide)), h7.same hs (hd 11 (by decide)) (hd 12 (by decide)), hr, h9.same hs (hd 15 (by decide)) (hd 16 (by decide))⟩
theorem CoreA.setSk (h : CoreA M fr ψ ns lim H nid x e f fns pe ha sk) {M' : PM} {ids : List Nat} {sk' : List AV} (hs : Same ids M M') (hd : ∀ k ∈ [1, 9, 10, 11, 12, 13, 14, 17, 19, 20, 21, 22], k ∉ ids) (hr : RowA M' fr ψ ns 15 16 2600 sk') : CoreA M' fr ψ ns lim H nid x e f fns pe ha sk' := by
  obtain ⟨h1, h2, h3, h4, h5, h6, h7, h8, h9⟩ := h
  have e1 := (hs 1 (hd 1 (by decide))).2
  exact ⟨h1.same hs (fun k hk => hd k (by simp at hk ⊢; omega)), h2, by rw [e1]; exact h3, by rw [e1]; exact h4, by rw [e1]; exact h5, h6.same hs (hd 9 (by decide)) (hd 10 (by decide)), h7.same hs (hd 11 (by decide)) (hd 12 (by decide)), h8.same hs (hd 13 (by decide)) (hd 14 (by decide)), hr⟩
theorem CoreA.setPe (h : CoreA M fr ψ ns lim H nid x e f fns pe ha sk) {M' : PM} {ids : List Nat} {pe' : List AV} (hs : Same ids M M') (hd : ∀ k ∈ [1, 9, 10, 13, 14, 15, 16, 17, 19, 20, 21, 22], k ∉ ids) (hr : RowA M' fr ψ ns 11 12 2000 pe') : CoreA M' fr ψ ns lim H nid x e f fns pe' ha sk := by
  obtain ⟨h1, h2, h3, h4, h5, h6, h7, h8, h9⟩ := h
  have e1 := (hs 1 (hd 1 (by decide))).2
  exact ⟨h1.same hs (fun k hk => hd k (by simp at hk ⊢; omega)), h2, by rw [e1]; exact h3, by rw [e1]; exact h4, by rw [e1]; exact h5, h6.same hs (hd 9 (by decide)) (hd 10 (by decide)), hr, h8.same hs (hd 13 (by decide)) (hd 14 (by decide)), h9.same hs (hd 15 (by decide)) (hd 16 (by decide))⟩
end SETS
section MACH
variable {M : PM} {fr : List Nat} {ψ : Nat → Nat} {ns lim : Nat} {H : AHp} {nid : Nat} {x e f : AV} {fns : List (Option AV)} {ha : List AV} {frs : List AF} {fl mo : Nat}
theorem m_emptyHand {d : Nat} (hL : LiveA M fr ψ ns lim H nid x e f fns ha frs fl mo) {Q : Option (Option Value) → PM → Prop} (h : ∀ M', LiveA M' fr ψ ns lim H nid x e (aS 0) fns [] frs fl mo → Same [1, 13] M M' → Q (some none) M') : SC (d + 2) 23 [.ref 27] M Q := by
  refine ⟨qX2_emptyHand, rfl, ⟨Nat.le_of_ble_eq_true rfl, rfl, 27, _, _, rfl, rfl⟩, ?_⟩
  show Ev (BC (d + 1) qX2_emptyHand) Q 0 [some (.ref 27)] [] M
  repeat (refine ev_s rfl (?_ : Ev _ _ _ _ _ _))
  have h1 := hL.1.setF (v := 0) (hL.nil (k := 0) (by decide))
  refine ev_cv rfl (as := [.ref 13, .int (nI 0)]) rfl rfl (Nat.le_of_ble_eq_true rfl) ?_
  refine rowA_cut r_hand h1.2.2.2.2.2.2.2.1 (Nat.zero_le _) (fun M' g1 g2 => ?_)
  show Ev _ _ _ _ [] _
  have hs : Same [1, 13] M M' := (Same.J.tr g2).sub (by decide)
  exact ev_retv rfl rfl (h M' (hL.core (h1.setHa g2 (by decide) g1) hs (by decide)) hs)
theorem m_give {d : Nat} {v : Int64} {a : AV} (hL : LiveA M fr ψ ns lim H nid x e f fns ha frs fl mo) (hv : Tv fr ψ ns v a) {Q : Option (Option Value) → PM → Prop} (h : ∀ M', PostM ns lim fns M (aRet x e a frs fl mo H nid) M' → Q (some none) M') : SC (d + 3) 26 [.ref 27, .long v] M Q := by
  refine ⟨qX2_give, rfl, ⟨Nat.le_of_ble_eq_true rfl, rfl, 27, _, _, rfl, rfl⟩, ?_⟩
  show Ev (BC (d + 2) qX2_give) Q 0 [some (.ref 27), some (.long v), none] [] M
  repeat (refine ev_s rfl (?_ : Ev _ _ _ _ _ _))
  rw [hL.2.2.2.2.1]
  refine ev_ifF rfl (show ¬ ¬ (0 : Int32) = 0 by decide) ?_
  repeat (refine ev_s rfl (?_ : Ev _ _ _ _ _ _))
  refine ev_cv rfl (as := [.ref 27]) rfl rfl (Nat.le_of_ble_eq_true rfl) ?_
  refine m_emptyHand hL (fun M' g1 g2 => ?_)
  show Ev _ _ _ _ [] _
  repeat (refine ev_s rfl (?_ : Ev _ _ _ _ _ _))
  have hs : Same [27] M' (mI (mJ M' 27 12 v) 27 11 2) := (Same.J.tr Same.I).sub (by decide)
  refine ev_retv rfl rfl (h _ ⟨(g2.tr hs).sub (by decide), fr, ψ, g1.same hs (by decide) ?_ ?_ ?_ ?_, mI_at, fun _ => ?_⟩)
  · rw [mI_ne (Or.inr (by decide)), mJ_1]
  · rw [mI_ne (Or.inr (by decide)), mJ_1]
  · rw [mI_ne (Or.inr (by decide)), mJ_1]
  · rw [mI_ne (Or.inr (by decide)), mJ_1]
  · rw [mI_2, mJ_at]; exact hv
theorem m_give_d {d : Nat} {v : Int64} (hD : Dd M) {Q : Option (Option Value) → PM → Prop} (h : Q (some none) M) : SC (d + 3) 26 [.ref 27, .long v] M Q := by
  refine ⟨qX2_give, rfl, ⟨Nat.le_of_ble_eq_true rfl, rfl, 27, _, _, rfl, rfl⟩, ?_⟩
  show Ev (BC (d + 2) qX2_give) Q 0 [some (.ref 27), some (.long v), none] [] M
  repeat (refine ev_s rfl (?_ : Ev _ _ _ _ _ _))
  refine ev_ifT rfl (show ¬ M.1 27 10 = 0 from hD.1) ?_
  exact ev_retv rfl rfl h
theorem m_next {d : Nat} {v : Int64} {a : AV} (hL : LiveA M fr ψ ns lim H nid x e f fns ha frs fl mo) (hv : Tv fr ψ ns v a) {Q : Option (Option Value) → PM → Prop} (h : ∀ M', PostM ns lim fns M (aEv a e frs fl mo H nid) M' → Q (some none) M') : SC (d + 3) 27 [.ref 27, .long v] M Q := by
  refine ⟨qX2_evaluateNext, rfl, ⟨Nat.le_of_ble_eq_true rfl, rfl, 27, _, _, rfl, rfl⟩, ?_⟩
  show Ev (BC (d + 2) qX2_evaluateNext) Q 0 [some (.ref 27), some (.long v), none] [] M
  repeat (refine ev_s rfl (?_ : Ev _ _ _ _ _ _))
  rw [hL.2.2.2.2.1]
  refine ev_ifF rfl (show ¬ ¬ (0 : Int32) = 0 by decide) ?_
  repeat (refine ev_s rfl (?_ : Ev _ _ _ _ _ _))
  refine ev_cv rfl (as := [.ref 27]) rfl rfl (Nat.le_of_ble_eq_true rfl) ?_
  refine m_emptyHand hL (fun M' g1 g2 => ?_)
  show Ev _ _ _ _ [] _
  repeat (refine ev_s rfl (?_ : Ev _ _ _ _ _ _))
  have g3 := g1.core (g1.1.setX hv) Same.J (by decide)
  have hs : Same [27] (mJ M' 1 4 v) (mI (mJ M' 1 4 v) 27 11 1) := Same.I
  refine ev_retv rfl rfl (h _ ⟨((g2.tr Same.J).tr hs).sub (by decide), fr, ψ, g3.same hs (by decide) ?_ ?_ ?_ ?_, mI_at, fun h9 => by omega⟩)
  · rw [mI_ne (Or.inr (by decide))]
  · rw [mI_ne (Or.inr (by decide))]
  · rw [mI_ne (Or.inr (by decide))]
  · rw [mI_ne (Or.inr (by decide))]
theorem m_next_d {d : Nat} {v : Int64} (hD : Dd M) {Q : Option (Option Value) → PM → Prop} (h : Q (some none) M) : SC (d + 3) 27 [.ref 27, .long v] M Q := by
  refine ⟨qX2_evaluateNext, rfl, ⟨Nat.le_of_ble_eq_true rfl, rfl, 27, _, _, rfl, rfl⟩, ?_⟩
  show Ev (BC (d + 2) qX2_evaluateNext) Q 0 [some (.ref 27), some (.long v), none] [] M
  repeat (refine ev_s rfl (?_ : Ev _ _ _ _ _ _))
  refine ev_ifT rfl (show ¬ M.1 27 10 = 0 from hD.1) ?_
  exact ev_retv rfl rfl h
abbrev IDC : List Nat := [17, 19, 20, 21, 22, 23]
theorem m_cons {d : Nat} {hv tv : Int64} {a b : AV} (hL : LiveA M fr ψ ns lim H nid x e f fns ha frs fl mo) (hh : Tv fr ψ ns hv a) (ht : Tv fr ψ ns tv b) {Q : Option (Option Value) → PM → Prop}
    (hok : acnt H (ARt fns (rts x e f [] ha (flatA frs)) a b) nid < lim → ∀ M' fr' ψ' v, LiveA M' fr' ψ' ns lim (ahUp H nid a b) (nid + 1) x e f fns ha frs fl mo → Tv fr' ψ' ns v (aC nid) → Kept fr ψ ns H (ARt fns (rts x e f [] ha (flatA frs)) a b) fr' ψ' → Same IDC M M' → Q (some (some (.long v))) M')
    (hno : ¬ acnt H (ARt fns (rts x e f [] ha (flatA frs)) a b) nid < lim → ∀ M', Dd M' → PostM ns lim fns M (aFl 8 fl mo H nid) M' → Q (some (some (.long (-1)))) M') : SC (d + 4) 32 [.ref 27, .long hv, .long tv] M Q := by
  refine ⟨qX2_cons, rfl, ⟨Nat.le_of_ble_eq_true rfl, rfl, 27, _, _, rfl, rfl⟩, ?_⟩
  show Ev (BC (d + 3) qX2_cons) Q 0 [some (.ref 27), some (.long hv), none, some (.long tv), none, none, none] [] M
  repeat (refine ev_s rfl (?_ : Ev _ _ _ _ _ _))
  rw [hL.2.2.2.2.1]
  refine ev_ifT rfl (show (0 : Int32) = 0 from rfl) ?_
  repeat (refine ev_s rfl (?_ : Ev _ _ _ _ _ _))
  refine ev_cv rfl (as := [.ref 17, .long hv, .long tv]) rfl rfl (Nat.le_of_ble_eq_true rfl) ?_
  refine core_make hL.1 hh ht (fun hlt M' fr' ψ' v g1 g2 g3 g4 => ?_) (fun hge M' fr' g1 g2 g4 => ?_)
  · show Ev _ _ _ _ [.long v] _
    repeat (refine ev_s rfl (?_ : Ev _ _ _ _ _ _))
    refine ev_lifT rfl (show ¬ v = -1 from g2.miss) ?_
    repeat (refine ev_s rfl (?_ : Ev _ _ _ _ _ _))
    exact ev_retl rfl rfl (hok hlt M' fr' ψ' v (hL.core g1 g4 (by decide)) g2 g3 g4)
  · show Ev _ _ _ _ [.long (-1)] _
    repeat (refine ev_s rfl (?_ : Ev _ _ _ _ _ _))
    refine ev_lifF rfl (show ¬ ¬ (-1 : Int64) = -1 from fun h9 => h9 rfl) ?_
    repeat (refine ev_s rfl (?_ : Ev _ _ _ _ _ _))
    refine ev_cv rfl (as := [.ref 27, .int 8]) rfl rfl (Nat.le_of_ble_eq_true rfl) ?_
    have hL2 := hL.core g1 g4 (by decide)
    refine m_fail ?_
    show Ev _ _ _ _ [] _
    repeat (refine ev_s rfl (?_ : Ev _ _ _ _ _ _))
    exact ev_retl rfl rfl (hno (by omega) _ (failM_Dd hL2.2.2.2.2.1 (by decide)) ((hL2.flt (c := 8) (by decide) (by decide)).from (g4.sub (by decide))))
theorem m_cons_d {d : Nat} {hv tv : Int64} (hD : Dd M) {Q : Option (Option Value) → PM → Prop} (h : Q (some (some (.long 0))) M) : SC (d + 4) 32 [.ref 27, .long hv, .long tv] M Q := by
  refine ⟨qX2_cons, rfl, ⟨Nat.le_of_ble_eq_true rfl, rfl, 27, _, _, rfl, rfl⟩, ?_⟩
  show Ev (BC (d + 3) qX2_cons) Q 0 [some (.ref 27), some (.long hv), none, some (.long tv), none, none, none] [] M
  repeat (refine ev_s rfl (?_ : Ev _ _ _ _ _ _))
  refine ev_ifF rfl (show ¬ M.1 27 10 = 0 from hD.1) ?_
  repeat (refine ev_s rfl (?_ : Ev _ _ _ _ _ _))
  exact ev_retl rfl rfl h
theorem m_pushFrame {d : Nat} {fn l : Int64} {a : AV} {i : Nat} (hL : LiveA M fr ψ ns lim H nid x e f fns ha frs fl mo) (hf : Tv fr ψ ns fn a) (hl : Tv fr ψ ns l (aC i)) {Q : Option (Option Value) → PM → Prop}
    (hok : frs.length < 200 → ∀ M', LiveA M' fr ψ ns lim H nid x e f fns ha ((a, aC i, e, []) :: frs) fl (aMx mo (frs.length + 1)) → Same [15, 16, 27, 30] M M' → Q (some none) M')
    (hno : ¬ frs.length < 200 → Q (some none) (failM 12 M)) : SC (d + 2) 39 [.ref 27, .long fn, .long l] M Q := by
  refine ⟨qX2_pushFrame, rfl, ⟨Nat.le_of_ble_eq_true rfl, rfl, 27, _, _, rfl, rfl⟩, ?_⟩
  show Ev (BC (d + 1) qX2_pushFrame) Q 0 [some (.ref 27), some (.long fn), none, some (.long l), none] [] M
  obtain ⟨hC, k6, k7, k8, k10, kb, kf, k200, kn, vl, kv⟩ := hL
  have hlen := flatA_len frs (fun F hF => (kf F hF).2)
  repeat (refine ev_s rfl (?_ : Ev _ _ _ _ _ _))
  rw [k6]
  refine ev_ifF rfl (nI_pos (by omega)) ?_
  repeat (refine ev_s rfl (?_ : Ev _ _ _ _ _ _))
  rw [k6]
  refine ev_ic rfl (fun hc => ?_) (fun hc => ?_)
  · have hlt : frs.length < 200 := (nI_ltI (b := 200) (by omega) (by decide)).mp hc
    repeat (refine ev_s rfl (?_ : Ev _ _ _ _ _ _))
    rw [k6]
    repeat (refine ev_s rfl (?_ : Ev _ _ _ _ _ _))
    refine ev_cv rfl (as := [.ref 15]) rfl rfl (Nat.le_of_ble_eq_true rfl) ?_
    refine rowA_size r_stk hC.2.2.2.2.2.2.2.2 ?_
    show Ev _ _ _ _ [.int (nI (flatA frs).length), .int (nI frs.length), .ref 30] _
    refine ev_iast rfl rfl (vp_in_nI hlt (by decide)) ?_
    rw [nI_clamp (by omega)]
    repeat (refine ev_s rfl (?_ : Ev _ _ _ _ _ _))
    have q1 : (mI M 30 frs.length (nI (flatA frs).length)).1 27 6 = nI frs.length := by rw [mI_ne (Or.inl (by decide))]; exact k6
    have q2 : (mI (mI M 30 frs.length (nI (flatA frs).length)) 27 6 (nI (frs.length + 1))).1 27 7 = nI mo := by rw [mI_ne (Or.inr (by decide)), mI_ne (Or.inl (by decide))]; exact k7
    rw [mI_at, q1, nI_1, q2]
    refine ev_max rfl (Nat.le_of_ble_eq_true rfl) ?_
    have emx : (if nI mo < nI (frs.length + 1) then nI (frs.length + 1) else nI mo) = nI (aMx mo (frs.length + 1)) := by
      unfold aMx
      by_cases h9 : mo < frs.length + 1
      · rw [if_pos h9, if_pos (nI_lt h9 (by omega))]
      · rw [if_neg h9, if_neg (nI_nlt (by omega) (by omega))]
    rw [emx]
    have hmx : aMx mo (frs.length + 1) ≤ 200 := by unfold aMx; split <;> omega
    repeat (refine ev_s rfl (?_ : Ev _ _ _ _ _ _))
    have s0 : Same [27, 30] M (mI (mI (mI M 30 frs.length (nI (flatA frs).length)) 27 6 (nI (frs.length + 1))) 27 7 (nI (aMx mo (frs.length + 1)))) := ((Same.I.tr Same.I).tr Same.I).sub (by decide)
    have hC0 := hC.same s0 (by decide)
    refine ev_cv rfl (as := [.ref 15, .long fn]) rfl rfl (Nat.le_of_ble_eq_true rfl) ?_
    refine rowA_add r_stk hC0.2.2.2.2.2.2.2.2 hf (by omega) (fun M1 g1 g2 => ?_)
    show Ev _ _ _ _ [] _
    repeat (refine ev_s rfl (?_ : Ev _ _ _ _ _ _))
    refine ev_cv rfl (as := [.ref 15, .long l]) rfl rfl (Nat.le_of_ble_eq_true rfl) ?_
    refine rowA_add r_stk g1 hl (by simp; omega) (fun M2 g3 g4 => ?_)
    show Ev _ _ _ _ [] _
    repeat (refine ev_s rfl (?_ : Ev _ _ _ _ _ _))
    have e5 : M2.2 1 5 = M.2 1 5 := by rw [(g4 1 (by decide)).2, (g2 1 (by decide)).2]; rfl
    rw [e5]
    refine ev_cv rfl (as := [.ref 15, .long (M.2 1 5)]) rfl rfl (Nat.le_of_ble_eq_true rfl) ?_
    refine rowA_add r_stk g3 hC.2.2.2.1 (by simp; omega) (fun M3 g5 g6 => ?_)
    show Ev _ _ _ _ [] _
    have s3 : Same [15, 16] (mI (mI (mI M 30 frs.length (nI (flatA frs).length)) 27 6 (nI (frs.length + 1))) 27 7 (nI (aMx mo (frs.length + 1)))) M3 := ((g2.tr g4).tr g6).sub (by decide)
    have e27 := (s3 27 (by decide)).1
    have e30 := (s3 30 (by decide)).1
    have hC3 := hC0.setSk s3 (by decide) (sk' := flatA ((a, aC i, e, []) :: frs)) (by
      have : flatA frs ++ [a] ++ [aC i] ++ [e] = flatA ((a, aC i, e, []) :: frs) := by simp [flatA]
      rw [← this]; exact g5)
    refine ev_retv rfl rfl (hok hlt M3 ⟨hC3, ?_, ?_, ?_, ?_, ⟨?_, kb.congr (fun j hj => ?_)⟩, ?_, by simp; omega, ⟨kn.1, hmx, kn.2.2⟩, vl, (kv.same s0 (by decide) (by decide)).same s3 (by decide) (by decide)⟩ ((s0.tr s3).sub (by decide)))
    · rw [e27, mI_ne (Or.inr (by decide)), mI_at]; rfl
    · rw [e27, mI_at]
    · rw [e27, mI_ne (Or.inr (by decide)), mI_ne (Or.inr (by decide)), mI_ne (Or.inl (by decide))]; exact k8
    · rw [e27, mI_ne (Or.inr (by decide)), mI_ne (Or.inr (by decide)), mI_ne (Or.inl (by decide))]; exact k10
    · rw [e30, mI_ne (Or.inl (by decide)), mI_ne (Or.inl (by decide)), mI_at]
    · rw [e30, mI_ne (Or.inl (by decide)), mI_ne (Or.inl (by decide)), mI_ne (Or.inr (by omega))]
    · intro F hF
      rcases List.mem_cons.mp hF with rfl | hF
      · exact ⟨⟨i, rfl⟩, by simp⟩
      · exact kf F hF
  · have hge : ¬ frs.length < 200 := fun h9 => hc (nI_lt (b := 200) h9 (by decide))
    repeat (refine ev_s rfl (?_ : Ev _ _ _ _ _ _))
    refine ev_cv rfl (as := [.ref 27, .int 12]) rfl rfl (Nat.le_of_ble_eq_true rfl) ?_
    refine m_fail ?_
    show Ev _ _ _ _ [] _
    exact ev_retv rfl rfl (hno hge)
end MACH

/-! Those from CAR on. -/
def swT (x : Int32) (d : Nat) : Int → List Nat → Nat
  | _, [] => d
  | v, t :: ts => if x = Int32.ofInt v then t else swT x d (v + 1) ts
theorem p_sw_T {x : Int32} {k : Nat → Prop} {d : Nat} : ∀ (ts : List Nat) (v : Int), k (swT x d v ts) → p_sw x k d v ts
  | [], _, h => h
  | t :: ts, v, h => ⟨fun hc => by unfold swT at h; rw [if_pos hc] at h; exact h, fun hc => p_sw_T ts (v + 1) (by unfold swT at h; rw [if_neg hc] at h; exact h)⟩
theorem ev_sw {B : PBody} {Q : Option (Option Value) → PM → Prop} {pc nx d0 b0 : Nat} {of lo hi : Int} {os : Array Int} {ts0 : List Nat} {cv : Value} {L : List (Option Value)} {r : List Value} {M : PM} {x : Int32} (hc : B.2.2.2.2.1 pc = some (.tableswitch of lo hi os, nx, d0, b0, ts0, cv)) (h : Ev B Q (swT x d0 lo ts0) L r M) : Ev B Q pc L (.int x :: r) M := ev_s hc (p_sw_T ts0 lo h)
section BUILT
variable {M : PM} {fr : List Nat} {ψ : Nat → Nat} {ns lim : Nat} {H : AHp} {nid : Nat} {x e f : AV} {fns : List (Option AV)} {ha pe sk vs : List AV} {frs : List AF} {fl mo : Nat}
theorem rowA_any {d r a n : Nat} {as : List AV} (hr : isRow r a n) (h : RowA M fr ψ ns r a n as) {i : Nat} (hi : i < 2147483648) {Q : Option (Option Value) → PM → Prop} (hq : ∀ w, (∀ b, as[i]? = some b → Tv fr ψ ns w b) → Q (some (some (.long w))) M) : SC (d + 1) 84 [.ref r, .int (nI i)] M Q := by
  obtain ⟨l, k1, k2, k3⟩ := h
  refine row_at hr k1 ?_
  rw [rowAt_nI hi]
  refine hq _ (fun b hb => ?_)
  rw [k2, List.getElem?_map] at hb
  cases hl : l[i]? with
  | none => rw [hl] at hb; cases hb
  | some v =>
    rw [hl] at hb
    exact ⟨k3 v (List.mem_of_getElem? hl), Option.some.inj hb⟩
def aWant (k : Nat) : Nat := if k = 8 ∨ k = 9 ∨ k = 11 ∨ k = 13 ∨ k = 16 then 1 else 2
theorem want_sw : ∀ k, k < 23 → 8 ≤ k → swT (nI k) 54 8 [52, 52, 54, 52, 54, 52, 54, 54, 52] = if aWant k = 1 then 52 else 54 := by decide
theorem built_sw : ∀ k, k < 23 → 17 ≤ k → swT (nI k) 251 8 [108, 108, 127, 141, 163, 192, 213, 220, 237] = 251 := by decide
theorem m_valuesWanted {d k : Nat} (h8 : 8 ≤ k) (h22 : k ≤ 22) {Q : Option (Option Value) → PM → Prop} (h : Q (some (some (.int (nI (aWant k))))) M) : SC (d + 1) 54 [.int (nI k)] M Q := by
  refine ⟨qX2_valuesWanted, rfl, ⟨Nat.le_of_ble_eq_true rfl, rfl⟩, ?_⟩
  show Ev (BC (d) qX2_valuesWanted) Q 0 [some (.int (nI k))] [] M
  iterate 1 (refine ev_s rfl (?_ : Ev _ _ _ _ _ _))
  refine ev_sw rfl ?_
  rw [want_sw k (by omega) h8]
  by_cases hw : aWant k = 1
  · rw [if_pos hw]
    repeat (refine ev_s rfl (?_ : Ev _ _ _ _ _ _))
    rw [hw] at h
    exact ev_reti rfl rfl trivial rfl h
  · rw [if_neg hw]
    have : aWant k = 2 := by unfold aWant at hw ⊢; split at hw <;> simp_all
    repeat (refine ev_s rfl (?_ : Ev _ _ _ _ _ _))
    rw [this] at h
    exact ev_reti rfl rfl trivial rfl h
theorem m_givePart {d : Nat} {v : Int64} {a : AV} (b : Bool) (hL : LiveA M fr ψ ns lim H nid x e f fns ha frs fl mo) (hv : Tv fr ψ ns v a) {Q : Option (Option Value) → PM → Prop} (h : ∀ M', PostM ns lim fns M (match (if b then aHd H a else aTl H a) with
        | some v => aRet x e v frs fl mo H nid
        | none => aFl 13 fl mo H nid) M' → Q (some none) M') : SC (d + 4) 55 [.ref 27, .long v, .int (if b then 1 else 0)] M Q := by
  refine ⟨qX2_givePart, rfl, ⟨Nat.le_of_ble_eq_true rfl, rfl, 27, _, _, rfl, rfl⟩, ?_⟩
  show Ev (BC (d + 3) qX2_givePart) Q 0 [some (.ref 27), some (.long v), none, some (.int (if b then 1 else 0))] [] M
  repeat (refine ev_s rfl (?_ : Ev _ _ _ _ _ _))
  refine ev_cs rfl (by decide) (by decide) (as := [.long v]) rfl rfl (Nat.le_of_ble_eq_true rfl) ?_
  refine v_isCell (fun hc => ?_) (fun hc => ?_)
  · have ea := hv.cell hc
    subst ea
    obtain ⟨p1, p2, -⟩ := CoreA.part hL.1.1 hv
    show Ev _ _ _ _ [.int 1] _
    refine ev_ifT rfl (show ¬ (1 : Int32) = 0 by decide) ?_
    cases b with
    | true =>
      repeat (refine ev_s rfl (?_ : Ev _ _ _ _ _ _))
      refine ev_ifF rfl (show ¬ (1 : Int32) = 0 by decide) ?_
      repeat (refine ev_s rfl (?_ : Ev _ _ _ _ _ _))
      refine ev_cv rfl (as := [.ref 17, .long v]) rfl rfl (Nat.le_of_ble_eq_true rfl) ?_
      refine cell_head hc ?_
      show Ev _ _ _ _ [.long (M.2 19 (cix v)), .ref 27] _
      repeat (refine ev_s rfl (?_ : Ev _ _ _ _ _ _))
      refine ev_cv rfl (as := [.ref 27, .long (M.2 19 (cix v))]) rfl rfl (Nat.le_of_ble_eq_true rfl) ?_
      refine m_give hL p1 (fun M' g => ?_)
      show Ev _ _ _ _ [] _
      exact ev_retv rfl rfl (h M' g)
    | false =>
      repeat (refine ev_s rfl (?_ : Ev _ _ _ _ _ _))
      refine ev_ifT rfl (show (0 : Int32) = 0 from rfl) ?_
      repeat (refine ev_s rfl (?_ : Ev _ _ _ _ _ _))
      refine ev_cv rfl (as := [.ref 17, .long v]) rfl rfl (Nat.le_of_ble_eq_true rfl) ?_
      refine cell_tail hc ?_
      show Ev _ _ _ _ [.long (M.2 20 (cix v)), .ref 27] _
      repeat (refine ev_s rfl (?_ : Ev _ _ _ _ _ _))
      refine ev_cv rfl (as := [.ref 27, .long (M.2 20 (cix v))]) rfl rfl (Nat.le_of_ble_eq_true rfl) ?_
      refine m_give hL p2 (fun M' g => ?_)
      show Ev _ _ _ _ [] _
      exact ev_retv rfl rfl (h M' g)
  · show Ev _ _ _ _ [.int 0] _
    refine ev_ifF rfl (show ¬ ¬ (0 : Int32) = 0 by decide) ?_
    repeat (refine ev_s rfl (?_ : Ev _ _ _ _ _ _))
    refine ev_cv rfl (as := [.ref 27, .int 13]) rfl rfl (Nat.le_of_ble_eq_true rfl) ?_
    refine m_fail ?_
    show Ev _ _ _ _ [] _
    refine ev_retv rfl rfl (h _ ?_)
    have e1 : (if b then aHd H a else aTl H a) = none := by
      cases b
      · exact aTl_none.mpr (hv.ncell hc)
      · exact aHd_none.mpr (hv.ncell hc)
    rw [e1]
    exact hL.flt (c := 13) (by decide) (by decide)
theorem m_giveList {d : Nat} (hL : LiveA M fr ψ ns lim H nid x e f fns vs frs fl mo) {Q : Option (Option Value) → PM → Prop} (h : ∀ M', PostM ns lim fns M (aList lim fns (rts x e f [] vs (flatA frs)) vs.reverse (aS 0) H nid (fun l H n => aRet x e l frs fl mo H n) (aFl 8 fl mo)) M' → Q (some none) M') : SC (d + 5) 56 [.ref 27] M Q := by
  refine ⟨qX2_giveList, rfl, ⟨Nat.le_of_ble_eq_true rfl, rfl, 27, _, _, rfl, rfl⟩, ?_⟩
  show Ev (BC (d + 4) qX2_giveList) Q 0 [some (.ref 27), none, none, none] [] M
  have h10 : vs.length ≤ 10 := hL.1.2.2.2.2.2.2.2.1.len
  have dl : ∀ (j : Nat) (M1 : PM) (w : Int64) (lh : List Int64), j ≤ 10 → Dd M1 → RowIs M1 13 14 10 lh → Q (some none) M1 → Ev (BC (d + 4) qX2_giveList) Q 12 [some (.ref 27), some (.long w), none, some (.int (nI j - 1))] [] M1 := by
    intro j
    induction j with
    | zero =>
      intro M1 w lh hj hD hR hq
      repeat (refine ev_s rfl (?_ : Ev _ _ _ _ _ _))
      refine ev_ifT rfl (show nI 0 - 1 < 0 by decide) ?_
      repeat (refine ev_s rfl (?_ : Ev _ _ _ _ _ _))
      refine ev_cv rfl (as := [.ref 27, .long w]) rfl rfl (Nat.le_of_ble_eq_true rfl) ?_
      refine m_give_d hD ?_
      show Ev _ _ _ _ [] _
      exact ev_retv rfl rfl hq
    | succ j ih =>
      intro M1 w lh hj hD hR hq
      rw [nI_pred]
      repeat (refine ev_s rfl (?_ : Ev _ _ _ _ _ _))
      refine ev_ifF rfl (nI_pos (by omega)) ?_
      repeat (refine ev_s rfl (?_ : Ev _ _ _ _ _ _))
      refine ev_cv rfl (as := [.ref 13, .int (nI j)]) rfl rfl (Nat.le_of_ble_eq_true rfl) ?_
      refine row_at r_hand hR ?_
      show Ev _ _ _ _ [.long (rowAt lh (nI j)), .ref 27] _
      repeat (refine ev_s rfl (?_ : Ev _ _ _ _ _ _))
      refine ev_cv rfl (as := [.ref 27, .long (rowAt lh (nI j)), .long w]) rfl rfl (Nat.le_of_ble_eq_true rfl) ?_
      refine m_cons_d hD ?_
      show Ev _ _ _ _ [.long 0] _
      iterate 3 (refine ev_s rfl (?_ : Ev _ _ _ _ _ _))
      rw [← Int32.sub_eq_add_neg]
      exact ih M1 0 lh (by omega) hD hR hq
  have loop : ∀ (j : Nat) (M1 : PM) (fr1 : List Nat) (ψ1 : Nat → Nat) (H1 : AHp) (n1 : Nat) (w : Int64) (l : AV), j ≤ vs.length → LiveA M1 fr1 ψ1 ns lim H1 n1 x e f fns vs frs fl mo → Tv fr1 ψ1 ns w l → Same IDM M M1 → (∀ M', PostM ns lim fns M (aList lim fns (rts x e f [] vs (flatA frs)) (vs.take j).reverse l H1 n1 (fun l H n => aRet x e l frs fl mo H n) (aFl 8 fl mo)) M' → Q (some none) M') →
      Ev (BC (d + 4) qX2_giveList) Q 12 [some (.ref 27), some (.long w), none, some (.int (nI j - 1))] [] M1 := by
    intro j
    induction j with
    | zero =>
      intro M1 fr1 ψ1 H1 n1 w l hj hL1 hw hs1 hq
      repeat (refine ev_s rfl (?_ : Ev _ _ _ _ _ _))
      refine ev_ifT rfl (show nI 0 - 1 < 0 by decide) ?_
      repeat (refine ev_s rfl (?_ : Ev _ _ _ _ _ _))
      refine ev_cv rfl (as := [.ref 27, .long w]) rfl rfl (Nat.le_of_ble_eq_true rfl) ?_
      refine m_give hL1 hw (fun M2 g => ?_)
      show Ev _ _ _ _ [] _
      exact ev_retv rfl rfl (hq M2 (g.from hs1))
    | succ j ih =>
      intro M1 fr1 ψ1 H1 n1 w l hj hL1 hw hs1 hq
      have hjv : j < vs.length := by omega
      have hz : (vs.take (j + 1)).reverse = vs[j] :: (vs.take j).reverse := by
        rw [← List.take_append_getElem hjv, List.reverse_append]
        simp
      rw [hz] at hq
      unfold aList at hq
      rw [nI_pred]
      repeat (refine ev_s rfl (?_ : Ev _ _ _ _ _ _))
      refine ev_ifF rfl (nI_pos (by omega)) ?_
      repeat (refine ev_s rfl (?_ : Ev _ _ _ _ _ _))
      refine ev_cv rfl (as := [.ref 13, .int (nI j)]) rfl rfl (Nat.le_of_ble_eq_true rfl) ?_
      refine rowA_at r_hand hL1.1.2.2.2.2.2.2.2.1 (b := vs[j]) (List.getElem?_eq_getElem hjv) (fun w2 hw2 => ?_)
      show Ev _ _ _ _ [.long w2, .ref 27] _
      repeat (refine ev_s rfl (?_ : Ev _ _ _ _ _ _))
      refine ev_cv rfl (as := [.ref 27, .long w2, .long w]) rfl rfl (Nat.le_of_ble_eq_true rfl) ?_
      refine m_cons hL1 hw2 hw (fun hlt M2 fr2 ψ2 p g1 g2 g3 g4 => ?_) (fun hge M2 hD g1 => ?_)
      · rw [aCons_ok hlt] at hq
        show Ev _ _ _ _ [.long p] _
        iterate 3 (refine ev_s rfl (?_ : Ev _ _ _ _ _ _))
        rw [← Int32.sub_eq_add_neg]
        exact ih M2 fr2 ψ2 _ _ p _ (by omega) g1 g2 ((hs1.tr g4).sub (by decide)) hq
      · rw [aCons_no hge] at hq
        obtain ⟨lh, hlh⟩ := g1.2.2.1
        show Ev _ _ _ _ [.long (-1)] _
        iterate 3 (refine ev_s rfl (?_ : Ev _ _ _ _ _ _))
        rw [← Int32.sub_eq_add_neg]
        exact dl j M2 _ lh (by omega) hD hlh (hq M2 (g1.from hs1))
  repeat (refine ev_s rfl (?_ : Ev _ _ _ _ _ _))
  refine ev_cv rfl (as := [.ref 13]) rfl rfl (Nat.le_of_ble_eq_true rfl) ?_
  refine rowA_size r_hand hL.1.2.2.2.2.2.2.2.1 ?_
  show Ev _ _ _ _ [.int (nI vs.length)] _
  iterate 3 (refine ev_s rfl (?_ : Ev _ _ _ _ _ _))
  exact loop vs.length M fr ψ H nid 0 (aS 0) (Nat.le_refl _) hL (hL.nil (k := 0) (by decide)) Same.rf (by rw [List.take_length]; exact h)
theorem m_truth {d : Nat} {t : Int32} (b : Bool) (ht : t = if b then 1 else 0) (hn : 23 ≤ ns) {Q : Option (Option Value) → PM → Prop} (h : ∀ w, Tv fr ψ ns w (aTr b) → Q (some (some (.long w))) M) : SC (d + 1) 100 [.int t] M Q := by
  refine v_ofTruth ?_
  subst ht
  cases b
  · exact h _ (Tv.lN (k := 0) (by omega) (by decide))
  · exact h _ (Tv.lN (k := 1) (by omega) (by decide))
theorem m_giveReckoned {d k : Nat} {v w : Int64} {a b : AV} (hL : LiveA M fr ψ ns lim H nid x e f fns ha frs fl mo) (h17 : 17 ≤ k) (h22 : k ≤ 22) (hv : Tv fr ψ ns v a) (hw : Tv fr ψ ns w b) {Q : Option (Option Value) → PM → Prop} (h : ∀ M', PostM ns lim fns M (match a, b with
        | .inr (.inl p), .inr (.inl q) => (match aCalc k p q with
          | some v => aRet x e v frs fl mo H nid
          | none => aFl 13 fl mo H nid)
        | _, _ => aFl 13 fl mo H nid) M' → Q (some none) M') : SC (d + 4) 57 [.ref 27, .int (nI k), .long v, .long w] M Q := by
  refine ⟨qX2_giveReckoned, rfl, ⟨Nat.le_of_ble_eq_true rfl, rfl, 27, _, _, rfl, rfl⟩, ?_⟩
  show Ev (BC (d + 3) qX2_giveReckoned) Q 0 [some (.ref 27), some (.int (nI k)), some (.long v), none, some (.long w), none, none, none] [] M
  have hns := hL.2.2.2.2.2.2.2.2.1.2.2.1
  have bad : (∀ M', PostM ns lim fns M (aFl 13 fl mo H nid) M' → Q (some none) M') → Ev (BC (d + 3) qX2_giveReckoned) Q 15 [some (.ref 27), some (.int (nI k)), some (.long v), none, some (.long w), none, none, none] [] M := fun h' => by
    repeat (refine ev_s rfl (?_ : Ev _ _ _ _ _ _))
    refine ev_cv rfl (as := [.ref 27, .int 13]) rfl rfl (Nat.le_of_ble_eq_true rfl) ?_
    refine m_fail ?_
    show Ev _ _ _ _ [] _
    exact ev_retv rfl rfl (h' _ (hL.flt (c := 13) (by decide) (by decide)))
  repeat (refine ev_s rfl (?_ : Ev _ _ _ _ _ _))
  refine ev_cs rfl (by decide) (by decide) (as := [.long v]) rfl rfl (Nat.le_of_ble_eq_true rfl) ?_
  refine v_isNumber (fun hc => ?_) (fun hc => ?_)
  · obtain ⟨p, rfl⟩ := hv.num.mp hc
    show Ev _ _ _ _ [.int 1] _
    refine ev_ifF rfl (show ¬ (1 : Int32) = 0 by decide) ?_
    repeat (refine ev_s rfl (?_ : Ev _ _ _ _ _ _))
    refine ev_cs rfl (by decide) (by decide) (as := [.long w]) rfl rfl (Nat.le_of_ble_eq_true rfl) ?_
    refine v_isNumber (fun hc2 => ?_) (fun hc2 => ?_)
    · obtain ⟨q, rfl⟩ := hw.num.mp hc2
      dsimp only at h
      have ev := hv.isN
      have ew := hw.isN
      subst ev
      subst ew
      show Ev _ _ _ _ [.int 1] _
      refine ev_ifT rfl (show ¬ (1 : Int32) = 0 by decide) ?_
      repeat (refine ev_s rfl (?_ : Ev _ _ _ _ _ _))
      refine ev_cs rfl (by decide) (by decide) (as := [.long (ofN p)]) rfl rfl (Nat.le_of_ble_eq_true rfl) ?_
      refine v_number ?_
      rw [ofN_32]
      show Ev _ _ _ _ [.int p] _
      repeat (refine ev_s rfl (?_ : Ev _ _ _ _ _ _))
      refine ev_cs rfl (by decide) (by decide) (as := [.long (ofN q)]) rfl rfl (Nat.le_of_ble_eq_true rfl) ?_
      refine v_number ?_
      rw [ofN_32]
      show Ev _ _ _ _ [.int q] _
      repeat (refine ev_s rfl (?_ : Ev _ _ _ _ _ _))
      have ec : ∀ v', aCalc k p q = some v' → ∀ M', PostM ns lim fns M (aRet x e v' frs fl mo H nid) M' → Q (some none) M' := fun v' hv' M' g => h M' (by rw [hv']; exact g)
      have c22 : (nI k = 22) ↔ k = 22 := nI_eq (b := 22) (by omega) (by decide)
      have c17 : (nI k = 17) ↔ k = 17 := nI_eq (b := 17) (by omega) (by decide)
      have c18 : (nI k = 18) ↔ k = 18 := nI_eq (b := 18) (by omega) (by decide)
      have c19 : (nI k = 19) ↔ k = 19 := nI_eq (b := 19) (by omega) (by decide)
      have c20 : (nI k = 20) ↔ k = 20 := nI_eq (b := 20) (by omega) (by decide)
      refine ev_ic rfl (fun n22 => ?_) (fun n22 => ?_)
      · have n22 : ¬ k = 22 := fun h9 => n22 (c22.mpr h9)
        repeat (refine ev_s rfl (?_ : Ev _ _ _ _ _ _))
        refine ev_ic rfl (fun n17 => ?_) (fun n17 => ?_)
        · have n17 : ¬ k = 17 := fun h9 => n17 (c17.mpr h9)
          repeat (refine ev_s rfl (?_ : Ev _ _ _ _ _ _))
          refine ev_ic rfl (fun n18 => ?_) (fun n18 => ?_)
          · have n18 : ¬ k = 18 := fun h9 => n18 (c18.mpr h9)
            repeat (refine ev_s rfl (?_ : Ev _ _ _ _ _ _))
            refine ev_ic rfl (fun n19 => ?_) (fun n19 => ?_)
            · have n19 : ¬ k = 19 := fun h9 => n19 (c19.mpr h9)
              have eq : aCalc k p q = if q = 0 then none else some (aN (if k = 20 then p / q else p - p / q * q)) := by
                unfold aCalc
                rw [if_neg n22, if_neg n17, if_neg n18, if_neg n19]
              repeat (refine ev_s rfl (?_ : Ev _ _ _ _ _ _))
              refine ev_if rfl (fun q0 => ?_) (fun q0 => ?_)
              · have q0 : ¬ q = 0 := q0
                rw [if_neg q0] at eq
                repeat (refine ev_s rfl (?_ : Ev _ _ _ _ _ _))
                refine ev_ic rfl (fun n20 => ?_) (fun n20 => ?_)
                · rw [if_neg (fun h9 => n20 (c20.mpr h9))] at eq
                  repeat (refine ev_s rfl (?_ : Ev _ _ _ _ _ _))
                  refine ev_s rfl ⟨q0, ?_⟩
                  refine ev_cs rfl (by decide) (by decide) (as := [.int (p - p / q * q)]) rfl rfl (Nat.le_of_ble_eq_true rfl) ?_
                  refine v_ofNumber ?_
                  show Ev _ _ _ _ [.long (ofN (p - p / q * q)), .ref 27] _
                  refine ev_cv rfl (as := [.ref 27, .long (ofN (p - p / q * q))]) rfl rfl (Nat.le_of_ble_eq_true rfl) ?_
                  refine m_give hL Tv.ofN (fun M' g => ?_)
                  show Ev _ _ _ _ [] _
                  exact ev_retv rfl rfl (ec _ eq M' g)
                · rw [if_pos (c20.mp (Decidable.not_not.mp n20))] at eq
                  repeat (refine ev_s rfl (?_ : Ev _ _ _ _ _ _))
                  refine ev_s rfl ⟨q0, ?_⟩
                  repeat (refine ev_s rfl (?_ : Ev _ _ _ _ _ _))
                  refine ev_cs rfl (by decide) (by decide) (as := [.int (p / q)]) rfl rfl (Nat.le_of_ble_eq_true rfl) ?_
                  refine v_ofNumber ?_
                  show Ev _ _ _ _ [.long (ofN (p / q)), .ref 27] _
                  refine ev_cv rfl (as := [.ref 27, .long (ofN (p / q))]) rfl rfl (Nat.le_of_ble_eq_true rfl) ?_
                  refine m_give hL Tv.ofN (fun M' g => ?_)
                  show Ev _ _ _ _ [] _
                  exact ev_retv rfl rfl (ec _ eq M' g)
              · have q0 : q = 0 := Decidable.not_not.mp q0
                rw [if_pos q0] at eq
                repeat (refine ev_s rfl (?_ : Ev _ _ _ _ _ _))
                refine ev_cv rfl (as := [.ref 27, .int 13]) rfl rfl (Nat.le_of_ble_eq_true rfl) ?_
                refine m_fail ?_
                show Ev _ _ _ _ [] _
                repeat (refine ev_s rfl (?_ : Ev _ _ _ _ _ _))
                exact ev_retv rfl rfl (h _ (by rw [eq]; exact hL.flt (c := 13) (by decide) (by decide)))
            · have y : k = 19 := c19.mp (Decidable.not_not.mp n19)
              have eq : aCalc k p q = some (aN (p * q)) := by
                unfold aCalc
                rw [if_neg n22, if_neg n17, if_neg n18, if_pos y]
              repeat (refine ev_s rfl (?_ : Ev _ _ _ _ _ _))
              refine ev_cs rfl (by decide) (by decide) (as := [.int (p * q)]) rfl rfl (Nat.le_of_ble_eq_true rfl) ?_
              refine v_ofNumber ?_
              show Ev _ _ _ _ [.long (ofN (p * q)), .ref 27] _
              refine ev_cv rfl (as := [.ref 27, .long (ofN (p * q))]) rfl rfl (Nat.le_of_ble_eq_true rfl) ?_
              refine m_give hL Tv.ofN (fun M' g => ?_)
              show Ev _ _ _ _ [] _
              repeat (refine ev_s rfl (?_ : Ev _ _ _ _ _ _))
              exact ev_retv rfl rfl (ec _ eq M' g)
          · have y : k = 18 := c18.mp (Decidable.not_not.mp n18)
            have eq : aCalc k p q = some (aN (p - q)) := by
              unfold aCalc
              rw [if_neg n22, if_neg n17, if_pos y]
            repeat (refine ev_s rfl (?_ : Ev _ _ _ _ _ _))
            refine ev_cs rfl (by decide) (by decide) (as := [.int (p - q)]) rfl rfl (Nat.le_of_ble_eq_true rfl) ?_
            refine v_ofNumber ?_
            show Ev _ _ _ _ [.long (ofN (p - q)), .ref 27] _
            refine ev_cv rfl (as := [.ref 27, .long (ofN (p - q))]) rfl rfl (Nat.le_of_ble_eq_true rfl) ?_
            refine m_give hL Tv.ofN (fun M' g => ?_)
            show Ev _ _ _ _ [] _
            repeat (refine ev_s rfl (?_ : Ev _ _ _ _ _ _))
            exact ev_retv rfl rfl (ec _ eq M' g)
        · have y : k = 17 := c17.mp (Decidable.not_not.mp n17)
          have eq : aCalc k p q = some (aN (p + q)) := by
            unfold aCalc
            rw [if_neg n22, if_pos y]
          repeat (refine ev_s rfl (?_ : Ev _ _ _ _ _ _))
          refine ev_cs rfl (by decide) (by decide) (as := [.int (p + q)]) rfl rfl (Nat.le_of_ble_eq_true rfl) ?_
          refine v_ofNumber ?_
          show Ev _ _ _ _ [.long (ofN (p + q)), .ref 27] _
          refine ev_cv rfl (as := [.ref 27, .long (ofN (p + q))]) rfl rfl (Nat.le_of_ble_eq_true rfl) ?_
          refine m_give hL Tv.ofN (fun M' g => ?_)
          show Ev _ _ _ _ [] _
          repeat (refine ev_s rfl (?_ : Ev _ _ _ _ _ _))
          exact ev_retv rfl rfl (ec _ eq M' g)
      · have y : k = 22 := c22.mp (Decidable.not_not.mp n22)
        have eq : aCalc k p q = some (aTr (decide (p < q))) := by
          unfold aCalc
          rw [if_pos y]
        have fin : ∀ t : Int32, t = (if decide (p < q) then 1 else 0) → Ev (BC (d + 3) qX2_giveReckoned) Q 54 [some (.ref 27), some (.int (nI k)), some (.long (ofN p)), none, some (.long (ofN q)), none, some (.int p), some (.int q)] [.int t, .ref 27] M := fun t ht => by
          refine ev_cs rfl (by decide) (by decide) (as := [.int t]) rfl rfl (Nat.le_of_ble_eq_true rfl) ?_
          refine m_truth (fr := fr) (ψ := ψ) (decide (p < q)) ht hns (fun w2 hw2 => ?_)
          show Ev _ _ _ _ [.long w2, .ref 27] _
          refine ev_cv rfl (as := [.ref 27, .long w2]) rfl rfl (Nat.le_of_ble_eq_true rfl) ?_
          refine m_give hL hw2 (fun M' g => ?_)
          show Ev _ _ _ _ [] _
          repeat (refine ev_s rfl (?_ : Ev _ _ _ _ _ _))
          exact ev_retv rfl rfl (ec _ eq M' g)
        repeat (refine ev_s rfl (?_ : Ev _ _ _ _ _ _))
        refine ev_ic rfl (fun hpq => ?_) (fun hpq => ?_)
        · repeat (refine ev_s rfl (?_ : Ev _ _ _ _ _ _))
          exact fin 0 (by rw [decide_eq_false (Int32.not_lt.mpr hpq)]; rfl)
        · repeat (refine ev_s rfl (?_ : Ev _ _ _ _ _ _))
          exact fin 1 (by rw [decide_eq_true (Int32.not_le.mp hpq)]; rfl)
    · show Ev _ _ _ _ [.int 0] _
      refine ev_ifF rfl (show ¬ ¬ (0 : Int32) = 0 by decide) ?_
      refine bad (fun M' g => h M' ?_)
      rcases b with k | n | i
      · exact g
      · exact (hc2 (hw.num.mpr ⟨n, rfl⟩)).elim
      · exact g
  · show Ev _ _ _ _ [.int 0] _
    refine ev_ifT rfl (show (0 : Int32) = 0 from rfl) ?_
    refine bad (fun M' g => h M' ?_)
    rcases a with k | n | i
    · exact g
    · exact (hc (hv.num.mpr ⟨n, rfl⟩)).elim
    · exact g
theorem aBuilt_len {k : Nat} (h8 : 8 ≤ k) (h22 : k ≤ 22) (h14 : ¬ k = 14) (h : ¬ vs.length = aWant k) : aBuilt lim fns x e f k vs frs fl mo H nid = aFl 11 fl mo H nid := by
  unfold aBuilt
  rw [if_neg h14]
  match vs, h with
  | [], _ => rfl
  | [a], h =>
    have hk : ¬ (k = 8 ∨ k = 9 ∨ k = 11 ∨ k = 13 ∨ k = 16) := fun h9 => h (by unfold aWant; rw [if_pos h9]; rfl)
    dsimp only
    rw [if_neg (by omega), if_neg (by omega), if_neg (by omega), if_neg (by omega), if_neg (by omega)]
  | [a, b], h =>
    have hk : k = 8 ∨ k = 9 ∨ k = 11 ∨ k = 13 ∨ k = 16 := Decidable.byContradiction fun h9 => h (by unfold aWant; rw [if_neg h9]; rfl)
    dsimp only
    rw [if_pos hk]
  | a :: b :: c :: r, _ => rfl
theorem m_applyBuiltIn {d k : Nat} (hL : LiveA M fr ψ ns lim H nid x e (aS k) fns vs frs fl mo) (h8 : 8 ≤ k) (h22 : k ≤ 22) {Q : Option (Option Value) → PM → Prop} (h : ∀ M', PostM ns lim fns M (aBuilt lim fns x e (aS k) k vs frs fl mo H nid) M' → Q (some none) M') : SC (d + 6) 53 [.ref 27] M Q := by
  refine ⟨qX2_applyBuiltIn, rfl, ⟨Nat.le_of_ble_eq_true rfl, rfl, 27, _, _, rfl, rfl⟩, ?_⟩
  show Ev (BC (d + 5) qX2_applyBuiltIn) Q 0 [some (.ref 27), none, none, none, none, none] [] M
  have hf := hL.1.2.2.2.2.1
  have hha := hL.1.2.2.2.2.2.2.2.1
  have h10 : vs.length ≤ 10 := hha.len
  have hns := hL.2.2.2.2.2.2.2.2.1.2.2.1
  obtain ⟨es, h300, -⟩ := hf.isS
  have c14 : (nI k = 14) ↔ k = 14 := nI_eq (b := 14) (by omega) (by decide)
  -- behind the count
  have go : (∀ a w4, vs = [a] → ∀ w2, Tv fr ψ ns w2 a → aWant k = 1 → Ev (BC (d + 5) qX2_applyBuiltIn) Q 56 [some (.ref 27), some (.int (nI k)), some (.long w2), none, some (.long w4), none] [.int (nI k)] M) → (∀ a b, vs = [a, b] → ∀ w2 w4, Tv fr ψ ns w2 a → Tv fr ψ ns w4 b → aWant k = 2 → Ev (BC (d + 5) qX2_applyBuiltIn) Q 56 [some (.ref 27), some (.int (nI k)), some (.long w2), none, some (.long w4), none] [.int (nI k)] M) → (k = 14 ∨ vs.length = aWant k) → (k = 14 → ∀ w2 w4, Ev (BC (d + 5) qX2_applyBuiltIn) Q 56 [some (.ref 27), some (.int (nI k)), some (.long w2), none, some (.long w4), none] [.int (nI k)] M) → Ev (BC (d + 5) qX2_applyBuiltIn) Q 36 [some (.ref 27), some (.int (nI k)), none, none, none, none] [] M := by
    intro k1 k2 k3 k4
    repeat (refine ev_s rfl (?_ : Ev _ _ _ _ _ _))
    refine ev_cv rfl (as := [.ref 13, .int (nI 0)]) rfl rfl (Nat.le_of_ble_eq_true rfl) ?_
    refine rowA_any r_hand hha (by decide) (fun w2 hw2 => ?_)
    show Ev _ _ _ _ [.long w2] _
    repeat (refine ev_s rfl (?_ : Ev _ _ _ _ _ _))
    refine ev_cv rfl (as := [.ref 13, .int (nI 1)]) rfl rfl (Nat.le_of_ble_eq_true rfl) ?_
    refine rowA_any r_hand hha (by decide) (fun w4 hw4 => ?_)
    show Ev _ _ _ _ [.long w4] _
    iterate 2 (refine ev_s rfl (?_ : Ev _ _ _ _ _ _))
    rcases k3 with k3 | k3
    · exact k4 k3 w2 w4
    · match vs, k3, k1, k2, hw2, hw4 with
      | [], k3, _, _, _, _ => unfold aWant at k3; split at k3 <;> simp at k3
      | [a], k3, k1, _, hw2, _ => exact k1 a w4 rfl w2 (hw2 a rfl) k3.symm
      | [a, b], k3, _, k2, hw2, hw4 => exact k2 a b rfl w2 w4 (hw2 a rfl) (hw4 b rfl) k3.symm
      | a :: b :: c :: r, k3, _, _, _, _ => unfold aWant at k3; split at k3 <;> simp at k3
  -- a truth is given
  have tr : ∀ (pc : Nat) (b : Bool) (t : Int32) (L : List (Option Value)), (pc = 154 ∨ pc = 183 ∨ pc = 204 ∨ pc = 242) → t = (if b then 1 else 0) → (∀ M', PostM ns lim fns M (aRet x e (aTr b) frs fl mo H nid) M' → Q (some none) M') → Ev (BC (d + 5) qX2_applyBuiltIn) Q pc L [.int t, .ref 27] M := by
    intro pc b t L hpc ht hq
    rcases hpc with rfl | rfl | rfl | rfl
    all_goals
      refine ev_cs rfl (by decide) (by decide) (as := [.int t]) rfl rfl (Nat.le_of_ble_eq_true rfl) ?_
      refine m_truth (fr := fr) (ψ := ψ) b ht hns (fun w hw => ?_)
      show Ev _ _ _ _ [.long w, .ref 27] _
      refine ev_cv rfl (as := [.ref 27, .long w]) rfl rfl (Nat.le_of_ble_eq_true rfl) ?_
      refine m_give hL hw (fun M' g => ?_)
      show Ev _ _ _ _ [] _
      repeat (refine ev_s rfl (?_ : Ev _ _ _ _ _ _))
      exact ev_retv rfl rfl (hq M' g)
  have main : (k = 14 ∨ vs.length = aWant k) → Ev (BC (d + 5) qX2_applyBuiltIn) Q 36 [some (.ref 27), some (.int (nI k)), none, none, none, none] [] M := fun h3 => by
    refine go (fun a w4 e1 w2 hw2 hwant => ?_) (fun a b e1 w2 w4 hw2 hw4 hwant => ?_) h3 (fun e14 w2 w4 => ?_)
    · subst e1
      refine ev_sw rfl ?_
      have hk : k = 8 ∨ k = 9 ∨ k = 11 ∨ k = 13 ∨ k = 16 := Decidable.byContradiction fun h9 => by
        unfold aWant at hwant
        rw [if_neg h9] at hwant
        omega
      rcases hk with rfl | rfl | rfl | rfl | rfl
      · show Ev _ _ 108 _ _ _
        repeat (refine ev_s rfl (?_ : Ev _ _ _ _ _ _))
        refine ev_icF rfl (show ¬ ¬ nI 8 = 8 by decide) ?_
        repeat (refine ev_s rfl (?_ : Ev _ _ _ _ _ _))
        refine ev_cv rfl (as := [.ref 27, .long w2, .int (if true then 1 else 0)]) rfl rfl (Nat.le_of_ble_eq_true rfl) ?_
        refine m_givePart true hL hw2 (fun M' g => ?_)
        show Ev _ _ _ _ [] _
        repeat (refine ev_s rfl (?_ : Ev _ _ _ _ _ _))
        exact ev_retv rfl rfl (h M' g)
      · show Ev _ _ 108 _ _ _
        repeat (refine ev_s rfl (?_ : Ev _ _ _ _ _ _))
        refine ev_icT rfl (show ¬ nI 9 = 8 by decide) ?_
        repeat (refine ev_s rfl (?_ : Ev _ _ _ _ _ _))
        refine ev_cv rfl (as := [.ref 27, .long w2, .int (if false then 1 else 0)]) rfl rfl (Nat.le_of_ble_eq_true rfl) ?_
        refine m_givePart false hL hw2 (fun M' g => ?_)
        show Ev _ _ _ _ [] _
        repeat (refine ev_s rfl (?_ : Ev _ _ _ _ _ _))
        exact ev_retv rfl rfl (h M' g)
      · show Ev _ _ 141 _ _ _
        repeat (refine ev_s rfl (?_ : Ev _ _ _ _ _ _))
        refine ev_cs rfl (by decide) (by decide) (as := [.long w2]) rfl rfl (Nat.le_of_ble_eq_true rfl) ?_
        refine v_isCell (fun hc => ?_) (fun hc => ?_)
        · show Ev _ _ _ _ [.int 1, .ref 27] _
          refine ev_ifT rfl (show ¬ (1 : Int32) = 0 by decide) ?_
          repeat (refine ev_s rfl (?_ : Ev _ _ _ _ _ _))
          refine tr 154 false 0 _ (Or.inl rfl) rfl (fun M' g => h M' ?_)
          have ea := hw2.cell hc
          subst ea
          exact g
        · show Ev _ _ _ _ [.int 0, .ref 27] _
          refine ev_ifF rfl (show ¬ ¬ (0 : Int32) = 0 by decide) ?_
          repeat (refine ev_s rfl (?_ : Ev _ _ _ _ _ _))
          refine tr 154 true 1 _ (Or.inl rfl) rfl (fun M' g => h M' ?_)
          rcases a with j | j | j
          · exact g
          · exact g
          · exact (hw2.ncell hc j rfl).elim
      · show Ev _ _ 192 _ _ _
        repeat (refine ev_s rfl (?_ : Ev _ _ _ _ _ _))
        refine ev_lif rfl (fun hc => ?_) (fun hc => ?_)
        · have ha : ¬ a = aS 0 := fun h9 => hc ((hw2.eqS (k := 0) (by decide)).mpr h9)
          repeat (refine ev_s rfl (?_ : Ev _ _ _ _ _ _))
          refine tr 204 false 0 _ (Or.inr (Or.inr (Or.inl rfl))) rfl (fun M' g => h M' ?_)
          show PostM _ _ _ _ (aRet x e (aTr (decide (a = aS 0))) frs fl mo H nid) _
          rw [decide_eq_false ha]
          exact g
        · have ha : a = aS 0 := (hw2.eqS (k := 0) (by decide)).mp (Decidable.not_not.mp hc)
          repeat (refine ev_s rfl (?_ : Ev _ _ _ _ _ _))
          refine tr 204 true 1 _ (Or.inr (Or.inr (Or.inl rfl))) rfl (fun M' g => h M' ?_)
          show PostM _ _ _ _ (aRet x e (aTr (decide (a = aS 0))) frs fl mo H nid) _
          rw [decide_eq_true ha]
          exact g
      · show Ev _ _ 237 _ _ _
        repeat (refine ev_s rfl (?_ : Ev _ _ _ _ _ _))
        refine ev_cs rfl (by decide) (by decide) (as := [.long w2]) rfl rfl (Nat.le_of_ble_eq_true rfl) ?_
        refine v_isNumber (fun hc => ?_) (fun hc => ?_)
        · show Ev _ _ _ _ [.int 1, .ref 27] _
          refine tr 242 true 1 _ (Or.inr (Or.inr (Or.inr rfl))) rfl (fun M' g => h M' ?_)
          obtain ⟨n, rfl⟩ := hw2.num.mp hc
          exact g
        · show Ev _ _ _ _ [.int 0, .ref 27] _
          refine tr 242 false 0 _ (Or.inr (Or.inr (Or.inr rfl))) rfl (fun M' g => h M' ?_)
          rcases a with j | j | j
          · exact g
          · exact (hc (hw2.num.mpr ⟨j, rfl⟩)).elim
          · exact g
    · subst e1
      refine ev_sw rfl ?_
      have hk : ¬ (k = 8 ∨ k = 9 ∨ k = 11 ∨ k = 13 ∨ k = 16) := fun h9 => by
        unfold aWant at hwant
        rw [if_pos h9] at hwant
        omega
      by_cases h17 : 17 ≤ k
      · rw [built_sw k (by omega) h17]
        repeat (refine ev_s rfl (?_ : Ev _ _ _ _ _ _))
        refine ev_cv rfl (as := [.ref 27, .int (nI k), .long w2, .long w4]) rfl rfl (Nat.le_of_ble_eq_true rfl) ?_
        refine m_giveReckoned hL h17 h22 hw2 hw4 (fun M' g => ?_)
        show Ev _ _ _ _ [] _
        refine ev_retv rfl rfl (h M' ?_)
        unfold aBuilt
        rw [if_neg (by omega)]
        dsimp only
        rw [if_neg hk, if_neg (by omega), if_neg (by omega), if_neg (by omega)]
        exact g
      · have hk2 : k = 10 ∨ k = 12 ∨ k = 14 ∨ k = 15 := by omega
        rcases hk2 with rfl | rfl | rfl | rfl
        · show Ev _ _ 127 _ _ _
          repeat (refine ev_s rfl (?_ : Ev _ _ _ _ _ _))
          refine ev_cv rfl (as := [.ref 27, .long w2, .long w4]) rfl rfl (Nat.le_of_ble_eq_true rfl) ?_
          have e9 : aBuilt lim fns x e (aS 10) 10 [a, b] frs fl mo H nid = aCons lim fns (rts x e (aS 10) [] [a, b] (flatA frs)) a b H nid (fun c H n => aRet x e c frs fl mo H n) (aFl 8 fl mo) := rfl
          rw [e9] at h
          refine m_cons hL hw2 hw4 (fun hlt M2 fr2 ψ2 p g1 g2 g3 g4 => ?_) (fun hge M2 hD g1 => ?_)
          · rw [aCons_ok hlt] at h
            show Ev _ _ _ _ [.long p, .ref 27] _
            refine ev_cv rfl (as := [.ref 27, .long p]) rfl rfl (Nat.le_of_ble_eq_true rfl) ?_
            refine m_give g1 g2 (fun M' g => ?_)
            show Ev _ _ _ _ [] _
            repeat (refine ev_s rfl (?_ : Ev _ _ _ _ _ _))
            exact ev_retv rfl rfl (h M' (g.of g4 (by decide)))
          · rw [aCons_no hge] at h
            show Ev _ _ _ _ [.long (-1), .ref 27] _
            refine ev_cv rfl (as := [.ref 27, .long (-1)]) rfl rfl (Nat.le_of_ble_eq_true rfl) ?_
            refine m_give_d hD ?_
            show Ev _ _ _ _ [] _
            repeat (refine ev_s rfl (?_ : Ev _ _ _ _ _ _))
            exact ev_retv rfl rfl (h M2 g1)
        · show Ev _ _ 163 _ _ _
          have hin := hw2.inj hL.1.1.2.2.2.2.2 hw4
          repeat (refine ev_s rfl (?_ : Ev _ _ _ _ _ _))
          refine ev_lif rfl (fun hc => ?_) (fun hc => ?_)
          · have hab : ¬ a = b := fun h9 => hc (hin.mpr h9)
            repeat (refine ev_s rfl (?_ : Ev _ _ _ _ _ _))
            refine tr 183 false 0 _ (Or.inr (Or.inl rfl)) rfl (fun M' g => h M' ?_)
            show PostM _ _ _ _ (aRet x e (aTr (decide (a = b) && !aIsC a)) frs fl mo H nid) _
            rw [decide_eq_false hab]
            exact g
          · have hab : a = b := hin.mp (Decidable.not_not.mp hc)
            repeat (refine ev_s rfl (?_ : Ev _ _ _ _ _ _))
            refine ev_cs rfl (by decide) (by decide) (as := [.long w2]) rfl rfl (Nat.le_of_ble_eq_true rfl) ?_
            refine v_isCell (fun hc2 => ?_) (fun hc2 => ?_)
            · show Ev _ _ _ _ [.int 1, .ref 27] _
              refine ev_ifT rfl (show ¬ (1 : Int32) = 0 by decide) ?_
              repeat (refine ev_s rfl (?_ : Ev _ _ _ _ _ _))
              refine tr 183 false 0 _ (Or.inr (Or.inl rfl)) rfl (fun M' g => h M' ?_)
              show PostM _ _ _ _ (aRet x e (aTr (decide (a = b) && !aIsC a)) frs fl mo H nid) _
              rw [decide_eq_true hab, hw2.cell hc2]
              exact g
            · show Ev _ _ _ _ [.int 0, .ref 27] _
              refine ev_ifF rfl (show ¬ ¬ (0 : Int32) = 0 by decide) ?_
              repeat (refine ev_s rfl (?_ : Ev _ _ _ _ _ _))
              refine tr 183 true 1 _ (Or.inr (Or.inl rfl)) rfl (fun M' g => h M' ?_)
              show PostM _ _ _ _ (aRet x e (aTr (decide (a = b) && !aIsC a)) frs fl mo H nid) _
              rw [decide_eq_true hab]
              rcases a with j | j | j
              · exact g
              · exact g
              · exact (hw2.ncell hc2 j rfl).elim
        · show Ev _ _ 213 _ _ _
          repeat (refine ev_s rfl (?_ : Ev _ _ _ _ _ _))
          refine ev_cv rfl (as := [.ref 27]) rfl rfl (Nat.le_of_ble_eq_true rfl) ?_
          refine m_giveList hL (fun M' g => ?_)
          show Ev _ _ _ _ [] _
          repeat (refine ev_s rfl (?_ : Ev _ _ _ _ _ _))
          exact ev_retv rfl rfl (h M' g)
        · show Ev _ _ 220 _ _ _
          repeat (refine ev_s rfl (?_ : Ev _ _ _ _ _ _))
          have hL2 := hL.core (hL.1.setE hw4) Same.J (by decide)
          refine ev_cv rfl (as := [.ref 27, .long w2]) rfl rfl (Nat.le_of_ble_eq_true rfl) ?_
          refine m_next hL2 hw2 (fun M' g => ?_)
          show Ev _ _ _ _ [] _
          repeat (refine ev_s rfl (?_ : Ev _ _ _ _ _ _))
          exact ev_retv rfl rfl (h M' (g.of Same.J (by decide)))
    · subst e14
      refine ev_sw rfl ?_
      show Ev _ _ 213 _ _ _
      repeat (refine ev_s rfl (?_ : Ev _ _ _ _ _ _))
      refine ev_cv rfl (as := [.ref 27]) rfl rfl (Nat.le_of_ble_eq_true rfl) ?_
      refine m_giveList hL (fun M' g => ?_)
      show Ev _ _ _ _ [] _
      repeat (refine ev_s rfl (?_ : Ev _ _ _ _ _ _))
      exact ev_retv rfl rfl (h M' g)
  repeat (refine ev_s rfl (?_ : Ev _ _ _ _ _ _))
  rw [es, lN_i32]
  refine ev_ic rfl (fun hc => main (Or.inl (c14.mp hc))) (fun hc => ?_)
  have h14 : ¬ k = 14 := fun h9 => hc (c14.mpr h9)
  repeat (refine ev_s rfl (?_ : Ev _ _ _ _ _ _))
  refine ev_cv rfl (as := [.ref 13]) rfl rfl (Nat.le_of_ble_eq_true rfl) ?_
  refine rowA_size r_hand hha ?_
  show Ev _ _ _ _ [.int (nI vs.length)] _
  repeat (refine ev_s rfl (?_ : Ev _ _ _ _ _ _))
  refine ev_cs rfl (by decide) (by decide) (as := [.int (nI k)]) rfl rfl (Nat.le_of_ble_eq_true rfl) ?_
  refine m_valuesWanted h8 h22 ?_
  show Ev _ _ _ _ [.int (nI (aWant k)), .int (nI vs.length)] _
  have hw2 : aWant k ≤ 2 := by unfold aWant; split <;> omega
  refine ev_ic rfl (fun hc => main (Or.inr ((nI_eq (by omega) (by omega)).mp hc))) (fun hc => ?_)
  have hlen : ¬ vs.length = aWant k := fun h9 => hc (by rw [h9]; rfl)
  rw [aBuilt_len h8 h22 h14 hlen] at h
  repeat (refine ev_s rfl (?_ : Ev _ _ _ _ _ _))
  refine ev_cv rfl (as := [.ref 27, .int 11]) rfl rfl (Nat.le_of_ble_eq_true rfl) ?_
  refine m_fail ?_
  show Ev _ _ _ _ [] _
  exact ev_retv rfl rfl (h _ (hL.flt (c := 11) (by decide) (by decide)))
end BUILT

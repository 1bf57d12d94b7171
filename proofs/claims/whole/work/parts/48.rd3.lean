/-! The class's reader: closeList, readSymbol. -/
section RD3
variable {l : List Nat} {N lim : Nat} {fns : List (Option AV)} {M : PM} {fr : List Nat} {ψ : Nat → Nat} {H : AHp} {n p : Nat} {op : List (Nat × Nat)} {pe : List AV} {wh : Option AV} {nm : List (List Nat)}
theorem r_closeList {d : Nat} (h : RdC l N lim fns M fr ψ H n p op pe wh nm) (hp : p < N) {Q : Option (Option Value) → PM → Prop} (hq : ∀ M', PostR l N lim fns M (rClose lim fns p op pe wh nm H n) M' → Q (some none) M') : SC (d + 5) 75 [.ref 24] M Q := by
  refine ⟨qX4_closeList, rfl, ⟨Nat.le_of_ble_eq_true rfl, rfl, 24, _, _, rfl, rfl⟩, ?_⟩
  show Ev (BC (d + 4) qX4_closeList) Q 0 [some (.ref 24), none, none, none, none, none, none] [] M
  obtain ⟨k1, k2, k3, k4, k5, k6, k7, k8, k9, k10, k11, k12, k13, k14, k15, k16⟩ := id h
  have h2000 := k3.2.1
  have hb : rSt op wh ≤ 6 := by
    unfold rSt
    cases op with
    | nil => dsimp only; split <;> omega
    | cons o r => exact k12.1.2.1
  have c3 : (nI (rSt op wh) = 3) ↔ rSt op wh = 3 := nI_eq (b := 3) (by omega) (by decide)
  have c4 : (nI (rSt op wh) = 4) ↔ rSt op wh = 4 := nI_eq (b := 4) (by omega) (by decide)
  have c6 : (nI (rSt op wh) = 6) ↔ rSt op wh = 6 := nI_eq (b := 6) (by omega) (by decide)
  -- a list that is open
  have main : (rSt op wh = 3 ∨ rSt op wh = 4 ∨ rSt op wh = 6) → Ev (BC (d + 4) qX4_closeList) Q 31 [some (.ref 24), some (.int (nI (rSt op wh))), none, none, none, none, none] [] M := by
    intro hst
    cases op with
    | nil => unfold rSt at hst; dsimp only at hst; split at hst <;> omega
    | cons o r =>
      obtain ⟨s, st⟩ := o
      have hst2 : s = 3 ∨ s = 4 ∨ s = 6 := hst
      have es : rSt ((s, st) :: r) wh = s := rfl
      rw [es] at hst c3 c4 c6 hb ⊢
      have ewh := h.none (Or.inr (by simp))
      subst ewh
      have el : ((s, st) :: r).length = r.length + 1 := rfl
      rw [el] at k5 k11
      have hstm : st ≤ pe.length := k12.1.2.2.1
      -- memory is full
      have full : ∀ (M1 : PM) (fr1 : List Nat) (ψ1 : Nat → Nat) (H1 : AHp) (n1 : Nat) (z3 z6 : Option Value), CoreA M1 fr1 ψ1 nm.length lim H1 n1 (aS 0) (aS 0) (aS 0) fns pe [] [] → SymIs M1 nm → M1.1 24 9 = 0 → M1.1 24 7 = nI p → Same IDR M M1 → (∀ M', PostR l N lim fns M (.inr (8, p, nm, H1, n1)) M' → Q (some none) M') → Ev (BC (d + 4) qX4_closeList) Q 139 [some (.ref 24), some (.int (nI s)), some (.int (nI st)), z3, some (.long (-1)), none, z6] [] M1 := by
        intro M1 fr1 ψ1 H1 n1 z3 z6 hC hS h9 h7 hs hq
        repeat (refine ev_s rfl (?_ : Ev _ _ _ _ _ _))
        refine ev_lifF rfl (show ¬ ¬ (-1 : Int64) = -1 from fun h9 => h9 rfl) ?_
        repeat (refine ev_s rfl (?_ : Ev _ _ _ _ _ _))
        rw [h7]
        refine ev_cv rfl (as := [.ref 24, .int (nI 8), .int (nI p)]) rfl rfl (Nat.le_of_ble_eq_true rfl) ?_
        refine r_fail ?_
        have e : rfl9 (nI 8) (nI p) M1 = mI (mI M1 24 9 (nI 8)) 24 10 (nI p) := if_pos h9
        rw [e]
        show Ev _ _ _ _ [] _
        have s2 : Same [24] M1 (mI (mI M1 24 9 (nI 8)) 24 10 (nI p)) := (Same.I.tr Same.I).sub (by decide)
        refine ev_retv rfl rfl (hq _ ⟨(hs.tr s2).sub (by decide), ⟨fr1, ψ1, pe, hC.same s2 (by decide)⟩, hS.same s2 (by decide) (by decide) (by decide), ?_, mI_at, by decide, by decide, by omega, k15⟩)
        rw [mI_ne (Or.inr (by decide)), mI_at]
      -- the cells
      have loop : ∀ (j : Nat) (M1 : PM) (fr1 : List Nat) (ψ1 : Nat → Nat) (H1 : AHp) (n1 : Nat) (w : Int64) (a : AV) (z3 : Option Value), st + j ≤ pe.length → RdC l N lim fns M1 fr1 ψ1 H1 n1 p ((s, st) :: r) pe none nm → Tv fr1 ψ1 nm.length w a → Same IDR M M1 → (∀ M', PostR l N lim fns M (rList lim fns (rts (aS 0) (aS 0) (aS 0) pe [] []) ((pe.drop st).take j).reverse a H1 n1 (fun l H n => rDone lim fns p (p + 1) (pe.take st) none nm r l H n) (fun H n => .inr (8, p, nm, H, n))) M' → Q (some none) M') →
          Ev (BC (d + 4) qX4_closeList) Q 98 [some (.ref 24), some (.int (nI s)), some (.int (nI st)), z3, some (.long w), none, some (.int (nI (st + j) - 1))] [] M1 := by
        intro j
        induction j with
        | zero =>
          intro M1 fr1 ψ1 H1 n1 w a z3 hj hR hw hs hq
          obtain ⟨m1, m2, m3, m4, m5, m6, m7, m8, m9, m10, m11, m12, m13, m14, m15, m16⟩ := id hR
          have hlt : nI (st + 0) - 1 < nI st := by
            rw [Nat.add_zero]
            cases st with
            | zero => decide
            | succ t => rw [nI_pred]; exact nI_lt (by omega) (by omega)
          repeat (refine ev_s rfl (?_ : Ev _ _ _ _ _ _))
          refine ev_icT rfl hlt ?_
          repeat (refine ev_s rfl (?_ : Ev _ _ _ _ _ _))
          refine ev_lifT rfl (show ¬ w = -1 from hw.miss) ?_
          repeat (refine ev_s rfl (?_ : Ev _ _ _ _ _ _))
          refine ev_cv rfl (as := [.ref 11, .int (nI st)]) rfl rfl (Nat.le_of_ble_eq_true rfl) ?_
          refine rowA_cut r_pend m1.2.2.2.2.2.2.1 hstm (fun M2 g1 g2 => ?_)
          have e24 := g2 24 (by decide)
          have e6 : M2.1 24 6 = nI (r.length + 1) := by rw [e24.1]; exact m5
          show Ev _ _ _ _ [] _
          repeat (refine ev_s rfl (?_ : Ev _ _ _ _ _ _))
          have q7 : (mI M2 24 6 (nI r.length)).1 24 7 = nI p := by rw [mI_ne (Or.inr (by decide)), e24.1]; exact m6
          rw [e6, nI_pred, q7, nI_1, mI_at, nI_pred]
          have s3 : Same [24] M2 (mI (mI M2 24 6 (nI r.length)) 24 7 (nI (p + 1))) := (Same.I.tr Same.I).sub (by decide)
          have s4 : Same [11, 24] M1 (mI (mI M2 24 6 (nI r.length)) 24 7 (nI (p + 1))) := (g2.tr s3).sub (by decide)
          have hR4 : RdC l N lim fns (mI (mI M2 24 6 (nI r.length)) 24 7 (nI (p + 1))) fr1 ψ1 H1 n1 (p + 1) r (pe.take st) none nm := by
            refine ⟨(m1.setPe g2 (by decide) g1).same s3 (by decide), m2.same s4 (by decide) (by decide) (by decide), m3.same s4 (by decide) (by decide), m4, ?_, mI_at, ?_, ?_, ?_, m10.2.2.congr (fun i _ => ⟨by rw [(s4 25 (by decide)).1], by rw [(s4 26 (by decide)).1]⟩), by omega, ?_, by omega, ?_, m15, ?_⟩
            · rw [mI_ne (Or.inr (by decide)), mI_at]
            · rw [mI_ne (Or.inr (by decide)), mI_ne (Or.inr (by decide)), e24.1]; exact m7
            · rw [mI_ne (Or.inr (by decide)), mI_ne (Or.inr (by decide)), e24.1]; exact m8
            · rw [mI_ne (Or.inr (by decide)), mI_ne (Or.inr (by decide)), e24.1]; exact m9
            · rw [List.length_take, Nat.min_eq_left hstm]; exact m12.2
            · rw [List.length_take]; omega
            · show _ = (0 : Int32)
              rw [mI_ne (Or.inr (by decide)), mI_ne (Or.inr (by decide)), e24.1]; exact m16
          refine ev_cv rfl (as := [.ref 24, .long w, .int (nI p)]) rfl rfl (Nat.le_of_ble_eq_true rfl) ?_
          refine r_complete hR4 hw (by rw [List.length_take]; omega) (by omega) (fun M5 g5 => ?_)
          show Ev _ _ _ _ [] _
          refine ev_retv rfl rfl (hq M5 ?_)
          have e0 : ((pe.drop st).take 0).reverse = [] := by simp
          rw [e0]
          exact g5.from (hs.tr s4) (by decide)
        | succ j ih =>
          intro M1 fr1 ψ1 H1 n1 w a z3 hj hR hw hs hq
          obtain ⟨m1, m2, m3, m4, m5, m6, m7, m8, m9, m10, m11, m12, m13, m14, m15, m16⟩ := id hR
          have hjl : j < (pe.drop st).length := by rw [List.length_drop]; omega
          have hz : ((pe.drop st).take (j + 1)).reverse = (pe.drop st)[j] :: ((pe.drop st).take j).reverse := by
            rw [← List.take_append_getElem hjl, List.reverse_append]
            simp
          have e1 : pe[st + j]? = some (pe.drop st)[j] := by rw [← List.getElem?_drop, List.getElem?_eq_getElem hjl]
          rw [hz] at hq
          unfold rList at hq
          rw [show st + (j + 1) = st + j + 1 by omega, nI_pred]
          repeat (refine ev_s rfl (?_ : Ev _ _ _ _ _ _))
          refine ev_icF rfl (nI_nlt (a := st + j) (b := st) (by omega) (by omega)) ?_
          repeat (refine ev_s rfl (?_ : Ev _ _ _ _ _ _))
          refine ev_lifF rfl (show ¬ w = -1 from hw.miss) ?_
          repeat (refine ev_s rfl (?_ : Ev _ _ _ _ _ _))
          refine ev_cv rfl (as := [.ref 11, .int (nI (st + j))]) rfl rfl (Nat.le_of_ble_eq_true rfl) ?_
          refine rowA_at r_pend m1.2.2.2.2.2.2.1 e1 (fun w2 hw2 => ?_)
          show Ev _ _ _ _ [.long w2, .ref 17] _
          repeat (refine ev_s rfl (?_ : Ev _ _ _ _ _ _))
          refine ev_cv rfl (as := [.ref 17, .long w2, .long w]) rfl rfl (Nat.le_of_ble_eq_true rfl) ?_
          refine core_make m1 hw2 hw (fun hlt2 M2 fr2 ψ2 u g1 g2 g3 g4 => ?_) (fun hge M2 fr2 g1 g3 g4 => ?_)
          · rw [aCons_ok hlt2] at hq
            show Ev _ _ _ _ [.long u] _
            iterate 3 (refine ev_s rfl (?_ : Ev _ _ _ _ _ _))
            rw [← Int32.sub_eq_add_neg]
            exact ih M2 fr2 ψ2 _ _ u _ _ (by omega) (hR.core g1 g4) g2 ((hs.tr g4).sub (by decide)) hq
          · rw [aCons_no (by omega)] at hq
            have fin : ∀ z3 z6, Ev (BC (d + 4) qX4_closeList) Q 139 [some (.ref 24), some (.int (nI s)), some (.int (nI st)), z3, some (.long (-1)), none, z6] [] M2 := fun z3 z6 => full M2 fr2 ψ1 H1 n1 z3 z6 g1 (m2.same g4 (by decide) (by decide) (by decide)) (by rw [(g4 24 (by decide)).1]; exact m8) (by rw [(g4 24 (by decide)).1]; exact m6) ((hs.tr g4).sub (by decide)) hq
            show Ev _ _ _ _ [.long (-1)] _
            repeat (refine ev_s rfl (?_ : Ev _ _ _ _ _ _))
            refine ev_ic rfl (fun _ => fin _ _) (fun _ => ?_)
            repeat (refine ev_s rfl (?_ : Ev _ _ _ _ _ _))
            refine ev_lifT rfl (show (-1 : Int64) = -1 from rfl) ?_
            exact fin _ _
      repeat (refine ev_s rfl (?_ : Ev _ _ _ _ _ _))
      rw [k5]
      refine ev_ifF rfl (nI_nle (by omega) (by omega)) ?_
      repeat (refine ev_s rfl (?_ : Ev _ _ _ _ _ _))
      rw [k5]
      refine ev_icF rfl (nI_nlt (a := 60) (b := r.length + 1) (by omega) (by decide)) ?_
      repeat (refine ev_s rfl (?_ : Ev _ _ _ _ _ _))
      rw [k5]
      repeat (refine ev_s rfl (?_ : Ev _ _ _ _ _ _))
      rw [nI_pred]
      refine ev_iald rfl rfl (vp_in_nI (show r.length < 60 by omega) (by decide)) ?_
      rw [nI_clamp (by omega), k10.2.1]
      repeat (refine ev_s rfl (?_ : Ev _ _ _ _ _ _))
      refine ev_cv rfl (as := [.ref 11]) rfl rfl (Nat.le_of_ble_eq_true rfl) ?_
      refine rowA_size r_pend k1.2.2.2.2.2.2.1 ?_
      show Ev _ _ _ _ [.int (nI pe.length)] _
      repeat (refine ev_s rfl (?_ : Ev _ _ _ _ _ _))
      unfold rClose at hq
      dsimp only at hq
      refine ev_ic rfl (fun hc => ?_) (fun hc => ?_)
      · have n6 : ¬ s = 6 := fun h9 => hc (c6.mpr h9)
        rw [if_pos (by omega)] at hq
        iterate 2 (refine ev_s rfl (?_ : Ev _ _ _ _ _ _))
        have e9 : nI pe.length = nI (st + (pe.length - st)) := by congr 1; omega
        rw [e9]
        refine loop (pe.length - st) M fr ψ H n 0 (aS 0) _ (by omega) h (Tv.lN (k := 0) (by omega) (by decide)) Same.rf ?_
        rw [List.take_of_length_le (by rw [List.length_drop]; omega)]
        exact hq
      · have y6 : s = 6 := c6.mp (Decidable.not_not.mp hc)
        have hlt6 := k12.1.2.2.2 y6
        rw [if_neg (by omega), if_pos y6] at hq
        obtain ⟨m, hm⟩ : ∃ m, pe.length = m + 1 := ⟨pe.length - 1, by omega⟩
        rw [hm, nI_pred]
        repeat (refine ev_s rfl (?_ : Ev _ _ _ _ _ _))
        refine ev_cv rfl (as := [.ref 11, .int (nI m)]) rfl rfl (Nat.le_of_ble_eq_true rfl) ?_
        have e1 : pe[m]? = some (pe.getLast?.getD (aS 0)) := by
          rw [List.getLast?_eq_getElem?, show pe.length - 1 = m by omega]
          rw [List.getElem?_eq_getElem (by omega)]
          rfl
        refine rowA_at r_pend k1.2.2.2.2.2.2.1 e1 (fun w2 hw2 => ?_)
        show Ev _ _ _ _ [.long w2] _
        iterate 4 (refine ev_s rfl (?_ : Ev _ _ _ _ _ _))
        rw [← Int32.sub_eq_add_neg]
        have e9 : nI m = nI (st + (m - st)) := by congr 1; omega
        rw [e9]
        refine loop (m - st) M fr ψ H n w2 _ _ (by omega) h hw2 Same.rf ?_
        rw [show (pe.drop st).take (m - st) = (pe.drop st).dropLast by rw [List.dropLast_eq_take, List.length_drop]; congr 1; omega]
        exact hq
  repeat (refine ev_s rfl (?_ : Ev _ _ _ _ _ _))
  refine ev_cv rfl (as := [.ref 24]) rfl rfl (Nat.le_of_ble_eq_true rfl) ?_
  refine r_state h ?_
  show Ev _ _ _ _ [.int (nI (rSt op wh))] _
  repeat (refine ev_s rfl (?_ : Ev _ _ _ _ _ _))
  refine ev_ic rfl (fun hc => main (Or.inl (c3.mp hc))) (fun hc3 => ?_)
  repeat (refine ev_s rfl (?_ : Ev _ _ _ _ _ _))
  refine ev_ic rfl (fun hc => main (Or.inr (Or.inl (c4.mp hc)))) (fun hc4 => ?_)
  repeat (refine ev_s rfl (?_ : Ev _ _ _ _ _ _))
  refine ev_ic rfl (fun hc => main (Or.inr (Or.inr (c6.mp hc)))) (fun hc6 => ?_)
  repeat (refine ev_s rfl (?_ : Ev _ _ _ _ _ _))
  rw [k6]
  refine ev_cv rfl (as := [.ref 24, .int 1, .int (nI p)]) rfl rfl (Nat.le_of_ble_eq_true rfl) ?_
  refine r_fail ?_
  show Ev _ _ _ _ [] _
  refine ev_retv rfl rfl (hq _ ?_)
  have e : rClose lim fns p op pe wh nm H n = .inr (1, p, nm, H, n) := by
    unfold rClose
    cases op with
    | nil => rfl
    | cons o r =>
      obtain ⟨s, st⟩ := o
      have n3 : ¬ s = 3 := fun h9 => hc3 (c3.mpr h9)
      have n4 : ¬ s = 4 := fun h9 => hc4 (c4.mpr h9)
      have n6 : ¬ s = 6 := fun h9 => hc6 (c6.mpr h9)
      dsimp only
      rw [if_neg (by omega), if_neg n6]
  rw [e]
  exact h.flt (c := 1) (by decide) (by decide) (by omega)
theorem slice_take {p k : Nat} (h : p + k ≤ N) : slice (l.take N) p k = slice l p k := by
  unfold slice
  rw [List.drop_take, List.take_take]
  congr 1; omega
theorem CoreA.names {ns ns' : Nat} {x e f : AV} {ha sk : List AV} (h : CoreA M fr ψ ns lim H n x e f fns pe ha sk) (hn : ns ≤ ns') : CoreA M fr ψ ns' lim H n x e f fns pe ha sk := by
  have vm : ∀ v, Vd fr ns v → Vd fr ns' v := fun v hv => by
    rcases hv with ⟨k, k1, k2, k3⟩ | h1 | h1
    · exact Or.inl ⟨k, by omega, k2, k3⟩
    · exact Or.inr (Or.inl h1)
    · exact Or.inr (Or.inr h1)
  have rm : ∀ {r a m : Nat} {as : List AV}, RowA M fr ψ ns r a m as → RowA M fr ψ ns' r a m as := fun {r a m as} hr => by
    obtain ⟨l, k1, k2, k3⟩ := hr
    exact ⟨l, k1, k2, fun v hv => vm v (k3 v hv)⟩
  obtain ⟨⟨a1, a2, a3, a4, a5, a6⟩, h2, h3, h4, h5, ⟨lf, f1, f2, f3⟩, h7, h8, h9⟩ := h
  refine ⟨⟨a1, a2, a3, a4, a5, fun c hc hcf => ?_, a6.2⟩, h2, ⟨vm _ h3.1, h3.2⟩, ⟨vm _ h4.1, h4.2⟩, ⟨vm _ h5.1, h5.2⟩, ⟨lf, f1, f2, fun v hv => (f3 v hv).imp id (vm v)⟩, rm h7, rm h8, rm h9⟩
  obtain ⟨b1, b2, b3, b4⟩ := a6.1 c hc hcf
  exact ⟨b1, vm _ b2, vm _ b3, b4⟩
theorem Tv.names {ns ns' : Nat} {v : Int64} {a : AV} (h : Tv fr ψ ns v a) (hn : ns ≤ ns') : Tv fr ψ ns' v a := by
  refine ⟨?_, h.2⟩
  rcases h.1 with ⟨k, k1, k2, k3⟩ | h1 | h1
  · exact Or.inl ⟨k, by omega, k2, k3⟩
  · exact Or.inr (Or.inl h1)
  · exact Or.inr (Or.inr h1)
/-- a new name -/
theorem RdC.names (h : RdC l N lim fns M fr ψ H n p op pe wh nm) {M' : PM} {w : List Nat} (hS : SymIs M' (nm ++ [w])) (hs : Same [6, 7, 8] M M') : RdC l N lim fns M' fr ψ H n p op pe wh (nm ++ [w]) := by
  obtain ⟨k1, k2, k3, k4, k5, k6, k7, k8, k9, k10, k11, k12, k13, k14, k15, k16⟩ := h
  have e24 := hs 24 (by decide)
  refine ⟨(k1.same hs (by decide)).names (by simp), hS, k3.same hs (by decide) (by decide), k4, by rw [e24.1]; exact k5, by rw [e24.1]; exact k6, by rw [e24.1]; exact k7, by rw [e24.1]; exact k8, by rw [e24.1]; exact k9, k10.congr (fun i _ => ⟨by rw [(hs 25 (by decide)).1], by rw [(hs 26 (by decide)).1]⟩), k11, k12, k13, k14, by simp; omega, ?_⟩
  cases wh with
  | none => show M'.1 24 11 = 0; rw [e24.1]; exact k16
  | some a => exact ⟨by rw [e24.1]; exact k16.1, by rw [e24.2]; exact k16.2.1.names (by simp), k16.2.2⟩
/-- the byte at a place of the text -/
theorem RdC.byte (h : RdC l N lim fns M fr ψ H n p op pe wh nm) {q : Nat} (hq : q < N) : ∃ c, (l.take N)[q]? = some c ∧ c < 256 ∧ bAt l (nI q) = nI c ∧ l[q]? = some c := by
  have hl := h.2.2.2.1
  have h2 := h.2.2.1
  have e : l[q]? = some l[q] := List.getElem?_eq_getElem (by omega)
  refine ⟨l[q], by rw [List.getElem?_take_of_lt hq]; exact e, (h2.2.2 q _ e).1, ?_, e⟩
  have := h2.2.1
  rw [bAt_nI (by omega), e]
  rfl
theorem RdC.len (h : RdC l N lim fns M fr ψ H n p op pe wh nm) : (l.take N).length = N := by rw [List.length_take]; have := h.2.2.2.1; omega
theorem an128 {c : Nat} (h : isAn c = true) : c < 128 := by
  unfold isAn isLt isDg at h
  simp at h
  omega
theorem r_readSymbol {d : Nat} (h : RdC l N lim fns M fr ψ H n p op pe wh nm) {Q : Option (Option Value) → PM → Prop}
    (hS : ∀ k q nm' M', rSym (l.take N) p nm = .inl (k, q, nm') → RdC l N lim fns M' fr ψ H n q op pe wh nm' → k < nm'.length → nm'.length ≤ 300 → Same [6, 7, 8, 24] M M' → Q (some (some (.int (nI k)))) M')
    (hF : ∀ f M', rSym (l.take N) p nm = .inr f → PostR l N lim fns M (.inr (f, p, nm, H, n)) M' → M'.1 24 6 = nI op.length → M'.1 24 11 = M.1 24 11 → Q (some (some (.int (-1)))) M') : SC (d + 4) 77 [.ref 24] M Q := by
  refine ⟨qX4_readSymbol, rfl, ⟨Nat.le_of_ble_eq_true rfl, rfl, 24, _, _, rfl, rfl⟩, ?_⟩
  show Ev (BC (d + 3) qX4_readSymbol) Q 0 [some (.ref 24), none, none] [] M
  have hlen := h.len
  have hpN : p ≤ N := h.2.2.2.2.2.2.2.2.2.2.2.2.1
  have h2000 : N ≤ 2000 := by have := h.2.2.1.2.1; have := h.2.2.2.1; omega
  have e := spanE_le (f := isAn) (t := l.take N) (p := p) (by rw [hlen]; exact hpN)
  have e2 := spanE_ge (f := isAn) (t := l.take N) (p := p)
  rw [hlen] at e
  -- behind the signs
  have fin : ∀ M1 : PM, RdC l N lim fns M1 fr ψ H n (spanE isAn (l.take N) p) op pe wh nm → Same [24] M M1 → M1.1 24 11 = M.1 24 11 → Ev (BC (d + 3) qX4_readSymbol) Q 63 [some (.ref 24), some (.int (nI p)), none] [] M1 := by
    intro M1 hR hs h11
    generalize hqq : spanE isAn (l.take N) p = q at *
    obtain ⟨k1, k2, k3, k4, k5, k6, k7, k8, k9, k10, k11, k12, k13, k14, k15, k16⟩ := id hR
    repeat (refine ev_s rfl (?_ : Ev _ _ _ _ _ _))
    rw [k6, pk_sub e2]
    refine ev_ic rfl (fun hc => ?_) (fun hc => ?_)
    · have h10 : q - p ≤ 10 := (nI_leI (b := 10) (by omega) (by decide)).mp hc
      repeat (refine ev_s rfl (?_ : Ev _ _ _ _ _ _))
      rw [k6, pk_sub e2]
      have esl : slice (l.take N) p (q - p) = slice l p (q - p) := slice_take (by omega)
      refine ev_cv rfl (as := [.ref 6, .ref 2, .int (nI p), .int (nI (q - p))]) rfl rfl (Nat.le_of_ble_eq_true rfl) ?_
      refine sym_named k2 k3 h10 (by omega) (fun c hc => ?_) (fun k hk hk2 => ?_) (fun hk hk2 => ?_) (fun hk hk2 M2 g1 g2 => ?_)
      · rw [← esl] at hc
        exact an128 (spanE_all (f := isAn) (t := l.take N) (p := p) c (by rw [hqq]; exact hc))
      · have hkl := (List.getElem?_eq_some_iff.mp hk).1
        have h300 := k2.2.1
        show Ev _ _ _ _ [.int (nI k)] _
        repeat (refine ev_s rfl (?_ : Ev _ _ _ _ _ _))
        refine ev_icT rfl (show ¬ nI k = -1 from fun h9 => absurd (show (0 : Int32) ≤ -1 from h9 ▸ nI_pos' (by omega)) (by decide)) ?_
        repeat (refine ev_s rfl (?_ : Ev _ _ _ _ _ _))
        refine ev_reti rfl rfl trivial rfl (hS k q nm M1 ?_ hR hkl h300 (hs.sub (by decide)))
        unfold rSym
        rw [hqq, if_pos h10, esl, fidx_some nm k 0 hk hk2, Nat.zero_add]
      · show Ev _ _ _ _ [.int (-1)] _
        repeat (refine ev_s rfl (?_ : Ev _ _ _ _ _ _))
        refine ev_icF rfl (show ¬ ¬ (-1 : Int32) = -1 from fun h9 => h9 rfl) ?_
        repeat (refine ev_s rfl (?_ : Ev _ _ _ _ _ _))
        refine ev_cv rfl (as := [.ref 24, .int 3, .int (nI p)]) rfl rfl (Nat.le_of_ble_eq_true rfl) ?_
        refine r_fail ?_
        have e6 : (rfl9 (nI 3) (nI p) M1).1 24 6 = M1.1 24 6 := by unfold rfl9; rw [if_pos k8, mI_ne (Or.inr (by decide)), mI_ne (Or.inr (by decide))]
        have e11 : (rfl9 (nI 3) (nI p) M1).1 24 11 = M1.1 24 11 := by unfold rfl9; rw [if_pos k8, mI_ne (Or.inr (by decide)), mI_ne (Or.inr (by decide))]
        show Ev _ _ _ _ [] _
        repeat (refine ev_s rfl (?_ : Ev _ _ _ _ _ _))
        refine ev_reti rfl rfl trivial rfl (hF 3 _ ?_ ((hR.flt (c := 3) (by decide) (by decide) (by omega)).from hs (by decide)) (e6.trans k5) (e11.trans h11))
        unfold rSym
        rw [hqq, if_pos h10, esl, fidx_none nm 0 hk]
        exact if_neg (by omega)
      · have hR2 := hR.names g1 g2
        show Ev _ _ _ _ [.int (nI nm.length)] _
        repeat (refine ev_s rfl (?_ : Ev _ _ _ _ _ _))
        refine ev_icT rfl (show ¬ nI nm.length = -1 from fun h9 => absurd (show (0 : Int32) ≤ -1 from h9 ▸ nI_pos' (by omega)) (by decide)) ?_
        repeat (refine ev_s rfl (?_ : Ev _ _ _ _ _ _))
        refine ev_reti rfl rfl trivial rfl (hS nm.length q (nm ++ [slice l p (q - p)]) M2 ?_ hR2 (by simp) (by simp; omega) ((hs.tr g2).sub (by decide)))
        unfold rSym
        rw [hqq, if_pos h10, esl, fidx_none nm 0 hk]
        exact if_pos hk2
    · have h10 : ¬ q - p ≤ 10 := fun h9 => hc (nI_le (b := 10) h9 (by decide))
      repeat (refine ev_s rfl (?_ : Ev _ _ _ _ _ _))
      refine ev_cv rfl (as := [.ref 24, .int 2, .int (nI p)]) rfl rfl (Nat.le_of_ble_eq_true rfl) ?_
      refine r_fail ?_
      have e6 : (rfl9 (nI 2) (nI p) M1).1 24 6 = M1.1 24 6 := by unfold rfl9; rw [if_pos k8, mI_ne (Or.inr (by decide)), mI_ne (Or.inr (by decide))]
      have e11 : (rfl9 (nI 2) (nI p) M1).1 24 11 = M1.1 24 11 := by unfold rfl9; rw [if_pos k8, mI_ne (Or.inr (by decide)), mI_ne (Or.inr (by decide))]
      show Ev _ _ _ _ [] _
      repeat (refine ev_s rfl (?_ : Ev _ _ _ _ _ _))
      refine ev_reti rfl rfl trivial rfl (hF 2 _ ?_ ((hR.flt (c := 2) (by decide) (by decide) (by omega)).from hs (by decide)) (e6.trans k5) (e11.trans h11))
      unfold rSym
      rw [hqq, if_neg h10]
  have loop : ∀ (m q : Nat) (M1 : PM), N - q < m → p ≤ q → q ≤ N → spanE isAn (l.take N) q = spanE isAn (l.take N) p → RdC l N lim fns M1 fr ψ H n q op pe wh nm → Same [24] M M1 → M1.1 24 11 = M.1 24 11 → Ev (BC (d + 3) qX4_readSymbol) Q 5 [some (.ref 24), some (.int (nI p)), none] [] M1 := by
    intro m
    induction m with
    | zero => intro q M1 h9; omega
    | succ m ih =>
      intro q M1 hm hpq hqN hsp hR hs h11
      obtain ⟨k1, k2, k3, k4, k5, k6, k7, k8, k9, k10, k11, k12, k13, k14, k15, k16⟩ := id hR
      have stop : spanE isAn (l.take N) q = q → Ev (BC (d + 3) qX4_readSymbol) Q 63 [some (.ref 24), some (.int (nI p)), none] [] M1 := fun h9 => by
        refine fin M1 ?_ hs h11
        rw [← hsp, h9]; exact hR
      repeat (refine ev_s rfl (?_ : Ev _ _ _ _ _ _))
      rw [k6, k7]
      refine ev_ic rfl (fun hc => ?_) (fun hc => ?_)
      · have hge := (nI_leI (by omega) (by omega)).mp hc
        exact stop (spanE_end (by rw [hlen]; exact hge))
      have hlt : q < N := (nI_ltI (by omega) (by omega)).mp (Int32.not_le.mp hc)
      obtain ⟨c, c1, c2, c3, c4⟩ := hR.byte hlt
      have go : isAn c = true → Ev (BC (d + 3) qX4_readSymbol) Q 50 [some (.ref 24), some (.int (nI p)), none] [] M1 := fun h9 => by
        iterate 7 (refine ev_s rfl (?_ : Ev _ _ _ _ _ _))
        rw [k6, nI_1]
        exact ih (q + 1) _ (by omega) (by omega) (by omega) ((spanE_go c1 h9).symm.trans hsp) (hR.at (by omega) (by omega)) ((hs.tr Same.I).sub (by decide)) (by rw [mI_ne (Or.inr (by decide))]; exact h11)
      repeat (refine ev_s rfl (?_ : Ev _ _ _ _ _ _))
      rw [k6]
      refine ev_cv rfl (as := [.ref 2, .int (nI q)]) rfl rfl (Nat.le_of_ble_eq_true rfl) ?_
      refine bytes_at b_tape k3 ?_
      rw [c3]
      show Ev _ _ _ _ [.int (nI c)] _
      refine ev_cs rfl (by decide) (by decide) (as := [.int (nI c)]) rfl rfl (Nat.le_of_ble_eq_true rfl) ?_
      refine r_isLetter c2 ?_
      cases hl : isLt c with
      | true =>
        show Ev _ _ _ _ [.int 1] _
        refine ev_ifT rfl (show ¬ (1 : Int32) = 0 by decide) ?_
        exact go (by simp [isAn, hl])
      | false =>
        show Ev _ _ _ _ [.int 0] _
        refine ev_ifF rfl (show ¬ ¬ (0 : Int32) = 0 by decide) ?_
        repeat (refine ev_s rfl (?_ : Ev _ _ _ _ _ _))
        rw [k6]
        refine ev_cv rfl (as := [.ref 2, .int (nI q)]) rfl rfl (Nat.le_of_ble_eq_true rfl) ?_
        refine bytes_at b_tape k3 ?_
        rw [c3]
        show Ev _ _ _ _ [.int (nI c)] _
        refine ev_cs rfl (by decide) (by decide) (as := [.int (nI c)]) rfl rfl (Nat.le_of_ble_eq_true rfl) ?_
        refine r_isDigit c2 ?_
        cases hg : isDg c with
        | true =>
          show Ev _ _ _ _ [.int 1] _
          refine ev_ifF rfl (show ¬ (1 : Int32) = 0 by decide) ?_
          exact go (by simp [isAn, hg])
        | false =>
          show Ev _ _ _ _ [.int 0] _
          refine ev_ifT rfl (show (0 : Int32) = 0 from rfl) ?_
          exact stop (spanE_no c1 (by simp [isAn, hl, hg]))
  iterate 3 (refine ev_s rfl (?_ : Ev _ _ _ _ _ _))
  rw [h.2.2.2.2.2.1]
  exact loop (N + 1) p M (by omega) (by omega) hpN rfl h Same.rf rfl
end RD3

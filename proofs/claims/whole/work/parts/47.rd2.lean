/-! The class's reader: complete, closeList. -/
section RD2
variable {l : List Nat} {N lim : Nat} {fns : List (Option AV)} {M : PM} {fr : List Nat} {ψ : Nat → Nat} {H : AHp} {n p : Nat} {op : List (Nat × Nat)} {pe : List AV} {wh : Option AV} {nm : List (List Nat)}
theorem r_state_d {d k : Nat} (h6 : M.1 24 6 = nI k) (hk : k ≤ 60) (h11 : M.1 24 11 = 0 ∨ M.1 24 11 = 1) {Q : Option (Option Value) → PM → Prop} (hq : ∀ x, Q (some (some (.int x))) M) : SC (d + 1) 70 [.ref 24] M Q := by
  refine ⟨qX4_state, rfl, ⟨Nat.le_of_ble_eq_true rfl, rfl, 24, _, _, rfl, rfl⟩, ?_⟩
  show Ev (BC (d) qX4_state) Q 0 [some (.ref 24)] [] M
  repeat (refine ev_s rfl (?_ : Ev _ _ _ _ _ _))
  rw [h6]
  cases k with
  | zero =>
    refine ev_ifT rfl (show nI 0 ≤ 0 by decide) ?_
    repeat (refine ev_s rfl (?_ : Ev _ _ _ _ _ _))
    refine ev_if rfl (fun _ => ?_) (fun _ => ?_)
    · repeat (refine ev_s rfl (?_ : Ev _ _ _ _ _ _))
      exact ev_reti rfl rfl trivial rfl (hq _)
    · repeat (refine ev_s rfl (?_ : Ev _ _ _ _ _ _))
      exact ev_reti rfl rfl trivial rfl (hq _)
  | succ k =>
    refine ev_ifF rfl (nI_nle (by omega) (by omega)) ?_
    repeat (refine ev_s rfl (?_ : Ev _ _ _ _ _ _))
    rw [h6]
    refine ev_icF rfl (nI_nlt (a := 60) (b := k + 1) (by omega) (by decide)) ?_
    repeat (refine ev_s rfl (?_ : Ev _ _ _ _ _ _))
    rw [h6]
    repeat (refine ev_s rfl (?_ : Ev _ _ _ _ _ _))
    rw [nI_pred]
    refine ev_iald rfl rfl (vp_in_nI (show k < 60 by omega) (by decide)) ?_
    exact ev_reti rfl rfl trivial rfl (hq _)
theorem RdC.core (h : RdC l N lim fns M fr ψ H n p op pe none nm) {M' : PM} {fr' : List Nat} {ψ' : Nat → Nat} {H' : AHp} {n' : Nat} (hC : CoreA M' fr' ψ' nm.length lim H' n' (aS 0) (aS 0) (aS 0) fns pe [] []) (hs : Same IDC M M') : RdC l N lim fns M' fr' ψ' H' n' p op pe none nm := by
  obtain ⟨k1, k2, k3, k4, k5, k6, k7, k8, k9, k10, k11, k12, k13, k14, k15, k16⟩ := h
  have e24 := (hs 24 (by decide)).1
  exact ⟨hC, k2.same hs (by decide) (by decide) (by decide), k3.same hs (by decide) (by decide), k4, by rw [e24]; exact k5, by rw [e24]; exact k6, by rw [e24]; exact k7, by rw [e24]; exact k8, by rw [e24]; exact k9, k10.congr (fun i _ => ⟨by rw [(hs 25 (by decide)).1], by rw [(hs 26 (by decide)).1]⟩), k11, k12, k13, k14, k15, by show M'.1 24 11 = 0; rw [e24]; exact k16⟩
/-- an open one goes -/
theorem RdC.pop {o : Nat × Nat} {r : List (Nat × Nat)} (h : RdC l N lim fns M fr ψ H n p (o :: r) pe none nm) : RdC l N lim fns (mI M 24 6 (nI r.length)) fr ψ H n p r pe none nm := by
  obtain ⟨k1, k2, k3, k4, k5, k6, k7, k8, k9, k10, k11, k12, k13, k14, k15, k16⟩ := id h
  have hs : Same [24] M (mI M 24 6 (nI r.length)) := Same.I
  obtain ⟨s, st⟩ := o
  refine h.mv (hs.sub (by decide)) mI_at ?_ ?_ ?_ ?_ ?_ rfl (k10.2.2.congr (fun i _ => ⟨by rw [mI_ne (Or.inl (by decide))], by rw [mI_ne (Or.inl (by decide))]⟩)) (by simp at k11; omega) (k12.2.mono k12.1.2.2.1) k13 (Nat.le_refl _) (fun h9 => by cases h9)
  · rw [mI_ne (Or.inr (by decide))]; exact k6
  · rw [mI_ne (Or.inr (by decide))]
  · rw [mI_ne (Or.inr (by decide))]
  · rw [mI_ne (Or.inr (by decide))]
  · rw [mI_ne (Or.inr (by decide))]
theorem RdC.none (h : RdC l N lim fns M fr ψ H n p op pe wh nm) (hm : rMay op wh = true ∨ op ≠ []) : wh = none := by
  cases wh with
  | none => rfl
  | some a =>
    have e := h.2.2.2.2.2.2.2.2.2.2.2.2.2.2.2.2.2
    subst e
    rcases hm with hm | hm
    · cases hm
    · exact (hm rfl).elim
theorem r_complete_d {d k : Nat} {v : Int64} {x : Int32} (h9 : M.1 24 9 ≠ 0) (h6 : M.1 24 6 = nI k) (hk : k ≤ 60) (h11 : M.1 24 11 = 0 ∨ M.1 24 11 = 1) {Q : Option (Option Value) → PM → Prop} (hq : Q (some none) M) : SC (d + 2) 79 [.ref 24, .long v, .int x] M Q := by
  refine ⟨qX4_complete, rfl, ⟨Nat.le_of_ble_eq_true rfl, rfl, 24, _, _, rfl, rfl⟩, ?_⟩
  show Ev (BC (d + 1) qX4_complete) Q 0 [some (.ref 24), some (.long v), none, some (.int x), none, none, none, none, none] [] M
  have out : ∀ L : List (Option Value), L[0]? = some (some (.ref 24)) → Ev (BC (d + 1) qX4_complete) Q 102 L [] M := fun L hL => by
    refine ev_s rfl (?_ : p_ld _ _ _)
    unfold p_ld
    rw [hL]
    show Ev _ _ _ _ [.ref 24] _
    repeat (refine ev_s rfl (?_ : Ev _ _ _ _ _ _))
    refine ev_ifF rfl (show ¬ M.1 24 9 = 0 from h9) ?_
    exact ev_retv rfl rfl hq
  repeat (refine ev_s rfl (?_ : Ev _ _ _ _ _ _))
  refine ev_if rfl (fun _ => out _ rfl) (fun _ => ?_)
  repeat (refine ev_s rfl (?_ : Ev _ _ _ _ _ _))
  refine ev_cv rfl (as := [.ref 24]) rfl rfl (Nat.le_of_ble_eq_true rfl) ?_
  refine r_state_d h6 hk h11 (fun y => ?_)
  show Ev _ _ _ _ [.int y] _
  repeat (refine ev_s rfl (?_ : Ev _ _ _ _ _ _))
  refine ev_ic rfl (fun _ => out _ rfl) (fun _ => ?_)
  repeat (refine ev_s rfl (?_ : Ev _ _ _ _ _ _))
  refine ev_ifT rfl (show ¬ M.1 24 9 = 0 from h9) ?_
  exact out _ rfl
theorem r_complete {d lt : Nat} {v : Int64} {a : AV} (h : RdC l N lim fns M fr ψ H n p op pe none nm) (hv : Tv fr ψ nm.length v a) (hpe : pe.length < p) (hlt : lt ≤ 2000) {Q : Option (Option Value) → PM → Prop} (hq : ∀ M', PostR l N lim fns M (rDone lim fns lt p pe none nm op a H n) M' → Q (some none) M') : SC (d + 4) 79 [.ref 24, .long v, .int (nI lt)] M Q := by
  refine ⟨qX4_complete, rfl, ⟨Nat.le_of_ble_eq_true rfl, rfl, 24, _, _, rfl, rfl⟩, ?_⟩
  show Ev (BC (d + 3) qX4_complete) Q 0 [some (.ref 24), some (.long v), none, some (.int (nI lt)), none, none, none, none, none] [] M
  -- with a fault
  have d102 : ∀ (M1 : PM) (L : List (Option Value)), L[0]? = some (some (.ref 24)) → M1.1 24 9 ≠ 0 → Q (some none) M1 → Ev (BC (d + 3) qX4_complete) Q 102 L [] M1 := fun M1 L hL h9 hq => by
    refine ev_s rfl (?_ : p_ld _ _ _)
    unfold p_ld
    rw [hL]
    show Ev _ _ _ _ [.ref 24] _
    repeat (refine ev_s rfl (?_ : Ev _ _ _ _ _ _))
    refine ev_ifF rfl (show ¬ M1.1 24 9 = 0 from h9) ?_
    exact ev_retv rfl rfl hq
  have d9 : ∀ (M1 : PM) (j : Nat) (y : Int32) (w4 : Int64) (z7 z8 : Option Value), M1.1 24 9 ≠ 0 → M1.1 24 6 = nI j → j ≤ 60 → M1.1 24 11 = 0 → Q (some none) M1 → Ev (BC (d + 3) qX4_complete) Q 9 [some (.ref 24), some (.long v), none, some (.int (nI lt)), some (.long w4), none, some (.int y), z7, z8] [] M1 := by
    intro M1 j y w4 z7 z8 h9 h6 hj h11 hq
    repeat (refine ev_s rfl (?_ : Ev _ _ _ _ _ _))
    refine ev_if rfl (fun _ => d102 M1 _ rfl h9 hq) (fun _ => ?_)
    repeat (refine ev_s rfl (?_ : Ev _ _ _ _ _ _))
    refine ev_cv rfl (as := [.ref 24]) rfl rfl (Nat.le_of_ble_eq_true rfl) ?_
    refine r_state_d h6 hj (Or.inl h11) (fun y => ?_)
    show Ev _ _ _ _ [.int y] _
    repeat (refine ev_s rfl (?_ : Ev _ _ _ _ _ _))
    refine ev_ic rfl (fun _ => d102 M1 _ rfl h9 hq) (fun _ => ?_)
    repeat (refine ev_s rfl (?_ : Ev _ _ _ _ _ _))
    refine ev_ifT rfl (show ¬ M1.1 24 9 = 0 from h9) ?_
    exact d102 M1 _ rfl h9 hq
  -- memory is full
  have full : ∀ (M1 : PM) (fr1 : List Nat) (ψ1 : Nat → Nat) (H1 : AHp) (n1 : Nat) (r : List (Nat × Nat)) (y : Int32) (w4 : Int64) (z7 z8 : Option Value), CoreA M1 fr1 ψ1 nm.length lim H1 n1 (aS 0) (aS 0) (aS 0) fns pe [] [] → SymIs M1 nm → M1.1 24 9 = 0 → M1.1 24 11 = 0 → M1.1 24 6 = nI (r.length + 1) → r.length < 60 → 23 ≤ nm.length → Same IDR M M1 → (∀ M', PostR l N lim fns M (.inr (8, lt, nm, H1, n1)) M' → Q (some none) M') → Ev (BC (d + 3) qX4_complete) Q 68 [some (.ref 24), some (.long v), none, some (.int (nI lt)), some (.long w4), none, some (.int y), z7, z8] [.long (-1)] M1 := by
    intro M1 fr1 ψ1 H1 n1 r y w4 z7 z8 hC hS h9 h11 h6 hr h23 hs hq
    repeat (refine ev_s rfl (?_ : Ev _ _ _ _ _ _))
    refine ev_lifF rfl (show ¬ ¬ (-1 : Int64) = -1 from fun h9 => h9 rfl) ?_
    repeat (refine ev_s rfl (?_ : Ev _ _ _ _ _ _))
    refine ev_cv rfl (as := [.ref 24, .int (nI 8), .int (nI lt)]) rfl rfl (Nat.le_of_ble_eq_true rfl) ?_
    refine r_fail ?_
    have e : rfl9 (nI 8) (nI lt) M1 = mI (mI M1 24 9 (nI 8)) 24 10 (nI lt) := if_pos h9
    rw [e]
    have e6 : (mI (mI M1 24 9 (nI 8)) 24 10 (nI lt)).1 24 6 = nI (r.length + 1) := by rw [mI_ne (Or.inr (by decide)), mI_ne (Or.inr (by decide))]; exact h6
    show Ev _ _ _ _ [] _
    iterate 8 (refine ev_s rfl (?_ : Ev _ _ _ _ _ _))
    rw [e6, nI_pred]
    have s2 : Same [24] M1 (mI (mI (mI M1 24 9 (nI 8)) 24 10 (nI lt)) 24 6 (nI r.length)) := ((Same.I.tr Same.I).tr Same.I).sub (by decide)
    refine d9 _ r.length _ (-1) _ _ ?_ mI_at (by omega) ?_ (hq _ ⟨(hs.tr s2).sub (by decide), ⟨fr1, ψ1, pe, hC.same s2 (by decide)⟩, hS.same s2 (by decide) (by decide) (by decide), ?_, ?_, by decide, by decide, hlt, h23⟩)
    · rw [mI_ne (Or.inr (by decide)), mI_ne (Or.inr (by decide)), mI_at]; decide
    · rw [mI_ne (Or.inr (by decide)), mI_ne (Or.inr (by decide)), mI_ne (Or.inr (by decide))]; exact h11
    · rw [mI_ne (Or.inr (by decide)), mI_ne (Or.inr (by decide)), mI_at]
    · rw [mI_ne (Or.inr (by decide)), mI_at]
  have loop : ∀ (op : List (Nat × Nat)) (M1 : PM) (fr1 : List Nat) (ψ1 : Nat → Nat) (H1 : AHp) (n1 : Nat) (w4 : Int64) (a4 : AV) (z7 z8 : Option Value), RdC l N lim fns M1 fr1 ψ1 H1 n1 p op pe none nm → Tv fr1 ψ1 nm.length w4 a4 → Same IDR M M1 → (∀ M', PostR l N lim fns M (rDone lim fns lt p pe none nm op a4 H1 n1) M' → Q (some none) M') → Ev (BC (d + 3) qX4_complete) Q 9 [some (.ref 24), some (.long v), none, some (.int (nI lt)), some (.long w4), none, some (.int (nI op.length)), z7, z8] [] M1 := by
    intro op
    induction op with
    | nil =>
      intro M1 fr1 ψ1 H1 n1 w4 a4 z7 z8 hR hw hs hq
      obtain ⟨k1, k2, k3, k4, k5, k6, k7, k8, k9, k10, k11, k12, k13, k14, k15, k16⟩ := id hR
      repeat (refine ev_s rfl (?_ : Ev _ _ _ _ _ _))
      refine ev_ifT rfl (show nI ([] : List (Nat × Nat)).length ≤ 0 by decide) ?_
      repeat (refine ev_s rfl (?_ : Ev _ _ _ _ _ _))
      rw [k8]
      refine ev_ifT rfl (show (0 : Int32) = 0 from rfl) ?_
      repeat (refine ev_s rfl (?_ : Ev _ _ _ _ _ _))
      rw [k5]
      refine ev_ifF rfl (show ¬ ¬ nI ([] : List (Nat × Nat)).length = 0 by decide) ?_
      repeat (refine ev_s rfl (?_ : Ev _ _ _ _ _ _))
      refine ev_s rfl ⟨rfl, rfl, ?_⟩
      repeat (refine ev_s rfl (?_ : Ev _ _ _ _ _ _))
      have s2 : Same [24] M1 (mJ (mI M1 24 11 1) 24 12 w4) := (Same.I.tr Same.J).sub (by decide)
      refine ev_retv rfl rfl (hq _ ⟨(hs.tr s2).sub (by decide), fr1, ψ1, k1.same s2 (by decide), k2.same s2 (by decide) (by decide) (by decide), k3.same s2 (by decide) (by decide), k4, ?_, ?_, ?_, ?_, ?_, trivial, k11, trivial, k13, k14, k15, ?_, ?_, rfl⟩)
      · rw [mJ_1, mI_ne (Or.inr (by decide))]; exact k5
      · rw [mJ_1, mI_ne (Or.inr (by decide))]; exact k6
      · rw [mJ_1, mI_ne (Or.inr (by decide))]; exact k7
      · rw [mJ_1, mI_ne (Or.inr (by decide))]; exact k8
      · rw [mJ_1, mI_ne (Or.inr (by decide))]; exact k9
      · rw [mJ_1, mI_at]
      · rw [mJ_at]; exact hw
    | cons o r ih =>
      obtain ⟨s, st⟩ := o
      intro M1 fr1 ψ1 H1 n1 w4 a4 z7 z8 hR hw hs hq
      obtain ⟨k1, k2, k3, k4, k5, k6, k7, k8, k9, k10, k11, k12, k13, k14, k15, k16⟩ := id hR
      have el : ((s, st) :: r).length = r.length + 1 := rfl
      have h6 := k12.1
      unfold rDone at hq
      repeat (refine ev_s rfl (?_ : Ev _ _ _ _ _ _))
      refine ev_ifF rfl (nI_nle (by rw [el]; omega) (by rw [el]; rw [el] at k11; omega)) ?_
      repeat (refine ev_s rfl (?_ : Ev _ _ _ _ _ _))
      refine ev_cv rfl (as := [.ref 24]) rfl rfl (Nat.le_of_ble_eq_true rfl) ?_
      refine r_state hR ?_
      show Ev _ _ _ _ [.int (nI s)] _
      repeat (refine ev_s rfl (?_ : Ev _ _ _ _ _ _))
      have c2 : (nI s = 2) ↔ s = 2 := nI_eq (b := 2) (by omega) (by decide)
      refine ev_ic rfl (fun hc => ?_) (fun hc => ?_)
      · have n2 : ¬ s = 2 := fun h9 => hc (c2.mpr h9)
        rw [if_neg n2] at hq
        repeat (refine ev_s rfl (?_ : Ev _ _ _ _ _ _))
        rw [k8]
        refine ev_ifT rfl (show (0 : Int32) = 0 from rfl) ?_
        repeat (refine ev_s rfl (?_ : Ev _ _ _ _ _ _))
        rw [k5]
        refine ev_ifT rfl (nI_ne0 (by rw [el]; omega) (by rw [el]; rw [el] at k11; omega)) ?_
        repeat (refine ev_s rfl (?_ : Ev _ _ _ _ _ _))
        refine ev_cv rfl (as := [.ref 11, .long w4]) rfl rfl (Nat.le_of_ble_eq_true rfl) ?_
        have hlN := k3.2.1
        refine rowA_add r_pend k1.2.2.2.2.2.2.1 hw (by omega) (fun M2 g1 g2 => ?_)
        have e24 := g2 24 (by decide)
        have hR2 : RdC l N lim fns M2 fr1 ψ1 H1 n1 p ((s, st) :: r) (pe ++ [a4]) none nm := ⟨k1.setPe g2 (by decide) g1, k2.same g2 (by decide) (by decide) (by decide), k3.same g2 (by decide) (by decide), k4, by rw [e24.1]; exact k5, by rw [e24.1]; exact k6, by rw [e24.1]; exact k7, by rw [e24.1]; exact k8, by rw [e24.1]; exact k9, k10.congr (fun i _ => ⟨by rw [(g2 25 (by decide)).1], by rw [(g2 26 (by decide)).1]⟩), k11, k12.mono (by simp), k13, by simp; omega, k15, by show M2.1 24 11 = 0; rw [e24.1]; exact k16⟩
        show Ev _ _ _ _ [] _
        repeat (refine ev_s rfl (?_ : Ev _ _ _ _ _ _))
        refine ev_cv rfl (as := [.ref 24]) rfl rfl (Nat.le_of_ble_eq_true rfl) ?_
        refine r_state hR2 ?_
        show Ev _ _ _ _ [.int (nI s), .ref 24] _
        repeat (refine ev_s rfl (?_ : Ev _ _ _ _ _ _))
        have c5 : (nI s = 5) ↔ s = 5 := nI_eq (b := 5) (by omega) (by decide)
        refine ev_ic rfl (fun hc5 => ?_) (fun hc5 => ?_)
        · rw [if_neg (fun h9 => hc5 (c5.mpr h9))] at hq
          repeat (refine ev_s rfl (?_ : Ev _ _ _ _ _ _))
          refine ev_cv rfl (as := [.ref 24, .int (nI 4)]) rfl rfl (Nat.le_of_ble_eq_true rfl) ?_
          refine r_setState hR2 ⟨by decide, by decide, fun h9 => by omega⟩ (fun M3 g3 g4 => ?_)
          show Ev _ _ _ _ [] _
          exact ev_retv rfl rfl (hq M3 ⟨((hs.tr g2).tr g4).sub (by decide), fr1, ψ1, g3⟩)
        · rw [if_pos (c5.mp (Decidable.not_not.mp hc5))] at hq
          repeat (refine ev_s rfl (?_ : Ev _ _ _ _ _ _))
          refine ev_cv rfl (as := [.ref 24, .int (nI 6)]) rfl rfl (Nat.le_of_ble_eq_true rfl) ?_
          refine r_setState hR2 ⟨by decide, by decide, fun _ => by simp; omega⟩ (fun M3 g3 g4 => ?_)
          show Ev _ _ _ _ [] _
          exact ev_retv rfl rfl (hq M3 ⟨((hs.tr g2).tr g4).sub (by decide), fr1, ψ1, g3⟩)
      · have y2 : s = 2 := c2.mp (Decidable.not_not.mp hc)
        rw [if_pos y2] at hq
        repeat (refine ev_s rfl (?_ : Ev _ _ _ _ _ _))
        rw [k8]
        refine ev_ifF rfl (show ¬ ¬ (0 : Int32) = 0 by decide) ?_
        repeat (refine ev_s rfl (?_ : Ev _ _ _ _ _ _))
        have hn : 23 ≤ nm.length := k15
        have k11' : r.length < 60 := by rw [el] at k11; omega
        refine ev_cv rfl (as := [.ref 17, .long w4, .long (lN 0)]) rfl rfl (Nat.le_of_ble_eq_true rfl) ?_
        refine core_make k1 hw (Tv.lN (k := 0) (by omega) (by decide)) (fun hlt2 M2 fr2 ψ2 u g1 g2 g3 g4 => ?_) (fun hge M2 fr2 g1 g3 g4 => ?_)
        · rw [aCons_ok hlt2] at hq
          have hR2 := hR.core g1 g4
          show Ev _ _ _ _ [.long u] _
          repeat (refine ev_s rfl (?_ : Ev _ _ _ _ _ _))
          refine ev_lifT rfl (show ¬ u = -1 from g2.miss) ?_
          repeat (refine ev_s rfl (?_ : Ev _ _ _ _ _ _))
          refine ev_cv rfl (as := [.ref 17, .long (lN 2), .long u]) rfl rfl (Nat.le_of_ble_eq_true rfl) ?_
          refine core_make g1 (Tv.lN (k := 2) (by omega) (by decide)) g2 (fun hlt3 M3 fr3 ψ3 u2 g5 g6 g7 g8 => ?_) (fun hge M3 fr3 g5 g7 g8 => ?_)
          · rw [aCons_ok hlt3] at hq
            have hR3 := hR2.core g5 g8
            show Ev _ _ _ _ [.long u2] _
            repeat (refine ev_s rfl (?_ : Ev _ _ _ _ _ _))
            refine ev_lifT rfl (show ¬ u2 = -1 from g6.miss) ?_
            iterate 8 (refine ev_s rfl (?_ : Ev _ _ _ _ _ _))
            rw [hR3.2.2.2.2.1, el, nI_pred, ← Int32.sub_eq_add_neg, nI_pred]
            exact ih _ fr3 ψ3 _ _ u2 _ _ _ hR3.pop g6 ((((hs.tr g4).tr g8).tr Same.I).sub (by decide)) hq
          · rw [aCons_no (by omega)] at hq
            show Ev _ _ _ _ [.long (-1)] _
            exact full M3 fr3 ψ2 _ _ r _ _ _ _ g5 ((k2.same g4 (by decide) (by decide) (by decide)).same g8 (by decide) (by decide) (by decide)) (by rw [(g8 24 (by decide)).1, (g4 24 (by decide)).1]; exact k8) (by rw [(g8 24 (by decide)).1, (g4 24 (by decide)).1]; exact k16) (by rw [(g8 24 (by decide)).1, (g4 24 (by decide)).1]; exact k5) k11' hn (((hs.tr g4).tr g8).sub (by decide)) hq
        · rw [aCons_no (by omega)] at hq
          show Ev _ _ _ _ [.long (-1)] _
          repeat (refine ev_s rfl (?_ : Ev _ _ _ _ _ _))
          refine ev_lifF rfl (show ¬ ¬ (-1 : Int64) = -1 from fun h9 => h9 rfl) ?_
          iterate 2 (refine ev_s rfl (?_ : Ev _ _ _ _ _ _))
          exact full M2 fr2 ψ1 _ _ r _ _ _ _ g1 (k2.same g4 (by decide) (by decide) (by decide)) (by rw [(g4 24 (by decide)).1]; exact k8) (by rw [(g4 24 (by decide)).1]; exact k16) (by rw [(g4 24 (by decide)).1]; exact k5) k11' hn ((hs.tr g4).sub (by decide)) hq
  iterate 5 (refine ev_s rfl (?_ : Ev _ _ _ _ _ _))
  rw [h.2.2.2.2.1]
  exact loop op M fr ψ H n v a _ _ h hv Same.rf hq
end RD2

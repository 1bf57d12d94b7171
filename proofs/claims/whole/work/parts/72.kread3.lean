/-! The reference's reader: lists, whole texts. -/
theorem tw_stop {f : Nat → Bool} : ∀ (l : List Nat) (c : Nat), l[(l.takeWhile f).length]? = some c → f c = false
  | [], c, h => by simp at h
  | a :: r, c, h => by
    cases ha : f a with
    | true =>
      rw [List.takeWhile_cons, ha] at h
      simp only [if_true, List.length_cons, List.getElem?_cons_succ] at h
      exact tw_stop r c h
    | false =>
      rw [List.takeWhile_cons, ha] at h
      simp at h
      rw [← h]; exact ha
theorem spanE_stop {f : Nat → Bool} {t : List Nat} {p c : Nat} (h : t[spanE f t p]? = some c) : f c = false := by
  unfold spanE at h
  refine tw_stop (t.drop p) c ?_
  rw [List.getElem?_drop]
  exact h
section RA
variable {t : List Nat} {lim : Nat} {fns : List (Option AV)} {H : AHp} {n p : Nat} {op : List (Nat × Nat)} {pe : List AV} {nm : List (List Nat)} {wh : Option AV}
theorem rAll_go {m c : Nat} (h : t[p]? = some c) : rAll lim fns t (m + 1) (p, op, pe, wh, nm, H, n) = (match rTok lim fns t c (p, op, pe, wh, nm, H, n) with
      | .inl s => rAll lim fns t m s
      | .inr F => .inr F) := by
  show (match t[p]? with
    | some c => _
    | none => _) = _
  rw [h]
  rfl
theorem rAll_end {m : Nat} (h : t.length ≤ p) : rAll lim fns t m (p, op, pe, wh, nm, H, n) = (match wh with
      | some a => .inl (a, nm, H, n)
      | none => .inr (1, t.length, nm, H, n)) := by
  cases m with
  | zero => rfl
  | succ m =>
    show (match t[p]? with
      | some c => _
      | none => _) = _
    rw [List.getElem?_eq_none h]
    rfl
theorem rAll_blank : ∀ (m p : Nat), t.length - p ≤ m → ∃ m', t.length - spanE isBl t p ≤ m' ∧ rAll lim fns t m (p, op, pe, wh, nm, H, n) = rAll lim fns t m' (spanE isBl t p, op, pe, wh, nm, H, n) := by
  intro m
  induction m with
  | zero =>
    intro p hp
    rw [spanE_end (by omega)]
    exact ⟨0, hp, rfl⟩
  | succ m ih =>
    intro p hp
    by_cases hl : p < t.length
    · have e : t[p]? = some t[p] := List.getElem?_eq_getElem hl
      cases hb : isBl t[p] with
      | true =>
        obtain ⟨m', h1, h2⟩ := ih (p + 1) (by omega)
        rw [spanE_go e hb]
        refine ⟨m', h1, ?_⟩
        rw [rAll_go e, ← h2]
        have e9 : rTok lim fns t t[p] (p, op, pe, wh, nm, H, n) = .inl (p + 1, op, pe, wh, nm, H, n) := by
          show (if isBl t[p] = true then _ else _) = _
          rw [hb]
          rfl
        rw [e9]
      | false =>
        rw [spanE_no e hb]
        exact ⟨m + 1, hp, rfl⟩
    · rw [spanE_end (by omega)]
      exact ⟨m + 1, hp, rfl⟩
theorem rTok_whole {c : Nat} {a : AV} (hb : isBl c = false) : rTok lim fns t c (p, [], pe, some a, nm, H, n) = .inr (1, p, nm, H, n) := by
  unfold rTok
  dsimp only
  rw [hb]
  simp only [Bool.false_eq_true, if_false]
  split
  · rfl
  · split
    · rfl
    · split
      · rfl
      · split
        · rfl
        · rfl
end RA
section KD3
variable {t : List Nat} {lim : Nat} {fns : List (Option AV)} {M M0 : PM} {U : Nat → Bool} {ψ : Nat → Nat} {H : AHp} {n p : Nat} {op : List (Nat × Nat)} {pe : List AV} {nm : List (List Nat)}
theorem k_closes {d : Nat} (h : RdM t lim fns M U ψ H n p op pe nm) (hp : p < t.length) {Q : Option (Option Value) → PM → Prop} {P : RR → Prop}
    (hP : P (rClose lim fns p op pe none nm H n))
    (hok : ∀ M' U' ψ' v a H' n' s st r, op = (s, st) :: r → P (rDone lim fns p (p + 1) (pe.take st) none nm r a H' n') → RdM t lim fns M' U' ψ' H' n' (p + 1) r (pe.take st) nm → RTv U' ψ' nm.length v a → SameM IDXs M M' → Q (some (some (.long v))) M')
    (hno : ∀ M' c H' n', P (.inr (c, p, nm, H', n')) → RdX lim fns M' nm H' n' c p → SameM IDX M M' → Q none M') : SM (d + 7) 137 [.ref 0] M Q := by
  refine ⟨qX10_closes, rfl, ⟨Nat.le_of_ble_eq_true rfl, rfl, 0, _, _, rfl, rfl⟩, ?_⟩
  show Ev (BM (d + 6) qX10_closes) Q 0 [some (.ref 0), none, none, none, none, none] [] M
  obtain ⟨k1, k2, k3, k4, k5, k6, k7, k8, k9, k10⟩ := id h
  have h2000 := k3.2.1
  have hn23 : 23 ≤ nm.length := k1.2.2.2.2.2.2.2.2.2.2.1
  have bad : P (.inr (1, p, nm, H, n)) → ∀ y, Ev (BM (d + 6) qX10_closes) Q 32 [some (.ref 0), some (.int y), none, none, none, none] [] M := fun h9 y => by
    repeat (refine ev_s rfl (?_ : Ev _ _ _ _ _ _))
    rw [k4]
    refine ev_cv rfl (as := [.ref 0, .int 1, .int (nI p)]) rfl rfl (Nat.le_of_ble_eq_true rfl) ?_
    refine k_failsAt ?_
    show Ev _ _ _ _ [.ref 5] _
    exact ev_s rfl (hno _ 1 H n h9 (h.flt (c := 1) (by decide) (by decide) (by omega)) (RdM.fs.sub (by decide)))
  cases op with
  | nil =>
    repeat (refine ev_s rfl (?_ : Ev _ _ _ _ _ _))
    rw [k6]
    refine ev_ifF rfl (show ¬ ¬ nI ([] : List (Nat × Nat)).length = 0 by decide) ?_
    repeat (refine ev_s rfl (?_ : Ev _ _ _ _ _ _))
    refine ev_ifT rfl (show (0 : Int32) = 0 from rfl) ?_
    exact bad hP _
  | cons o r =>
    obtain ⟨s, st⟩ := o
    obtain ⟨t1, t2, t3, t4, t5, t6, t7, t8⟩ := h.top
    have c0 : (nI (s - 2) = 0) ↔ s = 2 := (nI_eq (b := 0) (by omega) (by decide)).trans (by omega)
    have c3 : (nI (s - 2) = 3) ↔ s = 5 := (nI_eq (b := 3) (by omega) (by decide)).trans (by omega)
    have c4 : (nI (s - 2) = 4) ↔ s = 6 := (nI_eq (b := 4) (by omega) (by decide)).trans (by omega)
    have hpl : pe.length ≤ 2100 := by omega
    have rx : ∀ (M1 : PM) (U1 : Nat → Bool) (ψ1 : Nat → Nat) (H1 : AHp) (n1 c : Nat) (pe1 : List AV), CoreM M1 U1 ψ1 nm.length lim H1 n1 (aS 0) (aS 0) (aS 0) fns pe1 [] [] → SymM M1 nm → 0 < c → c < 14 → RdX lim fns (mI (mI M1 0 23 (nI p)) 0 8 (nI c)) nm H1 n1 c p := by
      intro M1 U1 ψ1 H1 n1 c pe1 q1 q2 h0 h1
      have s1 : SameM [108, 123] M1 (mI (mI M1 0 23 (nI p)) 0 8 (nI c)) := RdM.fs
      exact ⟨⟨U1, ψ1, q1.1.same s1 (by decide), q1.2.2.2.2.2.1.kept (RA := fun _ => True) (H := H1) KeptM.rf (fun _ _ => trivial) s1 (by decide) (by decide)⟩, q1.2.1, (s1.2 5 (by decide)).1.trans q1.2.2.2.2.2.2.2.2.2.1, q1.2.2.2.2.2.2.2.2.2.2.1, q1.2.2.2.2.2.2.2.2.2.2.2, q2.same s1 (by decide) (by decide), mI_at, by rw [mI_ne (Or.inr (by decide)), mI_at], h0, h1, by omega⟩
    -- the list
    have loop : ∀ (j : Nat) (M1 : PM) (U1 : Nat → Bool) (ψ1 : Nat → Nat) (H1 : AHp) (n1 : Nat) (v : Int64) (l : AV), st + j ≤ pe.length → CoreM M1 U1 ψ1 nm.length lim H1 n1 (aS 0) (aS 0) (aS 0) fns (pe.take (st + j)) [] [] → RTv U1 ψ1 nm.length v l → (∀ w ∈ pe.drop (st + j), Cov H1 l w) → SameM [6, 7, 8, 9, 113, 114, 115, 116, 118, 125] M M1 → P (rList lim fns (rts (aS 0) (aS 0) (aS 0) pe [] []) ((pe.drop st).take j).reverse l H1 n1 (fun l H n => rDone lim fns p (p + 1) (pe.take st) none nm r l H n) (fun H n => .inr (8, p, nm, H, n))) → Ev (BM (d + 6) qX10_closes) Q 83 [some (.ref 0), some (.int (nI (s - 2))), some (.int (nI st)), some (.long v), none, none] [] M1 := by
      intro j
      induction j with
      | zero =>
        intro M1 U1 ψ1 H1 n1 v l hj q1 hv hcov hs hP
        have er : M1.1 0 25 = nI st := by
          have := q1.2.2.2.2.2.2.1.1
          rw [List.length_take, Nat.add_zero, Nat.min_eq_left (by omega)] at this
          exact this
        have q6 : M1.1 0 28 = nI (r.length + 1) := (hs.2 28 (by decide)).1.trans t1
        repeat (refine ev_s rfl (?_ : Ev _ _ _ _ _ _))
        rw [er]
        refine ev_icT rfl (show nI st ≤ nI st from Int32.le_refl _) ?_
        repeat (refine ev_s rfl (?_ : Ev _ _ _ _ _ _))
        rw [q6, nI_pred]
        have e22 : (mI M1 0 28 (nI r.length)).1 0 22 = nI p := by rw [mI_ne (Or.inr (by decide))]; exact (hs.2 22 (by decide)).1.trans k4
        rw [e22, nI_1]
        have s1 : SameM [122, 128] M1 (mI (mI M1 0 28 (nI r.length)) 0 22 (nI (p + 1))) := (SameM.I0 (j := 28)).t2 (SameM.I0 (j := 22)) (by decide)
        have et : pe.take (st + 0) = pe.take st := by rw [Nat.add_zero]
        rw [et] at q1
        have s02 := hs.t2 s1 (ids'' := [6, 7, 8, 9, 113, 114, 115, 116, 118, 122, 125, 128]) (by decide)
        refine ev_retl rfl rfl (hok _ U1 ψ1 v l H1 n1 s st r rfl hP ⟨q1.same s1 (by decide), k2.same s02 (by decide) (by decide), k3.same s02 (by decide) (by decide), mI_at, by omega, ?_, ?_, by omega, ?_, ?_⟩ hv (s02.sub (by decide)))
        · rw [mI_ne (Or.inr (by decide)), mI_at]
        · intro k s' st' hk
          rw [(s02.1 13 (by decide) (by decide)).1, (s02.1 12 (by decide) (by decide)).1]
          refine k7 k s' st' ?_
          rw [List.reverse_cons, List.getElem?_append_left (List.getElem?_eq_some_iff.mp hk).1]
          exact hk
        · refine k9.2.mono ?_
          rw [List.length_take]; omega
        · rw [List.length_take]; omega
      | succ j ih =>
        intro M1 U1 ψ1 H1 n1 v l hj q1 hv hcov hs hP
        have hrow := q1.2.2.2.2.2.2.1
        have elt : (pe.take (st + (j + 1))).length = st + j + 1 := by rw [List.length_take]; omega
        have er : M1.1 0 25 = nI (st + j + 1) := by rw [hrow.1, elt]
        have ea : pe[st + j]? = some pe[st + j] := List.getElem?_eq_getElem (by omega)
        have ea2 : (pe.take (st + (j + 1)))[st + j]? = some pe[st + j] := by rw [List.getElem?_take, if_pos (by omega)]; exact ea
        have ed : pe.drop (st + j) = pe[st + j] :: pe.drop (st + (j + 1)) := List.drop_eq_getElem_cons (by omega)
        have et : ((pe.drop st).take (j + 1)).reverse = pe[st + j] :: ((pe.drop st).take j).reverse := by
          rw [List.take_add_one, List.getElem?_drop, ea]
          simp
        rw [et] at hP
        generalize pe[st + j] = a at *
        unfold rList at hP
        have ra := hrow.2.2 (st + j) a ea2
        repeat (refine ev_s rfl (?_ : Ev _ _ _ _ _ _))
        rw [er]
        refine ev_icF rfl (show ¬ nI (st + j + 1) ≤ nI st from fun h9 => by have := (nI_leI (by omega) (by omega)).mp h9; omega) ?_
        repeat (refine ev_s rfl (?_ : Ev _ _ _ _ _ _))
        rw [er, nI_pred]
        refine ev_lald rfl rfl (vp_in_nI (show st + j < 2100 by omega) (by decide)) ?_
        rw [nI_clamp (by omega)]
        repeat (refine ev_s rfl (?_ : Ev _ _ _ _ _ _))
        refine ev_cv rfl (as := [.ref 0, .long (M1.2 11 (st + j)), .long v, .long (-1)]) rfl rfl (Nat.le_of_ble_eq_true rfl) ?_
        have hE : ∀ i, AR H1 (ARt fns (rts (aS 0) (aS 0) (aS 0) pe [] []) a l) i ↔ AR H1 (RM fns (aS 0) (aS 0) (aS 0) (pe.take (st + (j + 1))) [] [] a l (aS 0)) i := by
          intro i
          constructor
          · intro hi
            refine hi.sub (fun k hk => ?_)
            rcases hk with h9 | h9 | h9 | h9
            · exact AR.root (Or.inl (Or.inl h9))
            · simp only [rts, List.append_nil, List.mem_cons] at h9
              rcases h9 with h9 | h9 | h9 | h9
              · cases h9
              · cases h9
              · cases h9
              · rw [← List.take_append_drop (st + (j + 1)) pe, List.mem_append] at h9
                rcases h9 with h9 | h9
                · exact AR.root (Or.inl (Or.inr (Or.inl (by simp [h9]))))
                · exact hcov _ h9 _ (Or.inl (Or.inr (Or.inr (Or.inr rfl)))) k rfl
            · exact AR.root (Or.inl (Or.inr (Or.inr (Or.inl h9))))
            · exact AR.root (Or.inl (Or.inr (Or.inr (Or.inr h9))))
          · intro hi
            refine hi.sub (fun k hk => ?_)
            rcases hk with (h9 | h9 | h9 | h9) | h9
            · exact AR.root (Or.inl h9)
            · simp only [rts, flatA, List.append_nil, List.mem_cons] at h9
              rcases h9 with h9 | h9 | h9 | h9
              · cases h9
              · cases h9
              · cases h9
              · have := List.mem_of_mem_take h9
                exact AR.root (Or.inr (Or.inl (by simp [this])))
            · exact AR.root (Or.inr (Or.inr (Or.inl h9)))
            · exact AR.root (Or.inr (Or.inr (Or.inr h9)))
            · cases h9
        have hH1 := q1.1.2.2.2.2.2.2
        refine k_cons (rt := rts (aS 0) (aS 0) (aS 0) pe [] []) q1 ra hv (RTv.nil (by omega)) hE (fun hlt1 M2 U2 ψ2 v2 g1 g2 g3 g4 => ?_) (fun hge M2 U2 g1 g2 g3 => ?_)
        · rw [aCons_ok hlt1] at hP
          have e25 : M2.1 0 25 = nI (st + j + 1) := (g4.2 25 (by decide)).1.trans er
          show Ev _ _ _ _ [.long v2] _
          iterate 8 (refine ev_s rfl (?_ : Ev _ _ _ _ _ _))
          rw [e25, nI_pred]
          have s2 : SameM [125] M2 (mI M2 0 25 (nI (st + j))) := SameM.I0 (j := 25)
          have hcut := (g1.2.2.2.2.2.2.1).cut (k := st + j) (by rw [elt]; omega) s2 (by decide) (by decide) mI_at
          have ett : (pe.take (st + (j + 1))).take (st + j) = pe.take (st + j) := by rw [List.take_take, Nat.min_eq_left (by omega)]
          rw [ett] at hcut
          have s12 := g4.t2 s2 (ids'' := [6, 7, 8, 9, 113, 114, 115, 116, 118, 125]) (by decide)
          refine ih _ U2 ψ2 _ _ v2 _ (by omega) (g1.setPe s2 (by decide) hcut) g2 (fun w hw => ?_) (hs.t2 s12 (by decide)) hP
          rw [ed] at hw
          rcases List.mem_cons.mp hw with h9 | h9
          · rw [h9]
            refine Cov.hd ?_
            rw [ahUp_new]
            exact Cov.rf
          · refine Cov.tl ?_
            rw [ahUp_new]
            exact (hcov w h9).up q1.2.1 (fun i hi => RTv.lt hH1 (hi ▸ hv))
        · rw [aCons_no (by omega)] at hP
          have s02 := hs.t2 g3 (ids'' := [6, 7, 8, 9, 108, 113, 114, 115, 116, 118, 125]) (by decide)
          have e22 : M2.1 0 22 = nI p := (s02.2 22 (by decide)).1.trans k4
          show Ev _ _ 129 _ [] _
          repeat (refine ev_s rfl (?_ : Ev _ _ _ _ _ _))
          rw [e22]
          refine ev_cv rfl (as := [.ref 0, .int 8, .int (nI p)]) rfl rfl (Nat.le_of_ble_eq_true rfl) ?_
          refine k_failsAt ?_
          show Ev _ _ _ _ [.ref 5] _
          exact ev_s rfl (hno _ 8 _ _ hP (rx M2 U2 ψ1 _ _ 8 _ g1 (k2.same s02 (by decide) (by decide)) (by decide) (by decide)) (s02.t2 RdM.fs (by decide)))
    unfold rClose at hP
    dsimp only at hP
    repeat (refine ev_s rfl (?_ : Ev _ _ _ _ _ _))
    rw [t1]
    refine ev_ifT rfl (nI_ne0 (by omega) (by omega)) ?_
    repeat (refine ev_s rfl (?_ : Ev _ _ _ _ _ _))
    rw [t1, nI_pred]
    refine ev_iald rfl rfl (vp_in_nI t2 (by decide)) ?_
    rw [nI_clamp (by omega), t3]
    repeat (refine ev_s rfl (?_ : Ev _ _ _ _ _ _))
    refine ev_if rfl (fun hc => ?_) (fun hc => ?_)
    · have e2 := c0.mp hc
      rw [if_neg (by omega), if_neg (by omega)] at hP
      exact bad hP _
    have n2 : ¬ s = 2 := fun h9 => hc (c0.mpr h9)
    repeat (refine ev_s rfl (?_ : Ev _ _ _ _ _ _))
    refine ev_ic rfl (fun hc3 => ?_) (fun hc3 => ?_)
    · have n5 : ¬ s = 5 := fun h9 => hc3 (c3.mpr h9)
      repeat (refine ev_s rfl (?_ : Ev _ _ _ _ _ _))
      rw [t1, nI_pred]
      refine ev_iald rfl rfl (vp_in_nI t2 (by decide)) ?_
      rw [nI_clamp (by omega), t4]
      repeat (refine ev_s rfl (?_ : Ev _ _ _ _ _ _))
      refine ev_ic rfl (fun hc4 => ?_) (fun hc4 => ?_)
      · have n6 : ¬ s = 6 := fun h9 => hc4 (c4.mpr h9)
        rw [if_pos (by omega)] at hP
        refine loop (pe.length - st) M U ψ H n (-1) (aS 0) (by omega) ?_ (RTv.nil (by omega)) ?_ SameM.rf ?_
        · rw [show st + (pe.length - st) = pe.length by omega, List.take_length]; exact k1
        · rw [show st + (pe.length - st) = pe.length by omega, List.drop_length]; intro w hw; cases hw
        · rw [List.take_of_length_le (by rw [List.length_drop]; omega)]; exact hP
      · have y6 : s = 6 := c4.mp (Decidable.not_not.mp hc4)
        rw [if_neg (by omega), if_pos y6] at hP
        have hst := t8 y6
        obtain ⟨m, hm⟩ : ∃ m, pe.length = m + 1 := ⟨pe.length - 1, by omega⟩
        have hrow := k1.2.2.2.2.2.2.1
        have er : M.1 0 25 = nI (m + 1) := by rw [hrow.1, hm]
        have e1 : pe[m]? = some (pe.getLast?.getD (aS 0)) := by
          rw [List.getLast?_eq_getElem?, show pe.length - 1 = m by omega]
          rw [List.getElem?_eq_getElem (by omega)]
          rfl
        have s2 : SameM [125] M (mI M 0 25 (nI m)) := SameM.I0 (j := 25)
        have hcut := hrow.cut (k := m) (by omega) s2 (by decide) (by decide) mI_at
        repeat (refine ev_s rfl (?_ : Ev _ _ _ _ _ _))
        rw [er, nI_pred]
        have e25 : (mI M 0 25 (nI m)).1 0 25 = nI m := mI_at
        rw [e25]
        refine ev_lald rfl rfl (vp_in_nI (show m < 2100 by omega) (by decide)) ?_
        rw [nI_clamp (by omega), mI_2]
        iterate 1 (refine ev_s rfl (?_ : Ev _ _ _ _ _ _))
        refine loop (m - st) _ U ψ H n (M.2 11 m) (pe.getLast?.getD (aS 0)) (by omega) ?_ (hrow.2.2 m _ e1) (fun w hw => ?_) (s2.sub (by decide)) ?_
        · rw [show st + (m - st) = m by omega]
          exact k1.setPe s2 (by decide) hcut
        · rw [show st + (m - st) = m by omega, List.drop_eq_getElem_cons (by omega), List.drop_of_length_le (by omega)] at hw
          rw [List.mem_singleton] at hw
          have e9 : w = pe.getLast?.getD (aS 0) := by
            rw [List.getElem?_eq_getElem (by omega)] at e1
            rw [hw]
            exact Option.some.inj e1
          rw [e9]
          exact Cov.rf
        · rw [show (pe.drop st).take (m - st) = (pe.drop st).dropLast by rw [List.dropLast_eq_take, List.length_drop]; congr 1; omega]
          exact hP
    · have e5 := c3.mp (Decidable.not_not.mp hc3)
      rw [if_neg (by omega), if_neg (by omega)] at hP
      exact bad hP _
end KD3

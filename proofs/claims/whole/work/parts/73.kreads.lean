/-! The reference's reader: whole texts. -/
section KW
variable {t : List Nat} {lim : Nat} {fns : List (Option AV)} {M M0 : PM} {U : Nat → Bool} {ψ : Nat → Nat} {H : AHp} {n p : Nat} {op : List (Nat × Nat)} {pe : List AV} {nm : List (List Nat)}
theorem dgm {q : Nat} : (((t[q]?).map isDg).getD false) = isDg (bt t q) := by
  unfold bt
  cases h : t[q]? with
  | none => rfl
  | some c => rfl
/-- the last open one is another -/
theorem RdM.setTop {s st s' : Nat} {r : List (Nat × Nat)} (h : RdM t lim fns M U ψ H n p ((s, st) :: r) pe nm) (hs : 2 ≤ s' ∧ s' ≤ 6 ∧ (s' = 6 → st < pe.length)) : RdM t lim fns (mI M 13 r.length (nI (s' - 2))) U ψ H n p ((s', st) :: r) pe nm := by
  obtain ⟨k1, k2, k3, k4, k5, k6, k7, k8, k9, k10⟩ := id h
  have s1 : SameM [13] M (mI M 13 r.length (nI (s' - 2))) := SameM.Ik (by decide)
  refine ⟨k1.same s1 (by decide), k2.same s1 (by decide) (by decide), k3.same s1 (by decide) (by decide), (s1.2 22 (by decide)).1.trans k4, k5, (s1.2 28 (by decide)).1.trans k6, fun k a b hk => ?_, k8, ⟨⟨hs.1, hs.2.1, k9.1.2.2.1, hs.2.2⟩, k9.2⟩, k10⟩
  rw [List.reverse_cons] at hk
  rw [(s1.1 12 (by decide) (by decide)).1]
  by_cases hkr : k < r.length
  · rw [List.getElem?_append_left (by rw [List.length_reverse]; exact hkr)] at hk
    rw [mI_ne (Or.inr (by omega))]
    refine k7 k a b ?_
    rw [List.reverse_cons, List.getElem?_append_left (by rw [List.length_reverse]; exact hkr)]
    exact hk
  · have hk2 := (List.getElem?_eq_some_iff.mp hk).1
    simp at hk2
    have ek : k = r.length := by omega
    subst ek
    rw [List.getElem?_append_right (by simp), List.length_reverse, Nat.sub_self] at hk
    have e9 : (s', st) = (a, b) := by simpa using hk
    cases e9
    exact ⟨mI_at, h.top.2.2.2.1⟩
theorem k_reads {d m : Nat} (h : RdM t lim fns M U ψ H n p op pe nm) (hop : op = []) (hm : t.length - p ≤ m) {Q : Option (Option Value) → PM → Prop}
    (hok : ∀ M' U' ψ' v a H' n' q m' pe' nm', rAll lim fns t m (p, [], [], none, nm, H, n) = rAll lim fns t m' (q, [], pe', some a, nm', H', n') → t.length - q ≤ m' → RdM t lim fns M' U' ψ' H' n' q [] pe' nm' → RTv U' ψ' nm'.length v a → SameM IDXs M M' → Q (some (some (.long v))) M')
    (hno : ∀ M' c pl nm' H' n', rAll lim fns t m (p, [], [], none, nm, H, n) = .inr (c, pl, nm', H', n') → RdX lim fns M' nm' H' n' c pl → SameM IDX M M' → Q none M') : SM (d + 8) 135 [.ref 0] M Q := by
  refine ⟨qX10_reads, rfl, ⟨Nat.le_of_ble_eq_true rfl, rfl, 0, _, _, rfl, rfl⟩, ?_⟩
  show Ev (BM (d + 7) qX10_reads) Q 0 [some (.ref 0), none, none, none, none] [] M
  have h2000 := h.2.2.1.2.1
  generalize hR0 : rAll lim fns t m (p, [], [], none, nm, H, n) = R at hok hno
  have main : ∀ (μ : Nat) (M1 : PM) (U1 : Nat → Bool) (ψ1 : Nat → Nat) (H1 : AHp) (n1 p1 : Nat) (op1 : List (Nat × Nat)) (pe1 : List AV) (nm1 : List (List Nat)) (m1 : Nat) (z1 z2 : Option Value) (z3 : Option Value), t.length - p1 < μ → RdM t lim fns M1 U1 ψ1 H1 n1 p1 op1 pe1 nm1 → t.length - p1 ≤ m1 → R = rAll lim fns t m1 (p1, op1, pe1, none, nm1, H1, n1) → SameM IDXs M M1 → Ev (BM (d + 7) qX10_reads) Q 10 [some (.ref 0), z1, z2, z3, none] [] M1 := by
    intro μ
    induction μ with
    | zero => intro M1 U1 ψ1 H1 n1 p1 op1 pe1 nm1 m1 z1 z2 z3 h9; omega
    | succ μ ih =>
      intro M1 U1 ψ1 H1 n1 p1 op1 pe1 nm1 m1 z1 z2 z3 hμ hR hm1 hRR hs
      -- an S was read
      have doneL : ∀ (op2 : List (Nat × Nat)) (M2 : PM) (U2 : Nat → Bool) (ψ2 : Nat → Nat) (H2 : AHp) (n2 q lt : Nat) (pe2 : List AV) (nm2 : List (List Nat)) (m2 c : Nat) (v : Int64) (a : AV), RdM t lim fns M2 U2 ψ2 H2 n2 q op2 pe2 nm2 → RTv U2 ψ2 nm2.length v a → pe2.length < q → lt ≤ 2000 → t.length - q < μ → t.length - q ≤ m2 → SameM IDXs M M2 → R = (match rDone lim fns lt q pe2 none nm2 op2 a H2 n2 with
          | .inl s => rAll lim fns t m2 s
          | .inr F => .inr F) → Ev (BM (d + 7) qX10_reads) Q 273 [some (.ref 0), some (.int (nI c)), some (.int (nI lt)), some (.long v), none] [] M2 := by
        intro op2
        induction op2 with
        | nil =>
          intro M2 U2 ψ2 H2 n2 q lt pe2 nm2 m2 c v a hR2 hv hpe hlt hq1 hq2 hs2 hP
          have k6 := hR2.2.2.2.2.2.1
          repeat (refine ev_s rfl (?_ : Ev _ _ _ _ _ _))
          rw [k6]
          refine ev_ifT rfl (show nI ([] : List (Nat × Nat)).length ≤ 0 by decide) ?_
          repeat (refine ev_s rfl (?_ : Ev _ _ _ _ _ _))
          rw [k6]
          refine ev_ifF rfl (show ¬ ¬ nI ([] : List (Nat × Nat)).length = 0 by decide) ?_
          repeat (refine ev_s rfl (?_ : Ev _ _ _ _ _ _))
          exact ev_retl rfl rfl (hok M2 U2 ψ2 v a H2 n2 q m2 pe2 nm2 hP hq2 hR2 hv hs2)
        | cons o r ih2 =>
          obtain ⟨s, st⟩ := o
          intro M2 U2 ψ2 H2 n2 q lt pe2 nm2 m2 c v a hR2 hv hpe hlt hq1 hq2 hs2 hP
          obtain ⟨t1, t2, t3, t4, t5, t6, t7, t8⟩ := hR2.top
          obtain ⟨k1, k2, k3, k4, k5, k6, k7, k8, k9, k10⟩ := id hR2
          have c0 : (nI (s - 2) = 0) ↔ s = 2 := (nI_eq (b := 0) (by omega) (by decide)).trans (by omega)
          have c3 : (nI (s - 2) = 3) ↔ s = 5 := (nI_eq (b := 3) (by omega) (by decide)).trans (by omega)
          unfold rDone at hP
          repeat (refine ev_s rfl (?_ : Ev _ _ _ _ _ _))
          rw [t1]
          refine ev_ifF rfl (nI_nle (by omega) (by omega)) ?_
          repeat (refine ev_s rfl (?_ : Ev _ _ _ _ _ _))
          rw [t1, nI_pred]
          refine ev_iald rfl rfl (vp_in_nI t2 (by decide)) ?_
          rw [nI_clamp (by omega), t3]
          refine ev_if rfl (fun hc => ?_) (fun hc => ?_)
          · -- no quote
            have n2' : ¬ s = 2 := fun h9 => hc (c0.mpr h9)
            rw [if_neg n2'] at hP
            have hrow := k1.2.2.2.2.2.2.1
            repeat (refine ev_s rfl (?_ : Ev _ _ _ _ _ _))
            rw [t1]
            refine ev_ifT rfl (nI_ne0 (by omega) (by omega)) ?_
            repeat (refine ev_s rfl (?_ : Ev _ _ _ _ _ _))
            rw [hrow.1]
            refine ev_last rfl rfl (vp_in_nI (show pe2.length < 2100 by omega) (by decide)) ?_
            rw [nI_clamp (by omega)]
            repeat (refine ev_s rfl (?_ : Ev _ _ _ _ _ _))
            have e25 : (mJ M2 11 pe2.length v).1 0 25 = nI pe2.length := hrow.1
            rw [e25, nI_1]
            have s3 : SameM [11, 125] M2 (mI (mJ M2 11 pe2.length v) 0 25 (nI (pe2.length + 1))) := (SameM.Jk (k := 11) (by decide)).t2 (SameM.I0 (j := 25)) (by decide)
            have hrow2 : RowM (mI (mJ M2 11 pe2.length v) 0 25 (nI (pe2.length + 1))) U2 ψ2 nm2.length 25 11 2100 (pe2 ++ [a]) := by
              refine ⟨by rw [mI_at]; simp, by simp; omega, fun i b hi => ?_⟩
              rw [mI_2]
              by_cases hil : i < pe2.length
              · rw [List.getElem?_append_left hil] at hi
                rw [mJ_ne (Or.inr (by omega))]
                exact hrow.2.2 i b hi
              · have hi2 := (List.getElem?_eq_some_iff.mp hi).1
                simp at hi2
                have ei : i = pe2.length := by omega
                subst ei
                rw [List.getElem?_append_right (Nat.le_refl _), Nat.sub_self] at hi
                have ew : a = b := by simpa using hi
                rw [mJ_at, ← ew]
                exact hv
            have hR3 : RdM t lim fns (mI (mJ M2 11 pe2.length v) 0 25 (nI (pe2.length + 1))) U2 ψ2 H2 n2 q ((s, st) :: r) (pe2 ++ [a]) nm2 := hR2.core s3 (by decide) (k1.setPe s3 (by decide) hrow2) (k9.mono (by simp)) (by simp; omega)
            generalize mI (mJ M2 11 pe2.length v) 0 25 (nI (pe2.length + 1)) = M3 at s3 hR3 ⊢
            obtain ⟨u1, u2, u3, u4, u5, u6, u7, u8⟩ := hR3.top
            rw [u1, nI_pred]
            refine ev_iald rfl rfl (vp_in_nI t2 (by decide)) ?_
            rw [nI_clamp (by omega), u3]
            repeat (refine ev_s rfl (?_ : Ev _ _ _ _ _ _))
            have fin : ∀ s' : Nat, s' = (if s = 5 then 6 else 4) → Ev (BM (d + 7) qX10_reads) Q 373 [some (.ref 0), some (.int (nI c)), some (.int (nI lt)), some (.long v), none] [.int (nI (s' - 2)), .int (nI r.length), .ref 13] M3 := fun s' hs' => by
              refine ev_iast rfl rfl (vp_in_nI t2 (by decide)) ?_
              rw [nI_clamp (by omega)]
              iterate 1 (refine ev_s rfl (?_ : Ev _ _ _ _ _ _))
              rw [← hs'] at hP
              refine ih _ U2 ψ2 H2 n2 q ((s', st) :: r) (pe2 ++ [a]) nm2 m2 _ _ _ (by omega) (hR3.setTop ⟨by rw [hs']; split <;> omega, by rw [hs']; split <;> omega, fun _ => by simp; omega⟩) hq2 hP ((hs2.t2 s3 (ids'' := IDXs) (by decide)).t2 (SameM.Ik (k := 13) (by decide)) (by decide))
            refine ev_ic rfl (fun hc5 => ?_) (fun hc5 => ?_)
            · iterate 1 (refine ev_s rfl (?_ : Ev _ _ _ _ _ _))
              exact fin 4 (by rw [if_neg (fun h9 => hc5 (c3.mpr h9))])
            · iterate 2 (refine ev_s rfl (?_ : Ev _ _ _ _ _ _))
              exact fin 6 (by rw [if_pos (c3.mp (Decidable.not_not.mp hc5))])
          · -- a quote
            have y2 : s = 2 := c0.mp (Decidable.not_not.mp hc)
            rw [if_pos y2] at hP
            repeat (refine ev_s rfl (?_ : Ev _ _ _ _ _ _))
            rw [t1, nI_pred]
            have s3 : SameM [128] M2 (mI M2 0 28 (nI r.length)) := SameM.I0 (j := 28)
            have hR3 : RdM t lim fns (mI M2 0 28 (nI r.length)) U2 ψ2 H2 n2 q r pe2 nm2 := by
              refine ⟨k1.same s3 (by decide), k2.same s3 (by decide) (by decide), k3.same s3 (by decide) (by decide), (s3.2 22 (by decide)).1.trans k4, k5, mI_at, fun k a b hk => ?_, by omega, k9.2.mono t7, k10⟩
              rw [(s3.1 13 (by decide) (by decide)).1, (s3.1 12 (by decide) (by decide)).1]
              refine k7 k a b ?_
              rw [List.reverse_cons, List.getElem?_append_left (List.getElem?_eq_some_iff.mp hk).1]
              exact hk
            have hs3 := hs2.t2 s3 (ids'' := IDXs) (by decide)
            refine ev_cv rfl (as := [.ref 0, .long v, .int (nI lt)]) rfl rfl (Nat.le_of_ble_eq_true rfl) ?_
            refine k_quotes (d := d) hR3 hv hlt (r1 := fun c H n => rDone lim fns lt q pe2 none nm2 r c H n) (P := fun rr => R = (match rr with
              | .inl s => rAll lim fns t m2 s
              | .inr F => .inr F)) hP (fun M4 U4 ψ4 v4 a4 H4 n4 p4 hR4 rv4 s4 => ?_) (fun M4 H4 n4 p4 hX s4 => ?_)
            · show Ev _ _ _ _ [.long v4] _
              iterate 2 (refine ev_s rfl (?_ : Ev _ _ _ _ _ _))
              exact ih2 M4 U4 ψ4 H4 n4 q lt pe2 nm2 m2 c v4 a4 hR4 rv4 hpe hlt hq1 hq2 (hs3.t2 s4 (by decide)) p4
            · exact hno M4 8 lt nm2 H4 n4 p4 hX (hs3.t2 s4 (by decide))
      -- the token
      have k5 := hR.2.2.2.2.1
      repeat (refine ev_s rfl (?_ : Ev _ _ _ _ _ _))
      refine ev_cv rfl (as := [.ref 0]) rfl rfl (Nat.le_of_ble_eq_true rfl) ?_
      refine k_blanks hR (fun M2 hR2 s12 => ?_)
      have hs2 := hs.t2 s12 (ids'' := IDXs) (by decide)
      obtain ⟨m2, hm2, eR⟩ := rAll_blank (lim := lim) (fns := fns) (op := op1) (pe := pe1) (wh := none) (nm := nm1) (H := H1) (n := n1) m1 p1 hm1
      rw [eR] at hRR
      have hge := spanE_ge (f := isBl) (t := t) (p := p1)
      have hstop : ∀ c, t[spanE isBl t p1]? = some c → isBl c = false := fun c hc => spanE_stop hc
      generalize spanE isBl t p1 = q at *
      obtain ⟨k1, k2, k3, k4, k5, k6, k7, k8, k9, k10⟩ := id hR2
      have hb := k3.bt q
      show Ev _ _ _ _ [] _
      repeat (refine ev_s rfl (?_ : Ev _ _ _ _ _ _))
      rw [k4]
      refine ev_cv rfl (as := [.ref 0, .int (nI q)]) rfl rfl (Nat.le_of_ble_eq_true rfl) ?_
      refine k_byteAt k3 (by omega) ?_
      show Ev _ _ _ _ [.int (nI (bt t q))] _
      repeat (refine ev_s rfl (?_ : Ev _ _ _ _ _ _))
      rw [k4, k3.1]
      refine ev_ic rfl (fun hc => ?_) (fun hc => ?_)
      · have hlt : q < t.length := by
          have : ¬ q = t.length := fun h9 => hc (by rw [h9])
          omega
        have e : t[q]? = some t[q] := List.getElem?_eq_getElem hlt
        have eb := bt_at e
        have hbl := hstop _ e
        obtain ⟨m3, rfl⟩ : ∃ m3, m2 = m3 + 1 := ⟨m2 - 1, by omega⟩
        rw [rAll_go e] at hRR
        rw [eb] at hb ⊢
        generalize t[q] = c at *
        unfold rTok at hRR
        dsimp only at hRR
        rw [hbl] at hRR
        simp only [Bool.false_eq_true, if_false] at hRR
        have c41 : (nI c = 41) ↔ c = 41 := nI_eq (b := 41) (by omega) (by decide)
        have c46 : (nI c = 46) ↔ c = 46 := nI_eq (b := 46) (by omega) (by decide)
        have c40 : (nI c = 40) ↔ c = 40 := nI_eq (b := 40) (by omega) (by decide)
        have c39 : (nI c = 39) ↔ c = 39 := nI_eq (b := 39) (by omega) (by decide)
        -- one is opened
        have opn : ∀ k : Nat, ((k = 3 ∧ c = 40) ∨ (k = 2 ∧ ¬ c = 40)) → R = (match rOpen k q op1 pe1 none nm1 H1 n1 with
            | .inl s => rAll lim fns t m3 s
            | .inr F => .inr F) → Ev (BM (d + 7) qX10_reads) Q 138 [some (.ref 0), some (.int (nI c)), some (.int (nI q)), z3, none] [] M2 := fun k hk hP => by
          unfold rOpen at hP
          repeat (refine ev_s rfl (?_ : Ev _ _ _ _ _ _))
          refine ev_cv rfl (as := [.ref 0]) rfl rfl (Nat.le_of_ble_eq_true rfl) ?_
          refine k_mayBegin hR2 ?_
          cases hmb : rMay op1 none with
          | false =>
            rw [hmb] at hP
            show Ev _ _ _ _ [.int 0] _
            refine ev_ifF rfl (show ¬ ¬ (0 : Int32) = 0 by decide) ?_
            repeat (refine ev_s rfl (?_ : Ev _ _ _ _ _ _))
            rw [k4]
            refine ev_cv rfl (as := [.ref 0, .int 1, .int (nI q)]) rfl rfl (Nat.le_of_ble_eq_true rfl) ?_
            refine k_failsAt ?_
            show Ev _ _ _ _ [.ref 5] _
            exact ev_s rfl (hno _ 1 q nm1 H1 n1 hP (hR2.flt (c := 1) (by decide) (by decide) (by omega)) (hs2.t2 RdM.fs (by decide)))
          | true =>
            rw [hmb] at hP
            simp only [if_true] at hP
            show Ev _ _ _ _ [.int 1] _
            refine ev_ifT rfl (show ¬ (1 : Int32) = 0 by decide) ?_
            repeat (refine ev_s rfl (?_ : Ev _ _ _ _ _ _))
            rw [k6]
            refine ev_ic rfl (fun hc60 => ?_) (fun hc60 => ?_)
            · have hl60 : op1.length < 60 := by
                have : ¬ op1.length = 60 := fun h9 => hc60 (by rw [h9]; rfl)
                omega
              rw [if_pos hl60] at hP
              have hrow := k1.2.2.2.2.2.2.1
              repeat (refine ev_s rfl (?_ : Ev _ _ _ _ _ _))
              rw [k6, hrow.1]
              refine ev_iast rfl rfl (vp_in_nI hl60 (by decide)) ?_
              rw [nI_clamp (by omega)]
              have e28 : (mI M2 12 op1.length (nI pe1.length)).1 0 28 = nI op1.length := by rw [mI_ne (Or.inl (by decide))]; exact k6
              repeat (refine ev_s rfl (?_ : Ev _ _ _ _ _ _))
              rw [e28]
              have fin : Ev (BM (d + 7) qX10_reads) Q 206 [some (.ref 0), some (.int (nI c)), some (.int (nI q)), z3, none] [.int (nI (k - 2)), .int (nI op1.length), .ref 13] (mI M2 12 op1.length (nI pe1.length)) := by
                refine ev_iast rfl rfl (vp_in_nI hl60 (by decide)) ?_
                rw [nI_clamp (by omega)]
                have f28 : (mI (mI M2 12 op1.length (nI pe1.length)) 13 op1.length (nI (k - 2))).1 0 28 = nI op1.length := by rw [mI_ne (Or.inl (by decide))]; exact e28
                have f22 : (mI (mI (mI M2 12 op1.length (nI pe1.length)) 13 op1.length (nI (k - 2))) 0 28 (nI (op1.length + 1))).1 0 22 = nI q := by rw [mI_ne (Or.inr (by decide)), mI_ne (Or.inl (by decide)), mI_ne (Or.inl (by decide))]; exact k4
                iterate 13 (refine ev_s rfl (?_ : Ev _ _ _ _ _ _))
                rw [f28, nI_1, f22, nI_1]
                have s3 : SameM [12, 13, 122, 128] M2 (mI (mI (mI (mI M2 12 op1.length (nI pe1.length)) 13 op1.length (nI (k - 2))) 0 28 (nI (op1.length + 1))) 0 22 (nI (q + 1))) := ((SameM.Ik (k := 12) (by decide)).t2 (SameM.Ik (k := 13) (by decide)) (ids'' := [12, 13]) (by decide)).t2 ((SameM.I0 (j := 28)).t2 (SameM.I0 (j := 22)) (ids'' := [122, 128]) (by decide)) (by decide)
                refine ih _ U1 ψ1 H1 n1 (q + 1) ((k, pe1.length) :: op1) pe1 nm1 m3 _ _ _ (by omega) ⟨k1.same s3 (by decide), k2.same s3 (by decide) (by decide), k3.same s3 (by decide) (by decide), mI_at, by omega, ?_, fun j a b hj => ?_, by simp; omega, ⟨⟨by omega, by omega, Nat.le_refl _, fun h9 => by omega⟩, k9⟩, by omega⟩ (by omega) hP (hs2.t2 s3 (by decide))
                · rw [mI_ne (Or.inr (by decide)), mI_at]; rfl
                · rw [List.reverse_cons] at hj
                  have e13 : (mI (mI (mI (mI M2 12 op1.length (nI pe1.length)) 13 op1.length (nI (k - 2))) 0 28 (nI (op1.length + 1))) 0 22 (nI (q + 1))).1 13 j = (mI (mI M2 12 op1.length (nI pe1.length)) 13 op1.length (nI (k - 2))).1 13 j := by rw [mI_ne (Or.inl (by decide)), mI_ne (Or.inl (by decide))]
                  have e12 : (mI (mI (mI (mI M2 12 op1.length (nI pe1.length)) 13 op1.length (nI (k - 2))) 0 28 (nI (op1.length + 1))) 0 22 (nI (q + 1))).1 12 j = (mI M2 12 op1.length (nI pe1.length)).1 12 j := by rw [mI_ne (Or.inl (by decide)), mI_ne (Or.inl (by decide)), mI_ne (Or.inl (by decide))]
                  rw [e13, e12]
                  by_cases hjl : j < op1.length
                  · rw [List.getElem?_append_left (by rw [List.length_reverse]; exact hjl)] at hj
                    refine ⟨?_, ?_⟩
                    · rw [mI_ne (Or.inr (by omega)), mI_ne (Or.inl (by decide))]; exact (k7 j a b hj).1
                    · rw [mI_ne (Or.inr (by omega))]; exact (k7 j a b hj).2
                  · have hj2 := (List.getElem?_eq_some_iff.mp hj).1
                    simp at hj2
                    have ej : j = op1.length := by omega
                    subst ej
                    rw [List.getElem?_append_right (by simp), List.length_reverse, Nat.sub_self] at hj
                    have e9 : (k, pe1.length) = (a, b) := by simpa using hj
                    cases e9
                    exact ⟨mI_at, mI_at⟩
              rcases hk with ⟨e3, e40⟩ | ⟨e2, e40⟩
              · subst e3
                refine ev_icF rfl (show ¬ ¬ nI c = 40 from fun h9 => h9 (c40.mpr e40)) ?_
                iterate 2 (refine ev_s rfl (?_ : Ev _ _ _ _ _ _))
                exact fin
              · subst e2
                refine ev_icT rfl (show ¬ nI c = 40 from fun h9 => e40 (c40.mp h9)) ?_
                iterate 1 (refine ev_s rfl (?_ : Ev _ _ _ _ _ _))
                exact fin
            · have hl60 : op1.length = 60 := (nI_eq (b := 60) (by omega) (by decide)).mp (Decidable.not_not.mp hc60)
              rw [if_neg (by omega)] at hP
              repeat (refine ev_s rfl (?_ : Ev _ _ _ _ _ _))
              rw [k4]
              refine ev_cv rfl (as := [.ref 0, .int 4, .int (nI q)]) rfl rfl (Nat.le_of_ble_eq_true rfl) ?_
              refine k_failsAt ?_
              show Ev _ _ _ _ [.ref 5] _
              exact ev_s rfl (hno _ 4 q nm1 H1 n1 hP (hR2.flt (c := 4) (by decide) (by decide) (by omega)) (hs2.t2 RdM.fs (by decide)))
        repeat (refine ev_s rfl (?_ : Ev _ _ _ _ _ _))
        refine ev_ic rfl (fun h41 => ?_) (fun h41 => ?_)
        · have n41 : ¬ c = 41 := fun h9 => h41 (c41.mpr h9)
          repeat (refine ev_s rfl (?_ : Ev _ _ _ _ _ _))
          refine ev_ic rfl (fun h46 => ?_) (fun h46 => ?_)
          · have n46 : ¬ c = 46 := fun h9 => h46 (c46.mpr h9)
            repeat (refine ev_s rfl (?_ : Ev _ _ _ _ _ _))
            refine ev_ic rfl (fun h40 => ?_) (fun h40 => ?_)
            · have y40 := c40.mp h40
              rw [if_pos y40] at hRR
              exact opn 3 (Or.inl ⟨rfl, y40⟩) hRR
            · have n40 : ¬ c = 40 := fun h9 => h40 (c40.mpr h9)
              rw [if_neg n40] at hRR
              repeat (refine ev_s rfl (?_ : Ev _ _ _ _ _ _))
              refine ev_ic rfl (fun h39 => ?_) (fun h39 => ?_)
              · -- an atom
                have n39 : ¬ c = 39 := fun h9 => h39 (c39.mpr h9)
                rw [if_neg n39, if_neg n41, if_neg n46] at hRR
                unfold rAtom at hRR
                have one : (rMay op1 none = false ∨ atB t q = false) → Ev (BM (d + 7) qX10_reads) Q 244 [some (.ref 0), some (.int (nI c)), some (.int (nI q)), z3, none] [] M2 := fun h9 => by
                  have hP : R = .inr (1, q, nm1, H1, n1) := by
                    rcases h9 with h9 | h9
                    · rw [h9] at hRR; exact hRR
                    · unfold atB at h9
                      rw [eb] at h9
                      rw [Bool.or_eq_false_iff, Bool.or_eq_false_iff] at h9
                      rw [h9.1.1, h9.1.2, dgm, h9.2] at hRR
                      cases hmb : rMay op1 none with
                      | false => rw [hmb] at hRR; exact hRR
                      | true => rw [hmb] at hRR; exact hRR
                  repeat (refine ev_s rfl (?_ : Ev _ _ _ _ _ _))
                  rw [k4]
                  refine ev_cv rfl (as := [.ref 0, .int 1, .int (nI q)]) rfl rfl (Nat.le_of_ble_eq_true rfl) ?_
                  refine k_failsAt ?_
                  show Ev _ _ _ _ [.ref 5] _
                  exact ev_s rfl (hno _ 1 q nm1 H1 n1 hP (hR2.flt (c := 1) (by decide) (by decide) (by omega)) (hs2.t2 RdM.fs (by decide)))
                repeat (refine ev_s rfl (?_ : Ev _ _ _ _ _ _))
                refine ev_cv rfl (as := [.ref 0]) rfl rfl (Nat.le_of_ble_eq_true rfl) ?_
                refine k_isAtom hR2 ?_
                cases hat : atB t q with
                | false =>
                  show Ev _ _ _ _ [.int 0] _
                  refine ev_ifT rfl (show (0 : Int32) = 0 from rfl) ?_
                  exact one (Or.inr hat)
                | true =>
                  show Ev _ _ _ _ [.int 1] _
                  refine ev_ifF rfl (show ¬ (1 : Int32) = 0 by decide) ?_
                  repeat (refine ev_s rfl (?_ : Ev _ _ _ _ _ _))
                  refine ev_cv rfl (as := [.ref 0]) rfl rfl (Nat.le_of_ble_eq_true rfl) ?_
                  refine k_mayBegin hR2 ?_
                  cases hmb : rMay op1 none with
                  | false =>
                    show Ev _ _ _ _ [.int 0] _
                    refine ev_ifF rfl (show ¬ ¬ (0 : Int32) = 0 by decide) ?_
                    exact one (Or.inl hmb)
                  | true =>
                    rw [hmb] at hRR
                    simp only [if_true] at hRR
                    show Ev _ _ _ _ [.int 1] _
                    refine ev_ifT rfl (show ¬ (1 : Int32) = 0 by decide) ?_
                    repeat (refine ev_s rfl (?_ : Ev _ _ _ _ _ _))
                    refine ev_cs rfl (by decide) (by decide) (as := [.int (nI c)]) rfl rfl (Nat.le_of_ble_eq_true rfl) ?_
                    refine k_isCapital hb ?_
                    cases hl : isLt c with
                    | true =>
                      rw [hl] at hRR
                      simp only [if_true] at hRR
                      show Ev _ _ _ _ [.int 1] _
                      refine ev_ifF rfl (show ¬ (1 : Int32) = 0 by decide) ?_
                      repeat (refine ev_s rfl (?_ : Ev _ _ _ _ _ _))
                      refine ev_cv rfl (as := [.ref 0]) rfl rfl (Nat.le_of_ble_eq_true rfl) ?_
                      refine k_symbol hR2 e hl (fun k q' nm' M3 eS hR3 a1 a2 s3 => ?_) (fun f M3 eS hX s3 => ?_)
                      · rw [eS] at hRR
                        have hpq := rSym_q eS e hl
                        show Ev _ _ _ _ [.long (rS k)] _
                        iterate 2 (refine ev_s rfl (?_ : Ev _ _ _ _ _ _))
                        exact doneL op1 M3 U1 ψ1 H1 n1 q' q pe1 nm' m3 c (rS k) (aS k) hR3 (RTv.sym a1 (by omega)) (by omega) (by omega) (by omega) (by omega) (hs2.t2 s3 (by decide)) hRR
                      · rw [eS] at hRR
                        exact hno M3 f q nm1 H1 n1 hRR hX (hs2.t2 s3 (by decide))
                    | false =>
                      rw [hl] at hRR
                      simp only [Bool.false_eq_true, if_false] at hRR
                      have hnum : (isDg c || (c == 45 && (((t[q + 1]?).map isDg).getD false))) = true := by
                        unfold atB at hat
                        rw [eb, hl] at hat
                        rw [dgm]
                        exact hat
                      rw [hnum] at hRR
                      simp only [if_true] at hRR
                      have hcl : isDg c = true ∨ c = 45 := by
                        rw [Bool.or_eq_true, Bool.and_eq_true] at hnum
                        exact hnum.imp id (fun h8 => by simpa using h8.1)
                      show Ev _ _ _ _ [.int 0] _
                      refine ev_ifT rfl (show (0 : Int32) = 0 from rfl) ?_
                      repeat (refine ev_s rfl (?_ : Ev _ _ _ _ _ _))
                      refine ev_cv rfl (as := [.ref 0]) rfl rfl (Nat.le_of_ble_eq_true rfl) ?_
                      refine k_number hR2 e (fun k q' M3 eS hR3 s3 => ?_) (fun f M3 eS hX s3 => ?_)
                      · rw [eS] at hRR
                        have hpq := rNum_q eS e hcl
                        show Ev _ _ _ _ [.long (rN k)] _
                        iterate 1 (refine ev_s rfl (?_ : Ev _ _ _ _ _ _))
                        exact doneL op1 M3 U1 ψ1 H1 n1 q' q pe1 nm1 m3 c (rN k) (aN k) hR3 rfl (by omega) (by omega) (by omega) (by omega) (hs2.t2 s3 (by decide)) hRR
                      · rw [eS] at hRR
                        exact hno M3 f q nm1 H1 n1 hRR hX (hs2.t2 s3 (by decide))
              · have y39 : c = 39 := c39.mp (Decidable.not_not.mp h39)
                rw [if_pos y39] at hRR
                exact opn 2 (Or.inr ⟨rfl, n40⟩) hRR
          · -- a point
            have y46 : c = 46 := c46.mp (Decidable.not_not.mp h46)
            rw [if_neg (by omega), if_neg (by omega), if_neg (by omega), if_pos y46] at hRR
            have bad : R = .inr (1, q, nm1, H1, n1) → Ev (BM (d + 7) qX10_reads) Q 91 [some (.ref 0), some (.int (nI c)), some (.int (nI q)), z3, none] [] M2 := fun hP => by
              repeat (refine ev_s rfl (?_ : Ev _ _ _ _ _ _))
              rw [k4]
              refine ev_cv rfl (as := [.ref 0, .int 1, .int (nI q)]) rfl rfl (Nat.le_of_ble_eq_true rfl) ?_
              refine k_failsAt ?_
              show Ev _ _ _ _ [.ref 5] _
              exact ev_s rfl (hno _ 1 q nm1 H1 n1 hP (hR2.flt (c := 1) (by decide) (by decide) (by omega)) (hs2.t2 RdM.fs (by decide)))
            cases op1 with
            | nil =>
              repeat (refine ev_s rfl (?_ : Ev _ _ _ _ _ _))
              rw [k6]
              refine ev_ifT rfl (show nI ([] : List (Nat × Nat)).length = 0 from rfl) ?_
              exact bad hRR
            | cons o r =>
              obtain ⟨s, st⟩ := o
              obtain ⟨t1, t2, t3, t4, t5, t6, t7, t8⟩ := hR2.top
              have c2 : (nI (s - 2) = 2) ↔ s = 4 := (nI_eq (b := 2) (by omega) (by decide)).trans (by omega)
              repeat (refine ev_s rfl (?_ : Ev _ _ _ _ _ _))
              rw [t1]
              refine ev_ifF rfl (nI_ne0 (by omega) (by omega)) ?_
              repeat (refine ev_s rfl (?_ : Ev _ _ _ _ _ _))
              rw [t1, nI_pred]
              refine ev_iald rfl rfl (vp_in_nI t2 (by decide)) ?_
              rw [nI_clamp (by omega), t3]
              repeat (refine ev_s rfl (?_ : Ev _ _ _ _ _ _))
              refine ev_ic rfl (fun hc4 => ?_) (fun hc4 => ?_)
              · have y4 := c2.mp hc4
                subst y4
                have hP : R = rAll lim fns t m3 (q + 1, (5, st) :: r, pe1, none, nm1, H1, n1) := hRR
                repeat (refine ev_s rfl (?_ : Ev _ _ _ _ _ _))
                rw [t1, nI_pred]
                refine ev_iast rfl rfl (vp_in_nI t2 (by decide)) ?_
                rw [nI_clamp (by omega)]
                have hR3 := hR2.setTop (s' := 5) ⟨by decide, by decide, fun h9 => by omega⟩
                have f22 : (mI M2 13 r.length (nI (5 - 2))).1 0 22 = nI q := hR3.2.2.2.1
                iterate 7 (refine ev_s rfl (?_ : Ev _ _ _ _ _ _))
                show Ev _ _ _ _ _ (mI (mI M2 13 r.length (nI (5 - 2))) 0 22 ((mI M2 13 r.length (nI (5 - 2))).1 0 22 + 1))
                rw [f22, nI_1]
                exact ih _ U1 ψ1 H1 n1 (q + 1) _ pe1 nm1 m3 _ _ _ (by omega) (hR3.at (by omega) (by omega)) (by omega) hP ((hs2.t2 (SameM.Ik (k := 13) (by decide)) (ids'' := IDXs) (by decide)).t2 (SameM.I0 (j := 22)) (by decide))
              · have n4 : ¬ s = 4 := fun h9 => hc4 (c2.mpr h9)
                refine bad ?_
                rw [hRR]
                have e9 : rDot q ((s, st) :: r) pe1 none nm1 H1 n1 = .inr (1, q, nm1, H1, n1) := by
                  unfold rDot
                  split
                  · rename_i h9; cases h9; exact (n4 rfl).elim
                  · rfl
                rw [e9]
        · -- a list ends
          have y41 : c = 41 := c41.mp (Decidable.not_not.mp h41)
          rw [if_neg (by omega), if_neg (by omega), if_pos y41] at hRR
          repeat (refine ev_s rfl (?_ : Ev _ _ _ _ _ _))
          refine ev_cv rfl (as := [.ref 0]) rfl rfl (Nat.le_of_ble_eq_true rfl) ?_
          refine k_closes (d := d) hR2 hlt (P := fun rr => R = (match rr with
              | .inl s => rAll lim fns t m3 s
              | .inr F => .inr F)) hRR (fun M3 U3 ψ3 v a H3 n3 s st r eop p3 hR3 rv3 s3 => ?_) (fun M3 c3 H3 n3 p3 hX s3 => ?_)
          · show Ev _ _ _ _ [.long v] _
            iterate 2 (refine ev_s rfl (?_ : Ev _ _ _ _ _ _))
            exact doneL r M3 U3 ψ3 H3 n3 (q + 1) q (pe1.take st) nm1 m3 c v a hR3 rv3 (by rw [List.length_take]; omega) (by omega) (by omega) (by omega) (hs2.t2 s3 (by decide)) p3
          · exact hno M3 c3 q nm1 H3 n3 p3 hX (hs2.t2 s3 (by decide))
      · have he : q = t.length := (nI_eq (by omega) (by omega)).mp (Decidable.not_not.mp hc)
        rw [rAll_end (by omega)] at hRR
        repeat (refine ev_s rfl (?_ : Ev _ _ _ _ _ _))
        rw [k4]
        refine ev_cv rfl (as := [.ref 0, .int 1, .int (nI q)]) rfl rfl (Nat.le_of_ble_eq_true rfl) ?_
        refine k_failsAt ?_
        show Ev _ _ _ _ [.ref 5] _
        exact ev_s rfl (hno _ 1 q nm1 H1 n1 (by rw [hRR, he]) (hR2.flt (c := 1) (by decide) (by decide) (by omega)) (hs2.t2 RdM.fs (by decide)))
  subst hop
  obtain ⟨k1, k2, k3, k4, k5, k6, k7, k8, k9, k10⟩ := id h
  have s1 : SameM [125, 128] M (mI (mI M 0 25 0) 0 28 0) := (SameM.I0 (j := 25)).t2 (SameM.I0 (j := 28)) (by decide)
  iterate 6 (refine ev_s rfl (?_ : Ev _ _ _ _ _ _))
  refine main (t.length - p + 1) _ U ψ H n p [] [] nm m _ _ _ (by omega) ⟨k1.setPe s1 (by decide) ⟨?_, by simp, fun i a hi => by simp at hi⟩, k2.same s1 (by decide) (by decide), k3.same s1 (by decide) (by decide), (s1.2 22 (by decide)).1.trans k4, k5, mI_at, fun k a b hk => by simp at hk, by simp, trivial, by simp⟩ hm hR0.symm (s1.sub (by decide))
  rw [mI_ne (Or.inr (by decide)), mI_at]; rfl
theorem k_whole {d m : Nat} (h : RdM t lim fns M U ψ H n p op pe nm) (hop : op = []) (hm : t.length - p ≤ m) {Q : Option (Option Value) → PM → Prop}
    (hok : ∀ M' U' ψ' v a nm' H' n', rAll lim fns t m (p, [], [], none, nm, H, n) = .inl (a, nm', H', n') → CoreM M' U' ψ' nm'.length lim H' n' (aS 0) (aS 0) (aS 0) fns [] [] [] → SymM M' nm' → RTv U' ψ' nm'.length v a → M'.1 0 28 = nI 0 → SameM IDXs M M' → Q (some (some (.long v))) M')
    (hno : ∀ M' c pl nm' H' n', rAll lim fns t m (p, [], [], none, nm, H, n) = .inr (c, pl, nm', H', n') → RdX lim fns M' nm' H' n' c pl → SameM IDX M M' → Q none M') : SM (d + 9) 156 [.ref 0] M Q := by
  refine ⟨qX10_whole, rfl, ⟨Nat.le_of_ble_eq_true rfl, rfl, 0, _, _, rfl, rfl⟩, ?_⟩
  show Ev (BM (d + 8) qX10_whole) Q 0 [some (.ref 0), none, none] [] M
  have h2000 := h.2.2.1.2.1
  repeat (refine ev_s rfl (?_ : Ev _ _ _ _ _ _))
  refine ev_cv rfl (as := [.ref 0]) rfl rfl (Nat.le_of_ble_eq_true rfl) ?_
  refine k_reads h hop hm (fun M1 U1 ψ1 v a H1 n1 q m1 pe1 nm1 e1 g1 hR1 rv s1 => ?_) (fun M1 c pl nm1 H1 n1 e1 hX s1 => ?_)
  · rw [e1] at hok hno
    show Ev _ _ _ _ [.long v] _
    repeat (refine ev_s rfl (?_ : Ev _ _ _ _ _ _))
    refine ev_cv rfl (as := [.ref 0]) rfl rfl (Nat.le_of_ble_eq_true rfl) ?_
    refine k_blanks hR1 (fun M2 hR2 s2 => ?_)
    have s02 := s1.t2 s2 (ids'' := IDXs) (by decide)
    obtain ⟨m2, hm2, eR⟩ := rAll_blank (lim := lim) (fns := fns) (op := []) (pe := pe1) (wh := some a) (nm := nm1) (H := H1) (n := n1) m1 q g1
    rw [eR] at hok hno
    have hstop : ∀ c, t[spanE isBl t q]? = some c → isBl c = false := fun c hc => spanE_stop hc
    generalize spanE isBl t q = q2 at *
    obtain ⟨k1, k2, k3, k4, k5, k6, k7, k8, k9, k10⟩ := id hR2
    show Ev _ _ _ _ [] _
    repeat (refine ev_s rfl (?_ : Ev _ _ _ _ _ _))
    rw [k4, k3.1]
    refine ev_ic rfl (fun hc => ?_) (fun hc => ?_)
    · have hge := (nI_leI (by omega) (by omega)).mp hc
      rw [rAll_end hge] at hok
      repeat (refine ev_s rfl (?_ : Ev _ _ _ _ _ _))
      have s3 : SameM [125] M2 (mI M2 0 25 0) := SameM.I0 (j := 25)
      refine ev_retl rfl rfl (hok _ U1 ψ1 v a nm1 H1 n1 rfl (k1.setPe s3 (by decide) ⟨?_, by simp, fun i a hi => by simp at hi⟩) (k2.same s3 (by decide) (by decide)) rv (by rw [mI_ne (Or.inr (by decide))]; exact k6) (s02.t2 s3 (by decide)))
      rw [mI_at]; rfl
    · have hlt : q2 < t.length := by
        have : ¬ t.length ≤ q2 := fun h9 => hc (nI_le h9 (by omega))
        omega
      have e : t[q2]? = some t[q2] := List.getElem?_eq_getElem hlt
      obtain ⟨m3, rfl⟩ : ∃ m3, m2 = m3 + 1 := ⟨m2 - 1, by omega⟩
      rw [rAll_go e, rTok_whole (hstop _ e)] at hno
      repeat (refine ev_s rfl (?_ : Ev _ _ _ _ _ _))
      rw [k4]
      refine ev_cv rfl (as := [.ref 0, .int 1, .int (nI q2)]) rfl rfl (Nat.le_of_ble_eq_true rfl) ?_
      refine k_failsAt ?_
      show Ev _ _ _ _ [.ref 5] _
      exact ev_s rfl (hno _ 1 q2 nm1 H1 n1 rfl (hR2.flt (c := 1) (by decide) (by decide) (by omega)) (s02.t2 RdM.fs (by decide)))
  · exact hno M1 c pl nm1 H1 n1 e1 hX s1
end KW

/-! Symbols: a new name -/
theorem SymIs.at {M : PM} {ns : List (List Nat)} (h : SymIs M ns) {k : Nat} {nm : List Nat} (hk : ns[k]? = some nm) : nm.length ≤ 10 ∧ M.1 8 k = nI nm.length ∧ ∀ j c, nm[j]? = some c → c < 128 ∧ M.1 7 (10 * k + j) = nI c := h.2.2.1 k nm hk
theorem nI_sub1 {n : Nat} (h : 0 < n) : nI n - 1 = nI (n - 1) := by
  obtain ⟨m, rfl⟩ : ∃ m, n = m + 1 := ⟨n - 1, by omega⟩
  exact nI_pred m
theorem sb_small : ∀ c, c < 128 → sb_b c = nI c := by decide +kernel
theorem sym_addSign {d : Nat} {M : PM} {ns0 : List (List Nat)} {nm : List Nat} {c : Nat} (hS : SymIs M (ns0 ++ [nm])) (h10 : nm.length < 10) (hc : c < 128) {Q : Option (Option Value) → PM → Prop}
    (h : ∀ M', SymIs M' (ns0 ++ [nm ++ [c]]) → Same [7, 8] M M' → Q (some none) M') : SC (d + 1) 94 [.ref 6, .int (nI c)] M Q := by
  refine ⟨qX7_addSign, rfl, ⟨Nat.le_of_ble_eq_true rfl, rfl, 6, _, _, rfl, rfl⟩, ?_⟩
  show Ev (BC d qX7_addSign) Q 0 [some (.ref 6), some (.int (nI c)), none] [] M
  have hl := hS.2.1
  have e1 : (ns0 ++ [nm]).length = ns0.length + 1 := by simp
  have ek : (ns0 ++ [nm])[ns0.length]? = some nm := by simp
  obtain ⟨g1, g2, g3⟩ := hS.at ek
  rw [e1] at hl
  iterate 2 (refine ev_s rfl (?_ : Ev _ _ _ _ _ _))
  rw [hS.1, e1]
  iterate 2 (refine ev_s rfl (?_ : Ev _ _ _ _ _ _))
  rw [nI_pred]
  refine ev_s rfl (?_ : Ev _ _ _ _ _ _)
  refine ev_s rfl (?_ : Ev _ _ _ _ _ _)
  refine ev_ifF rfl (nI_pos (by omega)) ?_
  iterate 2 (refine ev_s rfl (?_ : Ev _ _ _ _ _ _))
  refine ev_icF rfl (nI_ge (b := 300) (by omega) (by decide)) ?_
  iterate 3 (refine ev_s rfl (?_ : Ev _ _ _ _ _ _))
  refine ev_iald rfl rfl (vp_in_nI (show ns0.length < 300 by omega) (by decide)) ?_
  rw [nI_clamp (by omega), g2]
  refine ev_s rfl (?_ : Ev _ _ _ _ _ _)
  refine ev_icF rfl (nI_ge (b := 10) h10 (by decide)) ?_
  iterate 8 (refine ev_s rfl (?_ : Ev _ _ _ _ _ _))
  refine ev_iald rfl rfl (vp_in_nI (show ns0.length < 300 by omega) (by decide)) ?_
  rw [nI_clamp (by omega), g2]
  refine ev_s rfl (?_ : Ev _ _ _ _ _ _)
  rw [nI10]
  iterate 2 (refine ev_s rfl (?_ : Ev _ _ _ _ _ _))
  refine ev_bast rfl rfl (vp_in_nI (show 10 * ns0.length + nm.length < 3000 by omega) (by decide)) ?_
  rw [nI_clamp (by omega), pk_vb]
  iterate 4 (refine ev_s rfl (?_ : Ev _ _ _ _ _ _))
  refine ev_iald rfl rfl (vp_in_nI (show ns0.length < 300 by omega) (by decide)) ?_
  rw [nI_clamp (by omega), mI_ne (Or.inl (by decide)), g2]
  iterate 2 (refine ev_s rfl (?_ : Ev _ _ _ _ _ _))
  rw [nI_1]
  refine ev_iast rfl rfl (vp_in_nI (show ns0.length < 300 by omega) (by decide)) ?_
  rw [nI_clamp (by omega)]
  have eb : (nI c).toInt8.toInt32 = nI c := sb_small c hc
  rw [eb]
  refine ev_retv rfl rfl (h _ ⟨?_, by simp; omega, ?_, ?_⟩ ((Same.I.tr Same.I).sub (fun k hk => by simp at hk ⊢; omega)))
  · rw [mI_ne (Or.inl (by decide)), mI_ne (Or.inl (by decide)), hS.1]; simp
  · intro k nm' hk
    by_cases hkl : k = ns0.length
    · subst hkl
      have : nm ++ [c] = nm' := by simpa using hk
      subst this
      refine ⟨by simp; omega, by rw [mI_at]; simp, fun j c' hj => ?_⟩
      rw [mI_ne (Or.inl (by decide))]
      by_cases hjl : j = nm.length
      · subst hjl
        have : c = c' := by simpa using hj
        subst this
        exact ⟨hc, mI_at⟩
      · have := (List.getElem?_eq_some_iff.mp hj).1
        simp at this
        rw [List.getElem?_append_left (by omega)] at hj
        rw [mI_ne (Or.inr (by omega))]
        exact g3 j c' hj
    · have := (List.getElem?_eq_some_iff.mp hk).1
      simp at this
      rw [List.getElem?_append_left (by omega)] at hk
      obtain ⟨k1, k2, k3⟩ := hS.at (k := k) (nm := nm') (by rw [List.getElem?_append_left (by omega)]; exact hk)
      refine ⟨k1, ?_, fun j c' hj => ?_⟩
      · rw [mI_ne (Or.inr hkl), mI_ne (Or.inl (by decide))]; exact k2
      · rw [mI_ne (Or.inl (by decide))]
        have hjl := (List.getElem?_eq_some_iff.mp hj).1
        rw [mI_ne (Or.inr (by omega))]
        exact k3 j c' hj
  · intro k hk
    simp at hk
    rw [mI_ne (Or.inr (by omega)), mI_ne (Or.inl (by decide))]
    exact hS.2.2.2 k (by simp; omega)
theorem sym_named {d : Nat} {M : PM} {ns : List (List Nat)} (hS : SymIs M ns) {l : List Nat} (hT : BytesIs M 2 3 l) {st n : Nat} (hn : n ≤ 10) (hl : st + n ≤ l.length) (h128 : ∀ c ∈ slice l st n, c < 128) {Q : Option (Option Value) → PM → Prop}
    (h1 : ∀ k : Nat, ns[k]? = some (slice l st n) → (∀ j : Nat, j < k → ns[j]? ≠ some (slice l st n)) → Q (some (some (.int (nI k)))) M)
    (h2 : (∀ k : Nat, ns[k]? ≠ some (slice l st n)) → ns.length = 300 → Q (some (some (.int (-1)))) M)
    (h3 : (∀ k : Nat, ns[k]? ≠ some (slice l st n)) → ns.length < 300 → ∀ M', SymIs M' (ns ++ [slice l st n]) → Same [6, 7, 8] M M' → Q (some (some (.int (nI ns.length)))) M') : SC (d + 3) 92 [.ref 6, .ref 2, .int (nI st), .int (nI n)] M Q := by
  refine ⟨qX7_named, rfl, ⟨Nat.le_of_ble_eq_true rfl, rfl, 6, _, _, rfl, rfl⟩, ?_⟩
  show Ev (BC (d + 2) qX7_named) Q 0 [some (.ref 6), some (.ref 2), some (.int (nI st)), some (.int (nI n)), none] [] M
  have h300 := hS.2.1
  have h2000 := hT.2.1
  have hsl : (slice l st n).length = n := slice_len hl
  have loop : ∀ (m k : Nat), ns.length - k < m → k ≤ ns.length → (∀ j : Nat, j < k → ns[j]? ≠ some (slice l st n)) → Ev (BC (d + 2) qX7_named) Q 3 [some (.ref 6), some (.ref 2), some (.int (nI st)), some (.int (nI n)), some (.int (nI k))] [] M := by
    intro m
    induction m with
    | zero => intro k h9; omega
    | succ m ih =>
      intro k hm hk hne
      iterate 3 (refine ev_s rfl (?_ : Ev _ _ _ _ _ _))
      rw [hS.1]
      refine ev_ic rfl (fun hc => ?_) (fun hc => ?_)
      · -- no such name yet
        have hk2 : ns.length ≤ k := (nI_leI (by omega) (by omega)).mp hc
        have hnone : ∀ j : Nat, ns[j]? ≠ some (slice l st n) := fun j => by
          by_cases hj : j < k
          · exact hne j hj
          · rw [List.getElem?_eq_none (by omega)]; simp
        iterate 2 (refine ev_s rfl (?_ : Ev _ _ _ _ _ _))
        rw [hS.1]
        refine ev_s rfl (?_ : Ev _ _ _ _ _ _)
        refine ev_ic rfl (fun hc2 => ?_) (fun hc2 => ?_)
        · have hlt : ns.length < 300 := (nI_ltI (b := 300) (by omega) (by decide)).mp hc2
          iterate 3 (refine ev_s rfl (?_ : Ev _ _ _ _ _ _))
          rw [hS.1]
          iterate 5 (refine ev_s rfl (?_ : Ev _ _ _ _ _ _))
          rw [nI_1]
          -- the signs come one by one
          have add : ∀ (m2 j : Nat) (M1 : PM), n - j < m2 → j ≤ n → SymIs M1 (ns ++ [(slice l st n).take j]) → Same [6, 7, 8] M M1 → Ev (BC (d + 2) qX7_named) Q 68 [some (.ref 6), some (.ref 2), some (.int (nI st)), some (.int (nI n)), some (.int (nI j))] [] M1 := by
            intro m2
            induction m2 with
            | zero => intro j M1 h9; omega
            | succ m2 ih2 =>
              intro j M1 hm2 hj hS1 hsame
              iterate 2 (refine ev_s rfl (?_ : Ev _ _ _ _ _ _))
              refine ev_ic rfl (fun hc3 => ?_) (fun hc3 => ?_)
              · have hj2 : n ≤ j := (nI_leI (by omega) (by omega)).mp hc3
                have hjn : j = n := by omega
                subst hjn
                rw [List.take_of_length_le (by omega)] at hS1
                iterate 2 (refine ev_s rfl (?_ : Ev _ _ _ _ _ _))
                rw [hS1.1]
                iterate 2 (refine ev_s rfl (?_ : Ev _ _ _ _ _ _))
                rw [show (ns ++ [slice l st j]).length = ns.length + 1 by simp, nI_pred]
                exact ev_reti rfl rfl trivial rfl (h3 hnone hlt M1 hS1 hsame)
              · have hj2 : j < n := (nI_ltI (by omega) (by omega)).mp (Int32.not_le.mp hc3)
                have hT1 : BytesIs M1 2 3 l := hT.same hsame (by decide) (by decide)
                have e2 : l[st + j]? = some l[st + j] := List.getElem?_eq_getElem (by omega)
                have e3 : (slice l st n)[j]? = some l[st + j] := by rw [slice_get hj2]; exact e2
                iterate 5 (refine ev_s rfl (?_ : Ev _ _ _ _ _ _))
                rw [nI_add]
                refine ev_cv rfl (as := [.ref 2, .int (nI (st + j))]) rfl rfl (Nat.le_of_ble_eq_true rfl) ?_
                refine bytes_at b_tape hT1 ?_
                rw [bAt_nI (by omega), e2]
                show Ev _ _ _ _ [.int (nI l[st + j]), .ref 6] _
                refine ev_cv rfl (as := [.ref 6, .int (nI l[st + j])]) rfl rfl (Nat.le_of_ble_eq_true rfl) ?_
                refine sym_addSign hS1 (by rw [List.length_take]; omega) (h128 _ (List.mem_of_getElem? e3)) (fun M2 g1 g2 => ?_)
                show Ev _ _ _ _ [] _
                iterate 2 (refine ev_s rfl (?_ : Ev _ _ _ _ _ _))
                rw [nI_1]
                refine ih2 (j + 1) M2 (by omega) (by omega) ?_ ((hsame.tr g2).sub (fun k hk => by simp at hk ⊢; omega))
                have e4 : (slice l st n).take (j + 1) = (slice l st n).take j ++ [l[st + j]] := by
                  rw [List.take_add_one, e3]; rfl
                rw [e4]; exact g1
          refine add (n + 1) 0 (mI M 6 2 (nI (ns.length + 1))) (by omega) (by omega) ⟨by rw [mI_at]; simp, by simp; omega, fun k nm hk => ?_, fun k hk => ?_⟩ (Same.I.sub (fun k hk => by simp at hk ⊢; omega))
          · rw [mI_ne (Or.inl (by decide))]
            have e5 : ∀ i, (mI M 6 2 (nI (ns.length + 1))).1 7 i = M.1 7 i := fun i => mI_ne (Or.inl (by decide))
            simp only [e5]
            by_cases hkl : k = ns.length
            · subst hkl
              have : nm = [] := by simpa using hk.symm
              subst this
              exact ⟨by simp, by rw [hS.2.2.2 _ (Nat.le_refl _)]; rfl, fun j c hj => by simp at hj⟩
            · have := (List.getElem?_eq_some_iff.mp hk).1
              simp at this
              rw [List.getElem?_append_left (by omega)] at hk
              exact hS.at hk
          · simp at hk
            rw [mI_ne (Or.inl (by decide))]
            exact hS.2.2.2 k (by omega)
        · have hge : ns.length = 300 := by
            have := (nI_leI (a := 300) (by decide) (by omega)).mp (Int32.not_lt.mp hc2)
            omega
          refine ev_s rfl (?_ : Ev _ _ _ _ _ _)
          exact ev_reti rfl rfl trivial rfl (h2 hnone hge)
      · have hk2 : k < ns.length := (nI_ltI (by omega) (by omega)).mp (Int32.not_le.mp hc)
        have ek : ns[k]? = some ns[k] := List.getElem?_eq_getElem hk2
        obtain ⟨g1, g2, g3⟩ := hS.at ek
        have go : ns[k]? ≠ some (slice l st n) → Ev (BC (d + 2) qX7_named) Q 37 [some (.ref 6), some (.ref 2), some (.int (nI st)), some (.int (nI n)), some (.int (nI k))] [] M := fun h9 => by
          iterate 2 (refine ev_s rfl (?_ : Ev _ _ _ _ _ _))
          rw [nI_1]
          refine ih (k + 1) (by omega) (by omega) (fun j hj => ?_)
          by_cases hjk : j = k
          · subst hjk; exact h9
          · exact hne j (by omega)
        iterate 3 (refine ev_s rfl (?_ : Ev _ _ _ _ _ _))
        refine ev_iald rfl rfl (vp_in_nI (show k < 300 by omega) (by decide)) ?_
        rw [nI_clamp (by omega), g2]
        refine ev_s rfl (?_ : Ev _ _ _ _ _ _)
        refine ev_ic rfl (fun hc2 => go (fun h9 => hc2 ?_)) (fun hc2 => ?_)
        · rw [ek] at h9
          rw [Option.some.inj h9, hsl]
        · have hlen : ns[k].length = n := (nI_eq (by omega) (by omega)).mp (Decidable.byContradiction hc2)
          iterate 4 (refine ev_s rfl (?_ : Ev _ _ _ _ _ _))
          refine ev_cv rfl (as := [.ref 6, .int (nI k), .ref 2, .int (nI st)]) rfl rfl (Nat.le_of_ble_eq_true rfl) ?_
          refine sym_isNamed hS hT ek (by omega) (fun h9 => ?_) (fun h9 => ?_)
          · show Ev _ _ _ _ [.int 1] _
            refine ev_ifF rfl (show ¬ (1 : Int32) = 0 by decide) ?_
            refine ev_s rfl (?_ : Ev _ _ _ _ _ _)
            exact ev_reti rfl rfl trivial rfl (h1 k (by rw [ek, h9, hlen]) hne)
          · show Ev _ _ _ _ [.int 0] _
            refine ev_ifT rfl (show (0 : Int32) = 0 by decide) ?_
            exact go (fun h8 => h9 (by rw [ek] at h8; rw [hlen]; exact Option.some.inj h8))
  iterate 2 (refine ev_s rfl (?_ : Ev _ _ _ _ _ _))
  exact loop (ns.length + 1) 0 (by omega) (by omega) (fun j hj => by omega)

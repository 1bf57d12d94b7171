/-! The reference's memory: reach, cons. -/
/-- w's cell was visited -/
def Got (U : Nat → Bool) (ψ : Nat → Nat) (ns : Nat) (T : Nat → Bool) (w : AV) : Prop := ∀ i, w = aC i → ∃ v, RTv U ψ ns v (aC i) ∧ Seen T v
theorem Got.mono {U : Nat → Bool} {ψ : Nat → Nat} {ns : Nat} {T T' : Nat → Bool} {w : AV} (h : Got U ψ ns T w) (hm : ∀ c, T c = true → T' c = true) : Got U ψ ns T' w := fun i h9 => by
  obtain ⟨v, v1, v2⟩ := h i h9
  exact ⟨v, v1, v2.mono hm⟩
theorem Got.of {U : Nat → Bool} {ψ : Nat → Nat} {ns : Nat} {T : Nat → Bool} {v : Int64} {w : AV} (h : RTv U ψ ns v w) (hs : Seen T v) : Got U ψ ns T w := fun i h9 => ⟨v, h9 ▸ h, hs⟩
section KC2
variable {M : PM} {U : Nat → Bool} {ψ : Nat → Nat} {ns lim : Nat} {H : AHp} {nid : Nat} {x e f : AV} {fns : List (Option AV)} {pe vs : List AV} {frs : List AF} {va vb vm : Int64} {a b m : AV}
theorem k_reach {d : Nat} (hC : CoreM M U ψ ns lim H nid x e f fns pe vs frs) (ha : RTv U ψ ns va a) (hb : RTv U ψ ns vb b) (hm : RTv U ψ ns vm m) {Q : Option (Option Value) → PM → Prop}
    (h : ∀ M' T, CoreM M' T ψ ns lim H nid x e f fns pe vs frs → KeptM U ψ ns H (RM fns x e f pe vs frs a b m) T ψ → cntB T 2400 = acnt H (RM fns x e f pe vs frs a b m) nid → SameM [8, 9, 113, 114, 115, 116] M M' → Q (some none) M') : SM (d + 5) 120 [.ref 0, .long va, .long vb, .long vm] M Q := by
  refine ⟨qX10_reach, rfl, ⟨Nat.le_of_ble_eq_true rfl, rfl, 0, _, _, rfl, rfl⟩, ?_⟩
  show Ev (BM (d + 4) qX10_reach) Q 0 [some (.ref 0), some (.long va), none, some (.long vb), none, some (.long vm), none, none, none] [] M
  obtain ⟨h1, h2, h3, h4, h5, h6, h7, h8, h9, h10, h11⟩ := id hC
  have hH := h1.2.2.2.2.2.2
  generalize hRA : RM fns x e f pe vs frs a b m = RA at h
  have inA : ∀ w, (some w ∈ fns ∨ w ∈ pe ∨ w = x ∨ w = e ∨ w = f ∨ w ∈ vs ∨ w ∈ flatA frs ∨ w = a ∨ w = b ∨ w = m) → RA w := by
    intro w hw
    rw [← hRA]
    simp only [RM, ARt, rts, List.mem_cons, List.mem_append]
    rcases hw with h9 | h9 | h9 | h9 | h9 | h9 | h9 | h9 | h9 | h9 <;> simp [h9]
  have ofA : ∀ w, RA w → (some w ∈ fns ∨ w ∈ pe ∨ w = x ∨ w = e ∨ w = f ∨ w ∈ vs ∨ w ∈ flatA frs ∨ w = a ∨ w = b ∨ w = m) := by
    intro w hw
    rw [← hRA] at hw
    simp only [RM, ARt, rts, List.mem_cons, List.mem_append] at hw
    rcases hw with (h9 | (h9 | h9 | h9 | (h9 | h9) | h9) | h9 | h9) | h9 <;> simp [h9]
  have rootA : ∀ w, (some w ∈ fns ∨ w ∈ pe ∨ w = x ∨ w = e ∨ w = f ∨ w ∈ vs ∨ w ∈ flatA frs ∨ w = a ∨ w = b ∨ w = m) → ∀ i, w = aC i → AR H RA i := fun w hw i h9 => AR.root (h9 ▸ inA w hw)
  -- the given ones, and the end
  have fin : ∀ (M1 : PM) (T : Nat → Bool) (W : List Nat) (z7 z8 : Option Value), Mk M U ψ H RA T W [] M1 → (∀ w, (some w ∈ fns ∨ w ∈ pe ∨ w = x ∨ w = e ∨ w = f ∨ w ∈ vs ∨ w ∈ flatA frs) → Got U ψ ns T w) → Ev (BM (d + 4) qX10_reach) Q 175 [some (.ref 0), some (.long va), none, some (.long vb), none, some (.long vm), none, z7, z8] [] M1 := by
    intro M1 T W z7 z8 hM hG
    repeat (refine ev_s rfl (?_ : Ev _ _ _ _ _ _))
    refine ev_cv rfl (as := [.ref 0, .long va]) rfl rfl (Nat.le_of_ble_eq_true rfl) ?_
    refine k_visit hM ha (rootA a (by simp)) (fun M2 T2 W2 g1 g2 g3 g4 => ?_)
    show Ev _ _ _ _ [] _
    repeat (refine ev_s rfl (?_ : Ev _ _ _ _ _ _))
    refine ev_cv rfl (as := [.ref 0, .long vb]) rfl rfl (Nat.le_of_ble_eq_true rfl) ?_
    refine k_visit g1 hb (rootA b (by simp)) (fun M3 T3 W3 g5 g6 g7 g8 => ?_)
    show Ev _ _ _ _ [] _
    repeat (refine ev_s rfl (?_ : Ev _ _ _ _ _ _))
    refine ev_cv rfl (as := [.ref 0, .long vm]) rfl rfl (Nat.le_of_ble_eq_true rfl) ?_
    refine k_visit g5 hm (rootA m (by simp)) (fun M4 T4 W4 g9 g10 g11 g12 => ?_)
    show Ev _ _ _ _ [] _
    repeat (refine ev_s rfl (?_ : Ev _ _ _ _ _ _))
    refine ev_cv rfl (as := [.ref 0]) rfl rfl (Nat.le_of_ble_eq_true rfl) ?_
    refine k_walks hH g9 (fun M5 T5 g13 g14 => ?_)
    obtain ⟨m1, m2, m3, m4, m5, m6, m7, m8, m9⟩ := id g13
    obtain ⟨e1, e2, e3⟩ := mark_end hH g13 (fun i hi => by
      rcases ofA _ hi with h9 | h9 | h9 | h9 | h9 | h9 | h9 | h9 | h9 | h9
      · exact ((((hG _ (by simp [h9])).mono g2).mono g6).mono g10).mono g14 i rfl
      · exact ((((hG _ (by simp [h9])).mono g2).mono g6).mono g10).mono g14 i rfl
      · exact ((((hG _ (by simp [h9])).mono g2).mono g6).mono g10).mono g14 i rfl
      · exact ((((hG _ (by simp [h9])).mono g2).mono g6).mono g10).mono g14 i rfl
      · exact ((((hG _ (by simp [h9])).mono g2).mono g6).mono g10).mono g14 i rfl
      · exact ((((hG _ (by simp [h9])).mono g2).mono g6).mono g10).mono g14 i rfl
      · exact ((((hG _ (by simp [h9])).mono g2).mono g6).mono g10).mono g14 i rfl
      · exact ((((Got.of ha g3).mono g6).mono g10).mono g14) i h9.symm
      · exact (((Got.of hb g7).mono g10).mono g14) i h9.symm
      · exact ((Got.of hm g11).mono g14) i h9.symm)
    show Ev _ _ _ _ [] _
    repeat (refine ev_s rfl (?_ : Ev _ _ _ _ _ _))
    have hs : SameM [8, 9, 113, 114, 115, 116] M (mI (mI M5 0 15 (M5.1 0 14)) 0 16 0) := ((m9.tr SameM.I0).tr SameM.I0).sub (by decide)
    refine ev_retv rfl rfl (h _ T5 (hC.kept e1 (fun v hv => inA v ?_) hs (by decide) ⟨fun c hc => ?_, ?_, ⟨0, mI_at, by omega, fun c hc => by omega⟩, ?_, h1.2.2.2.2.1, ?_, ?_⟩ h2) e1 e2 hs)
    · simp only [rts, List.mem_cons, List.mem_append] at hv
      rcases hv with h9 | (h9 | h9 | h9 | (h9 | h9) | h9) <;> simp [h9]
    · rw [mI_ne (Or.inl (by decide)), mI_ne (Or.inl (by decide))]; exact m1 c hc
    · rw [mI_ne (Or.inr (by decide)), mI_at]; exact m2
    · exact (hs.2 17 (by decide)).1.trans h1.2.2.2.1
    · exact (hs.2 18 (by decide)).1.trans h1.2.2.2.2.2.1
    · unfold HeapM
      rw [(hs.1 6 (by decide) (by decide)).2, (hs.1 7 (by decide) (by decide)).2]
      exact e3
  -- the frames
  have frl : ∀ (q k : Nat) (M1 : PM) (T : Nat → Bool) (W : List Nat) (z8 : Option Value), k + q = frs.length → Mk M U ψ H RA T W [] M1 → (∀ w, (some w ∈ fns ∨ w ∈ pe ∨ w = x ∨ w = e ∨ w = f ∨ w ∈ vs) → Got U ψ ns T w) → (∀ (j : Nat) F w, j < k → frs.reverse[j]? = some F → (w = F.1 ∨ w = F.2.1 ∨ w = F.2.2.1 ∨ w ∈ F.2.2.2) → Got U ψ ns T w) → Ev (BM (d + 4) qX10_reach) Q 89 [some (.ref 0), some (.long va), none, some (.long vb), none, some (.long vm), none, some (.int (nI k)), z8] [] M1 := by
    intro q
    induction q with
    | zero =>
      intro k M1 T W z8 hk hM hG hF
      have hs := hM.2.2.2.2.2.2.2.2
      have h200 := h9.2.1
      repeat (refine ev_s rfl (?_ : Ev _ _ _ _ _ _))
      rw [(hs.2 41 (by decide)).1, h9.1]
      refine ev_icT rfl (show nI frs.length ≤ nI k from nI_le (by omega) (by omega)) ?_
      refine fin M1 T W _ _ hM (fun w hw => ?_)
      rcases hw with h8 | h8 | h8 | h8 | h8 | h8 | h8
      · exact hG w (by simp [h8])
      · exact hG w (by simp [h8])
      · exact hG w (by simp [h8])
      · exact hG w (by simp [h8])
      · exact hG w (by simp [h8])
      · exact hG w (by simp [h8])
      · obtain ⟨F, f1, f2⟩ := mem_flatA.mp h8
        obtain ⟨j, j1, j2⟩ := List.getElem_of_mem (List.mem_reverse.mpr f1)
        have j1' : j < k := by rw [List.length_reverse] at j1; omega
        exact hF j F w j1' (by rw [List.getElem?_eq_getElem j1, j2]) f2
    | succ q ih =>
      intro k M1 T W z8 hk hM hG hF
      have hs := hM.2.2.2.2.2.2.2.2
      have h200 := h9.2.1
      have hkl : k < frs.reverse.length := by rw [List.length_reverse]; omega
      have eF : frs.reverse[k]? = some frs.reverse[k] := List.getElem?_eq_getElem hkl
      generalize frs.reverse[k] = F at eF
      have hFm : F ∈ frs := List.mem_reverse.mp (List.mem_of_getElem? eF)
      obtain ⟨a1, a2, a3, a4, a5, a6, a7, a8⟩ := h9.2.2 k F eF
      have rA : ∀ w, (w = F.1 ∨ w = F.2.1 ∨ w = F.2.2.1 ∨ w ∈ F.2.2.2) → ∀ i, w = aC i → AR H RA i := fun w hw => rootA w (by
        have := mem_flatA.mpr ⟨F, hFm, hw⟩
        simp [this])
      -- its values
      have vl : ∀ (q2 j : Nat) (M2 : PM) (T2 : Nat → Bool) (W2 : List Nat), j + q2 = F.2.2.2.length → Mk M U ψ H RA T2 W2 [] M2 → (∀ c, T c = true → T2 c = true) → (∀ w, (w = F.1 ∨ w = F.2.1 ∨ w = F.2.2.1) → Got U ψ ns T2 w) → (∀ (i : Nat) w, i < j → F.2.2.2[i]? = some w → Got U ψ ns T2 w) → Ev (BM (d + 4) qX10_reach) Q 134 [some (.ref 0), some (.long va), none, some (.long vb), none, some (.long vm), none, some (.int (nI k)), some (.int (nI j))] [] M2 := by
        intro q2
        induction q2 with
        | zero =>
          intro j M2 T2 W2 hj hM2 hT hg1 hg2
          have hs2 := hM2.2.2.2.2.2.2.2.2
          repeat (refine ev_s rfl (?_ : Ev _ _ _ _ _ _))
          refine ev_iald rfl rfl (vp_in_nI (show k < 200 by omega) (by decide)) ?_
          rw [nI_clamp (by omega), (hs2.1 20 (by decide) (by decide)).1, a6]
          refine ev_icT rfl (show nI F.2.2.2.length ≤ nI j from nI_le (by omega) (by omega)) ?_
          iterate 2 (refine ev_s rfl (?_ : Ev _ _ _ _ _ _))
          rw [nI_1]
          refine ih (k + 1) M2 T2 W2 _ (by omega) hM2 (fun w hw => (hG w hw).mono hT) (fun j' F' w hj' hF' hw => ?_)
          by_cases hjk : j' = k
          · subst hjk
            rw [eF] at hF'
            cases hF'
            rcases hw with h8 | h8 | h8 | h8
            · exact hg1 w (by simp [h8])
            · exact hg1 w (by simp [h8])
            · exact hg1 w (by simp [h8])
            · obtain ⟨i, i1, i2⟩ := List.getElem_of_mem h8
              exact hg2 i w (by omega) (by rw [List.getElem?_eq_getElem i1, i2])
          · exact (hF j' F' w (by omega) hF' hw).mono hT
        | succ q2 ih2 =>
          intro j M2 T2 W2 hj hM2 hT hg1 hg2
          have hs2 := hM2.2.2.2.2.2.2.2.2
          have ej : F.2.2.2[j]? = some F.2.2.2[j] := List.getElem?_eq_getElem (by omega)
          generalize F.2.2.2[j] = w0 at ej
          repeat (refine ev_s rfl (?_ : Ev _ _ _ _ _ _))
          refine ev_iald rfl rfl (vp_in_nI (show k < 200 by omega) (by decide)) ?_
          rw [nI_clamp (by omega), (hs2.1 20 (by decide) (by decide)).1, a6]
          refine ev_icF rfl (show ¬ nI F.2.2.2.length ≤ nI j from fun h9 => by have := (nI_leI (by omega) (by omega)).mp h9; omega) ?_
          repeat (refine ev_s rfl (?_ : Ev _ _ _ _ _ _))
          rw [Int32.mul_comm, nI10]
          refine ev_lald rfl rfl (vp_in_nI (show 10 * k + j < 2000 by omega) (by decide)) ?_
          rw [nI_clamp (by omega), (hs2.1 19 (by decide) (by decide)).2]
          refine ev_cv rfl (as := [.ref 0, .long (M.2 19 (10 * k + j))]) rfl rfl (Nat.le_of_ble_eq_true rfl) ?_
          refine k_visit hM2 (a8 j w0 ej) (rA w0 (Or.inr (Or.inr (Or.inr (List.mem_of_getElem? ej))))) (fun M3 T3 W3 g1 g2 g3 g4 => ?_)
          show Ev _ _ _ _ [] _
          iterate 2 (refine ev_s rfl (?_ : Ev _ _ _ _ _ _))
          rw [nI_1]
          refine ih2 (j + 1) M3 T3 W3 (by omega) g1 (fun c hc => g2 c (hT c hc)) (fun w hw => (hg1 w hw).mono g2) (fun i w hi hiw => ?_)
          by_cases hij : i = j
          · subst hij
            rw [ej] at hiw
            cases hiw
            exact Got.of (a8 i w0 ej) g3
          · exact (hg2 i w (by omega) hiw).mono g2
      repeat (refine ev_s rfl (?_ : Ev _ _ _ _ _ _))
      rw [(hs.2 41 (by decide)).1, h9.1]
      refine ev_icF rfl (show ¬ nI frs.length ≤ nI k from fun h9 => by have := (nI_leI (by omega) (by omega)).mp h9; omega) ?_
      repeat (refine ev_s rfl (?_ : Ev _ _ _ _ _ _))
      refine ev_lald rfl rfl (vp_in_nI (show k < 200 by omega) (by decide)) ?_
      rw [nI_clamp (by omega), (hs.1 16 (by decide) (by decide)).2]
      refine ev_cv rfl (as := [.ref 0, .long (M.2 16 k)]) rfl rfl (Nat.le_of_ble_eq_true rfl) ?_
      refine k_visit hM a2 (rA _ (by simp)) (fun M2 T2 W2 g1 g2 g3 g4 => ?_)
      show Ev _ _ _ _ [] _
      repeat (refine ev_s rfl (?_ : Ev _ _ _ _ _ _))
      refine ev_lald rfl rfl (vp_in_nI (show k < 200 by omega) (by decide)) ?_
      rw [nI_clamp (by omega), (g1.2.2.2.2.2.2.2.2.1 17 (by decide) (by decide)).2]
      refine ev_cv rfl (as := [.ref 0, .long (M.2 17 k)]) rfl rfl (Nat.le_of_ble_eq_true rfl) ?_
      refine k_visit g1 a3 (rA _ (by simp)) (fun M3 T3 W3 g5 g6 g7 g8 => ?_)
      show Ev _ _ _ _ [] _
      repeat (refine ev_s rfl (?_ : Ev _ _ _ _ _ _))
      refine ev_lald rfl rfl (vp_in_nI (show k < 200 by omega) (by decide)) ?_
      rw [nI_clamp (by omega), (g5.2.2.2.2.2.2.2.2.1 18 (by decide) (by decide)).2]
      refine ev_cv rfl (as := [.ref 0, .long (M.2 18 k)]) rfl rfl (Nat.le_of_ble_eq_true rfl) ?_
      by_cases hc3 : F.1 = aS 3
      · have hn : RTv U ψ ns (M.2 18 k) (aS 0) := by rw [a4 hc3]; exact RTv.nil (by omega)
        refine k_visit g5 hn (fun i h9 => by cases h9) (fun M4 T4 W4 g9 g10 g11 g12 => ?_)
        show Ev _ _ _ _ [] _
        iterate 2 (refine ev_s rfl (?_ : Ev _ _ _ _ _ _))
        refine vl _ 0 M4 T4 W4 (Nat.zero_add _) g9 (fun c hc => g10 c (g6 c (g2 c hc))) (fun w hw => ?_) (fun i w hi => by omega)
        rcases hw with h8 | h8 | h8
        · rw [h8, hc3]; exact fun i h9 => by cases h9
        · rw [h8]; exact ((Got.of a2 g3).mono g6).mono g10
        · rw [h8]; exact (Got.of a3 g7).mono g10
      · refine k_visit g5 (a5 hc3) (rA _ (by simp)) (fun M4 T4 W4 g9 g10 g11 g12 => ?_)
        show Ev _ _ _ _ [] _
        iterate 2 (refine ev_s rfl (?_ : Ev _ _ _ _ _ _))
        refine vl _ 0 M4 T4 W4 (Nat.zero_add _) g9 (fun c hc => g10 c (g6 c (g2 c hc))) (fun w hw => ?_) (fun i w hi => by omega)
        rcases hw with h8 | h8 | h8
        · rw [h8]; exact Got.of (a5 hc3) g11
        · rw [h8]; exact ((Got.of a2 g3).mono g6).mono g10
        · rw [h8]; exact (Got.of a3 g7).mono g10
  -- the values
  have vll : ∀ (q k : Nat) (M1 : PM) (T : Nat → Bool) (W : List Nat), k + q = vs.length → Mk M U ψ H RA T W [] M1 → (∀ w, (some w ∈ fns ∨ w ∈ pe ∨ w = x ∨ w = e ∨ w = f) → Got U ψ ns T w) → (∀ (j : Nat) w, j < k → vs[j]? = some w → Got U ψ ns T w) → Ev (BM (d + 4) qX10_reach) Q 60 [some (.ref 0), some (.long va), none, some (.long vb), none, some (.long vm), none, some (.int (nI k)), none] [] M1 := by
    intro q
    induction q with
    | zero =>
      intro k M1 T W hk hM hG hF
      have hs := hM.2.2.2.2.2.2.2.2
      have h10' := h8.2.1
      repeat (refine ev_s rfl (?_ : Ev _ _ _ _ _ _))
      rw [(hs.2 34 (by decide)).1, h8.1]
      refine ev_icT rfl (show nI vs.length ≤ nI k from nI_le (by omega) (by omega)) ?_
      iterate 2 (refine ev_s rfl (?_ : Ev _ _ _ _ _ _))
      refine frl _ 0 M1 T W _ (Nat.zero_add _) hM (fun w hw => ?_) (fun j F w hj => by omega)
      rcases hw with h8 | h8 | h8 | h8 | h8 | h8
      · exact hG w (by simp [h8])
      · exact hG w (by simp [h8])
      · exact hG w (by simp [h8])
      · exact hG w (by simp [h8])
      · exact hG w (by simp [h8])
      · obtain ⟨j, j1, j2⟩ := List.getElem_of_mem h8
        exact hF j w (by omega) (by rw [List.getElem?_eq_getElem j1, j2])
    | succ q ih =>
      intro k M1 T W hk hM hG hF
      have hs := hM.2.2.2.2.2.2.2.2
      have h10' := h8.2.1
      have ek : vs[k]? = some vs[k] := List.getElem?_eq_getElem (by omega)
      generalize vs[k] = w0 at ek
      repeat (refine ev_s rfl (?_ : Ev _ _ _ _ _ _))
      rw [(hs.2 34 (by decide)).1, h8.1]
      refine ev_icF rfl (show ¬ nI vs.length ≤ nI k from fun h9 => by have := (nI_leI (by omega) (by omega)).mp h9; omega) ?_
      repeat (refine ev_s rfl (?_ : Ev _ _ _ _ _ _))
      refine ev_lald rfl rfl (vp_in_nI (show k < 10 by omega) (by decide)) ?_
      rw [nI_clamp (by omega), (hs.1 14 (by decide) (by decide)).2]
      refine ev_cv rfl (as := [.ref 0, .long (M.2 14 k)]) rfl rfl (Nat.le_of_ble_eq_true rfl) ?_
      have hw0 : w0 ∈ vs := List.mem_of_getElem? ek
      refine k_visit hM (h8.2.2 k w0 ek) (rootA w0 (by simp [hw0])) (fun M2 T2 W2 g1 g2 g3 g4 => ?_)
      show Ev _ _ _ _ [] _
      iterate 2 (refine ev_s rfl (?_ : Ev _ _ _ _ _ _))
      rw [nI_1]
      refine ih (k + 1) M2 T2 W2 (by omega) g1 (fun w hw => (hG w hw).mono g2) (fun j w hj hjw => ?_)
      by_cases hjk : j = k
      · subst hjk
        rw [ek] at hjw
        cases hjw
        exact Got.of (h8.2.2 j w0 ek) g3
      · exact (hF j w (by omega) hjw).mono g2
  -- what was read
  have rdl : ∀ (q k : Nat) (M1 : PM) (T : Nat → Bool) (W : List Nat), k + q = pe.length → Mk M U ψ H RA T W [] M1 → (∀ w, some w ∈ fns → Got U ψ ns T w) → (∀ (j : Nat) w, j < k → pe[j]? = some w → Got U ψ ns T w) → Ev (BM (d + 4) qX10_reach) Q 7 [some (.ref 0), some (.long va), none, some (.long vb), none, some (.long vm), none, some (.int (nI k)), none] [] M1 := by
    intro q
    induction q with
    | zero =>
      intro k M1 T W hk hM hG hF
      have hs := hM.2.2.2.2.2.2.2.2
      have h21 := h7.2.1
      repeat (refine ev_s rfl (?_ : Ev _ _ _ _ _ _))
      rw [(hs.2 25 (by decide)).1, h7.1]
      refine ev_icT rfl (show nI pe.length ≤ nI k from nI_le (by omega) (by omega)) ?_
      repeat (refine ev_s rfl (?_ : Ev _ _ _ _ _ _))
      rw [(hs.2 29 (by decide)).2]
      refine ev_cv rfl (as := [.ref 0, .long (M.2 0 29)]) rfl rfl (Nat.le_of_ble_eq_true rfl) ?_
      refine k_visit hM h3 (rootA x (by simp)) (fun M2 T2 W2 g1 g2 g3 g4 => ?_)
      show Ev _ _ _ _ [] _
      repeat (refine ev_s rfl (?_ : Ev _ _ _ _ _ _))
      rw [(g1.2.2.2.2.2.2.2.2.2 30 (by decide)).2]
      refine ev_cv rfl (as := [.ref 0, .long (M.2 0 30)]) rfl rfl (Nat.le_of_ble_eq_true rfl) ?_
      refine k_visit g1 h4 (rootA e (by simp)) (fun M3 T3 W3 g5 g6 g7 g8 => ?_)
      show Ev _ _ _ _ [] _
      repeat (refine ev_s rfl (?_ : Ev _ _ _ _ _ _))
      rw [(g5.2.2.2.2.2.2.2.2.2 31 (by decide)).2]
      refine ev_cv rfl (as := [.ref 0, .long (M.2 0 31)]) rfl rfl (Nat.le_of_ble_eq_true rfl) ?_
      refine k_visit g5 h5 (rootA f (by simp)) (fun M4 T4 W4 g9 g10 g11 g12 => ?_)
      show Ev _ _ _ _ [] _
      iterate 2 (refine ev_s rfl (?_ : Ev _ _ _ _ _ _))
      refine vll _ 0 M4 T4 W4 (Nat.zero_add _) g9 (fun w hw => ?_) (fun j w hj => by omega)
      rcases hw with h8 | h8 | h8 | h8 | h8
      · exact (((hG w h8).mono g2).mono g6).mono g10
      · obtain ⟨j, j1, j2⟩ := List.getElem_of_mem h8
        exact (((hF j w (by omega) (by rw [List.getElem?_eq_getElem j1, j2])).mono g2).mono g6).mono g10
      · rw [h8]; exact ((Got.of h3 g3).mono g6).mono g10
      · rw [h8]; exact (Got.of h4 g7).mono g10
      · rw [h8]; exact Got.of h5 g11
    | succ q ih =>
      intro k M1 T W hk hM hG hF
      have hs := hM.2.2.2.2.2.2.2.2
      have h21 := h7.2.1
      have ek : pe[k]? = some pe[k] := List.getElem?_eq_getElem (by omega)
      generalize pe[k] = w0 at ek
      repeat (refine ev_s rfl (?_ : Ev _ _ _ _ _ _))
      rw [(hs.2 25 (by decide)).1, h7.1]
      refine ev_icF rfl (show ¬ nI pe.length ≤ nI k from fun h9 => by have := (nI_leI (by omega) (by omega)).mp h9; omega) ?_
      repeat (refine ev_s rfl (?_ : Ev _ _ _ _ _ _))
      refine ev_lald rfl rfl (vp_in_nI (show k < 2100 by omega) (by decide)) ?_
      rw [nI_clamp (by omega), (hs.1 11 (by decide) (by decide)).2]
      refine ev_cv rfl (as := [.ref 0, .long (M.2 11 k)]) rfl rfl (Nat.le_of_ble_eq_true rfl) ?_
      have hw0 : w0 ∈ pe := List.mem_of_getElem? ek
      refine k_visit hM (h7.2.2 k w0 ek) (rootA w0 (by simp [hw0])) (fun M2 T2 W2 g1 g2 g3 g4 => ?_)
      show Ev _ _ _ _ [] _
      iterate 2 (refine ev_s rfl (?_ : Ev _ _ _ _ _ _))
      rw [nI_1]
      refine ih (k + 1) M2 T2 W2 (by omega) g1 (fun w hw => (hG w hw).mono g2) (fun j w hj hjw => ?_)
      by_cases hjk : j = k
      · subst hjk
        rw [ek] at hjw
        cases hjw
        exact Got.of (h7.2.2 j w0 ek) g3
      · exact (hF j w (by omega) hjw).mono g2
  repeat (refine ev_s rfl (?_ : Ev _ _ _ _ _ _))
  refine ev_cv rfl (as := [.ref 0]) rfl rfl (Nat.le_of_ble_eq_true rfl) ?_
  refine k_reachF hC (fun v hv => inA v (by simp [hv])) (fun M1 T g1 g2 => ?_)
  show Ev _ _ _ _ [] _
  iterate 2 (refine ev_s rfl (?_ : Ev _ _ _ _ _ _))
  refine rdl _ 0 M1 T [] (Nat.zero_add _) g1 (fun w hw => ?_) (fun j w hj => by omega)
  obtain ⟨k, k1, k2⟩ := List.getElem_of_mem hw
  have ek : fns[k]? = some (some w) := by rw [List.getElem?_eq_getElem k1, k2]
  exact Got.of (h6.2.1 k w ek).2.1 (g2 k w ek)
theorem RTv.alloc {c : Nat} {v : Int64} {w : AV} (h : RTv U ψ ns v w) (hc : U c = false) : RTv (upB U c) (upN ψ c nid) ns v w := by
  match w, h with
  | .inl k, h => exact h
  | .inr (.inl n), h => exact h
  | .inr (.inr i), h =>
    obtain ⟨c', c1, c2, c3, c4⟩ := h
    have hne : c' ≠ c := fun h9 => by rw [h9, hc] at c2; cases c2
    exact ⟨c', c1, upB_of c2, by rw [upN_ne hne]; exact c3, c4⟩
theorem RTv.lt {v : Int64} {i : Nat} (hH : HeapM M U ψ ns H nid) (h : RTv U ψ ns v (aC i)) : i < nid := by
  obtain ⟨c, c1, c2, c3, c4⟩ := h
  rw [← c3]
  exact (hH.1 c c1 c2).1
theorem k_cons {d : Nat} {rt : List AV} (hC : CoreM M U ψ ns lim H nid x e f fns pe vs frs) (ha : RTv U ψ ns va a) (hb : RTv U ψ ns vb b) (hm : RTv U ψ ns vm m) (hE : ∀ i, AR H (ARt fns rt a b) i ↔ AR H (RM fns x e f pe vs frs a b m) i) {Q : Option (Option Value) → PM → Prop}
    (hok : acnt H (ARt fns rt a b) nid < lim → ∀ M' U' ψ' v, CoreM M' U' ψ' ns lim (ahUp H nid a b) (nid + 1) x e f fns pe vs frs → RTv U' ψ' ns v (aC nid) → KeptM U ψ ns H (ARt fns rt a b) U' ψ' → SameM [6, 7, 8, 9, 113, 114, 115, 116, 118] M M' → Q (some (some (.long v))) M')
    (hno : lim ≤ acnt H (ARt fns rt a b) nid → ∀ M' U', CoreM M' U' ψ ns lim H nid x e f fns pe vs frs → M'.1 0 8 = 8 → SameM [8, 9, 108, 113, 114, 115, 116] M M' → Q none M') : SM (d + 6) 121 [.ref 0, .long va, .long vb, .long vm] M Q := by
  refine ⟨qX10_cons, rfl, ⟨Nat.le_of_ble_eq_true rfl, rfl, 0, _, _, rfl, rfl⟩, ?_⟩
  show Ev (BM (d + 5) qX10_cons) Q 0 [some (.ref 0), some (.long va), none, some (.long vb), none, some (.long vm), none, none] [] M
  have eA : AR H (ARt fns rt a b) = AR H (RM fns x e f pe vs frs a b m) := funext fun i => propext (hE i)
  have eC : acnt H (ARt fns rt a b) nid = acnt H (RM fns x e f pe vs frs a b m) nid := by unfold acnt; rw [eA]
  have eK : ∀ U' ψ', KeptM U ψ ns H (RM fns x e f pe vs frs a b m) U' ψ' → KeptM U ψ ns H (ARt fns rt a b) U' ψ' := fun U' ψ' hk v w hv hw => hk v w hv (fun i h9 => (hE i).mp (hw i h9))
  rw [eC] at hok hno
  generalize hRA : RM fns x e f pe vs frs a b m = RA at *
  have rA : RA a := by rw [← hRA]; exact Or.inl (Or.inr (Or.inr (Or.inl rfl)))
  have rB : RA b := by rw [← hRA]; exact Or.inl (Or.inr (Or.inr (Or.inr rfl)))
  have hH0 := hC.1.2.2.2.2.2.2
  -- a free cell is taken
  have alloc : ∀ (q k : Nat) (M1 : PM) (U1 : Nat → Bool), k + q = 2400 → CoreM M1 U1 ψ ns lim H nid x e f fns pe vs frs → KeptM U ψ ns H RA U1 ψ → cntB U1 2400 < lim → acnt H RA nid < lim → SameM [8, 9, 113, 114, 115, 116] M M1 → M1.1 0 16 = nI k → (∀ c, c < k → U1 c = true) → Ev (BM (d + 5) qX10_cons) Q 37 [some (.ref 0), some (.long va), none, some (.long vb), none, some (.long vm), none, none] [] M1 := by
    intro q
    induction q with
    | zero =>
      intro k M1 U1 hk hC1 hk1 hlt hac hs h16 hU
      have hb2 := hC1.1.2.2.2.2.1
      have := cntB_all 2400 (fun c hc => hU c (by omega))
      omega
    | succ q ih =>
      intro k M1 U1 hk hC1 hk1 hlt hac hs h16 hU
      obtain ⟨m1, m2, ⟨k0, m3⟩, m4, m5, m6, m7⟩ := hC1.1
      repeat (refine ev_s rfl (?_ : Ev _ _ _ _ _ _))
      rw [h16]
      refine ev_zald rfl rfl (vp_in_nI (show k < 2400 by omega) (by decide)) ?_
      rw [nI_clamp (by omega), m1 k (by omega)]
      cases hUk : U1 k with
      | true =>
        refine ev_ifF rfl (show ¬ (1 : Int32) = 0 by decide) ?_
        iterate 7 (refine ev_s rfl (?_ : Ev _ _ _ _ _ _))
        rw [h16, nI_1]
        have s1 : SameM [116] M1 (mI M1 0 16 (nI (k + 1))) := SameM.I0 (j := 16)
        refine ih (k + 1) _ U1 (by omega) (hC1.kept (RA := fun _ => True) KeptM.rf (fun _ _ => trivial) s1 (by decide) ?_ hC1.2.1) hk1 hlt hac (hs.t2 s1 (by decide)) mI_at ?_
        · refine ⟨fun c hc => by rw [mI_ne (Or.inl (by decide))]; exact m1 c hc, by rw [mI_ne (Or.inr (by decide))]; exact m2, ⟨k + 1, mI_at, by omega, fun c hc => ?_⟩, by rw [mI_ne (Or.inr (by decide))]; exact m4, m5, by rw [mI_ne (Or.inr (by decide))]; exact m6, m7⟩
          by_cases hck : c = k
          · rw [hck]; exact hUk
          · exact hU c (by omega)
        · intro c hc
          by_cases hck : c = k
          · rw [hck]; exact hUk
          · exact hU c (by omega)
      | false =>
        refine ev_ifT rfl (show (0 : Int32) = 0 from rfl) ?_
        repeat (refine ev_s rfl (?_ : Ev _ _ _ _ _ _))
        rw [h16]
        refine ev_zast rfl rfl (vp_in_nI (show k < 2400 by omega) (by decide)) ?_
        rw [nI_clamp (by omega), show vp_nar .boolean 1 = 1 by decide]
        repeat (refine ev_s rfl (?_ : Ev _ _ _ _ _ _))
        have e15 : (mI M1 8 k 1).1 0 15 = nI (cntB U1 2400) := by rw [mI_ne (Or.inl (by decide))]; exact m2
        rw [e15, nI_1]
        have e18 : (mI (mI M1 8 k 1) 0 15 (nI (cntB U1 2400 + 1))).1 0 18 = nI nid := by rw [mI_ne (Or.inr (by decide)), mI_ne (Or.inl (by decide))]; exact m6
        rw [e18, nI_1]
        refine ev_last rfl rfl (vp_in_nI (show k < 2400 by omega) (by decide)) ?_
        rw [nI_clamp (by omega)]
        repeat (refine ev_s rfl (?_ : Ev _ _ _ _ _ _))
        refine ev_last rfl rfl (vp_in_nI (show k < 2400 by omega) (by decide)) ?_
        rw [nI_clamp (by omega)]
        repeat (refine ev_s rfl (?_ : Ev _ _ _ _ _ _))
        rw [nI_l (by omega)]
        generalize hM2 : mJ (mJ (mI (mI (mI M1 8 k 1) 0 15 (nI (cntB U1 2400 + 1))) 0 18 (nI (nid + 1))) 6 k va) 7 k vb = M2
        have s2 : SameM [6, 7, 8, 115, 118] M1 M2 := by
          rw [← hM2]
          exact ((((SameM.Ik (by decide)).tr SameM.I0).tr SameM.I0).tr ((SameM.Jk (by decide)).tr (SameM.Jk (by decide)))).sub (by decide)
        have al : ∀ v w, RTv U1 ψ ns v w → RTv (upB U1 k) (upN ψ k nid) ns v w := fun v w hv => hv.alloc hUk
        have hk2 : KeptM U ψ ns H RA (upB U1 k) (upN ψ k nid) := fun v w hv hw => al _ _ (hk1 v w hv hw)
        have ra : RTv U1 ψ ns va a := hk1 _ _ ha (fun i h9 => AR.root (h9 ▸ rA))
        have rb : RTv U1 ψ ns vb b := hk1 _ _ hb (fun i h9 => AR.root (h9 ▸ rB))
        have hs2 : SameM [6, 7, 8, 9, 113, 114, 115, 116, 118] M M2 := hs.t2 s2 (by decide)
        have e6 : M2.2 6 = fun j => if j = k then va else M1.2 6 j := by
          funext j
          rw [← hM2, mJ_ne (Or.inl (by decide))]
          by_cases hj : j = k
          · rw [if_pos hj, hj, mJ_at]
          · rw [if_neg hj, mJ_ne (Or.inr hj)]; rfl
        have e7 : M2.2 7 = fun j => if j = k then vb else M1.2 7 j := by
          funext j
          rw [← hM2]
          by_cases hj : j = k
          · rw [if_pos hj, hj, mJ_at]
          · rw [if_neg hj, mJ_ne (Or.inr hj), mJ_ne (Or.inl (by decide))]; rfl
        have hmem : MemM M2 (upB U1 k) (upN ψ k nid) ns (ahUp H nid a b) (nid + 1) lim := by
          refine ⟨fun c hc => ?_, ?_, ⟨k, (s2.2 16 (by decide)).1.trans h16, by omega, fun c hc => upB_of (hU c hc)⟩, (s2.2 17 (by decide)).1.trans m4, m5, ?_, fun c hc hu => ?_, fun c c' hc hu hc' hu' e9 => ?_⟩
          · rw [← hM2, mJ_1, mJ_1, mI_ne (Or.inl (by decide)), mI_ne (Or.inl (by decide))]
            by_cases hck : c = k
            · rw [hck, mI_at, upB_self]; rfl
            · rw [mI_ne (Or.inr hck), upB_ne hck]; exact m1 c hc
          · rw [← hM2, mJ_1, mJ_1, mI_ne (Or.inr (by decide)), mI_at, cntB_upB 2400 (by omega) hUk]
          · rw [← hM2, mJ_1, mJ_1, mI_at]
          · rw [e6, e7]
            by_cases hck : c = k
            · subst hck
              rw [upN_self]
              dsimp only
              rw [if_pos rfl, if_pos rfl]
              unfold ahUp
              rw [if_pos rfl]
              exact ⟨by omega, al _ _ ra, al _ _ rb⟩
            · rw [upB_ne hck] at hu
              obtain ⟨g1, g2, g3⟩ := m7.1 c hc hu
              rw [upN_ne hck]
              dsimp only
              rw [if_neg hck, if_neg hck]
              unfold ahUp
              rw [if_neg (by omega)]
              exact ⟨by omega, al _ _ g2, al _ _ g3⟩
          · have ltn : ∀ c, c < 2400 → upB U1 k c = true → c ≠ k → ψ c < nid := fun c hc hu hck => by
              rw [upB_ne hck] at hu
              exact (m7.1 c hc hu).1
            by_cases h1 : c = k <;> by_cases h2 : c' = k
            · rw [h1, h2]
            · rw [h1, upN_self, upN_ne h2] at e9
              have := ltn c' hc' hu' h2
              omega
            · rw [upN_ne h1, h2, upN_self] at e9
              have := ltn c hc hu h1
              omega
            · rw [upN_ne h1, upN_ne h2] at e9
              rw [upB_ne h1] at hu
              rw [upB_ne h2] at hu'
              exact m7.2 c c' hc hu hc' hu' e9
        refine ev_retl rfl rfl (hok hac M2 (upB U1 k) (upN ψ k nid) (lN k) (hC1.kept (RA := fun _ => True) (fun v w hv _ => al v w hv) (fun _ _ => trivial) s2 (by decide) hmem (hC1.2.1.up (fun i h9 => RTv.lt m7 (h9 ▸ ra)) (fun i h9 => RTv.lt m7 (h9 ▸ rb)))) ⟨k, by omega, upB_self, upN_self, rfl⟩ (eK _ _ hk2) hs2)
  have at19 : ∀ (M1 : PM) (U1 : Nat → Bool), CoreM M1 U1 ψ ns lim H nid x e f fns pe vs frs → KeptM U ψ ns H RA U1 ψ → (cntB U1 2400 < lim → acnt H RA nid < lim) → (¬ cntB U1 2400 < lim → lim ≤ acnt H RA nid) → SameM [8, 9, 113, 114, 115, 116] M M1 → Ev (BM (d + 5) qX10_cons) Q 19 [some (.ref 0), some (.long va), none, some (.long vb), none, some (.long vm), none, none] [] M1 := by
    intro M1 U1 hC1 hk1 hy hn hs
    obtain ⟨m1, m2, ⟨k, m3, m3b, m3c⟩, m4, m5, m6, m7⟩ := hC1.1
    have hcl := cntB_le U1 2400
    repeat (refine ev_s rfl (?_ : Ev _ _ _ _ _ _))
    rw [m2, m4]
    refine ev_ic rfl (fun hc => ?_) (fun hc => ?_)
    · have hlt : cntB U1 2400 < lim := (nI_ltI (by omega) (by omega)).mp hc
      exact alloc (2400 - k) k M1 U1 (by omega) hC1 hk1 hlt (hy hlt) hs m3 m3c
    · have hge : ¬ cntB U1 2400 < lim := fun h9 => hc (nI_lt h9 (by omega))
      repeat (refine ev_s rfl (?_ : Ev _ _ _ _ _ _))
      refine ev_cv rfl (as := [.ref 0, .int 8]) rfl rfl (Nat.le_of_ble_eq_true rfl) ?_
      refine k_fails ?_
      show Ev _ _ _ _ [.ref 5] _
      refine ev_s rfl ?_
      have s1 : SameM [108] M1 (mI M1 0 8 8) := SameM.I0 (j := 8)
      exact hno (hn hge) _ U1 (hC1.same s1 (by decide)) mI_at (hs.t2 s1 (by decide))
  have hr0 : ∀ i, RA (aC i) → ∃ v, RTv U ψ ns v (aC i) := by
    intro i hi
    obtain ⟨h1, h2, h3, h4, h5, h6, h7, h8, h9, h10, h11⟩ := hC
    rw [← hRA] at hi
    simp only [RM, ARt, rts, List.mem_cons, List.mem_append] at hi
    rcases hi with (h9' | (h9' | h9' | h9' | (h9' | h9') | h9') | h9' | h9') | h9'
    · obtain ⟨k, k1, k2⟩ := List.getElem_of_mem h9'
      exact ⟨_, (h6.2.1 k _ (by rw [List.getElem?_eq_getElem k1, k2])).2.1⟩
    · exact ⟨_, h9' ▸ h3⟩
    · exact ⟨_, h9' ▸ h4⟩
    · exact ⟨_, h9' ▸ h5⟩
    · obtain ⟨k, k1, k2⟩ := List.getElem_of_mem h9'
      exact ⟨_, h7.2.2 k _ (by rw [List.getElem?_eq_getElem k1, k2])⟩
    · obtain ⟨k, k1, k2⟩ := List.getElem_of_mem h9'
      exact ⟨_, h8.2.2 k _ (by rw [List.getElem?_eq_getElem k1, k2])⟩
    · obtain ⟨F, f1, f2⟩ := mem_flatA.mp h9'
      obtain ⟨j, j1, j2⟩ := List.getElem_of_mem (List.mem_reverse.mpr f1)
      obtain ⟨a1, a2, a3, a4, a5, a6, a7, a8⟩ := h9.2.2 j F (by rw [List.getElem?_eq_getElem j1, j2])
      rcases f2 with f3 | f3 | f3 | f3
      · have : F.1 ≠ aS 3 := fun h0 => by rw [h0] at f3; cases f3
        exact ⟨_, f3 ▸ a5 this⟩
      · exact ⟨_, f3 ▸ a2⟩
      · exact ⟨_, f3 ▸ a3⟩
      · obtain ⟨k, k1, k2⟩ := List.getElem_of_mem f3
        exact ⟨_, a8 k _ (by rw [List.getElem?_eq_getElem k1, k2])⟩
    · exact ⟨_, h9' ▸ ha⟩
    · exact ⟨_, h9' ▸ hb⟩
    · exact ⟨_, h9' ▸ hm⟩
  have hcl := cntB_le U 2400
  have hl2 := hC.1.2.2.2.2.1
  repeat (refine ev_s rfl (?_ : Ev _ _ _ _ _ _))
  rw [hC.1.2.1, hC.1.2.2.2.1]
  refine ev_ic rfl (fun hc => ?_) (fun hc => ?_)
  · have hlt : cntB U 2400 < lim := (nI_ltI (by omega) (by omega)).mp hc
    exact at19 M U hC KeptM.rf (fun h9 => Nat.lt_of_le_of_lt (acnt_le hH0 hr0) h9) (fun h9 => (h9 hlt).elim) SameM.rf
  · repeat (refine ev_s rfl (?_ : Ev _ _ _ _ _ _))
    refine ev_cv rfl (as := [.ref 0, .long va, .long vb, .long vm]) rfl rfl (Nat.le_of_ble_eq_true rfl) ?_
    refine k_reach hC ha hb hm (fun M1 T g1 g2 g3 g4 => ?_)
    rw [hRA] at g2 g3
    show Ev _ _ _ _ [] _
    exact at19 M1 T g1 g2 (fun h9 => by rw [← g3]; exact h9) (fun h9 => by rw [← g3]; omega) g4
end KC2

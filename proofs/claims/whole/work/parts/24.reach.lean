/-! reach, collect, takeBack -/
/-- the cells that the values R reach -/
def RC (hd tl : Nat → Int64) (R : Int64 → Prop) (c : Nat) : Prop := ∀ S : Nat → Prop, (∀ v, R v → isC v → S (cix v)) → (∀ c, S c → (isC (hd c) → S (cix (hd c))) ∧ (isC (tl c) → S (cix (tl c)))) → S c
theorem RC.root {hd tl : Nat → Int64} {R : Int64 → Prop} {v : Int64} (h : R v) (hv : isC v) : RC hd tl R (cix v) := fun _ h1 _ => h1 v h hv
theorem RC.hd {hd tl : Nat → Int64} {R : Int64 → Prop} {c : Nat} (h : RC hd tl R c) (hv : isC (hd c)) : RC hd tl R (cix (hd c)) := fun S h1 h2 => (h2 c (h S h1 h2)).1 hv
theorem RC.tl {hd tl : Nat → Int64} {R : Int64 → Prop} {c : Nat} (h : RC hd tl R c) (hv : isC (tl c)) : RC hd tl R (cix (tl c)) := fun S h1 h2 => (h2 c (h S h1 h2)).2 hv
theorem RC.mono {hd tl : Nat → Int64} {R R' : Int64 → Prop} (hR : ∀ v, R v → R' v) {c : Nat} (h : RC hd tl R c) : RC hd tl R' c := fun S h1 h2 => h S (fun v hv => h1 v (hR v hv)) h2
theorem RC.lt {hd tl : Nat → Int64} {R : Int64 → Prop} {c : Nat} (h : RC hd tl R c) : c < 2000 := h (fun c => c < 2000) (fun _ _ hv => (isC_ix hv).1) (fun _ _ => ⟨fun hv => (isC_ix hv).1, fun hv => (isC_ix hv).1⟩)
def ReArr (M : PM) (X : Nat → Bool) : Prop := ∀ c, c < 2000 → M.1 21 c = if X c then 1 else 0
def ClosedX (hd tl : Nat → Int64) (X : Nat → Bool) : Prop := ∀ c, X c = true → (isC (hd c) → X (cix (hd c)) = true) ∧ (isC (tl c) → X (cix (tl c)) = true)
/-- while collecting: X has been reached, by the values R -/
def Col (M0 M : PM) (X : Nat → Bool) (R : Int64 → Prop) : Prop := ReArr M X ∧ ClosedX (M0.2 19) (M0.2 20) X ∧ (∀ v, R v → isC v → X (cix v) = true) ∧ (∀ c, X c = true → RC (M0.2 19) (M0.2 20) R c) ∧ Same [21, 23] M0 M
def Ahead (M : PM) (S : List Int64) : Prop := ∀ i v, S[i]? = some v → M.2 23 i = v
theorem cell_reach {d : Nat} {M0 M : PM} {X : Nat → Bool} {R : Int64 → Prop} {v0 : Int64} (hC : Col M0 M X R) {Q : Option (Option Value) → PM → Prop} (h : ∀ M' X', Col M0 M' X' (fun w => R w ∨ w = v0) → Q (some none) M') : SC (d + 1) 14 [.ref 17, .long v0] M Q := by
  refine ⟨qX1_reach, rfl, ⟨Nat.le_of_ble_eq_true rfl, rfl, 17, _, _, rfl, rfl⟩, ?_⟩
  show Ev (BC d qX1_reach) Q 0 [some (.ref 17), some (.long v0), none, none, none, none, none, none] [] M
  obtain ⟨c1, c2, c3, c4, c5⟩ := hC
  have loop : ∀ (n : Nat) (M1 : PM) (X1 : Nat → Bool) (S : List Int64) (t m : Nat) (z1 z2 z3 : Option Value), 4002 - t < n → ReArr M1 X1 → Ahead M1 S → S.length ≤ 2002 → Same [21, 23] M0 M1 → cntB X1 2000 = cntB X 2000 + m → t + S.length = 1 + 2 * m → m ≤ t →
      (∀ c, X1 c = true → (isC (M0.2 19 c) → X1 (cix (M0.2 19 c)) = true ∨ M0.2 19 c ∈ S) ∧ (isC (M0.2 20 c) → X1 (cix (M0.2 20 c)) = true ∨ M0.2 20 c ∈ S)) →
      (∀ c, X1 c = true → RC (M0.2 19) (M0.2 20) (fun w => R w ∨ w = v0) c) → (∀ v ∈ S, isC v → RC (M0.2 19) (M0.2 20) (fun w => R w ∨ w = v0) (cix v)) → (isC v0 → X1 (cix v0) = true ∨ v0 ∈ S) → (∀ c, X c = true → X1 c = true) →
      Ev (BC d qX1_reach) Q 12 [some (.ref 17), some (.long v0), none, some (.int (nI S.length)), some (.int (nI t)), z1, z2, z3] [] M1 := by
    intro n
    induction n with
    | zero => intro M1 X1 S t m z1 z2 z3 h9; omega
    | succ n ih =>
      intro M1 X1 S t m z1 z2 z3 hn r1 r2 r3 r4 r5 r6 r7 i1 i2 i3 i4 i5
      have hcnt := cntB_le X1 2000
      have e19 : M1.2 19 = M0.2 19 := (r4 19 (by decide)).2
      have e20 : M1.2 20 = M0.2 20 := (r4 20 (by decide)).2
      -- the end
      have fin : S = [] → Ev (BC d qX1_reach) Q 135 [some (.ref 17), some (.long v0), none, some (.int (nI S.length)), some (.int (nI t)), z1, z2, z3] [] M1 := fun hS => by
        subst hS
        refine ev_retv rfl rfl (h M1 X1 ⟨r1, fun c hc => ⟨fun h9 => ((i1 c hc).1 h9).elim id (fun h8 => by simp at h8), fun h9 => ((i1 c hc).2 h9).elim id (fun h8 => by simp at h8)⟩, fun w hw hwc => ?_, i2, r4⟩)
        rcases hw with hw | rfl
        · exact i5 _ (c3 w hw hwc)
        · exact (i4 hwc).elim id (fun h8 => by simp at h8)
      iterate 2 (refine ev_s rfl (?_ : Ev _ _ _ _ _ _))
      by_cases ht : t ≤ 4000
      · refine ev_icF rfl (fun h9 => ?_) ?_
        · have h8 : (4000 : Nat) < t := (nI_ltI (a := 4000) (by decide) (by omega)).mp h9
          omega
        refine ev_s rfl (?_ : Ev _ _ _ _ _ _)
        rcases List.eq_nil_or_concat S with rfl | ⟨S0, v, rfl⟩
        · refine ev_ifT rfl (show nI _ ≤ 0 from by decide) ?_
          exact fin rfl
        · simp only [List.concat_eq_append, List.length_append, List.length_cons, List.length_nil] at r3 r6 ⊢
          refine ev_ifF rfl (nI_nle (by omega) (by omega)) ?_
          have ev0 : M1.2 23 S0.length = v := r2 S0.length v (by simp)
          iterate 4 (refine ev_s rfl (?_ : Ev _ _ _ _ _ _))
          rw [show nI (S0.length + (0 + 1)) + -1 = nI S0.length from pk_m1 _]
          refine ev_lald rfl rfl (vp_in_nI (by omega) (by decide)) ?_
          rw [nI_clamp (by omega), ev0]
          have mem0 : ∀ w, w ∈ S0 ++ [v] → w ∈ S0 ∨ w = v := fun w hw => by simpa using hw
          -- the end of a turn without a new cell
          have skip : (isC v → X1 (cix v) = true) → ∀ y1 y2 y3, Ev (BC d qX1_reach) Q 129 [some (.ref 17), some (.long v0), none, some (.int (nI S0.length)), some (.int (nI t)), y1, y2, y3] [] M1 := fun hvx y1 y2 y3 => by
            iterate 2 (refine ev_s rfl (?_ : Ev _ _ _ _ _ _))
            rw [nI_1]
            refine ih M1 X1 S0 (t + 1) m y1 y2 y3 (by omega) r1 (fun i w hw => r2 i w (by rw [List.concat_eq_append, List.getElem?_append_left (List.getElem?_eq_some_iff.mp hw).1]; exact hw)) (by omega) r4 r5 (by omega) (by omega) (fun c hc => ⟨fun h9 => ?_, fun h9 => ?_⟩) i2 (fun w hw => i3 w (by simp [hw])) (fun h9 => ?_) i5
            · rcases (i1 c hc).1 h9 with h8 | h8
              · exact Or.inl h8
              · rcases mem0 _ (by simpa using h8) with h7 | h7
                · exact Or.inr h7
                · exact Or.inl (h7 ▸ hvx (h7 ▸ h9))
            · rcases (i1 c hc).2 h9 with h8 | h8
              · exact Or.inl h8
              · rcases mem0 _ (by simpa using h8) with h7 | h7
                · exact Or.inr h7
                · exact Or.inl (h7 ▸ hvx (h7 ▸ h9))
            · rcases i4 h9 with h8 | h8
              · exact Or.inl h8
              · rcases mem0 _ (by simpa using h8) with h7 | h7
                · exact Or.inr h7
                · exact Or.inl (h7 ▸ hvx (h7 ▸ h9))
          have notc : ¬ isC v → ∀ y1 y2 y3, Ev (BC d qX1_reach) Q 61 [some (.ref 17), some (.long v0), none, some (.int (nI S0.length)), some (.int (nI t)), y1, y2, y3] [] M1 := fun hnv y1 y2 y3 => by
            iterate 3 (refine ev_s rfl (?_ : Ev _ _ _ _ _ _))
            refine ev_ifT rfl (show (-1 : Int32) < 0 by decide) ?_
            exact skip (fun h9 => (hnv h9).elim) _ _ _
          iterate 6 (refine ev_s rfl (?_ : Ev _ _ _ _ _ _))
          refine ev_lif rfl (fun h9 => notc (fun h8 => Int64.not_lt.mpr (isC_nonneg h8).1 h9) _ _ _) (fun hv1 => ?_)
          iterate 3 (refine ev_s rfl (?_ : Ev _ _ _ _ _ _))
          refine ev_lif rfl (fun h9 => notc (fun h8 => Int64.not_lt.mpr h9 (isC_nonneg h8).2) _ _ _) (fun hv2 => ?_)
          have hv : isC v := isC_of (Int64.not_lt.mp hv1) (Int64.not_le.mp hv2)
          obtain ⟨g1, g2, -⟩ := isC_ix hv
          iterate 5 (refine ev_s rfl (?_ : Ev _ _ _ _ _ _))
          rw [g2, lN_i32]
          refine ev_ifF rfl (nI_pos (by omega)) ?_
          iterate 3 (refine ev_s rfl (?_ : Ev _ _ _ _ _ _))
          refine ev_zald rfl rfl (vp_in_nI g1 (by decide)) ?_
          rw [nI_clamp (by omega), r1 _ g1]
          by_cases hX : X1 (cix v) = true
          · rw [if_pos hX]
            refine ev_ifT rfl (show ¬ (1 : Int32) = 0 by decide) ?_
            exact skip (fun _ => hX) _ _ _
          · have hXf : X1 (cix v) = false := by simpa using hX
            rw [if_neg hX]
            refine ev_ifF rfl (show ¬ ¬ (0 : Int32) = 0 by decide) ?_
            have hm := cntB_lt g1 hXf
            iterate 5 (refine ev_s rfl (?_ : Ev _ _ _ _ _ _))
            refine ev_alen rfl rfl ?_
            rw [show (2 : Int32) = nI 2 from rfl, nI_add]
            refine ev_icF rfl (nI_nlt (show S0.length + 2 ≤ 2002 by omega) (by decide)) ?_
            iterate 4 (refine ev_s rfl (?_ : Ev _ _ _ _ _ _))
            refine ev_zast rfl rfl (vp_in_nI g1 (by decide)) ?_
            rw [nI_clamp (by omega), show vp_nar .boolean 1 = 1 from by decide]
            iterate 6 (refine ev_s rfl (?_ : Ev _ _ _ _ _ _))
            refine ev_lald rfl rfl (vp_in_nI g1 (by decide)) ?_
            rw [nI_clamp (by omega)]
            refine ev_last rfl rfl (vp_in_nI (show S0.length < 2002 by omega) (by decide)) ?_
            rw [nI_clamp (by omega)]
            iterate 8 (refine ev_s rfl (?_ : Ev _ _ _ _ _ _))
            refine ev_lald rfl rfl (vp_in_nI g1 (by decide)) ?_
            rw [nI_clamp (by omega), show (1 : Int32) = nI 1 from rfl, nI_add]
            refine ev_last rfl rfl (vp_in_nI (show S0.length + 1 < 2002 by omega) (by decide)) ?_
            rw [nI_clamp (by omega)]
            iterate 3 (refine ev_s rfl (?_ : Ev _ _ _ _ _ _))
            rw [show nI S0.length + 2 = nI (S0 ++ [M0.2 20 (cix v), M0.2 19 (cix v)]).length from by rw [show (2 : Int32) = nI 2 from rfl, nI_add]; simp, show nI t + 1 = nI (t + 1) from nI_1 t]
            refine ih _ (upB X1 (cix v)) (S0 ++ [M0.2 20 (cix v), M0.2 19 (cix v)]) (t + 1) (m + 1) _ _ _ (by omega) ?_ ?_ (by simp; omega) ?_ ?_ (by simp; omega) (by omega) ?_ ?_ ?_ ?_ ?_
            · intro k hk
              show (mI M1 21 (cix v) 1).1 21 k = _
              by_cases hkc : k = cix v
              · subst hkc; rw [mI_at, upB_self]; rfl
              · rw [mI_ne (Or.inr hkc), upB_ne hkc]; exact r1 k hk
            · intro i w hw
              have hlen := (List.getElem?_eq_some_iff.mp hw).1
              simp at hlen
              by_cases h1 : i = S0.length + 1
              · subst h1
                rw [mJ_at, mJ_ne (Or.inl (by decide)), mI_2, e19]
                simpa using hw
              · rw [mJ_ne (Or.inr h1)]
                by_cases h2 : i = S0.length
                · subst h2
                  rw [mJ_at, mI_2, e20]
                  simpa using hw
                · rw [mJ_ne (Or.inr h2), mI_2]
                  rw [List.getElem?_append_left (by omega)] at hw
                  exact r2 i w (by rw [List.concat_eq_append, List.getElem?_append_left (by omega)]; exact hw)
            · exact (r4.tr (Same.I.tr (Same.J.tr Same.J))).sub (fun k hk => by simp at hk ⊢; omega)
            · rw [cntB_upB 2000 g1 hXf, r5]; omega
            · intro c hc
              by_cases hcv : c = cix v
              · subst hcv
                exact ⟨fun _ => Or.inr (by simp), fun _ => Or.inr (by simp)⟩
              · rw [upB_ne hcv] at hc
                refine ⟨fun h9 => ?_, fun h9 => ?_⟩
                · rcases (i1 c hc).1 h9 with h8 | h8
                  · exact Or.inl (upB_of h8)
                  · rcases mem0 _ (by simpa using h8) with h7 | h7
                    · exact Or.inr (by simp [h7])
                    · exact Or.inl (by rw [h7]; exact upB_self)
                · rcases (i1 c hc).2 h9 with h8 | h8
                  · exact Or.inl (upB_of h8)
                  · rcases mem0 _ (by simpa using h8) with h7 | h7
                    · exact Or.inr (by simp [h7])
                    · exact Or.inl (by rw [h7]; exact upB_self)
            · intro c hc
              by_cases hcv : c = cix v
              · subst hcv; exact i3 v (by simp) hv
              · rw [upB_ne hcv] at hc; exact i2 c hc
            · intro w hw hwc
              have hvr := i3 v (by simp) hv
              have hw2 : w ∈ S0 ∨ w = M0.2 20 (cix v) ∨ w = M0.2 19 (cix v) := by simpa using hw
              rcases hw2 with h9 | rfl | rfl
              · exact i3 w (by simp [h9]) hwc
              · exact hvr.tl hwc
              · exact hvr.hd hwc
            · intro h9
              rcases i4 h9 with h8 | h8
              · exact Or.inl (upB_of h8)
              · rcases mem0 _ (by simpa using h8) with h7 | h7
                · exact Or.inr (by simp [h7])
                · exact Or.inl (by rw [h7]; exact upB_self)
            · exact fun c hc => upB_of (i5 c hc)
      · refine ev_icT rfl (show (4000 : Int32) < nI t from nI_lt (a := 4000) (by omega) (by omega)) ?_
        refine fin (List.eq_nil_of_length_eq_zero (by omega))
  iterate 4 (refine ev_s rfl (?_ : Ev _ _ _ _ _ _))
  refine ev_last rfl rfl (vp_in_nI (n := 0) (by decide) (by decide)) ?_
  iterate 4 (refine ev_s rfl (?_ : Ev _ _ _ _ _ _))
  refine loop 4003 (mJ M 23 0 v0) X [v0] 0 0 none none none (by omega) (fun c hc => c1 c hc) (fun i w hw => ?_) (by simp) ((c5.tr Same.J).sub (fun k hk => by simp at hk ⊢; omega)) (Nat.add_zero _).symm (by simp) (Nat.le_refl 0) (fun c hc => ⟨fun h9 => Or.inl ((c2 c hc).1 h9), fun h9 => Or.inl ((c2 c hc).2 h9)⟩) (fun c hc => (c4 c hc).mono (fun _ h9 => Or.inl h9)) (fun w hw hwc => ?_) (fun _ => Or.inr (by simp)) (fun _ h9 => h9)
  · have hi := (List.getElem?_eq_some_iff.mp hw).1
    simp at hi
    subst hi
    rw [mJ_at]
    simpa using hw
  · have : w = v0 := by simpa using hw
    subst this
    exact RC.root (Or.inr rfl) hwc

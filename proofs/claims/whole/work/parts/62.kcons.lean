/-! The reference's memory: cons. -/
def MemM (M : PM) (U : Nat → Bool) (ψ : Nat → Nat) (ns : Nat) (H : AHp) (nid lim : Nat) : Prop :=
  (∀ c, c < 2400 → M.1 8 c = if U c then 1 else 0) ∧ M.1 0 15 = nI (cntB U 2400) ∧ (∃ k, M.1 0 16 = nI k ∧ k ≤ 2400 ∧ ∀ c, c < k → U c = true) ∧ M.1 0 17 = nI lim ∧ lim ≤ 2000 ∧ M.1 0 18 = nI nid ∧ HeapM M U ψ ns H nid
def FnM (M : PM) (U : Nat → Bool) (ψ : Nat → Nat) (ns : Nat) (fns : List (Option AV)) : Prop :=
  fns.length = 300 ∧ (∀ k a, fns[k]? = some (some a) → M.1 3 k = 1 ∧ RTv U ψ ns (M.2 4 k) a ∧ k < ns) ∧ ∀ k : Nat, fns[k]? = some none → M.1 3 k = 0
def RowM (M : PM) (U : Nat → Bool) (ψ : Nat → Nat) (ns cf ar cap : Nat) (as : List AV) : Prop :=
  M.1 0 cf = nI as.length ∧ as.length ≤ cap ∧ ∀ i a, as[i]? = some a → RTv U ψ ns (M.2 ar i) a
def FrAt (M : PM) (U : Nat → Bool) (ψ : Nat → Nat) (ns k : Nat) (F : AF) : Prop :=
  M.1 15 k = (if F.1 = aS 3 then 1 else 0) ∧ RTv U ψ ns (M.2 16 k) F.2.1 ∧ RTv U ψ ns (M.2 17 k) F.2.2.1 ∧ (F.1 = aS 3 → M.2 18 k = -1) ∧ (F.1 ≠ aS 3 → RTv U ψ ns (M.2 18 k) F.1) ∧ M.1 20 k = nI F.2.2.2.length ∧ F.2.2.2.length ≤ 10 ∧ ∀ i a, F.2.2.2[i]? = some a → RTv U ψ ns (M.2 19 (10 * k + i)) a
def FrM (M : PM) (U : Nat → Bool) (ψ : Nat → Nat) (ns : Nat) (frs : List AF) : Prop :=
  M.1 0 41 = nI frs.length ∧ frs.length ≤ 200 ∧ ∀ k F, frs.reverse[k]? = some F → FrAt M U ψ ns k F
def CoreM (M : PM) (U : Nat → Bool) (ψ : Nat → Nat) (ns lim : Nat) (H : AHp) (nid : Nat) (x e f : AV) (fns : List (Option AV)) (pe vs : List AV) (frs : List AF) : Prop :=
  MemM M U ψ ns H nid lim ∧ Acy H nid ∧ RTv U ψ ns (M.2 0 29) x ∧ RTv U ψ ns (M.2 0 30) e ∧ RTv U ψ ns (M.2 0 31) f ∧ FnM M U ψ ns fns ∧ RowM M U ψ ns 25 11 2100 pe ∧ RowM M U ψ ns 34 14 10 vs ∧ FrM M U ψ ns frs ∧ M.1 0 5 = nI ns ∧ 23 ≤ ns ∧ ns ≤ 300
theorem mem_flatA {w : AV} : ∀ {frs : List AF}, w ∈ flatA frs ↔ ∃ F ∈ frs, w = F.1 ∨ w = F.2.1 ∨ w = F.2.2.1 ∨ w ∈ F.2.2.2
  | [] => by simp [flatA]
  | (fn, l, e, vs) :: r => by
    simp only [flatA, List.mem_append, List.mem_cons, mem_flatA (frs := r)]
    constructor
    · rintro (⟨F, h1, h2⟩ | h)
      · exact ⟨F, Or.inr h1, h2⟩
      · exact ⟨_, Or.inl rfl, h⟩
    · rintro ⟨F, rfl | h1, h2⟩
      · exact Or.inr h2
      · exact Or.inl ⟨F, h1, h2⟩
/-- what is kept when the cells in use change -/
def KeptM (U : Nat → Bool) (ψ : Nat → Nat) (ns : Nat) (H : AHp) (RA : AV → Prop) (U' : Nat → Bool) (ψ' : Nat → Nat) : Prop := ∀ v w, RTv U ψ ns v w → (∀ i, w = aC i → AR H RA i) → RTv U' ψ' ns v w
abbrev RM (fns : List (Option AV)) (x e f : AV) (pe vs : List AV) (frs : List AF) (a b m : AV) : AV → Prop := fun v => ARt fns (rts x e f pe vs (flatA frs)) a b v ∨ v = m
section KC
variable {M : PM} {U : Nat → Bool} {ψ : Nat → Nat} {ns lim : Nat} {H : AHp} {nid : Nat} {x e f : AV} {fns : List (Option AV)} {pe vs : List AV} {frs : List AF} {RA : AV → Prop}
theorem FnM.kept {M' : PM} {U' : Nat → Bool} {ψ' : Nat → Nat} {ids : List Nat} (h : FnM M U ψ ns fns) (hk : KeptM U ψ ns H RA U' ψ') (hin : ∀ v, some v ∈ fns → RA v) (hs : SameM ids M M') (h3 : 3 ∉ ids) (h4 : 4 ∉ ids) : FnM M' U' ψ' ns fns := by
  have e3 := (hs.1 3 (by decide) h3).1
  have e4 := (hs.1 4 (by decide) h4).2
  refine ⟨h.1, fun k a hka => ?_, fun k hk0 => by rw [e3]; exact h.2.2 k hk0⟩
  rw [e3, e4]
  obtain ⟨a1, a2, a3⟩ := h.2.1 k a hka
  exact ⟨a1, hk _ _ a2 (fun i h9 => AR.root (h9 ▸ hin a (List.mem_of_getElem? hka))), a3⟩
theorem RowM.kept {M' : PM} {U' : Nat → Bool} {ψ' : Nat → Nat} {ids : List Nat} {cf ar cap : Nat} {as : List AV} (h : RowM M U ψ ns cf ar cap as) (hk : KeptM U ψ ns H RA U' ψ') (hin : ∀ v ∈ as, RA v) (hs : SameM ids M M') (h0 : ar ≠ 0) (h3 : ar ∉ ids) (h4 : 100 + cf ∉ ids) : RowM M' U' ψ' ns cf ar cap as := by
  have e3 := (hs.1 ar h0 h3).2
  have e4 := (hs.2 cf h4).1
  refine ⟨e4.trans h.1, h.2.1, fun i a hi => ?_⟩
  rw [e3]
  exact hk _ _ (h.2.2 i a hi) (fun j h9 => AR.root (h9 ▸ hin a (List.mem_of_getElem? hi)))
theorem FrM.kept {M' : PM} {U' : Nat → Bool} {ψ' : Nat → Nat} {ids : List Nat} (h : FrM M U ψ ns frs) (hk : KeptM U ψ ns H RA U' ψ') (hin : ∀ v ∈ flatA frs, RA v) (hs : SameM ids M M') (hd : ∀ k ∈ [15, 16, 17, 18, 19, 20, 141], k ∉ ids) : FrM M' U' ψ' ns frs := by
  refine ⟨(hs.2 41 (hd 141 (by decide))).1.trans h.1, h.2.1, fun k F hF => ?_⟩
  obtain ⟨a1, a2, a3, a4, a5, a6, a7, a8⟩ := h.2.2 k F hF
  have hm : F ∈ frs := List.mem_reverse.mp (List.mem_of_getElem? hF)
  have e15 := (hs.1 15 (by decide) (hd 15 (by decide))).1
  have e16 := (hs.1 16 (by decide) (hd 16 (by decide))).2
  have e17 := (hs.1 17 (by decide) (hd 17 (by decide))).2
  have e18 := (hs.1 18 (by decide) (hd 18 (by decide))).2
  have e19 := (hs.1 19 (by decide) (hd 19 (by decide))).2
  have e20 := (hs.1 20 (by decide) (hd 20 (by decide))).1
  have g : ∀ w, (w = F.1 ∨ w = F.2.1 ∨ w = F.2.2.1 ∨ w ∈ F.2.2.2) → ∀ i, w = aC i → AR H RA i := fun w hw i h9 => AR.root (h9 ▸ hin w (mem_flatA.mpr ⟨F, hm, hw⟩))
  refine ⟨by rw [e15]; exact a1, ?_, ?_, fun h9 => by rw [e18]; exact a4 h9, fun h9 => ?_, by rw [e20]; exact a6, a7, fun i a hi => ?_⟩
  · rw [e16]; exact hk _ _ a2 (g _ (Or.inr (Or.inl rfl)))
  · rw [e17]; exact hk _ _ a3 (g _ (Or.inr (Or.inr (Or.inl rfl))))
  · rw [e18]; exact hk _ _ (a5 h9) (g _ (Or.inl rfl))
  · rw [e19]; exact hk _ _ (a8 i a hi) (g _ (Or.inr (Or.inr (Or.inr (List.mem_of_getElem? hi)))))
theorem CoreM.kept {M' : PM} {U' : Nat → Bool} {ψ' : Nat → Nat} {ids : List Nat} {H' : AHp} {nid' : Nat} (hC : CoreM M U ψ ns lim H nid x e f fns pe vs frs) (hk : KeptM U ψ ns H RA U' ψ') (hin : ∀ v, (some v ∈ fns ∨ v ∈ rts x e f pe vs (flatA frs)) → RA v) (hs : SameM ids M M') (hd : ∀ k ∈ [3, 4, 11, 14, 15, 16, 17, 18, 19, 20, 105, 125, 129, 130, 131, 134, 141], k ∉ ids) (hm : MemM M' U' ψ' ns H' nid' lim) (hac : Acy H' nid') : CoreM M' U' ψ' ns lim H' nid' x e f fns pe vs frs := by
  obtain ⟨h1, h2, h3, h4, h5, h6, h7, h8, h9, h10, h11⟩ := hC
  have g : ∀ w, w ∈ rts x e f pe vs (flatA frs) → ∀ i, w = aC i → AR H RA i := fun w hw i h9 => AR.root (h9 ▸ hin w (Or.inr hw))
  refine ⟨hm, hac, ?_, ?_, ?_, h6.kept hk (fun v hv => hin v (Or.inl hv)) hs (hd 3 (by decide)) (hd 4 (by decide)), h7.kept hk (fun v hv => hin v (Or.inr (by simp [hv]))) hs (by decide) (hd 11 (by decide)) (hd 125 (by decide)), h8.kept hk (fun v hv => hin v (Or.inr (by simp [hv]))) hs (by decide) (hd 14 (by decide)) (hd 134 (by decide)), h9.kept hk (fun v hv => hin v (Or.inr (by simp [hv]))) hs (fun k hk => hd k (by simp at hk ⊢; omega)), (hs.2 5 (hd 105 (by decide))).1.trans h10, h11⟩
  · rw [(hs.2 29 (hd 129 (by decide))).2]; exact hk _ _ h3 (g _ (by simp))
  · rw [(hs.2 30 (hd 130 (by decide))).2]; exact hk _ _ h4 (g _ (by simp))
  · rw [(hs.2 31 (hd 131 (by decide))).2]; exact hk _ _ h5 (g _ (by simp))
theorem KeptM.rf : KeptM U ψ ns H RA U ψ := fun _ _ h _ => h
theorem MemM.same {M' : PM} {ids : List Nat} (h : MemM M U ψ ns H nid lim) (hs : SameM ids M M') (hd : ∀ k ∈ [6, 7, 8, 115, 116, 117, 118], k ∉ ids) : MemM M' U ψ ns H nid lim := by
  obtain ⟨h1, h2, h3, h4, h5, h6, h7⟩ := h
  have e8 := (hs.1 8 (by decide) (hd 8 (by decide))).1
  refine ⟨fun c hc => by rw [e8]; exact h1 c hc, (hs.2 15 (hd 115 (by decide))).1.trans h2, ?_, (hs.2 17 (hd 117 (by decide))).1.trans h4, h5, (hs.2 18 (hd 118 (by decide))).1.trans h6, ?_⟩
  · rw [(hs.2 16 (hd 116 (by decide))).1]; exact h3
  · unfold HeapM
    rw [(hs.1 6 (by decide) (hd 6 (by decide))).2, (hs.1 7 (by decide) (hd 7 (by decide))).2]
    exact h7
abbrev cmIds : List Nat := [3, 4, 6, 7, 8, 11, 14, 15, 16, 17, 18, 19, 20, 105, 115, 116, 117, 118, 125, 129, 130, 131, 134, 141]
theorem CoreM.same {M' : PM} {ids : List Nat} (hC : CoreM M U ψ ns lim H nid x e f fns pe vs frs) (hs : SameM ids M M') (hd : ∀ k ∈ cmIds, k ∉ ids) : CoreM M' U ψ ns lim H nid x e f fns pe vs frs :=
  hC.kept (RA := fun _ => True) KeptM.rf (fun _ _ => trivial) hs (fun k hk => hd k (by simp at hk ⊢; omega)) (hC.1.same hs (fun k hk => hd k (by simp at hk ⊢; omega))) hC.2.1
theorem cntB_no : ∀ n, cntB (fun _ => false) n = 0
  | 0 => rfl
  | n + 1 => by rw [cntB_succ, cntB_no n]; rfl
theorem cntB_all {g : Nat → Bool} : ∀ n, (∀ c, c < n → g c = true) → cntB g n = n
  | 0, _ => rfl
  | n + 1, h => by rw [cntB_succ, cntB_all n (fun c hc => h c (by omega)), h n (by omega)]; rfl
theorem cntB_sub {g g' : Nat → Bool} : ∀ n, (∀ c, c < n → g c = true → g' c = true) → cntB g n ≤ cntB g' n
  | 0, _ => Nat.le_refl _
  | n + 1, h => by
    have := cntB_sub (g := g) (g' := g') n (fun c hc => h c (by omega))
    rw [cntB_succ, cntB_succ]
    cases hg : g n with
    | false => simp; omega
    | true => rw [h n (by omega) hg]; omega
/-- every reached cell is in use -/
theorem AR.has (hH : HeapM M U ψ ns H nid) (hr : ∀ i, RA (aC i) → ∃ v, RTv U ψ ns v (aC i)) {i : Nat} (hi : AR H RA i) : ∃ c, c < 2400 ∧ U c = true ∧ ψ c = i := by
  refine hi (fun i => ∃ c, c < 2400 ∧ U c = true ∧ ψ c = i) (fun i h9 => ?_) (fun i h9 => ?_)
  · obtain ⟨v, c, c1, c2, c3, c4⟩ := hr i h9
    exact ⟨c, c1, c2, c3⟩
  · obtain ⟨c, c1, c2, rfl⟩ := h9
    obtain ⟨g1, g2, g3⟩ := hH.1 c c1 c2
    refine ⟨fun j hj => ?_, fun j hj => ?_⟩
    · rw [hj] at g2
      obtain ⟨c', k1, k2, k3, k4⟩ := g2
      exact ⟨c', k1, k2, k3⟩
    · rw [hj] at g3
      obtain ⟨c', k1, k2, k3, k4⟩ := g3
      exact ⟨c', k1, k2, k3⟩
theorem acnt_le (hH : HeapM M U ψ ns H nid) (hr : ∀ i, RA (aC i) → ∃ v, RTv U ψ ns v (aC i)) : acnt H RA nid ≤ cntB U 2400 := by
  have e : cntB (fun c => U c && @decide (AR H RA (ψ c)) (Classical.propDecidable _)) 2400 = acnt H RA nid := by
    refine cntB_inj ψ (fun c hc h9 => ?_) (fun c c' hc h9 hc' h9' => ?_) (fun i hi h9 => ?_)
    · rw [Bool.and_eq_true] at h9
      exact ⟨(hH.1 c hc h9.1).1, h9.2⟩
    · rw [Bool.and_eq_true] at h9 h9'
      exact hH.2 c c' hc h9.1 hc' h9'.1
    · have hA : AR H RA i := @of_decide_eq_true _ (Classical.propDecidable _) h9
      obtain ⟨c, c1, c2, c3⟩ := hA.has hH hr
      refine ⟨c, c1, ?_, c3⟩
      rw [Bool.and_eq_true, c3]
      exact ⟨c2, h9⟩
  rw [← e]
  exact cntB_sub 2400 (fun c _ h9 => by rw [Bool.and_eq_true] at h9; exact h9.1)
/-- at the end of the marks -/
theorem mark_end {M1 : PM} {T : Nat → Bool} (hH : HeapM M U ψ ns H nid) (hM : Mk M U ψ H RA T [] [] M1) (hr : ∀ i, RA (aC i) → ∃ v, RTv U ψ ns v (aC i) ∧ Seen T v) : KeptM U ψ ns H RA T ψ ∧ cntB T 2400 = acnt H RA nid ∧ HeapM M T ψ ns H nid := by
  obtain ⟨m1, m2, m3, m4, m5, m6, m7, m8, m9⟩ := hM
  have all : ∀ i, AR H RA i → ∃ c, c < 2400 ∧ T c = true ∧ ψ c = i := fun i hi => by
    refine hi (fun i => ∃ c, c < 2400 ∧ T c = true ∧ ψ c = i) (fun i h9 => ?_) (fun i h9 => ?_)
    · obtain ⟨v, ⟨c, c1, c2, c3, c4⟩, hs⟩ := hr i h9
      exact ⟨c, c1, hs c c1 c4, c3⟩
    · obtain ⟨c, c1, c2, rfl⟩ := h9
      obtain ⟨g1, g2, g3⟩ := hH.1 c c1 (m7 c c2).2.1
      obtain ⟨s1, s2⟩ := m8 c c2 (by simp) (by simp)
      refine ⟨fun j hj => ?_, fun j hj => ?_⟩
      · rw [hj] at g2
        obtain ⟨c', k1, k2, k3, k4⟩ := g2
        exact ⟨c', k1, s1 c' k1 k4, k3⟩
      · rw [hj] at g3
        obtain ⟨c', k1, k2, k3, k4⟩ := g3
        exact ⟨c', k1, s2 c' k1 k4, k3⟩
  have kp : KeptM U ψ ns H RA T ψ := fun v w hv hw => by
    match w, hv, hw with
    | .inl k, hv, _ => exact hv
    | .inr (.inl n), hv, _ => exact hv
    | .inr (.inr i), hv, hw =>
      obtain ⟨c, c1, c2, c3, c4⟩ := hv
      obtain ⟨c', k1, k2, k3⟩ := all i (hw i rfl)
      have : c = c' := hH.2 c c' c1 c2 k1 (m7 c' k2).2.1 (c3.trans k3.symm)
      subst this
      exact ⟨c, c1, k2, c3, c4⟩
  refine ⟨kp, ?_, fun c hc ht => ?_, fun c c' hc ht hc' ht' => hH.2 c c' hc (m7 c ht).2.1 hc' (m7 c' ht').2.1⟩
  · refine cntB_inj ψ (fun c hc h9 => ?_) (fun c c' hc h9 hc' h9' => ?_) (fun i hi h9 => ?_)
    · exact ⟨(hH.1 c hc (m7 c h9).2.1).1, @decide_eq_true _ (Classical.propDecidable _) (m7 c h9).2.2⟩
    · exact hH.2 c c' hc (m7 c h9).2.1 hc' (m7 c' h9').2.1
    · obtain ⟨c, c1, c2, c3⟩ := all i (@of_decide_eq_true _ (Classical.propDecidable _) h9)
      exact ⟨c, c1, c2, c3⟩
  · obtain ⟨g1, g2, g3⟩ := hH.1 c hc (m7 c ht).2.1
    have hA := (m7 c ht).2.2
    exact ⟨g1, kp _ _ g2 (fun i h9 => hA.hd h9), kp _ _ g3 (fun i h9 => hA.tl h9)⟩
theorem k_reachF {d : Nat} (hC : CoreM M U ψ ns lim H nid x e f fns pe vs frs) (hin : ∀ v, some v ∈ fns → RA v) {Q : Option (Option Value) → PM → Prop}
    (h : ∀ M' T, Mk M U ψ H RA T [] [] M' → (∀ k a, fns[k]? = some (some a) → Seen T (M.2 4 k)) → Q (some none) M') : SM (d + 4) 119 [.ref 0] M Q := by
  refine ⟨qX10_reachFunctions, rfl, ⟨Nat.le_of_ble_eq_true rfl, rfl, 0, _, _, rfl, rfl⟩, ?_⟩
  show Ev (BM (d + 3) qX10_reachFunctions) Q 0 [some (.ref 0), none] [] M
  obtain ⟨h1, h2, h3, h4, h5, h6, h7, h8, h9, h10, h11⟩ := hC
  have hH := h1.2.2.2.2.2.2
  -- the functions
  have loop2 : ∀ (m k : Nat) (M1 : PM) (T : Nat → Bool) (W : List Nat), k + m = ns → Mk M U ψ H RA T W [] M1 → (∀ j a, j < k → fns[j]? = some (some a) → Seen T (M.2 4 j)) → Ev (BM (d + 3) qX10_reachFunctions) Q 34 [some (.ref 0), some (.int (nI k))] [] M1 := by
    intro m
    induction m with
    | zero =>
      intro k M1 T W hk hM hS
      have e5 := (hM.2.2.2.2.2.2.2.2.2 5 (by decide)).1
      repeat (refine ev_s rfl (?_ : Ev _ _ _ _ _ _))
      rw [e5, h10]
      refine ev_icT rfl (show nI ns ≤ nI k from nI_le (by omega) (by omega)) ?_
      repeat (refine ev_s rfl (?_ : Ev _ _ _ _ _ _))
      refine ev_cv rfl (as := [.ref 0]) rfl rfl (Nat.le_of_ble_eq_true rfl) ?_
      refine k_walks hH hM (fun M2 T2 g1 g2 => ?_)
      show Ev _ _ _ _ [] _
      refine ev_retv rfl rfl (h M2 T2 g1 (fun j a hj => ?_))
      exact (hS j a (by have := (h6.2.1 j a hj).2.2; omega) hj).mono g2
    | succ m ih =>
      intro k M1 T W hk hM hS
      have hs := hM.2.2.2.2.2.2.2.2
      have e5 := (hs.2 5 (by decide)).1
      have e3 := (hs.1 3 (by decide) (by decide)).1
      have e4 := (hs.1 4 (by decide) (by decide)).2
      have hkl : k < fns.length := by rw [h6.1]; omega
      repeat (refine ev_s rfl (?_ : Ev _ _ _ _ _ _))
      rw [e5, h10]
      refine ev_icF rfl (show ¬ nI ns ≤ nI k from fun h9 => by have := (nI_leI (by omega) (by omega)).mp h9; omega) ?_
      repeat (refine ev_s rfl (?_ : Ev _ _ _ _ _ _))
      refine ev_zald rfl rfl (vp_in_nI (show k < 300 by omega) (by decide)) ?_
      rw [nI_clamp (by omega), e3]
      have next : ∀ (M2 : PM) (T2 : Nat → Bool) (W2 : List Nat), Mk M U ψ H RA T2 W2 [] M2 → (∀ c, T c = true → T2 c = true) → (∀ a, fns[k]? = some (some a) → Seen T2 (M.2 4 k)) → Ev (BM (d + 3) qX10_reachFunctions) Q 61 [some (.ref 0), some (.int (nI k))] [] M2 := fun M2 T2 W2 g1 g2 g3 => by
        iterate 2 (refine ev_s rfl (?_ : Ev _ _ _ _ _ _))
        rw [nI_1]
        refine ih (k + 1) M2 T2 W2 (by omega) g1 (fun j a hj hja => ?_)
        by_cases hjk : j = k
        · subst hjk
          exact g3 a hja
        · exact (hS j a (by omega) hja).mono g2
      cases hf : fns[k] with
      | none =>
        have ek : fns[k]? = some none := by rw [List.getElem?_eq_getElem hkl, hf]
        rw [h6.2.2 k ek]
        refine ev_ifT rfl (show (0 : Int32) = 0 from rfl) ?_
        exact next M1 T W hM (fun _ h9 => h9) (fun a h9 => by rw [ek] at h9; cases h9)
      | some a =>
        have ek : fns[k]? = some (some a) := by rw [List.getElem?_eq_getElem hkl, hf]
        obtain ⟨a1, a2, a3⟩ := h6.2.1 k a ek
        rw [a1]
        refine ev_ifF rfl (show ¬ (1 : Int32) = 0 by decide) ?_
        repeat (refine ev_s rfl (?_ : Ev _ _ _ _ _ _))
        refine ev_lald rfl rfl (vp_in_nI (show k < 300 by omega) (by decide)) ?_
        rw [nI_clamp (by omega), e4]
        refine ev_cv rfl (as := [.ref 0, .long (M.2 4 k)]) rfl rfl (Nat.le_of_ble_eq_true rfl) ?_
        refine k_visit hM a2 (fun i h9 => AR.root (h9 ▸ hin a (List.mem_of_getElem? ek))) (fun M2 T2 W2 g1 g2 g3 g4 => ?_)
        show Ev _ _ _ _ [] _
        exact next M2 T2 W2 g1 g2 (fun _ _ => g3)
  have loop1 : ∀ (m k : Nat) (M1 : PM), k + m = 2400 → (∀ c, c < k → M1.1 8 c = 0) → SameM [8] M M1 → Ev (BM (d + 3) qX10_reachFunctions) Q 2 [some (.ref 0), some (.int (nI k))] [] M1 := by
    intro m
    induction m with
    | zero =>
      intro k M1 hk h0 hs
      repeat (refine ev_s rfl (?_ : Ev _ _ _ _ _ _))
      refine ev_icT rfl (show (2400 : Int32) ≤ nI k from nI_le (a := 2400) (by omega) (by omega)) ?_
      iterate 8 (refine ev_s rfl (?_ : Ev _ _ _ _ _ _))
      refine loop2 ns 0 _ (fun _ => false) [] (by omega) ⟨fun c hc => ?_, ?_, ?_, fun i c hi => by simp at hi, by simp, fun c hc => by simp at hc, fun c hc => by simp at hc, fun c hc => by simp at hc, ?_⟩ (fun j a hj => by omega)
      · rw [mI_ne (Or.inl (by decide)), mI_ne (Or.inl (by decide))]
        exact h0 c (by omega)
      · rw [mI_ne (Or.inr (by decide)), mI_at, cntB_no]; rfl
      · rw [mI_at]; rfl
      · exact ((hs.tr SameM.I0).tr SameM.I0).sub (by decide)
    | succ m ih =>
      intro k M1 hk h0 hs
      repeat (refine ev_s rfl (?_ : Ev _ _ _ _ _ _))
      refine ev_icF rfl (show ¬ (2400 : Int32) ≤ nI k from fun h9 => by have := (nI_leI (a := 2400) (by decide) (by omega)).mp h9; omega) ?_
      repeat (refine ev_s rfl (?_ : Ev _ _ _ _ _ _))
      refine ev_zast rfl rfl (vp_in_nI (show k < 2400 by omega) (by decide)) ?_
      rw [nI_clamp (by omega), show vp_nar .boolean 0 = 0 by decide]
      iterate 2 (refine ev_s rfl (?_ : Ev _ _ _ _ _ _))
      rw [nI_1]
      refine ih (k + 1) _ (by omega) (fun c hc => ?_) ((hs.tr (SameM.Ik (by decide))).sub (by decide))
      by_cases hck : c = k
      · rw [hck, mI_at]
      · rw [mI_ne (Or.inr hck)]
        exact h0 c (by omega)
  iterate 2 (refine ev_s rfl (?_ : Ev _ _ _ _ _ _))
  exact loop1 2400 0 M (by omega) (fun c hc => by omega) SameM.rf
end KC

/-! takeBack, collect, make -/
/-- the free cells, the last one next -/
def FreeIs (M : PM) (fr : List Nat) : Prop := M.1 17 7 = nI fr.length ∧ fr.Nodup ∧ (∀ c ∈ fr, c < 2000) ∧ ∀ i c, fr[i]? = some c → M.1 22 i = nI c
theorem FreeIs.len {M : PM} {fr : List Nat} (h : FreeIs M fr) : fr.length ≤ 2000 := by
  have := cntB_free fr (fun _ => false) h.2.1 (fun c hc => ⟨h.2.2.1 c hc, rfl⟩)
  omega
def Keep17 (M M' : PM) : Prop := M'.1 17 8 = M.1 17 8 ∧ M'.1 17 9 = M.1 17 9
theorem cell_takeBack {d : Nat} {M : PM} {X : Nat → Bool} (hX : ReArr M X) {Q : Option (Option Value) → PM → Prop}
    (h : ∀ M' fr, FreeIs M' fr → (∀ c, c ∈ fr ↔ c < 2000 ∧ X c = false) → fr.length + cntB X 2000 = 2000 → ReArr M' (fun _ => false) → Same [17, 21, 22] M M' → Keep17 M M' → Q (some none) M') : SC (d + 1) 15 [.ref 17] M Q := by
  refine ⟨qX1_takeBack, rfl, ⟨Nat.le_of_ble_eq_true rfl, rfl, 17, _, _, rfl, rfl⟩, ?_⟩
  show Ev (BC d qX1_takeBack) Q 0 [some (.ref 17), none] [] M
  have loop : ∀ (i : Nat) (M1 : PM) (fr : List Nat), i ≤ 2000 → FreeIs M1 fr → (∀ c, c ∈ fr ↔ i ≤ c ∧ c < 2000 ∧ X c = false) → fr.length + cntB X 2000 = 2000 - i + cntB X i → (∀ c, c < 2000 → M1.1 21 c = if c < i ∧ X c = true then 1 else 0) → Same [17, 21, 22] M M1 → Keep17 M M1 →
      Ev (BC d qX1_takeBack) Q 9 [some (.ref 17), some (.int (nI i - 1))] [] M1 := by
    intro i
    induction i with
    | zero =>
      intro M1 fr hi f1 f2 f3 f4 f5 f6
      refine ev_s rfl (?_ : Ev _ _ _ _ _ _)
      refine ev_ifT rfl (show nI 0 - 1 < 0 by decide) ?_
      refine ev_retv rfl rfl (h M1 fr f1 (fun c => by rw [f2 c]; simp) (by have e0 : cntB X 0 = 0 := rfl; rw [e0] at f3; omega) (fun c hc => by rw [f4 c hc]; simp) f5 f6)
    | succ i ih =>
      intro M1 fr hi f1 f2 f3 f4 f5 f6
      rw [nI_pred]
      refine ev_s rfl (?_ : Ev _ _ _ _ _ _)
      refine ev_ifF rfl (nI_pos (by omega)) ?_
      iterate 3 (refine ev_s rfl (?_ : Ev _ _ _ _ _ _))
      refine ev_zald rfl rfl (vp_in_nI (show i < 2000 by omega) (by decide)) ?_
      rw [nI_clamp (by omega), f4 i (by omega)]
      have hcs : cntB X (i + 1) = cntB X i + (if X i then 1 else 0) := rfl
      -- the end of a turn
      have tail : ∀ (M2 : PM) (fr2 : List Nat), FreeIs M2 fr2 → (∀ c, c ∈ fr2 ↔ i ≤ c ∧ c < 2000 ∧ X c = false) → fr2.length + cntB X 2000 = 2000 - i + cntB X i → (∀ c, M2.1 21 c = M1.1 21 c) → Same [17, 21, 22] M M2 → Keep17 M M2 → Ev (BC d qX1_takeBack) Q 42 [some (.ref 17), some (.int (nI i))] [] M2 := by
        intro M2 fr2 k1 k2 k3 k4 k5 k6
        iterate 4 (refine ev_s rfl (?_ : Ev _ _ _ _ _ _))
        refine ev_zast rfl rfl (vp_in_nI (show i < 2000 by omega) (by decide)) ?_
        rw [nI_clamp (by omega), show vp_nar .boolean 0 = 0 from by decide]
        iterate 2 (refine ev_s rfl (?_ : Ev _ _ _ _ _ _))
        rw [← Int32.sub_eq_add_neg]
        refine ih (mI M2 21 i 0) fr2 (by omega) ⟨by rw [mI_ne (Or.inl (by decide))]; exact k1.1, k1.2.1, k1.2.2.1, fun j c hj => by rw [mI_ne (Or.inl (by decide))]; exact k1.2.2.2 j c hj⟩ k2 k3 (fun c hc => ?_) ((k5.tr Same.I).sub (fun k hk => by simp at hk ⊢; omega)) ⟨by rw [mI_ne (Or.inl (by decide))]; exact k6.1, by rw [mI_ne (Or.inl (by decide))]; exact k6.2⟩
        by_cases hci : c = i
        · subst hci; rw [mI_at]; simp
        · rw [mI_ne (Or.inr hci), k4 c, f4 c hc]
          by_cases h1 : c < i
          · simp [h1, show c < i + 1 by omega]
          · simp [h1, show ¬ c < i + 1 by omega]
      by_cases hXi : X i = true
      · rw [if_pos ⟨by omega, hXi⟩]
        refine ev_ifT rfl (show ¬ (1 : Int32) = 0 by decide) ?_
        rw [hcs, if_pos hXi] at f3
        exact tail M1 fr f1 (fun c => by
          rw [f2 c]
          constructor
          · rintro ⟨a1, a2⟩; exact ⟨by omega, a2⟩
          · rintro ⟨a1, a2, a3⟩
            refine ⟨?_, a2, a3⟩
            by_cases hci : c = i
            · subst hci; rw [hXi] at a3; cases a3
            · omega) (by omega) (fun _ => rfl) f5 f6
      · have hXf : X i = false := by simpa using hXi
        rw [if_neg (fun h9 => hXi h9.2)]
        refine ev_ifF rfl (show ¬ ¬ (0 : Int32) = 0 by decide) ?_
        have hlen := f1.len
        rw [hcs, if_neg hXi] at f3
        have hc9 := cntB_le X i
        have hni : i ∉ fr := fun h9 => by have := (f2 i).mp h9; omega
        have hlt : fr.length < 2000 := by
          have := cntB_free (i :: fr) (fun _ => false) (List.nodup_cons.mpr ⟨hni, f1.2.1⟩) (fun c hc => ⟨(List.mem_cons.mp hc).elim (fun e => by omega) (f1.2.2.1 c), rfl⟩)
          simp only [List.length_cons] at this; omega
        iterate 4 (refine ev_s rfl (?_ : Ev _ _ _ _ _ _))
        rw [f1.1]
        refine ev_s rfl (?_ : Ev _ _ _ _ _ _)
        refine ev_iast rfl rfl (vp_in_nI hlt (by decide)) ?_
        rw [nI_clamp (by omega)]
        iterate 6 (refine ev_s rfl (?_ : Ev _ _ _ _ _ _))
        rw [mI_ne (Or.inl (by decide)), f1.1, nI_1]
        refine tail (mI (mI M1 22 fr.length (nI i)) 17 7 (nI (fr.length + 1))) (fr ++ [i]) ⟨by rw [mI_at]; simp, ?_, ?_, ?_⟩ (fun c => ?_) (by simp; omega) (fun c => by rw [mI_ne (Or.inl (by decide)), mI_ne (Or.inl (by decide))]) ((f5.tr (Same.I.tr Same.I)).sub (fun k hk => by simp at hk ⊢; omega)) ⟨by rw [mI_ne (Or.inr (by decide)), mI_ne (Or.inl (by decide))]; exact f6.1, by rw [mI_ne (Or.inr (by decide)), mI_ne (Or.inl (by decide))]; exact f6.2⟩
        · rw [List.nodup_append]
          refine ⟨f1.2.1, by simp, fun a ha b hb => ?_⟩
          have : b = i := by simpa using hb
          subst this
          exact fun h9 => hni (h9 ▸ ha)
        · intro c hc
          rcases List.mem_append.mp hc with h9 | h9
          · exact f1.2.2.1 c h9
          · have : c = i := by simpa using h9
            omega
        · intro j c hj
          rw [mI_ne (Or.inl (by decide))]
          by_cases hjl : j = fr.length
          · subst hjl
            rw [mI_at]
            have : i = c := by simpa using hj
            rw [this]
          · have := (List.getElem?_eq_some_iff.mp hj).1
            simp at this
            rw [List.getElem?_append_left (by omega)] at hj
            rw [mI_ne (Or.inr hjl)]
            exact f1.2.2.2 j c hj
        · rw [List.mem_append, f2 c]
          constructor
          · rintro (⟨a1, a2⟩ | a1)
            · exact ⟨by omega, a2⟩
            · have : c = i := by simpa using a1
              subst this
              exact ⟨Nat.le_refl _, by omega, hXf⟩
          · rintro ⟨a1, a2, a3⟩
            by_cases hci : c = i
            · exact Or.inr (by simp [hci])
            · exact Or.inl ⟨by omega, a2, a3⟩
  iterate 5 (refine ev_s rfl (?_ : Ev _ _ _ _ _ _))
  refine loop 2000 (mI M 17 7 0) [] (Nat.le_refl _) ⟨mI_at, List.nodup_nil, fun c hc => by simp at hc, fun j c hj => by simp at hj⟩ (fun c => ⟨fun h9 => by simp at h9, fun h9 => by omega⟩) (by simp) (fun c hc => ?_) (Same.I.sub (fun k hk => by simp at hk ⊢; omega)) ⟨mI_ne (Or.inr (by decide)), mI_ne (Or.inr (by decide))⟩
  rw [mI_ne (Or.inl (by decide)), hX c hc]
  simp [hc]
theorem cell_inUse {d : Nat} {M : PM} {Q : Option (Option Value) → PM → Prop} (h : Q (some (some (.int (2000 - M.1 17 7)))) M) : SC (d + 1) 12 [.ref 17] M Q := by
  refine ⟨qX1_inUse, rfl, ⟨Nat.le_of_ble_eq_true rfl, rfl, 17, _, _, rfl, rfl⟩, ?_⟩
  show Ev (BC d qX1_inUse) Q 0 [some (.ref 17)] [] M
  repeat (refine ev_s rfl (?_ : Ev _ _ _ _ _ _))
  exact ev_reti rfl rfl trivial rfl h
theorem Col.congr {M0 M : PM} {X : Nat → Bool} {R R' : Int64 → Prop} (h : Col M0 M X R) (hR : ∀ v, R v ↔ R' v) : Col M0 M X R' :=
  ⟨h.1, h.2.1, fun v hv => h.2.2.1 v ((hR v).mpr hv), fun c hc => (h.2.2.2.1 c hc).mono (fun v hv => (hR v).mp hv), h.2.2.2.2⟩
section STEPS3
variable {B : PBody} {Q : Option (Option Value) → PM → Prop} {pc : Nat} {L : List (Option Value)} {r : List Value} {M : PM} {nx a0 b0 k : Nat} {ts0 : List Nat} {cv : Value} {t n : Nat} {rs : List Nat}
theorem ev_aald {C : String} {x : Int32} {y : Nat} (hc : B.2.2.2.2.1 pc = some (.aaload, nx, a0, b0, ts0, cv)) (hs : B.1[k]? = some (.inr (t, n, .object C, rs))) (hi : vp_in x n) (hy : rs[x.toNatClampNeg]? = some y) (h : Ev B Q nx L (.ref y :: r) M) : Ev B Q pc L (.int x :: .ref k :: r) M := by
  refine ev_s hc ?_
  show p_arr _ _ _
  unfold p_arr
  rw [hs]
  exact ⟨⟨C, rfl⟩, hi, y, hy, h⟩
end STEPS3
theorem r_fun : isRow 9 10 300 := ⟨rfl, rfl, by decide, by decide⟩
theorem r_pend : isRow 11 12 2000 := ⟨rfl, rfl, by decide, by decide⟩
theorem r_hand : isRow 13 14 10 := ⟨rfl, rfl, by decide, by decide⟩
theorem r_stk : isRow 15 16 2600 := ⟨rfl, rfl, by decide, by decide⟩
theorem r_var : isRow 28 29 10 := ⟨rfl, rfl, by decide, by decide⟩
theorem r_rest : isRow 32 33 2000 := ⟨rfl, rfl, by decide, by decide⟩
/-- what a collection keeps -/
def RootsC (M : PM) (fu pe ha sk : List Int64) (h t : Int64) : Int64 → Prop := fun w => w = h ∨ w = t ∨ w = M.2 1 4 ∨ w = M.2 1 5 ∨ w = M.2 1 6 ∨ w ∈ fu ∨ w ∈ pe ∨ w ∈ ha ∨ w ∈ sk
def RowsIs (M : PM) (fu pe ha sk : List Int64) : Prop := RowIs M 9 10 300 fu ∧ RowIs M 11 12 2000 pe ∧ RowIs M 13 14 10 ha ∧ RowIs M 15 16 2600 sk
theorem cell_collect {d : Nat} {M : PM} {fu pe ha sk : List Int64} {hv tv : Int64} (hX : ReArr M (fun _ => false)) (hR : RowsIs M fu pe ha sk) {Q : Option (Option Value) → PM → Prop}
    (h : ∀ M' fr X, FreeIs M' fr → (∀ c, c ∈ fr ↔ c < 2000 ∧ X c = false) → fr.length + cntB X 2000 = 2000 → (∀ c, X c = true ↔ RC (M.2 19) (M.2 20) (RootsC M fu pe ha sk hv tv) c) → ReArr M' (fun _ => false) → Same [17, 21, 22, 23] M M' → Keep17 M M' → Q (some none) M') : SC (d + 2) 13 [.ref 17, .long hv, .long tv] M Q := by
  refine ⟨qX1_collect, rfl, ⟨Nat.le_of_ble_eq_true rfl, rfl, 17, _, _, rfl, rfl⟩, ?_⟩
  show Ev (BC (d + 1) qX1_collect) Q 0 [some (.ref 17), some (.long hv), none, some (.long tv), none, none, none, none, none, none] [] M
  obtain ⟨R1, R2, R3, R4⟩ := hR
  have same1 : ∀ {M1 : PM}, Same [21, 23] M M1 → M1.2 1 = M.2 1 := fun hs => (hs 1 (by decide)).2
  -- a row
  have row : ∀ (r a n : Nat) (l : List Int64) (j : Int32) (M1 : PM) (X : Nat → Bool) (R : Int64 → Prop) (z : Option Value), isRow r a n → RowIs M r a n l → r ∉ [21, 23] → a ∉ [21, 23] → Col M M1 X R →
      (∀ M2 X2, Col M M2 X2 (fun w => R w ∨ w ∈ l) → Ev (BC (d + 1) qX1_collect) Q 101 [some (.ref 17), some (.long hv), none, some (.long tv), none, some (.ref 18), some (.int 4), some (.int j), some (.ref r), some (.int (nI l.length))] [] M2) →
      Ev (BC (d + 1) qX1_collect) Q 71 [some (.ref 17), some (.long hv), none, some (.long tv), none, some (.ref 18), some (.int 4), some (.int j), some (.ref r), z] [] M1 := by
    intro r a n l j M1 X R z hr hl hr1 ha1 hC hk
    have hn := hr.2.2.1
    have hll := hl.2.1
    have inner : ∀ (m k : Nat) (M2 : PM) (X2 : Nat → Bool), l.length - k < m → k ≤ l.length → Col M M2 X2 (fun w => R w ∨ w ∈ l.take k) →
        Ev (BC (d + 1) qX1_collect) Q 74 [some (.ref 17), some (.long hv), none, some (.long tv), none, some (.ref 18), some (.int 4), some (.int j), some (.ref r), some (.int (nI k))] [] M2 := by
      intro m
      induction m with
      | zero => intro k M2 X2 h9; omega
      | succ m ih =>
        intro k M2 X2 hm hkl hC2
        have hl2 : RowIs M2 r a n l := hl.same hC2.2.2.2.2 hr1 ha1
        iterate 2 (refine ev_s rfl (?_ : Ev _ _ _ _ _ _))
        refine ev_cv rfl (as := [.ref r]) rfl rfl (Nat.le_of_ble_eq_true rfl) ?_
        refine row_size hr ?_
        rw [hl2.1]
        show Ev _ _ _ _ [.int (nI l.length), .int (nI k)] _
        refine ev_ic rfl (fun hc => ?_) (fun hc => ?_)
        · have h8 := (nI_leI (by omega) (by omega)).mp hc
          have hk2 : k = l.length := by omega
          subst hk2
          rw [List.take_length] at hC2
          exact hk M2 X2 hC2
        · have h8 : k < l.length := (nI_ltI (by omega) (by omega)).mp (Int32.not_le.mp hc)
          iterate 3 (refine ev_s rfl (?_ : Ev _ _ _ _ _ _))
          refine ev_cv rfl (as := [.ref r, .int (nI k)]) rfl rfl (Nat.le_of_ble_eq_true rfl) ?_
          refine row_at hr hl2 ?_
          rw [rowAt_nI (by omega), List.getElem?_eq_getElem h8]
          show Ev _ _ _ _ [.long l[k], .ref 17] _
          refine ev_cv rfl (as := [.ref 17, .long l[k]]) rfl rfl (Nat.le_of_ble_eq_true rfl) ?_
          refine cell_reach hC2 (fun M3 X3 hC3 => ?_)
          show Ev _ _ _ _ [] _
          iterate 2 (refine ev_s rfl (?_ : Ev _ _ _ _ _ _))
          rw [nI_1]
          refine ih (k + 1) M3 X3 (by omega) (by omega) (hC3.congr (fun v => ?_))
          rw [or_assoc, ← List.take_append_getElem h8, List.mem_append, List.mem_singleton]
    iterate 2 (refine ev_s rfl (?_ : Ev _ _ _ _ _ _))
    exact inner (l.length + 1) 0 M1 X (by omega) (by omega) (hC.congr (fun v => by simp))
  -- the head of the rows' loop
  have next : ∀ (j : Nat) (r a n : Nat) (l : List Int64) (M1 : PM) (X : Nat → Bool) (R : Int64 → Prop) (z1 z2 : Option Value), j < 4 → ([9, 11, 13, 15] : List Nat)[j]? = some r → isRow r a n → RowIs M r a n l → r ∉ [21, 23] → a ∉ [21, 23] → Col M M1 X R →
      (∀ M2 X2, Col M M2 X2 (fun w => R w ∨ w ∈ l) → Ev (BC (d + 1) qX1_collect) Q 57 [some (.ref 17), some (.long hv), none, some (.long tv), none, some (.ref 18), some (.int 4), some (.int (nI (j + 1))), some (.ref r), some (.int (nI l.length))] [] M2) →
      Ev (BC (d + 1) qX1_collect) Q 57 [some (.ref 17), some (.long hv), none, some (.long tv), none, some (.ref 18), some (.int 4), some (.int (nI j)), z1, z2] [] M1 := by
    intro j r a n l M1 X R z1 z2 hj hjr hr hl hr1 ha1 hC hk
    iterate 2 (refine ev_s rfl (?_ : Ev _ _ _ _ _ _))
    refine ev_icF rfl (nI_ge (show j < 4 from hj) (by decide)) ?_
    iterate 2 (refine ev_s rfl (?_ : Ev _ _ _ _ _ _))
    refine ev_aald rfl rfl (vp_in_nI hj (by decide)) (by rw [nI_clamp (by omega)]; exact hjr) ?_
    refine ev_s rfl (?_ : Ev _ _ _ _ _ _)
    refine row r a n l (nI j) M1 X R z2 hr hl hr1 ha1 hC (fun M2 X2 hC2 => ?_)
    iterate 2 (refine ev_s rfl (?_ : Ev _ _ _ _ _ _))
    rw [nI_1]
    exact hk M2 X2 hC2
  -- the five values
  have c0 : Col M M (fun _ => false) (fun _ => False) := ⟨hX, fun c hc => by simp at hc, fun v hv => hv.elim, fun c hc => by simp at hc, Same.rf⟩
  iterate 2 (refine ev_s rfl (?_ : Ev _ _ _ _ _ _))
  refine ev_cv rfl (as := [.ref 17, .long hv]) rfl rfl (Nat.le_of_ble_eq_true rfl) ?_
  refine cell_reach c0 (fun M1 X1 C1 => ?_)
  show Ev _ _ _ _ [] _
  iterate 2 (refine ev_s rfl (?_ : Ev _ _ _ _ _ _))
  refine ev_cv rfl (as := [.ref 17, .long tv]) rfl rfl (Nat.le_of_ble_eq_true rfl) ?_
  refine cell_reach C1 (fun M2 X2 C2 => ?_)
  show Ev _ _ _ _ [] _
  iterate 4 (refine ev_s rfl (?_ : Ev _ _ _ _ _ _))
  rw [same1 C2.2.2.2.2]
  refine ev_cv rfl (as := [.ref 17, .long (M.2 1 4)]) rfl rfl (Nat.le_of_ble_eq_true rfl) ?_
  refine cell_reach C2 (fun M3 X3 C3 => ?_)
  show Ev _ _ _ _ [] _
  iterate 4 (refine ev_s rfl (?_ : Ev _ _ _ _ _ _))
  rw [same1 C3.2.2.2.2]
  refine ev_cv rfl (as := [.ref 17, .long (M.2 1 5)]) rfl rfl (Nat.le_of_ble_eq_true rfl) ?_
  refine cell_reach C3 (fun M4 X4 C4 => ?_)
  show Ev _ _ _ _ [] _
  iterate 4 (refine ev_s rfl (?_ : Ev _ _ _ _ _ _))
  rw [same1 C4.2.2.2.2]
  refine ev_cv rfl (as := [.ref 17, .long (M.2 1 6)]) rfl rfl (Nat.le_of_ble_eq_true rfl) ?_
  refine cell_reach C4 (fun M5 X5 C5 => ?_)
  show Ev _ _ _ _ [] _
  iterate 4 (refine ev_s rfl (?_ : Ev _ _ _ _ _ _))
  refine ev_alen rfl rfl ?_
  iterate 3 (refine ev_s rfl (?_ : Ev _ _ _ _ _ _))
  refine next 0 9 10 300 fu M5 X5 _ _ _ (by decide) rfl r_fun R1 (by decide) (by decide) C5 (fun M6 X6 C6 => ?_)
  refine next 1 11 12 2000 pe M6 X6 _ _ _ (by decide) rfl r_pend R2 (by decide) (by decide) C6 (fun M7 X7 C7 => ?_)
  refine next 2 13 14 10 ha M7 X7 _ _ _ (by decide) rfl r_hand R3 (by decide) (by decide) C7 (fun M8 X8 C8 => ?_)
  refine next 3 15 16 2600 sk M8 X8 _ _ _ (by decide) rfl r_stk R4 (by decide) (by decide) C8 (fun M9 X9 C9 => ?_)
  iterate 2 (refine ev_s rfl (?_ : Ev _ _ _ _ _ _))
  refine ev_icT rfl (show (4 : Int32) ≤ nI (3 + 1) by decide) ?_
  have CF : Col M M9 X9 (RootsC M fu pe ha sk hv tv) := C9.congr (fun v => by unfold RootsC; simp only [false_or, or_assoc])
  refine ev_s rfl (?_ : Ev _ _ _ _ _ _)
  refine ev_cv rfl (as := [.ref 17]) rfl rfl (Nat.le_of_ble_eq_true rfl) ?_
  refine cell_takeBack CF.1 (fun M' fr f1 f2 f3 f4 f5 f6 => ?_)
  show Ev _ _ _ _ [] _
  refine ev_retv rfl rfl (h M' fr X9 f1 f2 f3 (fun c => ⟨CF.2.2.2.1 c, fun hc => hc (fun c => X9 c = true) CF.2.2.1 CF.2.1⟩) f4 ((CF.2.2.2.2.tr f5).sub (fun k hk => by simp at hk ⊢; omega)) ⟨f6.1.trans (congrFun (CF.2.2.2.2 17 (by decide)).1 8), f6.2.trans (congrFun (CF.2.2.2.2 17 (by decide)).1 9)⟩)
theorem cell_rbf {d : Nat} {M : PM} {fu pe ha sk : List Int64} (hX : ReArr M (fun _ => false)) (hR : RowsIs M fu pe ha sk) {Q : Option (Option Value) → PM → Prop}
    (h : ∀ M' fr X, FreeIs M' fr → (∀ c, c ∈ fr ↔ c < 2000 ∧ X c = false) → (∀ c, X c = true ↔ RC (M.2 19) (M.2 20) (RootsC M fu pe ha sk 0 0) c) → ReArr M' (fun _ => false) → Same [17, 21, 22, 23] M M' → Keep17 M M' → Q (some (some (.int (nI (cntB X 2000))))) M') : SC (d + 3) 11 [.ref 17] M Q := by
  refine ⟨qX1_reachedByFunctions, rfl, ⟨Nat.le_of_ble_eq_true rfl, rfl, 17, _, _, rfl, rfl⟩, ?_⟩
  show Ev (BC (d + 2) qX1_reachedByFunctions) Q 0 [some (.ref 17)] [] M
  iterate 3 (refine ev_s rfl (?_ : Ev _ _ _ _ _ _))
  refine ev_cv rfl (as := [.ref 17, .long 0, .long 0]) rfl rfl (Nat.le_of_ble_eq_true rfl) ?_
  refine cell_collect hX hR (fun M' fr X f1 f2 f3 f4 f5 f6 f7 => ?_)
  show Ev _ _ _ _ [] _
  refine ev_s rfl (?_ : Ev _ _ _ _ _ _)
  refine ev_cv rfl (as := [.ref 17]) rfl rfl (Nat.le_of_ble_eq_true rfl) ?_
  refine cell_inUse ?_
  show Ev _ _ _ _ [.int (2000 - M'.1 17 7)] _
  refine ev_reti rfl rfl trivial rfl ?_
  have e1 : 2000 - M'.1 17 7 = nI (cntB X 2000) := by
    rw [f1.1, show (2000 : Int32) = nI 2000 from rfl, pk_sub (by omega)]
    congr 1; omega
  rw [e1]
  exact h M' fr X f1 f2 f4 f5 f6 f7
theorem nd_last {l : List Nat} {c : Nat} (h : (l ++ [c]).Nodup) : c ∉ l := fun h9 => by
  rw [List.nodup_append] at h
  exact h.2.2 c h9 c (by simp) rfl
/-- a new cell is laid at c -/
def Made (M M' : PM) (c : Nat) (hv tv : Int64) : Prop := M'.2 19 = vp_updL (M.2 19) c hv ∧ M'.2 20 = vp_updL (M.2 20) c tv ∧ M'.1 17 8 = M.1 17 8 ∧ M'.1 17 9 = M.1 17 9 + 1
theorem cell_make {d : Nat} {M : PM} {fu pe ha sk : List Int64} {fr : List Nat} {lim : Nat} {hv tv : Int64} (hX : ReArr M (fun _ => false)) (hR : RowsIs M fu pe ha sk) (hF : FreeIs M fr) (hlim : M.1 17 8 = nI lim) (hl2 : lim ≤ 2000) {Q : Option (Option Value) → PM → Prop}
    (hok : ∀ M' fr' c, FreeIs M' fr' → (2000 - fr.length < lim ∧ fr = fr' ++ [c] ∨ (lim ≤ 2000 - fr.length ∧ ∃ X : Nat → Bool, (∀ k, X k = true ↔ RC (M.2 19) (M.2 20) (RootsC M fu pe ha sk hv tv) k) ∧ cntB X 2000 < lim ∧ ∀ k, k ∈ fr' ++ [c] ↔ k < 2000 ∧ X k = false)) → c < 2000 → c ∉ fr' → ReArr M' (fun _ => false) → Same [17, 19, 20, 21, 22, 23] M M' → Made M M' c hv tv → Q (some (some (.long (ofC c)))) M')
    (hno : ∀ M' fr' (X : Nat → Bool), FreeIs M' fr' → lim ≤ 2000 - fr.length → (∀ k, X k = true ↔ RC (M.2 19) (M.2 20) (RootsC M fu pe ha sk hv tv) k) → lim ≤ cntB X 2000 → (∀ k, k ∈ fr' ↔ k < 2000 ∧ X k = false) → ReArr M' (fun _ => false) → Same [17, 21, 22, 23] M M' → Keep17 M M' → Q (some (some (.long (-1)))) M') : SC (d + 3) 10 [.ref 17, .long hv, .long tv] M Q := by
  refine ⟨qX1_make, rfl, ⟨Nat.le_of_ble_eq_true rfl, rfl, 17, _, _, rfl, rfl⟩, ?_⟩
  show Ev (BC (d + 2) qX1_make) Q 0 [some (.ref 17), some (.long hv), none, some (.long tv), none, none] [] M
  have use : ∀ {M1 : PM} {f1 : List Nat}, FreeIs M1 f1 → 2000 - M1.1 17 7 = nI (2000 - f1.length) := fun {M1 f1} h1 => by
    rw [h1.1, show (2000 : Int32) = nI 2000 from rfl, pk_sub h1.len]
  -- behind the collection
  have rest : ∀ (M1 : PM) (f1 : List Nat), FreeIs M1 f1 → M1.1 17 8 = nI lim → ReArr M1 (fun _ => false) →
      (2000 - f1.length < lim → ∀ f2 c, f1 = f2 ++ [c] → ∀ M2, FreeIs M2 f2 → Same [17, 19, 20] M1 M2 → Made M1 M2 c hv tv → Q (some (some (.long (ofC c)))) M2) → (lim ≤ 2000 - f1.length → Q (some (some (.long (-1)))) M1) →
      Ev (BC (d + 2) qX1_make) Q 17 [some (.ref 17), some (.long hv), none, some (.long tv), none, none] [] M1 := by
    intro M1 f1 h1 hL hRe k1 k2
    have hlen := h1.len
    -- with a cell number, or -1
    have fin : ∀ x : Int32, (f1 = [] ∧ x = -1 ∨ ∃ f2 c, f1 = f2 ++ [c] ∧ x = nI c) → Ev (BC (d + 2) qX1_make) Q 49 [some (.ref 17), some (.long hv), none, some (.long tv), none, none] [.int x] M1 := by
      intro x hx
      iterate 2 (refine ev_s rfl (?_ : Ev _ _ _ _ _ _))
      refine ev_cv rfl (as := [.ref 17]) rfl rfl (Nat.le_of_ble_eq_true rfl) ?_
      refine cell_inUse ?_
      rw [use h1]
      show Ev _ _ _ _ [.int (nI (2000 - f1.length))] _
      iterate 2 (refine ev_s rfl (?_ : Ev _ _ _ _ _ _))
      rw [hL]
      have miss : lim ≤ 2000 - f1.length → Ev (BC (d + 2) qX1_make) Q 75 [some (.ref 17), some (.long hv), none, some (.long tv), none, some (.int x)] [] M1 := fun h9 => by
        refine ev_s rfl (?_ : Ev _ _ _ _ _ _)
        exact ev_retl rfl rfl (k2 h9)
      refine ev_ic rfl (fun hc => miss ((nI_leI (by omega) (by omega)).mp hc)) (fun hc => ?_)
      have hlt : 2000 - f1.length < lim := (nI_ltI (by omega) (by omega)).mp (Int32.not_le.mp hc)
      rcases hx with ⟨rfl, rfl⟩ | ⟨f2, c, rfl, rfl⟩
      · simp at hlt; omega
      · have hc2 : c < 2000 := h1.2.2.1 c (by simp)
        iterate 1 (refine ev_s rfl (?_ : Ev _ _ _ _ _ _))
        refine ev_ifF rfl (nI_pos (by omega)) ?_
        iterate 2 (refine ev_s rfl (?_ : Ev _ _ _ _ _ _))
        refine ev_icT rfl (nI_lt (b := 2000) hc2 (by decide)) ?_
        iterate 6 (refine ev_s rfl (?_ : Ev _ _ _ _ _ _))
        rw [h1.1]
        iterate 4 (refine ev_s rfl (?_ : Ev _ _ _ _ _ _))
        refine ev_last rfl rfl (vp_in_nI hc2 (by decide)) ?_
        rw [nI_clamp (by omega)]
        iterate 4 (refine ev_s rfl (?_ : Ev _ _ _ _ _ _))
        refine ev_last rfl rfl (vp_in_nI hc2 (by decide)) ?_
        rw [nI_clamp (by omega)]
        iterate 7 (refine ev_s rfl (?_ : Ev _ _ _ _ _ _))
        refine ev_cs rfl (by decide) (by decide) (as := [.int (nI c)]) rfl rfl (Nat.le_of_ble_eq_true rfl) ?_
        refine v_ofCell ?_
        rw [nI_l (by omega)]
        show Ev _ _ _ _ [.long (ofC c)] _
        refine ev_retl rfl rfl (k1 hlt f2 c rfl _ ⟨?_, ?_, ?_, ?_⟩ ?_ ⟨?_, ?_, ?_, ?_⟩)
        · rw [mI_ne (Or.inr (by decide)), mJ_1, mJ_1, mI_at]
          simp only [List.length_append, List.length_cons, List.length_nil]
          exact nI_pred _
        · have := h1.2.1
          rw [List.nodup_append] at this
          exact this.1
        · exact fun k hk => h1.2.2.1 k (by simp [hk])
        · intro j k hj
          rw [mI_ne (Or.inl (by decide)), mJ_1, mJ_1, mI_ne (Or.inl (by decide))]
          exact h1.2.2.2 j k (by rw [List.getElem?_append_left (List.getElem?_eq_some_iff.mp hj).1]; exact hj)
        · exact ((Same.I.tr (Same.J.tr (Same.J.tr Same.I)))).sub (fun k hk => by simp at hk ⊢; omega)
        · rw [mI_2]
          show up2 (up2 _ 19 c hv) 20 c tv 19 = _
          rw [up2_ne (by decide), up2_eqJ]; rfl
        · rw [mI_2]
          show up2 (up2 _ 19 c hv) 20 c tv 20 = _
          rw [up2_eqJ, up2_ne (by decide)]; rfl
        · rw [mI_ne (Or.inr (by decide)), mJ_1, mJ_1, mI_ne (Or.inr (by decide))]
        · rw [mI_at, mJ_1, mJ_1, mI_ne (Or.inr (by decide))]
    iterate 2 (refine ev_s rfl (?_ : Ev _ _ _ _ _ _))
    rw [h1.1]
    rcases List.eq_nil_or_concat f1 with rfl | ⟨f2, c, rfl⟩
    · refine ev_ifT rfl (show nI ([] : List Nat).length ≤ 0 by decide) ?_
      refine ev_s rfl (?_ : Ev _ _ _ _ _ _)
      exact fin (-1) (Or.inl ⟨rfl, rfl⟩)
    · rw [List.concat_eq_append] at h1 hlen fin k1 k2 ⊢
      have e1 : (f2 ++ [c]).length = f2.length + 1 := by simp
      rw [e1] at hlen ⊢
      refine ev_ifF rfl (nI_nle (by omega) (by omega)) ?_
      iterate 2 (refine ev_s rfl (?_ : Ev _ _ _ _ _ _))
      rw [h1.1, e1]
      refine ev_s rfl (?_ : Ev _ _ _ _ _ _)
      refine ev_icF rfl (nI_nlt (a := 2000) (b := f2.length + 1) (by omega) (by decide)) ?_
      iterate 4 (refine ev_s rfl (?_ : Ev _ _ _ _ _ _))
      rw [h1.1, e1]
      iterate 2 (refine ev_s rfl (?_ : Ev _ _ _ _ _ _))
      rw [nI_pred]
      refine ev_iald rfl rfl (vp_in_nI (show f2.length < 2000 by omega) (by decide)) ?_
      rw [nI_clamp (by omega), h1.2.2.2 f2.length c (by simp)]
      refine ev_s rfl (?_ : Ev _ _ _ _ _ _)
      exact fin (nI c) (Or.inr ⟨f2, c, rfl, rfl⟩)
  refine ev_s rfl (?_ : Ev _ _ _ _ _ _)
  refine ev_cv rfl (as := [.ref 17]) rfl rfl (Nat.le_of_ble_eq_true rfl) ?_
  refine cell_inUse ?_
  rw [use hF]
  show Ev _ _ _ _ [.int (nI (2000 - fr.length))] _
  iterate 2 (refine ev_s rfl (?_ : Ev _ _ _ _ _ _))
  rw [hlim]
  refine ev_ic rfl (fun hc => ?_) (fun hc => ?_)
  · have hlt : 2000 - fr.length < lim := (nI_ltI (by omega) (by omega)).mp hc
    refine rest M fr hF hlim hX (fun _ f2 c he M2 g1 g2 g3 => ?_) (fun h9 => by omega)
    refine hok M2 f2 c g1 (Or.inl ⟨hlt, he⟩) (hF.2.2.1 c (by rw [he]; simp)) (nd_last (by rw [← he]; exact hF.2.1)) (fun k hk => by rw [(g2 21 (by decide)).1]; exact hX k hk) (g2.sub (fun k hk => by simp at hk ⊢; omega)) g3
  · have hge : lim ≤ 2000 - fr.length := (nI_leI (by omega) (by omega)).mp (Int32.not_lt.mp hc)
    iterate 3 (refine ev_s rfl (?_ : Ev _ _ _ _ _ _))
    refine ev_cv rfl (as := [.ref 17, .long hv, .long tv]) rfl rfl (Nat.le_of_ble_eq_true rfl) ?_
    refine cell_collect hX hR (fun M' f1 X g1 g2 g3 g4 g5 g6 g7 => ?_)
    show Ev _ _ _ _ [] _
    refine rest M' f1 g1 (g7.1.trans hlim) g5 (fun h8 f2 c he M2 k1 k2 k3 => ?_) (fun h9 => hno M' f1 X g1 hge g4 (by omega) g2 g5 g6 g7)
    have e19 := (g6 19 (by decide)).2
    have e20 := (g6 20 (by decide)).2
    refine hok M2 f2 c k1 (Or.inr ⟨hge, X, g4, by omega, fun k => by rw [← he]; exact g2 k⟩) (g1.2.2.1 c (by rw [he]; simp)) (nd_last (by rw [← he]; exact g1.2.1)) (fun k hk => by rw [(k2 21 (by decide)).1]; exact g5 k hk) ((g6.tr k2).sub (fun k hk => by simp at hk ⊢; omega)) ⟨by rw [← e19]; exact k3.1, by rw [← e20]; exact k3.2.1, k3.2.2.1.trans g7.1, by rw [k3.2.2.2, g7.2]⟩

/-! The reference's reader: numbers, quotes, lists. -/
theorem num_class2 {V s : Nat} (neg : Bool) (h1 : V ≤ 3000000000 → s = V) (h2 : 3000000000 < V → 3000000000 < s) (hb : s ≤ 30000000009) :
    ((if neg then -(lN s) else lN s) < -2147483648 ∨ 2147483647 < (if neg then -(lN s) else lN s)) ↔ ¬ V ≤ (if neg then 2147483648 else 2147483647) := by
  have e1 : (-2147483648 : Int64).toInt = -2147483648 := by decide
  have e2 : (2147483647 : Int64).toInt = 2147483647 := by decide
  cases neg with
  | true =>
    simp only [if_true]
    rw [Int64.lt_iff_toInt_lt, Int64.lt_iff_toInt_lt, lN_neg (by omega), e1, e2]
    by_cases hV : V ≤ 3000000000
    · have := h1 hV
      constructor
      · intro h; omega
      · intro h; omega
    · have := h2 (by omega)
      constructor
      · intro h; omega
      · intro h; omega
  | false =>
    simp only [if_false, Bool.false_eq_true]
    rw [Int64.lt_iff_toInt_lt, Int64.lt_iff_toInt_lt, pk_lT (by omega), e1, e2]
    by_cases hV : V ≤ 3000000000
    · have := h1 hV
      constructor
      · intro h; omega
      · intro h; omega
    · have := h2 (by omega)
      constructor
      · intro h; omega
      · intro h; omega
theorem num_r {s : Nat} (neg : Bool) (hb : s ≤ (if neg then 2147483648 else 2147483647)) : 1099511627776 + (if neg then -(lN s) else lN s) = rN (Int32.ofInt (if neg then -(s : Int) else (s : Int))) := by
  have hr : -2147483648 ≤ (if neg then -(s : Int) else (s : Int)) ∧ (if neg then -(s : Int) else (s : Int)) < 2147483648 := by
    cases neg with
    | true => simp only [if_true] at hb ⊢; omega
    | false => simp only [if_false, Bool.false_eq_true] at hb ⊢; omega
  have ex : (if neg then -(lN s) else lN s).toInt = (if neg then -(s : Int) else (s : Int)) := by
    cases neg with
    | true => simp only [if_true] at hb ⊢; exact lN_neg (by omega)
    | false => simp only [if_false, Bool.false_eq_true] at hb ⊢; exact pk_lT (by omega)
  apply Int64.toInt_inj.mp
  rw [rN_T, Int64.toInt_add, ex, show (1099511627776 : Int64).toInt = 1099511627776 by decide, Int32.toInt_ofInt_of_le (by omega) (by omega)]
  exact bmI (by omega) (by omega)
section KD2
variable {t : List Nat} {lim : Nat} {fns : List (Option AV)} {M M0 : PM} {U : Nat → Bool} {ψ : Nat → Nat} {H : AHp} {n p : Nat} {op : List (Nat × Nat)} {pe : List AV} {nm : List (List Nat)}
theorem k_number {d c : Nat} (h : RdM t lim fns M U ψ H n p op pe nm) (hc0 : t[p]? = some c) {Q : Option (Option Value) → PM → Prop}
    (hS : ∀ m q M', rNum t p (c == 45) = .inl (m, q) → RdM t lim fns M' U ψ H n q op pe nm → SameM IDXs M M' → Q (some (some (.long (rN m)))) M')
    (hF : ∀ f M', rNum t p (c == 45) = .inr f → RdX lim fns M' nm H n f p → SameM IDX M M' → Q none M') : SM (d + 3) 132 [.ref 0] M Q := by
  refine ⟨qX10_number, rfl, ⟨Nat.le_of_ble_eq_true rfl, rfl, 0, _, _, rfl, rfl⟩, ?_⟩
  show Ev (BM (d + 2) qX10_number) Q 0 [some (.ref 0), none, none, none, none] [] M
  have h2000 := h.2.2.1.2.1
  have hpt : p < t.length := (List.getElem?_eq_some_iff.mp hc0).1
  have hcb := h.2.2.1.bt p
  rw [bt_at hc0] at hcb
  generalize hneg : (c == 45) = neg at *
  generalize hp0 : (if neg then p + 1 else p) = p0 at *
  have hp0N : p ≤ p0 ∧ p0 ≤ t.length := by rw [← hp0]; split <;> omega
  -- behind the digits
  have fin : ∀ (s : Nat) (M1 : PM), dSat 3000000000 0 ((t.drop p0).takeWhile isDg) = s → s ≤ 30000000009 → RdM t lim fns M1 U ψ H n (spanE isDg t p0) op pe nm → SameM [122] M M1 → Ev (BM (d + 2) qX10_number) Q 99 [some (.ref 0), some (.int (nI p)), some (.int (if neg then 1 else 0)), some (.long (lN s)), none] [] M1 := by
    intro s M1 hs hb hR hsm
    obtain ⟨v1, v2⟩ := dSat_val (thr := 3000000000) ((t.drop p0).takeWhile isDg) 0
    rw [hs] at v1 v2
    have num := num_class2 neg (fun h9 => v1 h9) v2 hb
    have rest : Ev (BM (d + 2) qX10_number) Q 109 [some (.ref 0), some (.int (nI p)), some (.int (if neg then 1 else 0)), some (.long (lN s)), none] [.long (if neg then -(lN s) else lN s)] M1 := by
      have bad : ¬ dVal 0 ((t.drop p0).takeWhile isDg) ≤ (if neg then 2147483648 else 2147483647) → Ev (BM (d + 2) qX10_number) Q 126 [some (.ref 0), some (.int (nI p)), some (.int (if neg then 1 else 0)), some (.long (if neg then -(lN s) else lN s)), none] [] M1 := fun h9 => by
        repeat (refine ev_s rfl (?_ : Ev _ _ _ _ _ _))
        refine ev_cv rfl (as := [.ref 0, .int 2, .int (nI p)]) rfl rfl (Nat.le_of_ble_eq_true rfl) ?_
        refine k_failsAt ?_
        show Ev _ _ _ _ [.ref 5] _
        refine ev_s rfl (hF 2 _ ?_ (hR.flt (c := 2) (by decide) (by decide) (by omega)) (hsm.t2 RdM.fs (by decide)))
        unfold rNum
        rw [hp0]
        exact if_neg h9
      repeat (refine ev_s rfl (?_ : Ev _ _ _ _ _ _))
      refine ev_lif rfl (fun hc => bad (num.mp (Or.inl hc))) (fun hc => ?_)
      repeat (refine ev_s rfl (?_ : Ev _ _ _ _ _ _))
      refine ev_lif rfl (fun hc2 => ?_) (fun hc2 => bad (num.mp (Or.inr (Int64.not_le.mp hc2))))
      have hin : dVal 0 ((t.drop p0).takeWhile isDg) ≤ (if neg then 2147483648 else 2147483647) := Decidable.byContradiction fun h9 => by
        rcases num.mpr h9 with h8 | h8
        · exact hc h8
        · exact absurd hc2 (Int64.not_le.mpr h8)
      have hV : s = dVal 0 ((t.drop p0).takeWhile isDg) := v1 (by split at hin <;> omega)
      repeat (refine ev_s rfl (?_ : Ev _ _ _ _ _ _))
      rw [num_r neg (by rw [hV]; exact hin)]
      refine ev_retl rfl rfl (hS _ _ M1 ?_ hR (hsm.sub (by decide)))
      unfold rNum
      rw [hp0, if_pos hin, hV]
    repeat (refine ev_s rfl (?_ : Ev _ _ _ _ _ _))
    cases neg with
    | true =>
      refine ev_ifF rfl (show ¬ (1 : Int32) = 0 by decide) ?_
      iterate 3 (refine ev_s rfl (?_ : Ev _ _ _ _ _ _))
      exact rest
    | false =>
      refine ev_ifT rfl (show (0 : Int32) = 0 from rfl) ?_
      iterate 1 (refine ev_s rfl (?_ : Ev _ _ _ _ _ _))
      exact rest
  have loop : ∀ (m q s : Nat) (M1 : PM), t.length - q < m → p0 ≤ q → q ≤ t.length → s ≤ 30000000009 → spanE isDg t q = spanE isDg t p0 → dSat 3000000000 0 ((t.drop p0).takeWhile isDg) = dSat 3000000000 s ((t.drop q).takeWhile isDg) → RdM t lim fns M1 U ψ H n q op pe nm → SameM [122] M M1 → Ev (BM (d + 2) qX10_number) Q 40 [some (.ref 0), some (.int (nI p)), some (.int (if neg then 1 else 0)), some (.long (lN s)), none] [] M1 := by
    intro m
    induction m with
    | zero => intro q s M1 h9; omega
    | succ m ih =>
      intro q s M1 hm hpq hqN hsb hsp hsat hR hs
      obtain ⟨k1, k2, k3, k4, k5, k6, k7, k8, k9, k10⟩ := id hR
      have hb := k3.bt q
      have stop : isDg (bt t q) = false → Ev (BM (d + 2) qX10_number) Q 99 [some (.ref 0), some (.int (nI p)), some (.int (if neg then 1 else 0)), some (.long (lN s)), none] [] M1 := fun h9 => by
        have e9 : spanE isDg t q = q ∧ (t.drop q).takeWhile isDg = [] := by
          by_cases hq : q < t.length
          · have e : t[q]? = some t[q] := List.getElem?_eq_getElem hq
            rw [bt_at e] at h9
            exact ⟨spanE_no e h9, tw_no e h9⟩
          · exact ⟨spanE_end (by omega), tw_end (by omega)⟩
        rw [e9.2] at hsat
        refine fin s M1 hsat hsb ?_ hs
        rw [← hsp, e9.1]; exact hR
      repeat (refine ev_s rfl (?_ : Ev _ _ _ _ _ _))
      rw [k4]
      refine ev_cv rfl (as := [.ref 0, .int (nI q)]) rfl rfl (Nat.le_of_ble_eq_true rfl) ?_
      refine k_byteAt k3 (by omega) ?_
      show Ev _ _ _ _ [.int (nI (bt t q))] _
      refine ev_cs rfl (by decide) (by decide) (as := [.int (nI (bt t q))]) rfl rfl (Nat.le_of_ble_eq_true rfl) ?_
      refine k_isDigit hb ?_
      cases hg : isDg (bt t q) with
      | false =>
        show Ev _ _ _ _ [.int 0] _
        refine ev_ifT rfl (show (0 : Int32) = 0 from rfl) ?_
        exact stop hg
      | true =>
        have hq : q < t.length := by
          refine Decidable.byContradiction (fun h8 => ?_)
          rw [bt_end (by omega)] at hg
          exact absurd hg (by decide)
        have e : t[q]? = some t[q] := List.getElem?_eq_getElem hq
        have eb := bt_at e
        rw [eb] at hg hb
        obtain ⟨d1, d2⟩ := dg_range hg
        rw [tw_go e hg] at hsat
        have hsat2 : dSat 3000000000 0 ((t.drop p0).takeWhile isDg) = dSat 3000000000 (if s ≤ 3000000000 then s * 10 + (t[q] - 48) else s) ((t.drop (q + 1)).takeWhile isDg) := hsat
        have adv : ∀ s', s' = (if s ≤ 3000000000 then s * 10 + (t[q] - 48) else s) → Ev (BM (d + 2) qX10_number) Q 85 [some (.ref 0), some (.int (nI p)), some (.int (if neg then 1 else 0)), some (.long (lN s)), none] [.long (lN s')] M1 := fun s' hs' => by
          iterate 8 (refine ev_s rfl (?_ : Ev _ _ _ _ _ _))
          rw [k4, nI_1]
          rw [← hs'] at hsat2
          exact ih (q + 1) s' _ (by omega) (by omega) (by omega) (by rw [hs']; split <;> omega) ((spanE_go e hg).symm.trans hsp) hsat2 (hR.at (by omega) (by omega)) (hs.t2 (SameM.I0 (j := 22)) (by decide))
        show Ev _ _ _ _ [.int 1] _
        refine ev_ifF rfl (show ¬ (1 : Int32) = 0 by decide) ?_
        repeat (refine ev_s rfl (?_ : Ev _ _ _ _ _ _))
        refine ev_lif rfl (fun hc2 => ?_) (fun hc2 => ?_)
        · have hle : s ≤ 3000000000 := (pk_lLE (b := 3000000000) (by omega) (by decide)).mp hc2
          repeat (refine ev_s rfl (?_ : Ev _ _ _ _ _ _))
          rw [k4]
          refine ev_cv rfl (as := [.ref 0, .int (nI q)]) rfl rfl (Nat.le_of_ble_eq_true rfl) ?_
          refine k_byteAt k3 (by omega) ?_
          rw [eb]
          show Ev _ _ _ _ [.int (nI t[q]), .long (10 * lN s)] _
          iterate 4 (refine ev_s rfl (?_ : Ev _ _ _ _ _ _))
          rw [nI_l (by omega), show (10 : Int64) = lN 10 from rfl, lN_mul, lN_add, show (48 : Int64) = lN 48 from rfl, lN_sub (by omega), show 10 * s + t[q] - 48 = s * 10 + (t[q] - 48) by omega]
          exact adv _ (by rw [if_pos hle])
        · have hgt : ¬ s ≤ 3000000000 := fun h9 => hc2 ((pk_lLE (b := 3000000000) (by omega) (by decide)).mpr h9)
          iterate 2 (refine ev_s rfl (?_ : Ev _ _ _ _ _ _))
          exact adv s (by rw [if_neg hgt])
  obtain ⟨k1, k2, k3, k4, k5, k6, k7, k8, k9, k10⟩ := id h
  repeat (refine ev_s rfl (?_ : Ev _ _ _ _ _ _))
  rw [k4]
  refine ev_cv rfl (as := [.ref 0, .int (nI p)]) rfl rfl (Nat.le_of_ble_eq_true rfl) ?_
  refine k_byteAt k3 (by omega) ?_
  rw [bt_at hc0]
  show Ev _ _ _ _ [.int (nI c)] _
  repeat (refine ev_s rfl (?_ : Ev _ _ _ _ _ _))
  have c45 : (nI c = 45) ↔ c = 45 := nI_eq (b := 45) (by omega) (by decide)
  cases neg with
  | true =>
    have e45 : c = 45 := by simpa using hneg
    have ep : p0 = p + 1 := by rw [← hp0]; rfl
    refine ev_icF rfl (show ¬ ¬ nI c = 45 from fun h9 => h9 (c45.mpr e45)) ?_
    repeat (refine ev_s rfl (?_ : Ev _ _ _ _ _ _))
    refine ev_ifF rfl (show ¬ (1 : Int32) = 0 by decide) ?_
    iterate 8 (refine ev_s rfl (?_ : Ev _ _ _ _ _ _))
    rw [k4, nI_1, ← ep]
    exact loop (t.length + 1) p0 0 _ (by omega) (Nat.le_refl _) hp0N.2 (by omega) rfl rfl (h.at (by omega) hp0N.2) (SameM.I0 (j := 22))
  | false =>
    have e45 : ¬ c = 45 := by simpa using hneg
    have ep : p0 = p := by rw [← hp0]; rfl
    refine ev_icT rfl (show ¬ nI c = 45 from fun h9 => e45 (c45.mp h9)) ?_
    repeat (refine ev_s rfl (?_ : Ev _ _ _ _ _ _))
    refine ev_ifT rfl (show (0 : Int32) = 0 from rfl) ?_
    iterate 2 (refine ev_s rfl (?_ : Ev _ _ _ _ _ _))
    exact loop (t.length + 1) p0 0 _ (by omega) (Nat.le_refl _) hp0N.2 (by omega) rfl rfl (by rw [ep]; exact h) SameM.rf
/-- an atom begins -/
def atB (t : List Nat) (p : Nat) : Bool := isLt (bt t p) || isDg (bt t p) || (bt t p == 45 && isDg (bt t (p + 1)))
theorem k_isAtom {d : Nat} (h : RdM t lim fns M U ψ H n p op pe nm) {Q : Option (Option Value) → PM → Prop} (hq : Q (some (some (.int (if atB t p then 1 else 0)))) M) : SM (d + 2) 133 [.ref 0] M Q := by
  refine ⟨qX10_isAtom, rfl, ⟨Nat.le_of_ble_eq_true rfl, rfl, 0, _, _, rfl, rfl⟩, ?_⟩
  show Ev (BM (d + 1) qX10_isAtom) Q 0 [some (.ref 0), none] [] M
  obtain ⟨k1, k2, k3, k4, k5, k6, k7, k8, k9, k10⟩ := id h
  have h2000 := k3.2.1
  have hb := k3.bt p
  have hb2 := k3.bt (p + 1)
  have yes : atB t p = true → Ev (BM (d + 1) qX10_isAtom) Q 45 [some (.ref 0), some (.int (nI (bt t p)))] [] M := fun h9 => by
    rw [h9] at hq
    repeat (refine ev_s rfl (?_ : Ev _ _ _ _ _ _))
    exact ev_reti rfl rfl trivial rfl hq
  have no : atB t p = false → Ev (BM (d + 1) qX10_isAtom) Q 49 [some (.ref 0), some (.int (nI (bt t p)))] [] M := fun h9 => by
    rw [h9] at hq
    repeat (refine ev_s rfl (?_ : Ev _ _ _ _ _ _))
    exact ev_reti rfl rfl trivial rfl hq
  repeat (refine ev_s rfl (?_ : Ev _ _ _ _ _ _))
  rw [k4]
  refine ev_cv rfl (as := [.ref 0, .int (nI p)]) rfl rfl (Nat.le_of_ble_eq_true rfl) ?_
  refine k_byteAt k3 (by omega) ?_
  show Ev _ _ _ _ [.int (nI (bt t p))] _
  repeat (refine ev_s rfl (?_ : Ev _ _ _ _ _ _))
  refine ev_cs rfl (by decide) (by decide) (as := [.int (nI (bt t p))]) rfl rfl (Nat.le_of_ble_eq_true rfl) ?_
  refine k_isCapital hb ?_
  cases hl : isLt (bt t p) with
  | true =>
    show Ev _ _ _ _ [.int 1] _
    refine ev_ifT rfl (show ¬ (1 : Int32) = 0 by decide) ?_
    exact yes (by simp [atB, hl])
  | false =>
    show Ev _ _ _ _ [.int 0] _
    refine ev_ifF rfl (show ¬ ¬ (0 : Int32) = 0 by decide) ?_
    repeat (refine ev_s rfl (?_ : Ev _ _ _ _ _ _))
    refine ev_cs rfl (by decide) (by decide) (as := [.int (nI (bt t p))]) rfl rfl (Nat.le_of_ble_eq_true rfl) ?_
    refine k_isDigit hb ?_
    cases hg : isDg (bt t p) with
    | true =>
      show Ev _ _ _ _ [.int 1] _
      refine ev_ifT rfl (show ¬ (1 : Int32) = 0 by decide) ?_
      exact yes (by simp [atB, hg])
    | false =>
      show Ev _ _ _ _ [.int 0] _
      refine ev_ifF rfl (show ¬ ¬ (0 : Int32) = 0 by decide) ?_
      repeat (refine ev_s rfl (?_ : Ev _ _ _ _ _ _))
      have c45 : (nI (bt t p) = 45) ↔ bt t p = 45 := nI_eq (b := 45) (by omega) (by decide)
      refine ev_ic rfl (fun hc => no ?_) (fun hc => ?_)
      · have n45 : ¬ bt t p = 45 := fun h9 => hc (c45.mpr h9)
        simp [atB, hl, hg, n45]
      have y45 : bt t p = 45 := c45.mp (Decidable.not_not.mp hc)
      repeat (refine ev_s rfl (?_ : Ev _ _ _ _ _ _))
      rw [k4, nI_1]
      refine ev_cv rfl (as := [.ref 0, .int (nI (p + 1))]) rfl rfl (Nat.le_of_ble_eq_true rfl) ?_
      refine k_byteAt k3 (by omega) ?_
      show Ev _ _ _ _ [.int (nI (bt t (p + 1)))] _
      refine ev_cs rfl (by decide) (by decide) (as := [.int (nI (bt t (p + 1)))]) rfl rfl (Nat.le_of_ble_eq_true rfl) ?_
      refine k_isDigit hb2 ?_
      cases hg2 : isDg (bt t (p + 1)) with
      | true =>
        show Ev _ _ _ _ [.int 1] _
        refine ev_ifF rfl (show ¬ (1 : Int32) = 0 by decide) ?_
        exact yes (by simp [atB, y45, hg2])
      | false =>
        show Ev _ _ _ _ [.int 0] _
        refine ev_ifT rfl (show (0 : Int32) = 0 from rfl) ?_
        exact no (by rw [y45] at hl hg; simp [atB, y45, hg2]; exact ⟨hl, hg⟩)
/-- the last open one -/
theorem RdM.top {s st : Nat} {r : List (Nat × Nat)} (h : RdM t lim fns M U ψ H n p ((s, st) :: r) pe nm) : M.1 0 28 = nI (r.length + 1) ∧ r.length < 60 ∧ M.1 13 r.length = nI (s - 2) ∧ M.1 12 r.length = nI st ∧ 2 ≤ s ∧ s ≤ 6 ∧ st ≤ pe.length ∧ (s = 6 → st < pe.length) := by
  obtain ⟨k1, k2, k3, k4, k5, k6, k7, k8, k9, k10⟩ := h
  have e := k7 r.length s st (by simp)
  simp at k8
  exact ⟨k6, by omega, e.1, e.2, k9.1.1, k9.1.2.1, k9.1.2.2.1, k9.1.2.2.2⟩
theorem k_mayBegin {d : Nat} (h : RdM t lim fns M U ψ H n p op pe nm) {Q : Option (Option Value) → PM → Prop} (hq : Q (some (some (.int (if rMay op none then 1 else 0)))) M) : SM (d + 1) 134 [.ref 0] M Q := by
  refine ⟨qX10_mayBegin, rfl, ⟨Nat.le_of_ble_eq_true rfl, rfl, 0, _, _, rfl, rfl⟩, ?_⟩
  show Ev (BM (d) qX10_mayBegin) Q 0 [some (.ref 0)] [] M
  obtain ⟨k1, k2, k3, k4, k5, k6, k7, k8, k9, k10⟩ := id h
  cases op with
  | nil =>
    repeat (refine ev_s rfl (?_ : Ev _ _ _ _ _ _))
    rw [k6]
    refine ev_ifT rfl (show nI ([] : List (Nat × Nat)).length = 0 from rfl) ?_
    repeat (refine ev_s rfl (?_ : Ev _ _ _ _ _ _))
    exact ev_reti rfl rfl trivial rfl hq
  | cons o r =>
    obtain ⟨s, st⟩ := o
    obtain ⟨t1, t2, t3, t4, t5, t6, t7, t8⟩ := h.top
    have c4 : (nI (s - 2) = 4) ↔ s = 6 := (nI_eq (b := 4) (by omega) (by decide)).trans (by omega)
    repeat (refine ev_s rfl (?_ : Ev _ _ _ _ _ _))
    rw [t1]
    refine ev_ifF rfl (nI_ne0 (by omega) (by omega)) ?_
    repeat (refine ev_s rfl (?_ : Ev _ _ _ _ _ _))
    rw [t1, nI_pred]
    refine ev_iald rfl rfl (vp_in_nI t2 (by decide)) ?_
    rw [nI_clamp (by omega), t3]
    repeat (refine ev_s rfl (?_ : Ev _ _ _ _ _ _))
    refine ev_ic rfl (fun hc => ?_) (fun hc => ?_)
    · have e6 := c4.mp hc
      have em : rMay ((s, st) :: r) none = false := by simp [rMay, rSt, e6]
      rw [em] at hq
      repeat (refine ev_s rfl (?_ : Ev _ _ _ _ _ _))
      exact ev_reti rfl rfl trivial rfl hq
    · have e6 : ¬ s = 6 := fun h9 => hc (c4.mpr h9)
      have em : rMay ((s, st) :: r) none = true := by
        have : ¬ s = 1 := by omega
        simp [rMay, rSt, e6, this]
      rw [em] at hq
      repeat (refine ev_s rfl (?_ : Ev _ _ _ _ _ _))
      exact ev_reti rfl rfl trivial rfl hq
/-- other memory -/
theorem RdM.core (h : RdM t lim fns M U ψ H n p op pe nm) {M' : PM} {U' : Nat → Bool} {ψ' : Nat → Nat} {H' : AHp} {n' : Nat} {pe' : List AV} {ids : List Nat} (hs : SameM ids M M') (hd : ∀ k ∈ [1, 2, 10, 12, 13, 121, 122, 128], k ∉ ids) (hC : CoreM M' U' ψ' nm.length lim H' n' (aS 0) (aS 0) (aS 0) fns pe' [] []) (ho : OpOk op pe'.length) (hl : pe'.length ≤ p) : RdM t lim fns M' U' ψ' H' n' p op pe' nm := by
  obtain ⟨k1, k2, k3, k4, k5, k6, k7, k8, k9, k10⟩ := h
  exact ⟨hC, k2.same hs (hd 1 (by decide)) (hd 2 (by decide)), k3.same hs (hd 10 (by decide)) (hd 121 (by decide)), (hs.2 22 (hd 122 (by decide))).1.trans k4, k5, (hs.2 28 (hd 128 (by decide))).1.trans k6, k7.same hs (hd 12 (by decide)) (hd 13 (by decide)), k8, ho, hl⟩
/-- a fault behind a throw -/
theorem RdM.thr (h : RdM t lim fns M U ψ H n p op pe nm) {c q : Nat} (h0 : 0 < c) (h1 : c < 14) (h2 : q ≤ 2000) : RdX lim fns (mI (mI M 0 23 (nI q)) 0 8 (nI c)) nm H n c q := h.flt h0 h1 h2
theorem k_quotes {d lt : Nat} {v : Int64} {a : AV} (h : RdM t lim fns M U ψ H n p op pe nm) (hv : RTv U ψ nm.length v a) (hlt : lt ≤ 2000) {Q : Option (Option Value) → PM → Prop} {r1 : AV → AHp → Nat → RR} {P : RR → Prop}
    (hP : P (aCons lim fns (rts (aS 0) (aS 0) (aS 0) pe [] []) a (aS 0) H n (fun c H n => aCons lim fns (rts (aS 0) (aS 0) (aS 0) pe [] []) (aS 2) c H n r1 (fun H n => .inr (8, lt, nm, H, n))) (fun H n => .inr (8, lt, nm, H, n))))
    (hok : ∀ M' U' ψ' v' a' H' n', P (r1 a' H' n') → RdM t lim fns M' U' ψ' H' n' p op pe nm → RTv U' ψ' nm.length v' a' → SameM IDXs M M' → Q (some (some (.long v'))) M')
    (hno : ∀ M' H' n', P (.inr (8, lt, nm, H', n')) → RdX lim fns M' nm H' n' 8 lt → SameM IDX M M' → Q none M') : SM (d + 7) 136 [.ref 0, .long v, .int (nI lt)] M Q := by
  refine ⟨qX10_quotes, rfl, ⟨Nat.le_of_ble_eq_true rfl, rfl, 0, _, _, rfl, rfl⟩, ?_⟩
  show Ev (BM (d + 6) qX10_quotes) Q 0 [some (.ref 0), some (.long v), none, some (.int (nI lt)), none, none] [] M
  have hn23 : 23 ≤ nm.length := h.1.2.2.2.2.2.2.2.2.2.2.1
  have bad : ∀ (M1 : PM) (U1 : Nat → Bool) (ψ1 : Nat → Nat) (H1 : AHp) (n1 : Nat) (z4 z5 : Option Value), RdM t lim fns M1 U1 ψ1 H1 n1 p op pe nm → P (.inr (8, lt, nm, H1, n1)) → SameM IDX M M1 → Ev (BM (d + 6) qX10_quotes) Q 28 [some (.ref 0), some (.long v), none, some (.int (nI lt)), z4, z5] [] M1 := fun M1 U1 ψ1 H1 n1 z4 z5 hR hP hs => by
    repeat (refine ev_s rfl (?_ : Ev _ _ _ _ _ _))
    refine ev_cv rfl (as := [.ref 0, .int 8, .int (nI lt)]) rfl rfl (Nat.le_of_ble_eq_true rfl) ?_
    refine k_failsAt ?_
    show Ev _ _ _ _ [.ref 5] _
    exact ev_s rfl (hno _ H1 n1 hP (hR.flt (c := 8) (by decide) (by decide) hlt) (hs.t2 RdM.fs (by decide)))
  repeat (refine ev_s rfl (?_ : Ev _ _ _ _ _ _))
  refine ev_cv rfl (as := [.ref 0, .long v, .long (-1), .long (-1)]) rfl rfl (Nat.le_of_ble_eq_true rfl) ?_
  refine k_cons (rt := rts (aS 0) (aS 0) (aS 0) pe [] []) h.1 hv (RTv.nil (by omega)) (RTv.nil (by omega)) (fun i => rm_eq (frs := []) i) (fun hlt1 M1 U1 ψ1 v1 g1 g2 g3 g4 => ?_) (fun hge M1 U1 g1 g2 g3 => ?_)
  · rw [aCons_ok hlt1] at hP
    have hR1 := h.core g4 (by decide) g1 h.2.2.2.2.2.2.2.2.1 h.2.2.2.2.2.2.2.2.2
    have s1 : SameM IDXs M M1 := g4.sub (by decide)
    show Ev _ _ _ _ [.long v1] _
    repeat (refine ev_s rfl (?_ : Ev _ _ _ _ _ _))
    refine ev_cv rfl (as := [.ref 0, .long (rS 2), .long v1, .long (-1)]) rfl rfl (Nat.le_of_ble_eq_true rfl) ?_
    refine k_cons (rt := rts (aS 0) (aS 0) (aS 0) pe [] []) g1 (RTv.sym (k := 2) (by omega) (by decide)) g2 (RTv.nil (by omega)) (fun i => rm_eq (frs := []) i) (fun hlt2 M2 U2 ψ2 v2 g5 g6 g7 g8 => ?_) (fun hge M2 U2 g5 g6 g7 => ?_)
    · rw [aCons_ok hlt2] at hP
      show Ev _ _ _ _ [.long v2] _
      exact ev_retl rfl rfl (hok M2 U2 ψ2 v2 _ _ _ hP (hR1.core g8 (by decide) g5 hR1.2.2.2.2.2.2.2.2.1 hR1.2.2.2.2.2.2.2.2.2) g6 (s1.t2 g8 (by decide)))
    · rw [aCons_no (by omega)] at hP
      exact bad M2 U2 ψ1 _ _ _ _ (hR1.core g7 (by decide) g5 hR1.2.2.2.2.2.2.2.2.1 hR1.2.2.2.2.2.2.2.2.2) hP (s1.t2 g7 (by decide))
  · rw [aCons_no (by omega)] at hP
    exact bad M1 U1 ψ _ _ _ _ (h.core g3 (by decide) g1 h.2.2.2.2.2.2.2.2.1 h.2.2.2.2.2.2.2.2.2) hP (g3.sub (by decide))
/-- a shorter row -/
theorem RowM.cut {as : List AV} {cf ar cap k : Nat} {M' : PM} {ns : Nat} {ids : List Nat} (h : RowM M U ψ ns cf ar cap as) (hk : k ≤ as.length) (hs : SameM ids M M') (h0 : ar ≠ 0) (h1 : ar ∉ ids) (hc : M'.1 0 cf = nI k) : RowM M' U ψ ns cf ar cap (as.take k) := by
  have e := (hs.1 ar h0 h1).2
  have := h.2.1
  refine ⟨by rw [hc, List.length_take]; congr 1; omega, by rw [List.length_take]; omega, fun i a hi => ?_⟩
  rw [e]
  rw [List.getElem?_take] at hi
  split at hi
  · exact h.2.2 i a hi
  · cases hi
theorem CoreM.setPe {ns : Nat} {pe' : List AV} {M' : PM} {ids : List Nat} (h : CoreM M U ψ ns lim H n (aS 0) (aS 0) (aS 0) fns pe [] []) (hs : SameM ids M M') (hd : ∀ k ∈ [3, 4, 6, 7, 8, 14, 15, 16, 17, 18, 19, 20, 105, 115, 116, 117, 118, 129, 130, 131, 134, 141], k ∉ ids) (hr : RowM M' U ψ ns 25 11 2100 pe') : CoreM M' U ψ ns lim H n (aS 0) (aS 0) (aS 0) fns pe' [] [] := by
  obtain ⟨c1, c2, c3, c4, c5, c6, c7, c8, c9, c10, c11⟩ := h
  exact ⟨c1.same hs (fun k hk => hd k (by simp at hk ⊢; omega)), c2, by rw [(hs.2 29 (hd 129 (by decide))).2]; exact c3, by rw [(hs.2 30 (hd 130 (by decide))).2]; exact c4, by rw [(hs.2 31 (hd 131 (by decide))).2]; exact c5, c6.kept (RA := fun _ => True) (H := H) KeptM.rf (fun _ _ => trivial) hs (hd 3 (by decide)) (hd 4 (by decide)), hr, c8.kept (RA := fun _ => True) (H := H) KeptM.rf (fun _ _ => trivial) hs (by decide) (hd 14 (by decide)) (hd 134 (by decide)), c9.kept (RA := fun _ => True) (H := H) KeptM.rf (fun _ _ => trivial) hs (fun k hk => hd k (by simp at hk ⊢; omega)), (hs.2 5 (hd 105 (by decide))).1.trans c10, c11⟩
end KD2

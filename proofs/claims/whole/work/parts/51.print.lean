/-! Printing, abstractly, and the class's printer. -/
theorem bm64 {k : Nat} (h : k < 2 ^ 63) : Int.bmod (k : Int) (2 ^ 64) = k := by
  unfold Int.bmod
  have e : ((k : Int) % ((2 ^ 64 : Nat) : Int)) = k := Int.emod_eq_of_lt (by omega) (by omega)
  rw [e, if_pos (by omega)]
theorem lN_div {a b : Nat} (ha : a < 2 ^ 63) (hb : b < 2 ^ 63) : lN a / lN b = lN (a / b) := by
  have hk : a / b < 2 ^ 63 := Nat.lt_of_le_of_lt (Nat.div_le_self _ _) ha
  apply Int64.toInt_inj.mp
  rw [Int64.toInt_div, pk_lT ha, pk_lT hb, pk_lT hk, ← Int.ofNat_tdiv]
  exact bm64 hk
theorem lN_mod {a b : Nat} (ha : a < 2 ^ 63) (hb : b < 2 ^ 63) : lN a - lN a / lN b * lN b = lN (a % b) := by
  rw [lN_div ha hb, lN_mul, lN_sub (Nat.div_mul_le_self a b)]
  congr 1
  have := Nat.mod_add_div a b
  rw [Nat.mul_comm] at this
  omega
/-- a number's digit, if it has one there -/
def decE (s : Nat) (e : Nat) : List Nat := if 10 ^ e ≤ s ∨ e = 0 then [48 + s / 10 ^ e % 10] else []
def decT (s : Nat) : Nat → List Nat
  | 0 => decE s 0
  | e + 1 => decE s (e + 1) ++ decT s e
def numT (n : Int32) : List Nat := (if n < 0 then [45] else []) ++ decT n.toInt.natAbs 9
def atomT (nm : List (List Nat)) : AV → List Nat
  | .inl k => (nm[k]?).getD []
  | .inr (.inl n) => numT n
  | .inr (.inr _) => []
def endT (nm : List (List Nat)) (a : AV) : List Nat := if a = aS 0 then [41] else [32, 46, 32] ++ (atomT nm a ++ [41])
/-- behind an atom: what is written, and what comes then -/
def pClose (nm : List (List Nat)) (H : AHp) : List AV → List Nat × Option (AV × List AV)
  | [] => ([], none)
  | .inr (.inr i) :: rs => ([32], some ((H i).1, (H i).2 :: rs))
  | a :: rs => (endT nm a ++ (pClose nm H rs).1, (pClose nm H rs).2)
theorem pClose_cell {nm : List (List Nat)} {H : AHp} {i : Nat} {rs : List AV} : pClose nm H (aC i :: rs) = ([32], some ((H i).1, (H i).2 :: rs)) := rfl
theorem pClose_atom {nm : List (List Nat)} {H : AHp} {a : AV} {rs : List AV} (h : ∀ i, a ≠ aC i) : pClose nm H (a :: rs) = (endT nm a ++ (pClose nm H rs).1, (pClose nm H rs).2) := by
  match a, h with
  | .inl _, _ => rfl
  | .inr (.inl _), _ => rfl
  | .inr (.inr i), h => exact (h i rfl).elim
def pTxt (nm : List (List Nat)) (H : AHp) : Nat → AV → List AV → List Nat
  | 0, _, _ => []
  | m + 1, .inr (.inr i), rs => 40 :: pTxt nm H m (H i).1 ((H i).2 :: rs)
  | m + 1, a, rs => atomT nm a ++ ((pClose nm H rs).1 ++ match (pClose nm H rs).2 with
    | none => []
    | some (b, rs') => pTxt nm H m b rs')
theorem pTxt_cell {nm : List (List Nat)} {H : AHp} {m i : Nat} {rs : List AV} : pTxt nm H (m + 1) (aC i) rs = 40 :: pTxt nm H m (H i).1 ((H i).2 :: rs) := rfl
theorem pTxt_atom {nm : List (List Nat)} {H : AHp} {m : Nat} {a : AV} {rs : List AV} (h : ∀ i, a ≠ aC i) : pTxt nm H (m + 1) a rs = atomT nm a ++ ((pClose nm H rs).1 ++ match (pClose nm H rs).2 with
    | none => []
    | some (b, rs') => pTxt nm H m b rs') := by
  match a, h with
  | .inl _, _ => rfl
  | .inr (.inl _), _ => rfl
  | .inr (.inr i), h => exact (h i rfl).elim
/-- what a page holds of a text -/
abbrev pg (t : List Nat) : List Nat := t.take 2000
theorem addB_pg {t : List Nat} {v : Nat} : addB (pg t) v = pg (t ++ [v]) := by
  unfold addB pg
  rw [List.length_take]
  by_cases h : t.length < 2000
  · rw [if_pos (by omega), List.take_of_length_le (by omega), List.take_of_length_le (by simp; omega)]
  · rw [if_neg (by omega), List.take_append_of_le_length (by omega)]
/-- what the class's printer may write to -/
abbrev IDP : List Nat := [4, 5, 32, 33]
theorem Same.p {M M' M'' : PM} (h : Same IDP M M') (h' : Same IDP M' M'') : Same IDP M M'' := (h.tr h').sub (fun k hk => by rw [List.mem_append] at hk; exact hk.elim id id)
section PR
variable {t : List Nat} {M : PM} {fr : List Nat} {ψ : Nat → Nat} {H : AHp} {n lim : Nat} {fns : List (Option AV)} {nm : List (List Nat)} {rs : List AV}
theorem oct_nI {c : Nat} (h : c < 256) : oct (nI c) = c := by
  have e : (nI c).toBitVec = BitVec.ofNat 32 c := rfl
  unfold oct
  rw [e, BitVec.toNat_ofNat]
  omega
/-- a byte goes to the page -/
theorem pr_add {d c : Nat} (hB : BytesIs M 4 5 (pg t)) (hc : c < 256) {Q : Option (Option Value) → PM → Prop} (hq : ∀ M', BytesIs M' 4 5 (pg (t ++ [c])) → Same [4, 5] M M' → Q (some none) M') : SC (d + 1) 2 [.ref 4, .int (nI c)] M Q := by
  refine bytes_add b_page hB (fun M' g1 g2 => hq M' ?_ g2)
  rw [oct_nI hc, addB_pg] at g1
  exact g1
theorem abs_l {x : Int32} : (if (0 : Int64) < x.toInt64 then x.toInt64 else -x.toInt64) = lN x.toInt.natAbs ∧ x.toInt.natAbs ≤ 2147483648 := by
  have h1 := Int32.le_toInt x
  have h2 := Int32.toInt_lt x
  refine ⟨?_, by omega⟩
  have e0 : (0 : Int64).toInt = 0 := by decide
  have ex : x.toInt64.toInt = x.toInt := Int32.toInt_toInt64 x
  apply Int64.toInt_inj.mp
  rw [pk_lT (by omega)]
  by_cases h : (0 : Int64) < x.toInt64
  · rw [if_pos h, ex]
    rw [Int64.lt_iff_toInt_lt, e0, ex] at h
    omega
  · rw [if_neg h]
    rw [Int64.lt_iff_toInt_lt, e0, ex] at h
    rw [Int64.toInt_neg, ex]
    have e : (-x.toInt) = ((x.toInt.natAbs : Nat) : Int) := by omega
    rw [e]
    exact bm64 (by omega)
theorem pr_number {d : Nat} {x : Int32} (hB : BytesIs M 4 5 (pg t)) {Q : Option (Option Value) → PM → Prop} (hq : ∀ M', BytesIs M' 4 5 (pg (t ++ numT x)) → Same [4, 5] M M' → Q (some none) M') : SC (d + 2) 62 [.ref 31, .int x] M Q := by
  refine ⟨qX3_printNumber, rfl, ⟨Nat.le_of_ble_eq_true rfl, rfl, 31, _, _, rfl, rfl⟩, ?_⟩
  show Ev (BC (d + 1) qX3_printNumber) Q 0 [some (.ref 31), some (.int x), none, none, none, none] [] M
  obtain ⟨ha, hab⟩ := abs_l (x := x)
  have loop : ∀ (e : Nat) (t1 : List Nat) (M1 : PM), e ≤ 9 → BytesIs M1 4 5 (pg t1) → Same [4, 5] M M1 → t1 ++ decT x.toInt.natAbs e = t ++ numT x → Ev (BC (d + 1) qX3_printNumber) Q 24 [some (.ref 31), some (.int x), some (.long (lN x.toInt.natAbs)), none, some (.long (lN (10 ^ e))), none] [] M1 := by
    intro e
    generalize x.toInt.natAbs = s at *
    -- the next unit
    have down : ∀ (e : Nat) (t1 : List Nat) (M1 : PM), e ≤ 9 → (∀ M2, e = 0 → M2 = M1 → Q (some none) M2) → (∀ e', e = e' + 1 → Ev (BC (d + 1) qX3_printNumber) Q 24 [some (.ref 31), some (.int x), some (.long (lN s)), none, some (.long (lN (10 ^ e'))), none] [] M1) → Ev (BC (d + 1) qX3_printNumber) Q 64 [some (.ref 31), some (.int x), some (.long (lN s)), none, some (.long (lN (10 ^ e))), none] [] M1 := by
      intro e t1 M1 he h0 h1
      have hpw : 10 ^ e ≤ 10 ^ 9 := Nat.pow_le_pow_right (by decide) he
      iterate 2 (refine ev_s rfl (?_ : Ev _ _ _ _ _ _))
      refine ev_s rfl ⟨(by decide : ¬ (10 : Int64) = 0), ?_⟩
      rw [show (10 : Int64) = lN 10 from rfl, lN_div (by omega) (by decide)]
      show Ev _ _ _ _ [.long (lN (10 ^ e / 10))] _
      iterate 2 (refine ev_s rfl (?_ : Ev _ _ _ _ _ _))
      cases e with
      | zero =>
        iterate 3 (refine ev_s rfl (?_ : Ev _ _ _ _ _ _))
        refine ev_lifT rfl (show lN (10 ^ 0 / 10) ≤ 0 by decide) ?_
        exact ev_retv rfl rfl (h0 M1 rfl rfl)
      | succ e' =>
        rw [show 10 ^ (e' + 1) / 10 = 10 ^ e' by rw [Nat.pow_succ, Nat.mul_div_cancel _ (by decide)]]
        exact h1 e' rfl
    -- a unit
    have one : ∀ (e : Nat) (t1 : List Nat) (M1 : PM), e ≤ 9 → BytesIs M1 4 5 (pg t1) → Same [4, 5] M M1 → (∀ M2, BytesIs M2 4 5 (pg (t1 ++ decE s e)) → Same [4, 5] M M2 → Ev (BC (d + 1) qX3_printNumber) Q 64 [some (.ref 31), some (.int x), some (.long (lN s)), none, some (.long (lN (10 ^ e))), none] [] M2) → Ev (BC (d + 1) qX3_printNumber) Q 24 [some (.ref 31), some (.int x), some (.long (lN s)), none, some (.long (lN (10 ^ e))), none] [] M1 := by
      intro e t1 M1 he hB hs h64
      have hpw : 10 ^ e ≤ 10 ^ 9 := Nat.pow_le_pow_right (by decide) he
      have hpo : 0 < 10 ^ e := Nat.pow_pos (by decide)
      have c1 : ((10 : Nat) ^ e = 1) ↔ e = 0 := by
        constructor
        · intro h9
          cases e with
          | zero => rfl
          | succ e' =>
            rw [Nat.pow_succ] at h9
            have := Nat.pow_pos (n := e') (show 0 < 10 by decide)
            omega
        · intro h9; rw [h9]
      -- a digit is written
      have dig : (10 ^ e ≤ s ∨ e = 0) → Ev (BC (d + 1) qX3_printNumber) Q 45 [some (.ref 31), some (.int x), some (.long (lN s)), none, some (.long (lN (10 ^ e))), none] [] M1 := fun h9 => by
        iterate 5 (refine ev_s rfl (?_ : Ev _ _ _ _ _ _))
        refine ev_s rfl ⟨(show ¬ lN (10 ^ e) = 0 from fun h8 => by
          have := congrArg Int64.toInt h8
          rw [pk_lT (by omega), show (0 : Int64).toInt = 0 by decide] at this
          omega), ?_⟩
        rw [lN_div (by omega) (by omega)]
        show Ev _ _ _ _ [.long (lN (s / 10 ^ e)), .int 48, .ref 4] _
        iterate 1 (refine ev_s rfl (?_ : Ev _ _ _ _ _ _))
        have hdl : s / 10 ^ e < 2 ^ 63 := Nat.lt_of_le_of_lt (Nat.div_le_self _ _) (by omega)
        refine ev_s rfl ⟨(by decide : ¬ (10 : Int64) = 0), ?_⟩
        rw [show (10 : Int64) = lN 10 from rfl, lN_mod hdl (by decide)]
        show Ev _ _ _ _ [.long (lN (s / 10 ^ e % 10)), .int 48, .ref 4] _
        repeat (refine ev_s rfl (?_ : Ev _ _ _ _ _ _))
        rw [lN_i32, show (48 : Int32) = nI 48 from rfl, nI_add]
        have hm10 : s / 10 ^ e % 10 < 10 := Nat.mod_lt _ (by decide)
        refine ev_cv rfl (as := [.ref 4, .int (nI (48 + s / 10 ^ e % 10))]) rfl rfl (Nat.le_of_ble_eq_true rfl) ?_
        refine pr_add hB (by omega) (fun M2 g1 g2 => ?_)
        show Ev _ _ _ _ [] _
        refine h64 M2 ?_ ((hs.tr g2).sub (by decide))
        unfold decE
        rw [if_pos h9]
        exact g1
      iterate 3 (refine ev_s rfl (?_ : Ev _ _ _ _ _ _))
      have hpos : ¬ lN (10 ^ e) ≤ 0 := fun h8 => by
        rw [Int64.le_iff_toInt_le, pk_lT (by omega), show (0 : Int64).toInt = 0 by decide] at h8
        omega
      refine ev_lifF rfl hpos ?_
      iterate 3 (refine ev_s rfl (?_ : Ev _ _ _ _ _ _))
      refine ev_lif rfl (fun hc => dig (Or.inl ((pk_lLE (by omega) (by omega)).mp hc))) (fun hc => ?_)
      have hlt : ¬ 10 ^ e ≤ s := fun h9 => hc ((pk_lLE (by omega) (by omega)).mpr h9)
      iterate 3 (refine ev_s rfl (?_ : Ev _ _ _ _ _ _))
      refine ev_lif rfl (fun hc2 => ?_) (fun hc2 => dig (Or.inr (c1.mp ?_)))
      · have h1 : ¬ e = 0 := fun h9 => hc2 (by rw [h9]; rfl)
        refine h64 M1 ?_ hs
        unfold decE
        rw [if_neg (by omega), List.append_nil]
        exact hB
      · have h8 : lN (10 ^ e) = lN 1 := Decidable.not_not.mp hc2
        have := congrArg Int64.toInt h8
        rw [pk_lT (by omega), pk_lT (by decide)] at this
        omega
    induction e with
    | zero =>
      intro t1 M1 he hB hs ht
      refine one 0 t1 M1 he hB hs (fun M2 g1 g2 => ?_)
      refine down 0 t1 M2 he (fun M3 _ h9 => ?_) (fun e' h9 => by omega)
      subst h9
      refine hq M3 ?_ g2
      rw [← ht]
      exact g1
    | succ e ih =>
      intro t1 M1 he hB hs ht
      refine one (e + 1) t1 M1 he hB hs (fun M2 g1 g2 => ?_)
      refine down (e + 1) t1 M2 he (fun M3 h9 => by omega) (fun e' h9 => ?_)
      have ee : e' = e := by omega
      subst ee
      refine ih _ M2 (by omega) g1 g2 ?_
      rw [← ht, List.append_assoc]
      rfl
  have from13 : ∀ M1, BytesIs M1 4 5 (pg (t ++ if x < 0 then [45] else [])) → Same [4, 5] M M1 → Ev (BC (d + 1) qX3_printNumber) Q 13 [some (.ref 31), some (.int x), none, none, none, none] [] M1 := fun M1 hB hs => by
    iterate 2 (refine ev_s rfl (?_ : Ev _ _ _ _ _ _))
    refine ev_s rfl ?_
    unfold p_ex
    dsimp only
    rw [if_neg (by decide), if_pos rfl]
    refine ⟨Nat.le_of_ble_eq_true rfl, ?_⟩
    rw [ha]
    show Ev _ _ _ _ [.long (lN x.toInt.natAbs)] _
    iterate 3 (refine ev_s rfl (?_ : Ev _ _ _ _ _ _))
    refine loop 9 _ M1 (by decide) hB hs ?_
    unfold numT
    rw [List.append_assoc]
  repeat (refine ev_s rfl (?_ : Ev _ _ _ _ _ _))
  refine ev_if rfl (fun hc => ?_) (fun hc => ?_)
  · refine from13 M ?_ Same.rf
    rw [if_neg (show ¬ x < 0 from Int32.not_lt.mpr hc), List.append_nil]
    exact hB
  · repeat (refine ev_s rfl (?_ : Ev _ _ _ _ _ _))
    refine ev_cv rfl (as := [.ref 4, .int (nI 45)]) rfl rfl (Nat.le_of_ble_eq_true rfl) ?_
    refine pr_add hB (by decide) (fun M2 g1 g2 => ?_)
    show Ev _ _ _ _ [] _
    refine from13 M2 ?_ g2
    rw [if_pos (show x < 0 from Int32.not_le.mp hc)]
    exact g1
theorem pr_atom {d : Nat} {v : Int64} {a : AV} (hB : BytesIs M 4 5 (pg t)) (hS : SymIs M nm) (hv : Tv fr ψ nm.length v a) (hn : ∀ i, a ≠ aC i) {Q : Option (Option Value) → PM → Prop} (hq : ∀ M', BytesIs M' 4 5 (pg (t ++ atomT nm a)) → Same [4, 5] M M' → Q (some none) M') : SC (d + 3) 61 [.ref 31, .long v] M Q := by
  refine ⟨qX3_printAtom, rfl, ⟨Nat.le_of_ble_eq_true rfl, rfl, 31, _, _, rfl, rfl⟩, ?_⟩
  show Ev (BC (d + 2) qX3_printAtom) Q 0 [some (.ref 31), some (.long v), none, none, none] [] M
  repeat (refine ev_s rfl (?_ : Ev _ _ _ _ _ _))
  refine ev_cs rfl (by decide) (by decide) (as := [.long v]) rfl rfl (Nat.le_of_ble_eq_true rfl) ?_
  refine v_isNumber (fun h9 => ?_) (fun h9 => ?_)
  · obtain ⟨x, hx⟩ := hv.num.mp h9
    subst hx
    have ev := hv.isN
    subst ev
    show Ev _ _ _ _ [.int 1] _
    refine ev_ifF rfl (show ¬ (1 : Int32) = 0 by decide) ?_
    repeat (refine ev_s rfl (?_ : Ev _ _ _ _ _ _))
    refine ev_cs rfl (by decide) (by decide) (as := [.long (ofN x)]) rfl rfl (Nat.le_of_ble_eq_true rfl) ?_
    refine v_number ?_
    rw [ofN_32]
    show Ev _ _ _ _ [.int x, .ref 31] _
    refine ev_cv rfl (as := [.ref 31, .int x]) rfl rfl (Nat.le_of_ble_eq_true rfl) ?_
    refine pr_number hB (fun M2 g1 g2 => ?_)
    show Ev _ _ _ _ [] _
    exact ev_retv rfl rfl (hq M2 g1 g2)
  · have hk : ∃ k, k < nm.length ∧ k < 300 ∧ v = lN k ∧ a = aS k := by
      rcases hv.view with h8 | ⟨x, h7, h8⟩ | ⟨c, _, _, _, h8⟩
      · exact h8
      · exact (h9 (hv.num.mpr ⟨x, h8⟩)).elim
      · exact (hn _ h8).elim
    obtain ⟨k, k1, k2, k3, k4⟩ := hk
    subst k4 k3
    obtain ⟨w, hw⟩ : ∃ w, nm[k]? = some w := ⟨nm[k], List.getElem?_eq_getElem k1⟩
    have hw10 := (hS.2.2.1 k w hw)
    have eT : atomT nm (aS k) = w := by show (nm[k]?).getD [] = w; rw [hw]; rfl
    rw [eT] at hq
    have loop : ∀ (m j : Nat) (M1 : PM), j + m = w.length → BytesIs M1 4 5 (pg (t ++ w.take j)) → Same [4, 5] M M1 → Ev (BC (d + 2) qX3_printAtom) Q 22 [some (.ref 31), some (.long (lN k)), none, some (.int (nI k)), some (.int (nI j))] [] M1 := by
      intro m
      induction m with
      | zero =>
        intro j M1 hj hB1 hs
        repeat (refine ev_s rfl (?_ : Ev _ _ _ _ _ _))
        refine ev_cv rfl (as := [.ref 6, .int (nI k)]) rfl rfl (Nat.le_of_ble_eq_true rfl) ?_
        refine sym_lengthOf (hS.same hs (by decide) (by decide) (by decide)) hw ?_
        show Ev _ _ _ _ [.int (nI w.length), .int (nI j)] _
        refine ev_icT rfl (show nI w.length ≤ nI j from nI_le (by omega) (by omega)) ?_
        rw [List.take_of_length_le (by omega)] at hB1
        exact ev_retv rfl rfl (hq M1 hB1 hs)
      | succ m ih =>
        intro j M1 hj hB1 hs
        obtain ⟨c, hc⟩ : ∃ c, w[j]? = some c := ⟨w[j], List.getElem?_eq_getElem (by omega)⟩
        have hc128 := (hw10.2.2 j c hc).1
        have hS1 := hS.same hs (by decide) (by decide) (by decide)
        repeat (refine ev_s rfl (?_ : Ev _ _ _ _ _ _))
        refine ev_cv rfl (as := [.ref 6, .int (nI k)]) rfl rfl (Nat.le_of_ble_eq_true rfl) ?_
        refine sym_lengthOf hS1 hw ?_
        show Ev _ _ _ _ [.int (nI w.length), .int (nI j)] _
        refine ev_icF rfl (show ¬ nI w.length ≤ nI j from fun h9 => by have := (nI_leI (by omega) (by omega)).mp h9; omega) ?_
        repeat (refine ev_s rfl (?_ : Ev _ _ _ _ _ _))
        refine ev_cv rfl (as := [.ref 6, .int (nI k), .int (nI j)]) rfl rfl (Nat.le_of_ble_eq_true rfl) ?_
        refine sym_signOf hS1 hw hc ?_
        show Ev _ _ _ _ [.int (nI c), .ref 4] _
        refine ev_cv rfl (as := [.ref 4, .int (nI c)]) rfl rfl (Nat.le_of_ble_eq_true rfl) ?_
        refine pr_add hB1 (by omega) (fun M2 g1 g2 => ?_)
        show Ev _ _ _ _ [] _
        iterate 2 (refine ev_s rfl (?_ : Ev _ _ _ _ _ _))
        rw [nI_1]
        refine ih (j + 1) M2 (by omega) ?_ ((hs.tr g2).sub (by decide))
        have e2 : w.take (j + 1) = w.take j ++ [c] := by
          rw [List.take_succ, hc]; rfl
        rw [e2, ← List.append_assoc]
        exact g1
    show Ev _ _ _ _ [.int 0] _
    refine ev_ifT rfl (show (0 : Int32) = 0 from rfl) ?_
    iterate 5 (refine ev_s rfl (?_ : Ev _ _ _ _ _ _))
    rw [lN_i32]
    refine loop w.length 0 M (by omega) ?_ Same.rf
    rw [List.take_zero, List.append_nil]
    exact hB
theorem pr_closeList {d : Nat} {v : Int64} {a : AV} (hB : BytesIs M 4 5 (pg t)) (hS : SymIs M nm) (hv : Tv fr ψ nm.length v a) (hn : ∀ i, a ≠ aC i) {Q : Option (Option Value) → PM → Prop} (hq : ∀ M', BytesIs M' 4 5 (pg (t ++ endT nm a)) → Same [4, 5] M M' → Q (some none) M') : SC (d + 4) 60 [.ref 31, .long v] M Q := by
  refine ⟨qX3_closeList, rfl, ⟨Nat.le_of_ble_eq_true rfl, rfl, 31, _, _, rfl, rfl⟩, ?_⟩
  show Ev (BC (d + 3) qX3_closeList) Q 0 [some (.ref 31), some (.long v), none] [] M
  have fin : ∀ (t1 : List Nat) (M1 : PM), BytesIs M1 4 5 (pg t1) → Same [4, 5] M M1 → t1 ++ [41] = t ++ endT nm a → Ev (BC (d + 3) qX3_closeList) Q 38 [some (.ref 31), some (.long v), none] [] M1 := fun t1 M1 hB1 hs ht => by
    repeat (refine ev_s rfl (?_ : Ev _ _ _ _ _ _))
    refine ev_cv rfl (as := [.ref 4, .int (nI 41)]) rfl rfl (Nat.le_of_ble_eq_true rfl) ?_
    refine pr_add hB1 (by decide) (fun M2 g1 g2 => ?_)
    show Ev _ _ _ _ [] _
    refine ev_retv rfl rfl (hq M2 ?_ ((hs.tr g2).sub (by decide)))
    rw [← ht]
    exact g1
  have c0 : v = 0 ↔ a = aS 0 := hv.eqS (k := 0) (by decide)
  repeat (refine ev_s rfl (?_ : Ev _ _ _ _ _ _))
  refine ev_lif rfl (fun hc => ?_) (fun hc => ?_)
  · refine fin t M hB Same.rf ?_
    unfold endT
    rw [if_pos (c0.mp hc)]
  · have na : ¬ a = aS 0 := fun h9 => hc (c0.mpr h9)
    repeat (refine ev_s rfl (?_ : Ev _ _ _ _ _ _))
    refine ev_cv rfl (as := [.ref 4, .int (nI 32)]) rfl rfl (Nat.le_of_ble_eq_true rfl) ?_
    refine pr_add hB (by decide) (fun M2 g1 g2 => ?_)
    show Ev _ _ _ _ [] _
    repeat (refine ev_s rfl (?_ : Ev _ _ _ _ _ _))
    refine ev_cv rfl (as := [.ref 4, .int (nI 46)]) rfl rfl (Nat.le_of_ble_eq_true rfl) ?_
    refine pr_add g1 (by decide) (fun M3 g3 g4 => ?_)
    show Ev _ _ _ _ [] _
    repeat (refine ev_s rfl (?_ : Ev _ _ _ _ _ _))
    refine ev_cv rfl (as := [.ref 4, .int (nI 32)]) rfl rfl (Nat.le_of_ble_eq_true rfl) ?_
    refine pr_add g3 (by decide) (fun M4 g5 g6 => ?_)
    have s4 : Same [4, 5] M M4 := ((g2.tr g4).tr g6).sub (by decide)
    show Ev _ _ _ _ [] _
    repeat (refine ev_s rfl (?_ : Ev _ _ _ _ _ _))
    refine ev_cv rfl (as := [.ref 31, .long v]) rfl rfl (Nat.le_of_ble_eq_true rfl) ?_
    refine pr_atom g5 (hS.same s4 (by decide) (by decide) (by decide)) hv hn (fun M5 g7 g8 => ?_)
    show Ev _ _ _ _ [] _
    refine fin _ M5 g7 ((s4.tr g8).sub (by decide)) ?_
    unfold endT
    rw [if_neg na]
    simp
theorem r_rests : isRow 32 33 2000 := ⟨rfl, rfl, by decide, by decide⟩
/-- the class at printing -/
def PrC (M : PM) (fr : List Nat) (ψ : Nat → Nat) (nm : List (List Nat)) (H : AHp) (n lim : Nat) (fns : List (Option AV)) (t : List Nat) (rs : List AV) : Prop := CoreA M fr ψ nm.length lim H n (aS 0) (aS 0) (aS 0) fns [] [] [] ∧ SymIs M nm ∧ BytesIs M 4 5 (pg t) ∧ RowA M fr ψ nm.length 32 33 2000 rs.reverse
theorem PrC.page (h : PrC M fr ψ nm H n lim fns t rs) {M' : PM} {t' : List Nat} (hs : Same [4, 5] M M') (hB : BytesIs M' 4 5 (pg t')) : PrC M' fr ψ nm H n lim fns t' rs := ⟨h.1.same hs (by decide), h.2.1.same hs (by decide) (by decide) (by decide), hB, h.2.2.2.same hs (by decide) (by decide)⟩
theorem PrC.rests (h : PrC M fr ψ nm H n lim fns t rs) {M' : PM} {rs' : List AV} (hs : Same [32, 33] M M') (hR : RowA M' fr ψ nm.length 32 33 2000 rs'.reverse) : PrC M' fr ψ nm H n lim fns t rs' := ⟨h.1.same hs (by decide), h.2.1.same hs (by decide) (by decide) (by decide), h.2.2.1.same hs (by decide) (by decide), hR⟩
theorem pr_next {d : Nat} (h : PrC M fr ψ nm H n lim fns t rs) (hl : rs.length ≤ 2000) {Q : Option (Option Value) → PM → Prop}
    (hE : ∀ M', (pClose nm H rs).2 = none → PrC M' fr ψ nm H n lim fns (t ++ (pClose nm H rs).1) [] → Same IDP M M' → Q (some (some (.long (-1)))) M')
    (hG : ∀ M' v b rs', (pClose nm H rs).2 = some (b, rs') → PrC M' fr ψ nm H n lim fns (t ++ (pClose nm H rs).1) rs' → Tv fr ψ nm.length v b → rs'.length ≤ rs.length → Same IDP M M' → Q (some (some (.long v))) M') : SC (d + 5) 59 [.ref 31] M Q := by
  refine ⟨qX3_nextElement, rfl, ⟨Nat.le_of_ble_eq_true rfl, rfl, 31, _, _, rfl, rfl⟩, ?_⟩
  show Ev (BC (d + 4) qX3_nextElement) Q 0 [some (.ref 31), none, none, none] [] M
  have loop : ∀ (rs : List AV) (t1 : List Nat) (M1 : PM) (z2 : Option Value), rs.length ≤ 2000 → PrC M1 fr ψ nm H n lim fns t1 rs → Same IDP M M1 → (∀ M', (pClose nm H rs).2 = none → PrC M' fr ψ nm H n lim fns (t1 ++ (pClose nm H rs).1) [] → Same IDP M M' → Q (some (some (.long (-1)))) M') → (∀ M' v b rs', (pClose nm H rs).2 = some (b, rs') → PrC M' fr ψ nm H n lim fns (t1 ++ (pClose nm H rs).1) rs' → Tv fr ψ nm.length v b → rs'.length ≤ rs.length → Same IDP M M' → Q (some (some (.long v))) M') → Ev (BC (d + 4) qX3_nextElement) Q 10 [some (.ref 31), some (.int (nI rs.length - 1)), z2, none] [] M1 := by
    intro rs
    induction rs with
    | nil =>
      intro t1 M1 z2 hl h1 hs hE hG
      repeat (refine ev_s rfl (?_ : Ev _ _ _ _ _ _))
      refine ev_ifT rfl (show nI ([] : List AV).length - 1 < 0 by decide) ?_
      repeat (refine ev_s rfl (?_ : Ev _ _ _ _ _ _))
      refine ev_retl rfl rfl (hE M1 rfl ?_ hs)
      show PrC M1 fr ψ nm H n lim fns (t1 ++ []) []
      rw [List.append_nil]
      exact h1
    | cons a rs ih =>
      intro t1 M1 z2 hl h1 hs hE hG
      have el : (a :: rs).length = rs.length + 1 := rfl
      rw [el] at hl
      rw [el, nI_pred]
      have er : (a :: rs).reverse = rs.reverse ++ [a] := List.reverse_cons
      have e1 : ((a :: rs).reverse)[rs.length]? = some a := by rw [er]; simp
      repeat (refine ev_s rfl (?_ : Ev _ _ _ _ _ _))
      refine ev_ifF rfl (show ¬ nI rs.length < 0 from Int32.not_lt.mpr (nI_pos' (by omega))) ?_
      repeat (refine ev_s rfl (?_ : Ev _ _ _ _ _ _))
      refine ev_cv rfl (as := [.ref 32, .int (nI rs.length)]) rfl rfl (Nat.le_of_ble_eq_true rfl) ?_
      refine rowA_at r_rests h1.2.2.2 e1 (fun w hw => ?_)
      show Ev _ _ _ _ [.long w] _
      repeat (refine ev_s rfl (?_ : Ev _ _ _ _ _ _))
      refine ev_cs rfl (by decide) (by decide) (as := [.long w]) rfl rfl (Nat.le_of_ble_eq_true rfl) ?_
      refine v_isCell (fun h9 => ?_) (fun h9 => ?_)
      · have ea := hw.cell h9
        generalize hi : ψ (cix w) = i at ea
        subst ea
        obtain ⟨p1, p2, p3⟩ := CoreA.part h1.1.1 hw
        show Ev _ _ _ _ [.int 1] _
        refine ev_ifF rfl (show ¬ (1 : Int32) = 0 by decide) ?_
        repeat (refine ev_s rfl (?_ : Ev _ _ _ _ _ _))
        refine ev_cv rfl (as := [.ref 4, .int (nI 32)]) rfl rfl (Nat.le_of_ble_eq_true rfl) ?_
        refine pr_add h1.2.2.1 (by decide) (fun M2 g1 g2 => ?_)
        have h2 := h1.page g2 g1
        have e19 := (g2 19 (by decide)).2
        have e20 := (g2 20 (by decide)).2
        rw [← e19] at p1
        rw [← e20] at p2
        show Ev _ _ _ _ [] _
        repeat (refine ev_s rfl (?_ : Ev _ _ _ _ _ _))
        refine ev_cv rfl (as := [.ref 17, .long w]) rfl rfl (Nat.le_of_ble_eq_true rfl) ?_
        refine cell_tail h9 ?_
        show Ev _ _ _ _ [.long (M2.2 20 (cix w)), .int (nI rs.length), .ref 32] _
        refine ev_cv rfl (as := [.ref 32, .int (nI rs.length), .long (M2.2 20 (cix w))]) rfl rfl (Nat.le_of_ble_eq_true rfl) ?_
        refine rowA_put r_rests h2.2.2.2 p2 (by simp) (fun M3 g3 g4 => ?_)
        have es : ((aC i :: rs).reverse).set rs.length (H i).2 = ((H i).2 :: rs).reverse := by
          rw [er, List.reverse_cons, List.set_append_right _ _ (by simp)]
          simp
        rw [es] at g3
        have h3 := h2.rests (g4.sub (by decide)) g3
        have e19' := (g4 19 (by decide)).2
        rw [← e19'] at p1
        show Ev _ _ _ _ [] _
        repeat (refine ev_s rfl (?_ : Ev _ _ _ _ _ _))
        refine ev_cv rfl (as := [.ref 17, .long w]) rfl rfl (Nat.le_of_ble_eq_true rfl) ?_
        refine cell_head h9 ?_
        show Ev _ _ _ _ [.long (M3.2 19 (cix w))] _
        exact ev_retl rfl rfl (hG M3 _ _ _ rfl h3 p1 (by simp) (((hs.tr g2).tr g4).sub (by decide)))
      · have na := hw.ncell h9
        rw [pClose_atom na] at hE hG
        show Ev _ _ _ _ [.int 0] _
        refine ev_ifT rfl (show (0 : Int32) = 0 from rfl) ?_
        repeat (refine ev_s rfl (?_ : Ev _ _ _ _ _ _))
        refine ev_cv rfl (as := [.ref 31, .long w]) rfl rfl (Nat.le_of_ble_eq_true rfl) ?_
        refine pr_closeList h1.2.2.1 h1.2.1 hw na (fun M2 g1 g2 => ?_)
        have h2 := h1.page g2 g1
        show Ev _ _ _ _ [] _
        repeat (refine ev_s rfl (?_ : Ev _ _ _ _ _ _))
        refine ev_cv rfl (as := [.ref 32, .int (nI rs.length)]) rfl rfl (Nat.le_of_ble_eq_true rfl) ?_
        refine rowA_cut r_rests h2.2.2.2 (by simp) (fun M3 g3 g4 => ?_)
        have et : ((a :: rs).reverse).take rs.length = rs.reverse := by
          rw [er, List.take_append_of_le_length (by simp), List.take_of_length_le (by simp)]
        rw [et] at g3
        have h3 := h2.rests (g4.sub (by decide)) g3
        show Ev _ _ _ _ [] _
        iterate 2 (refine ev_s rfl (?_ : Ev _ _ _ _ _ _))
        rw [← Int32.sub_eq_add_neg]
        refine ih _ M3 _ (by omega) h3 (((hs.tr g2).tr g4).sub (by decide)) (fun M' q1 q2 q3 => hE M' q1 ?_ q3) (fun M' v b rs' q1 q2 q3 q4 q5 => hG M' v b rs' q1 ?_ q3 (by simp; omega) q5)
        · rw [List.append_assoc] at q2; exact q2
        · rw [List.append_assoc] at q2; exact q2
  repeat (refine ev_s rfl (?_ : Ev _ _ _ _ _ _))
  refine ev_cv rfl (as := [.ref 32]) rfl rfl (Nat.le_of_ble_eq_true rfl) ?_
  refine rowA_size r_rests h.2.2.2 ?_
  rw [List.length_reverse]
  show Ev _ _ _ _ [.int (nI rs.length)] _
  iterate 3 (refine ev_s rfl (?_ : Ev _ _ _ _ _ _))
  exact loop rs t M _ hl h Same.rf hE hG
theorem pr_print {d : Nat} {v : Int64} {a : AV} {l0 : List Nat} {l1 : List Int64} (hC : CoreA M fr ψ nm.length lim H n (aS 0) (aS 0) (aS 0) fns [] [] []) (hS : SymIs M nm) (hB : BytesIs M 4 5 l0) (hR : RowIs M 32 33 2000 l1) (hv : Tv fr ψ nm.length v a) {Q : Option (Option Value) → PM → Prop}
    (hq : ∀ M' rs, PrC M' fr ψ nm H n lim fns (pTxt nm H 2000 a []) rs → Same IDP M M' → Q (some none) M') : SC (d + 6) 58 [.ref 31, .long v] M Q := by
  refine ⟨qX3_print, rfl, ⟨Nat.le_of_ble_eq_true rfl, rfl, 31, _, _, rfl, rfl⟩, ?_⟩
  show Ev (BC (d + 5) qX3_print) Q 0 [some (.ref 31), some (.long v), none, none, none, none] [] M
  have loop : ∀ (m j : Nat) (w : Int64) (b : AV) (rs : List AV) (t1 : List Nat) (M1 : PM), j + m = 2000 → rs.length ≤ j → PrC M1 fr ψ nm H n lim fns t1 rs → Tv fr ψ nm.length w b → Same IDP M M1 → t1 ++ pTxt nm H m b rs = pTxt nm H 2000 a [] → Ev (BC (d + 5) qX3_print) Q 20 [some (.ref 31), some (.long v), none, some (.long w), none, some (.int (nI j))] [] M1 := by
    intro m
    induction m with
    | zero =>
      intro j w b rs t1 M1 hj hl h1 hw hs ht
      repeat (refine ev_s rfl (?_ : Ev _ _ _ _ _ _))
      refine ev_icT rfl (show (2000 : Int32) ≤ nI j from nI_le (a := 2000) (by omega) (by omega)) ?_
      refine ev_retv rfl rfl (hq M1 rs ?_ hs)
      rw [← ht]
      show PrC M1 fr ψ nm H n lim fns (t1 ++ []) rs
      rw [List.append_nil]
      exact h1
    | succ m ih =>
      intro j w b rs t1 M1 hj hl h1 hw hs ht
      repeat (refine ev_s rfl (?_ : Ev _ _ _ _ _ _))
      refine ev_icF rfl (show ¬ (2000 : Int32) ≤ nI j from fun h9 => by have := (nI_leI (a := 2000) (by decide) (by omega)).mp h9; omega) ?_
      repeat (refine ev_s rfl (?_ : Ev _ _ _ _ _ _))
      refine ev_lifF rfl (show ¬ w = -1 from hw.miss) ?_
      repeat (refine ev_s rfl (?_ : Ev _ _ _ _ _ _))
      refine ev_cs rfl (by decide) (by decide) (as := [.long w]) rfl rfl (Nat.le_of_ble_eq_true rfl) ?_
      refine v_isCell (fun h9 => ?_) (fun h9 => ?_)
      · have ea := hw.cell h9
        generalize hi : ψ (cix w) = i at ea
        subst ea
        obtain ⟨p1, p2, p3⟩ := CoreA.part h1.1.1 hw
        show Ev _ _ _ _ [.int 1] _
        refine ev_ifF rfl (show ¬ (1 : Int32) = 0 by decide) ?_
        repeat (refine ev_s rfl (?_ : Ev _ _ _ _ _ _))
        refine ev_cv rfl (as := [.ref 4, .int (nI 40)]) rfl rfl (Nat.le_of_ble_eq_true rfl) ?_
        refine pr_add h1.2.2.1 (by decide) (fun M2 g1 g2 => ?_)
        have h2 := h1.page g2 g1
        rw [← (g2 19 (by decide)).2] at p1
        rw [← (g2 20 (by decide)).2] at p2
        show Ev _ _ _ _ [] _
        repeat (refine ev_s rfl (?_ : Ev _ _ _ _ _ _))
        refine ev_cv rfl (as := [.ref 17, .long w]) rfl rfl (Nat.le_of_ble_eq_true rfl) ?_
        refine cell_tail h9 ?_
        show Ev _ _ _ _ [.long (M2.2 20 (cix w)), .ref 32] _
        refine ev_cv rfl (as := [.ref 32, .long (M2.2 20 (cix w))]) rfl rfl (Nat.le_of_ble_eq_true rfl) ?_
        refine rowA_add r_rests h2.2.2.2 p2 (by rw [List.length_reverse]; omega) (fun M3 g3 g4 => ?_)
        rw [← List.reverse_cons] at g3
        have h3 := h2.rests g4 g3
        rw [← (g4 19 (by decide)).2] at p1
        show Ev _ _ _ _ [] _
        repeat (refine ev_s rfl (?_ : Ev _ _ _ _ _ _))
        refine ev_cv rfl (as := [.ref 17, .long w]) rfl rfl (Nat.le_of_ble_eq_true rfl) ?_
        refine cell_head h9 ?_
        show Ev _ _ _ _ [.long (M3.2 19 (cix w))] _
        iterate 4 (refine ev_s rfl (?_ : Ev _ _ _ _ _ _))
        rw [nI_1]
        refine ih (j + 1) _ _ _ _ M3 (by omega) (by simp; omega) h3 p1 (((hs.tr g2).tr g4).sub (by decide)) ?_
        rw [← ht, pTxt_cell, List.append_assoc]
        rfl
      · have na := hw.ncell h9
        rw [pTxt_atom na] at ht
        show Ev _ _ _ _ [.int 0] _
        refine ev_ifT rfl (show (0 : Int32) = 0 from rfl) ?_
        repeat (refine ev_s rfl (?_ : Ev _ _ _ _ _ _))
        refine ev_cv rfl (as := [.ref 31, .long w]) rfl rfl (Nat.le_of_ble_eq_true rfl) ?_
        refine pr_atom h1.2.2.1 h1.2.1 hw na (fun M2 g1 g2 => ?_)
        have h2 := h1.page g2 g1
        show Ev _ _ _ _ [] _
        repeat (refine ev_s rfl (?_ : Ev _ _ _ _ _ _))
        refine ev_cv rfl (as := [.ref 31]) rfl rfl (Nat.le_of_ble_eq_true rfl) ?_
        refine pr_next h2 (by omega) (fun M3 q1 q2 q3 => ?_) (fun M3 u c rs' q1 q2 q3 q4 q5 => ?_)
        · rw [q1] at ht
          show Ev _ _ _ _ [.long (-1)] _
          iterate 3 (refine ev_s rfl (?_ : Ev _ _ _ _ _ _))
          rw [nI_1]
          repeat (refine ev_s rfl (?_ : Ev _ _ _ _ _ _))
          refine ev_ic rfl (fun hc => ?_) (fun hc => ?_)
          · refine ev_retv rfl rfl (hq M3 [] ?_ ((hs.tr (g2.tr q3)).sub (by decide)))
            rw [← ht]
            simp only [List.append_nil]
            rw [← List.append_assoc]
            exact q2
          · repeat (refine ev_s rfl (?_ : Ev _ _ _ _ _ _))
            refine ev_lifT rfl (show (-1 : Int64) = -1 from rfl) ?_
            refine ev_retv rfl rfl (hq M3 [] ?_ ((hs.tr (g2.tr q3)).sub (by decide)))
            rw [← ht]
            simp only [List.append_nil]
            rw [← List.append_assoc]
            exact q2
        · rw [q1] at ht
          show Ev _ _ _ _ [.long u] _
          iterate 3 (refine ev_s rfl (?_ : Ev _ _ _ _ _ _))
          rw [nI_1]
          refine ih (j + 1) u c rs' _ M3 (by omega) (by omega) q2 q3 ((hs.tr (g2.tr q5)).sub (by decide)) ?_
          rw [← ht]
          simp only [List.append_assoc]
  repeat (refine ev_s rfl (?_ : Ev _ _ _ _ _ _))
  refine ev_cv rfl (as := [.ref 4]) rfl rfl (Nat.le_of_ble_eq_true rfl) ?_
  refine bytes_clear b_page hB (fun M2 g1 g2 => ?_)
  show Ev _ _ _ _ [] _
  repeat (refine ev_s rfl (?_ : Ev _ _ _ _ _ _))
  refine ev_cv rfl (as := [.ref 32, .int (nI 0)]) rfl rfl (Nat.le_of_ble_eq_true rfl) ?_
  refine row_cut r_rests (hR.same g2 (by decide) (by decide)) (by omega) (fun M3 g3 g4 => ?_)
  have g3' : RowA M3 fr ψ nm.length 32 33 2000 [] := ⟨[], g3, rfl, fun _ h9 => by cases h9⟩
  show Ev _ _ _ _ [] _
  iterate 4 (refine ev_s rfl (?_ : Ev _ _ _ _ _ _))
  refine loop 2000 0 v a [] [] M3 (by omega) (by decide) ⟨(hC.same g2 (by decide)).same g4 (by decide), (hS.same g2 (by decide) (by decide) (by decide)).same g4 (by decide) (by decide) (by decide), g1.same g4 (by decide) (by decide), g3'⟩ hv ((g2.tr g4).sub (by decide)) rfl
end PR

/-! The reference's printer. -/
def ByM (M : PM) (ar cf : Nat) (l : List Nat) : Prop := M.1 0 cf = nI l.length ∧ l.length ≤ 2000 ∧ ∀ i c, l[i]? = some c → c < 256 ∧ M.1 ar i = sb_b c
theorem ByM.same {M M' : PM} {ar cf : Nat} {l : List Nat} {ids : List Nat} (h : ByM M ar cf l) (hs : SameM ids M M') (h0 : ar ≠ 0) (h1 : ar ∉ ids) (h2 : 100 + cf ∉ ids) : ByM M' ar cf l := by
  have e1 := (hs.1 ar h0 h1).1
  exact ⟨(hs.2 cf h2).1.trans h.1, h.2.1, fun i c hi => by rw [e1]; exact h.2.2 i c hi⟩
theorem pg_full {t u : List Nat} (h : 2000 ≤ t.length) : pg (t ++ u) = pg t := by
  unfold pg
  rw [List.take_append_of_le_length h]
theorem pg_len {t : List Nat} : (pg t).length = min 2000 t.length := List.length_take
section KP
variable {t : List Nat} {M : PM} {U : Nat → Bool} {ψ : Nat → Nat} {H : AHp} {n lim ns : Nat} {fns : List (Option AV)} {nm : List (List Nat)} {rs : List AV}
theorem k_puts {d c : Nat} (hB : ByM M 21 46 (pg t)) (hc : c < 256) {Q : Option (Option Value) → PM → Prop} (hq : ∀ M', ByM M' 21 46 (pg (t ++ [c])) → SameM [21, 146] M M' → Q (some none) M') : SM (d + 1) 151 [.ref 0, .int (nI c)] M Q := by
  refine ⟨qX10_puts, rfl, ⟨Nat.le_of_ble_eq_true rfl, rfl, 0, _, _, rfl, rfl⟩, ?_⟩
  show Ev (BM (d) qX10_puts) Q 0 [some (.ref 0), some (.int (nI c))] [] M
  have hl := hB.2.1
  repeat (refine ev_s rfl (?_ : Ev _ _ _ _ _ _))
  rw [hB.1]
  refine ev_ic rfl (fun h9 => ?_) (fun h9 => ?_)
  · have hlt : (pg t).length < 2000 := by
      have : ¬ (pg t).length = 2000 := fun h8 => h9 (by rw [h8]; rfl)
      omega
    have e1 : pg (t ++ [c]) = pg t ++ [c] := by
      rw [← addB_pg]
      unfold addB
      rw [if_pos hlt]
    rw [e1] at hq
    repeat (refine ev_s rfl (?_ : Ev _ _ _ _ _ _))
    rw [hB.1]
    repeat (refine ev_s rfl (?_ : Ev _ _ _ _ _ _))
    refine ev_bast rfl rfl (vp_in_nI (show (pg t).length < 2100 by omega) (by decide)) ?_
    rw [nI_clamp (by omega), pk_vb]
    repeat (refine ev_s rfl (?_ : Ev _ _ _ _ _ _))
    have e46 : (mI M 21 (pg t).length ((nI c).toInt8.toInt32)).1 0 46 = nI (pg t).length := by rw [mI_ne (Or.inl (by decide))]; exact hB.1
    rw [e46, nI_1]
    refine ev_retv rfl rfl (hq _ ⟨?_, by rw [List.length_append, List.length_singleton]; omega, fun i x hi => ?_⟩ ((SameM.Ik (k := 21) (by decide)).t2 (SameM.I0 (j := 46)) (by decide)))
    · rw [mI_at]; simp
    · rw [mI_ne (Or.inl (by decide))]
      by_cases hj : i = (pg t).length
      · subst hj
        simp at hi
        subst hi
        refine ⟨hc, ?_⟩
        rw [mI_at, oct_b, oct_nI hc]
      · have hj2 : i < (pg t).length := by
          have := (List.getElem?_eq_some_iff.mp hi).1
          simp only [List.length_append, List.length_singleton] at this; omega
        rw [List.getElem?_append_left hj2] at hi
        rw [mI_ne (Or.inr hj)]
        exact hB.2.2 i x hi
  · have he : (pg t).length = 2000 := (nI_eq (b := 2000) (by omega) (by decide)).mp (Decidable.not_not.mp h9)
    have hf : 2000 ≤ t.length := by rw [pg_len] at he; omega
    rw [pg_full hf] at hq
    exact ev_retv rfl rfl (hq M hB SameM.rf)
theorem decT_skip {s e : Nat} (h : s < 10 ^ (e + 1)) : ∀ k, decT s (e + k) = decT s e
  | 0 => rfl
  | k + 1 => by
    have h1 : 10 ^ (e + 1) ≤ 10 ^ (e + k + 1) := Nat.pow_le_pow_right (by decide) (by omega)
    show decE s (e + k + 1) ++ decT s (e + k) = decT s e
    rw [decT_skip h k]
    unfold decE
    rw [if_neg (by omega)]
    rfl
theorem k_atom {d : Nat} {v : Int64} {a : AV} (hB : ByM M 21 46 (pg t)) (hS : SymM M nm) (hv : RTv U ψ nm.length v a) (hn : ∀ i, a ≠ aC i) {Q : Option (Option Value) → PM → Prop} (hq : ∀ M', ByM M' 21 46 (pg (t ++ atomT nm a)) → SameM [21, 146] M M' → Q (some none) M') : SM (d + 2) 152 [.ref 0, .long v] M Q := by
  refine ⟨qX10_atom, rfl, ⟨Nat.le_of_ble_eq_true rfl, rfl, 0, _, _, rfl, rfl⟩, ?_⟩
  show Ev (BM (d + 1) qX10_atom) Q 0 [some (.ref 0), some (.long v), none, none, none, none, none] [] M
  repeat (refine ev_s rfl (?_ : Ev _ _ _ _ _ _))
  refine ev_cs rfl (by decide) (by decide) (as := [.long v]) rfl rfl (Nat.le_of_ble_eq_true rfl) ?_
  refine k_isSymbol hv ?_
  rcases hv.int with ⟨k, rfl, k2, k3, k4, k5⟩ | ⟨x, rfl, k4, k5⟩ | ⟨c, rfl, _⟩
  · obtain ⟨w, hw⟩ : ∃ w, nm[k]? = some w := ⟨nm[k], List.getElem?_eq_getElem k2⟩
    obtain ⟨a1, a2, a3, a4⟩ := hS k w hw
    have eT : atomT nm (aS k) = w := by show (nm[k]?).getD [] = w; rw [hw]; rfl
    rw [eT] at hq
    subst k4
    have loop : ∀ (m j : Nat) (M1 : PM), j + m = w.length → ByM M1 21 46 (pg (t ++ w.take j)) → SameM [21, 146] M M1 → Ev (BM (d + 1) qX10_atom) Q 15 [some (.ref 0), some (.long (rS k)), none, some (.int (nI k)), some (.int (nI j)), none, none] [] M1 := by
      intro m
      induction m with
      | zero =>
        intro j M1 hj hB1 hs
        repeat (refine ev_s rfl (?_ : Ev _ _ _ _ _ _))
        refine ev_iald rfl rfl (vp_in_nI k3 (by decide)) ?_
        rw [nI_clamp (by omega), (hs.1 2 (by decide) (by decide)).1, a3]
        refine ev_icT rfl (show nI w.length ≤ nI j from nI_le (by omega) (by omega)) ?_
        rw [List.take_of_length_le (by omega)] at hB1
        exact ev_retv rfl rfl (hq M1 hB1 hs)
      | succ m ih =>
        intro j M1 hj hB1 hs
        have ej : w[j]? = some w[j] := List.getElem?_eq_getElem (by omega)
        generalize w[j] = c at ej
        obtain ⟨b1, b2⟩ := a4 j c ej
        repeat (refine ev_s rfl (?_ : Ev _ _ _ _ _ _))
        refine ev_iald rfl rfl (vp_in_nI k3 (by decide)) ?_
        rw [nI_clamp (by omega), (hs.1 2 (by decide) (by decide)).1, a3]
        refine ev_icF rfl (show ¬ nI w.length ≤ nI j from fun h9 => by have := (nI_leI (by omega) (by omega)).mp h9; omega) ?_
        repeat (refine ev_s rfl (?_ : Ev _ _ _ _ _ _))
        rw [Int32.mul_comm, nI10]
        refine ev_iald rfl rfl (vp_in_nI (show 10 * k + j < 3000 by omega) (by decide)) ?_
        rw [nI_clamp (by omega), (hs.1 1 (by decide) (by decide)).1, b2]
        refine ev_cv rfl (as := [.ref 0, .int (nI c)]) rfl rfl (Nat.le_of_ble_eq_true rfl) ?_
        refine k_puts hB1 b1 (fun M2 g1 g2 => ?_)
        show Ev _ _ _ _ [] _
        iterate 2 (refine ev_s rfl (?_ : Ev _ _ _ _ _ _))
        rw [nI_1]
        refine ih (j + 1) M2 (by omega) ?_ (hs.t2 g2 (by decide))
        rw [List.take_add_one, ej, ← List.append_assoc]
        exact g1
    show Ev _ _ _ _ [.int 1] _
    refine ev_ifF rfl (show ¬ (1 : Int32) = 0 by decide) ?_
    repeat (refine ev_s rfl (?_ : Ev _ _ _ _ _ _))
    refine ev_cs rfl (by decide) (by decide) (as := [.long (rS k)]) rfl rfl (Nat.le_of_ble_eq_true rfl) ?_
    refine k_symbolOf k3 ?_
    show Ev _ _ _ _ [.int (nI k)] _
    iterate 3 (refine ev_s rfl (?_ : Ev _ _ _ _ _ _))
    refine loop w.length 0 M (by omega) ?_ SameM.rf
    rw [List.take_zero, List.append_nil]
    exact hB
  · subst k4
    have en : rN x - 1099511627776 = x.toInt64 := by
      have := rN_n (n := x)
      apply Int64.toInt_inj.mp
      rw [Int64.toInt_sub, rN_T, Int32.toInt_toInt64, show (1099511627776 : Int64).toInt = 1099511627776 by decide, show (1099511627776 : Int) + x.toInt - 1099511627776 = x.toInt by omega]
      exact bmI (by omega) (by omega)
    have hx := rN_n (n := x)
    have exl : x.toInt64.toInt = x.toInt := Int32.toInt_toInt64 x
    have e0 : (0 : Int64).toInt = 0 := by decide
    have e032 : (0 : Int32).toInt = 0 := by decide
    generalize hs0 : x.toInt.natAbs = s
    have hs31 : s ≤ 2147483648 := by omega
    -- the digits
    have digs : ∀ (e : Nat) (t1 : List Nat) (M1 : PM), e ≤ 9 → (10 ^ e ≤ s ∨ e = 0) → ByM M1 21 46 (pg t1) → SameM [21, 146] M M1 → (∀ M2, ByM M2 21 46 (pg (t1 ++ decT s e)) → SameM [21, 146] M M2 → Q (some none) M2) → Ev (BM (d + 1) qX10_atom) Q 105 [some (.ref 0), some (.long (rN x)), none, some (.long (lN s)), none, some (.long (lN (10 ^ e))), none] [] M1 := by
      intro e
      have one : ∀ (e : Nat) (t1 : List Nat) (M1 : PM), e ≤ 9 → (10 ^ e ≤ s ∨ e = 0) → ByM M1 21 46 (pg t1) → SameM [21, 146] M M1 → (∀ M2, ByM M2 21 46 (pg (t1 ++ decE s e)) → SameM [21, 146] M M2 → Ev (BM (d + 1) qX10_atom) Q 105 [some (.ref 0), some (.long (rN x)), none, some (.long (lN s)), none, some (.long (lN (10 ^ e / 10))), none] [] M2) → Ev (BM (d + 1) qX10_atom) Q 105 [some (.ref 0), some (.long (rN x)), none, some (.long (lN s)), none, some (.long (lN (10 ^ e))), none] [] M1 := by
        intro e t1 M1 he hd hB1 hs1 hn
        have hpw : 10 ^ e ≤ 10 ^ 9 := Nat.pow_le_pow_right (by decide) he
        have hpo : 0 < 10 ^ e := Nat.pow_pos (by decide)
        have hpos : ¬ lN (10 ^ e) ≤ 0 := fun h8 => by
          rw [Int64.le_iff_toInt_le, pk_lT (by omega), e0] at h8
          omega
        have hnz : ¬ lN (10 ^ e) = 0 := fun h8 => by
          have := congrArg Int64.toInt h8
          rw [pk_lT (by omega), e0] at this
          omega
        iterate 3 (refine ev_s rfl (?_ : Ev _ _ _ _ _ _))
        refine ev_lifF rfl hpos ?_
        iterate 4 (refine ev_s rfl (?_ : Ev _ _ _ _ _ _))
        refine ev_s rfl ⟨hnz, ?_⟩
        rw [lN_div (by omega) (by omega)]
        show Ev _ _ _ _ [.long (lN (s / 10 ^ e)), .int 48, .ref 0] _
        iterate 1 (refine ev_s rfl (?_ : Ev _ _ _ _ _ _))
        have hdl : s / 10 ^ e < 2 ^ 63 := Nat.lt_of_le_of_lt (Nat.div_le_self _ _) (by omega)
        refine ev_s rfl ⟨(by decide : ¬ (10 : Int64) = 0), ?_⟩
        rw [show (10 : Int64) = lN 10 from rfl, lN_mod hdl (by decide)]
        show Ev _ _ _ _ [.long (lN (s / 10 ^ e % 10)), .int 48, .ref 0] _
        repeat (refine ev_s rfl (?_ : Ev _ _ _ _ _ _))
        rw [lN_i32, show (48 : Int32) = nI 48 from rfl, nI_add]
        have hm10 : s / 10 ^ e % 10 < 10 := Nat.mod_lt _ (by decide)
        refine ev_cv rfl (as := [.ref 0, .int (nI (48 + s / 10 ^ e % 10))]) rfl rfl (Nat.le_of_ble_eq_true rfl) ?_
        refine k_puts hB1 (by omega) (fun M2 g1 g2 => ?_)
        show Ev _ _ _ _ [] _
        iterate 2 (refine ev_s rfl (?_ : Ev _ _ _ _ _ _))
        refine ev_s rfl ⟨(by decide : ¬ (10 : Int64) = 0), ?_⟩
        rw [show (10 : Int64) = lN 10 from rfl, lN_div (by omega) (by decide)]
        show Ev _ _ _ _ [.long (lN (10 ^ e / 10))] _
        iterate 2 (refine ev_s rfl (?_ : Ev _ _ _ _ _ _))
        refine hn M2 ?_ (hs1.t2 g2 (by decide))
        unfold decE
        rw [if_pos hd]
        exact g1
      induction e with
      | zero =>
        intro t1 M1 he hd hB1 hs1 hq1
        refine one 0 t1 M1 he hd hB1 hs1 (fun M2 g1 g2 => ?_)
        iterate 3 (refine ev_s rfl (?_ : Ev _ _ _ _ _ _))
        refine ev_lifT rfl (show lN (10 ^ 0 / 10) ≤ 0 by decide) ?_
        exact ev_retv rfl rfl (hq1 M2 g1 g2)
      | succ e ih =>
        intro t1 M1 he hd hB1 hs1 hq1
        refine one (e + 1) t1 M1 he hd hB1 hs1 (fun M2 g1 g2 => ?_)
        rw [show 10 ^ (e + 1) / 10 = 10 ^ e by rw [Nat.pow_succ, Nat.mul_div_cancel _ (by decide)]]
        refine ih _ M2 (by omega) (Or.inl ?_) g1 g2 (fun M3 g3 g4 => hq1 M3 ?_ g4)
        · have h1 : 10 ^ e ≤ 10 ^ (e + 1) := Nat.pow_le_pow_right (by decide) (by omega)
          rcases hd with h9 | h9
          · omega
          · omega
        · rw [List.append_assoc] at g3
          exact g3
    -- the first unit
    have unit : ∀ (q e : Nat) (t1 : List Nat) (M1 : PM), e + q = 9 → (10 ^ e ≤ s ∨ e = 0) → ByM M1 21 46 (pg t1) → SameM [21, 146] M M1 → (∀ M2, ByM M2 21 46 (pg (t1 ++ decT s 9)) → SameM [21, 146] M M2 → Q (some none) M2) → Ev (BM (d + 1) qX10_atom) Q 83 [some (.ref 0), some (.long (rN x)), none, some (.long (lN s)), none, some (.long (lN (10 ^ e))), none] [] M1 := by
      intro q
      induction q with
      | zero =>
        intro e t1 M1 he hd hB1 hs1 hq1
        have e9 : e = 9 := by omega
        subst e9
        iterate 3 (refine ev_s rfl (?_ : Ev _ _ _ _ _ _))
        refine ev_s rfl ⟨(by decide : ¬ (10 : Int64) = 0), ?_⟩
        rw [show (10 : Int64) = lN 10 from rfl, lN_div (by omega) (by decide)]
        show Ev _ _ _ _ [.long (lN (s / 10)), .long (lN (10 ^ 9))] _
        iterate 1 (refine ev_s rfl (?_ : Ev _ _ _ _ _ _))
        refine ev_lifT rfl (show lN (s / 10) < lN (10 ^ 9) from (pk_lLT (by omega) (by decide)).mpr (by omega)) ?_
        exact digs 9 t1 M1 (by decide) hd hB1 hs1 hq1
      | succ q ih =>
        intro e t1 M1 he hd hB1 hs1 hq1
        have hpw : 10 ^ e ≤ 10 ^ 9 := Nat.pow_le_pow_right (by decide) (by omega)
        have hps : 10 ^ (e + 1) = 10 ^ e * 10 := Nat.pow_succ _ _
        iterate 3 (refine ev_s rfl (?_ : Ev _ _ _ _ _ _))
        refine ev_s rfl ⟨(by decide : ¬ (10 : Int64) = 0), ?_⟩
        rw [show (10 : Int64) = lN 10 from rfl, lN_div (by omega) (by decide)]
        show Ev _ _ _ _ [.long (lN (s / 10)), .long (lN (10 ^ e))] _
        iterate 1 (refine ev_s rfl (?_ : Ev _ _ _ _ _ _))
        refine ev_lif rfl (fun hc => ?_) (fun hc => ?_)
        · have hlt : s / 10 < 10 ^ e := (pk_lLT (by omega) (by omega)).mp hc
          have hsk := decT_skip (s := s) (e := e) (by omega) (9 - e)
          rw [show e + (9 - e) = 9 by omega] at hsk
          rw [hsk] at hq1
          exact digs e t1 M1 (by omega) hd hB1 hs1 hq1
        · have hge : 10 ^ e ≤ s / 10 := by
            have : ¬ s / 10 < 10 ^ e := fun h9 => hc ((pk_lLT (by omega) (by omega)).mpr h9)
            omega
          iterate 4 (refine ev_s rfl (?_ : Ev _ _ _ _ _ _))
          rw [show (10 : Int64) = lN 10 from rfl, lN_mul, Nat.mul_comm, ← hps]
          iterate 1 (refine ev_s rfl (?_ : Ev _ _ _ _ _ _))
          exact ih (e + 1) t1 M1 (by omega) (Or.inl (by omega)) hB1 hs1 hq1
    show Ev _ _ _ _ [.int 0] _
    refine ev_ifT rfl (show (0 : Int32) = 0 from rfl) ?_
    repeat (refine ev_s rfl (?_ : Ev _ _ _ _ _ _))
    rw [en]
    by_cases hneg : x < 0
    · have hn9 : x.toInt < 0 := by rw [Int32.lt_iff_toInt_lt, e032] at hneg; exact hneg
      have hnl : ¬ (0 : Int64) ≤ x.toInt64 := fun h9 => by rw [Int64.le_iff_toInt_le, exl, e0] at h9; omega
      have el : -x.toInt64 = lN s := by
        apply Int64.toInt_inj.mp
        rw [Int64.toInt_neg, exl, pk_lT (by omega), bmI (by omega) (by omega)]
        omega
      have eN : numT x = [45] ++ decT s 9 := by unfold numT; rw [if_pos hneg, hs0]
      refine ev_lifF rfl hnl ?_
      repeat (refine ev_s rfl (?_ : Ev _ _ _ _ _ _))
      refine ev_cv rfl (as := [.ref 0, .int (nI 45)]) rfl rfl (Nat.le_of_ble_eq_true rfl) ?_
      refine k_puts hB (by decide) (fun M2 g1 g2 => ?_)
      show Ev _ _ _ _ [] _
      repeat (refine ev_s rfl (?_ : Ev _ _ _ _ _ _))
      refine ev_lifF rfl hnl ?_
      iterate 6 (refine ev_s rfl (?_ : Ev _ _ _ _ _ _))
      rw [el]
      refine unit 9 0 _ M2 (by decide) (Or.inr rfl) g1 g2 (fun M3 g3 g4 => hq M3 ?_ g4)
      show ByM M3 21 46 (pg (t ++ numT x))
      rw [eN, ← List.append_assoc]
      exact g3
    · have hn9 : 0 ≤ x.toInt := by rw [Int32.lt_iff_toInt_lt, e032] at hneg; omega
      have hnl : (0 : Int64) ≤ x.toInt64 := by rw [Int64.le_iff_toInt_le, exl, e0]; omega
      have el : x.toInt64 = lN s := by
        apply Int64.toInt_inj.mp
        rw [exl, pk_lT (by omega)]
        omega
      have eN : numT x = decT s 9 := by unfold numT; rw [if_neg hneg, hs0]; rfl
      refine ev_lifT rfl hnl ?_
      repeat (refine ev_s rfl (?_ : Ev _ _ _ _ _ _))
      refine ev_lifT rfl hnl ?_
      iterate 4 (refine ev_s rfl (?_ : Ev _ _ _ _ _ _))
      rw [el]
      refine unit 9 0 _ M (by decide) (Or.inr rfl) hB SameM.rf (fun M3 g3 g4 => hq M3 ?_ g4)
      show ByM M3 21 46 (pg (t ++ numT x))
      rw [eN]
      exact g3
  · exact (hn _ rfl).elim
theorem decT_pos {s : Nat} : ∀ e, 1 ≤ (decT s e).length
  | 0 => by unfold decT decE; rw [if_pos (Or.inr rfl)]; exact Nat.le_refl 1
  | e + 1 => by
    have := decT_pos (s := s) e
    unfold decT
    rw [List.length_append]
    omega
theorem atomT_pos {a : AV} {v : Int64} (hS : SymM M nm) (hv : RTv U ψ nm.length v a) (hn : ∀ i, a ≠ aC i) : 1 ≤ (atomT nm a).length := by
  rcases hv.int with ⟨k, rfl, k2, k3, k4, k5⟩ | ⟨x, rfl, k4, k5⟩ | ⟨c, rfl, _⟩
  · obtain ⟨w, hw⟩ : ∃ w, nm[k]? = some w := ⟨nm[k], List.getElem?_eq_getElem k2⟩
    show 1 ≤ ((nm[k]?).getD []).length
    rw [hw]
    exact (hS k w hw).1
  · show 1 ≤ (numT x).length
    unfold numT
    rw [List.length_append]
    have := decT_pos (s := x.toInt.natAbs) 9
    omega
  · exact (hn _ rfl).elim
theorem pTxt_app {T X Y : List Nat} : T ++ (X ++ Y) = T ++ X ++ Y := (List.append_assoc _ _ _).symm
theorem k_prints {d : Nat} {v : Int64} {a : AV} {x e f : AV} {pe vs : List AV} {frs : List AF} (hC : CoreM M U ψ nm.length lim H n x e f fns pe vs frs) (hS : SymM M nm) (hB : ByM M 21 46 []) (hv : RTv U ψ nm.length v a) {Q : Option (Option Value) → PM → Prop} (hq : ∀ M', ByM M' 21 46 (pg (pTxt nm H 2000 a [])) → SameM [21, 22, 146] M M' → Q (some none) M') : SM (d + 3) 153 [.ref 0, .long v] M Q := by
  refine ⟨qX10_prints, rfl, ⟨Nat.le_of_ble_eq_true rfl, rfl, 0, _, _, rfl, rfl⟩, ?_⟩
  show Ev (BM (d + 2) qX10_prints) Q 0 [some (.ref 0), some (.long v), none, none, none, none, none] [] M
  have hH := hC.1.2.2.2.2.2.2
  generalize hF : pTxt nm H 2000 a [] = F at hq
  have hHs : ∀ M1, SameM [21, 22, 146] M M1 → HeapM M1 U ψ nm.length H n := fun M1 hs => by
    unfold HeapM
    rw [(hs.1 6 (by decide) (by decide)).2, (hs.1 7 (by decide) (by decide)).2]
    exact hH
  have tail : ∀ (o : Option (AV × List AV)) (m : Nat), List Nat := fun o m => match o with
    | none => []
    | some (b, rs') => pTxt nm H m b rs'
  clear tail
  have main : ∀ (μ : Nat) (M1 : PM) (T : List Nat) (rs : List AV) (u : Int64) (b : AV) (m : Nat), 2000 - T.length < μ → ByM M1 21 46 (pg T) → (∀ k w, rs.reverse[k]? = some w → RTv U ψ nm.length (M1.2 22 k) w) → RTv U ψ nm.length u b → pg F = pg (T ++ pTxt nm H m b rs) → 2000 ≤ T.length + m → rs.length ≤ 2000 → (T.length < 2000 → rs.length ≤ T.length) → SameM [21, 22, 146] M M1 → Ev (BM (d + 2) qX10_prints) Q 8 [some (.ref 0), some (.long v), none, some (.int (nI rs.length)), some (.long u), none, some (.int 1)] [] M1 := by
    intro μ
    induction μ with
    | zero => intro M1 T rs u b m h9; omega
    | succ μ ih =>
      intro M1 T rs u b m hμ hB1 hrs hu hF1 hm hrl hrT hs
      -- lists end
      have close : ∀ (rs2 : List AV) (M2 : PM) (T2 : List Nat) (u2 : Int64) (m2 : Nat), T.length ≤ T2.length → ByM M2 21 46 (pg T2) → (∀ k w, rs2.reverse[k]? = some w → RTv U ψ nm.length (M2.2 22 k) w) → pg F = pg (T2 ++ ((pClose nm H rs2).1 ++ match (pClose nm H rs2).2 with
            | none => []
            | some (b, rs') => pTxt nm H m2 b rs')) → 2000 ≤ T2.length + m2 → rs2.length ≤ 2000 → (T2.length < 2000 → rs2.length ≤ T2.length) → T.length < 2000 → SameM [21, 22, 146] M M2 → Ev (BM (d + 2) qX10_prints) Q 87 [some (.ref 0), some (.long v), none, some (.int (nI rs2.length)), some (.long u2), none, some (.int 1)] [] M2 := by
        intro rs2
        induction rs2 with
        | nil =>
          intro M2 T2 u2 m2 hT hB2 hrs2 hF2 hm2 hl2 hlT2 hT0 hs2
          repeat (refine ev_s rfl (?_ : Ev _ _ _ _ _ _))
          refine ev_ifT rfl (show nI ([] : List AV).length ≤ 0 by decide) ?_
          repeat (refine ev_s rfl (?_ : Ev _ _ _ _ _ _))
          refine ev_ifT rfl (show nI ([] : List AV).length ≤ 0 by decide) ?_
          repeat (refine ev_s rfl (?_ : Ev _ _ _ _ _ _))
          refine ev_ifT rfl (show (0 : Int32) = 0 from rfl) ?_
          repeat (refine ev_s rfl (?_ : Ev _ _ _ _ _ _))
          refine ev_ifT rfl (show (0 : Int32) = 0 from rfl) ?_
          refine ev_retv rfl rfl (hq M2 ?_ hs2)
          have e9 : pg F = pg T2 := by rw [hF2]; show pg (T2 ++ ([] ++ [])) = pg T2; simp
          rw [e9]
          exact hB2
        | cons w r ih2 =>
          intro M2 T2 u2 m2 hT hB2 hrs2 hF2 hm2 hl2 hlT2 hT0 hs2
          have el : (w :: r).length = r.length + 1 := rfl
          rw [el] at hl2 hlT2 ⊢
          have hw : RTv U ψ nm.length (M2.2 22 r.length) w := hrs2 r.length w (by simp)
          have hr : ∀ k w', r.reverse[k]? = some w' → RTv U ψ nm.length (M2.2 22 k) w' := fun k w' hk => hrs2 k w' (by rw [List.reverse_cons, List.getElem?_append_left (List.getElem?_eq_some_iff.mp hk).1]; exact hk)
          repeat (refine ev_s rfl (?_ : Ev _ _ _ _ _ _))
          refine ev_ifF rfl (nI_nle (by omega) (by omega)) ?_
          repeat (refine ev_s rfl (?_ : Ev _ _ _ _ _ _))
          rw [nI_pred]
          refine ev_lald rfl rfl (vp_in_nI (show r.length < 2400 by omega) (by decide)) ?_
          rw [nI_clamp (by omega)]
          refine ev_cs rfl (by decide) (by decide) (as := [.long (M2.2 22 r.length)]) rfl rfl (Nat.le_of_ble_eq_true rfl) ?_
          refine k_isCell hw ?_
          cases hc : aIsC w with
          | true =>
            obtain ⟨i, rfl⟩ : ∃ i, w = aC i := by
              rcases w with k | q | i
              · cases hc
              · cases hc
              · exact ⟨i, rfl⟩
            rw [pClose_cell] at hF2
            dsimp only at hF2
            show Ev _ _ _ _ [.int 1] _
            refine ev_ifT rfl (show ¬ (1 : Int32) = 0 by decide) ?_
            repeat (refine ev_s rfl (?_ : Ev _ _ _ _ _ _))
            refine ev_ifF rfl (nI_nle (by omega) (by omega)) ?_
            repeat (refine ev_s rfl (?_ : Ev _ _ _ _ _ _))
            refine ev_ifF rfl (show ¬ (1 : Int32) = 0 by decide) ?_
            repeat (refine ev_s rfl (?_ : Ev _ _ _ _ _ _))
            refine ev_cv rfl (as := [.ref 0, .int (nI 32)]) rfl rfl (Nat.le_of_ble_eq_true rfl) ?_
            refine k_puts hB2 (by decide) (fun M3 g1 g2 => ?_)
            have hs3 := hs2.t2 g2 (ids'' := [21, 22, 146]) (by decide)
            have e22 : M3.2 22 = M2.2 22 := (g2.1 22 (by decide) (by decide)).2
            show Ev _ _ _ _ [] _
            repeat (refine ev_s rfl (?_ : Ev _ _ _ _ _ _))
            rw [nI_pred]
            refine ev_lald rfl rfl (vp_in_nI (show r.length < 2400 by omega) (by decide)) ?_
            rw [nI_clamp (by omega), e22]
            refine ev_cv rfl (as := [.ref 0, .long (M2.2 22 r.length)]) rfl rfl (Nat.le_of_ble_eq_true rfl) ?_
            refine k_headOf (hHs M3 hs3) hw (fun y b1 b2 b3 => ?_) (fun b2 => by cases b2)
            have e9 : (H i).1 = b1 := Option.some.inj b2
            subst e9
            show Ev _ _ _ _ [.long y] _
            repeat (refine ev_s rfl (?_ : Ev _ _ _ _ _ _))
            rw [nI_pred]
            refine ev_lald rfl rfl (vp_in_nI (show r.length < 2400 by omega) (by decide)) ?_
            rw [nI_clamp (by omega), e22]
            refine ev_cv rfl (as := [.ref 0, .long (M2.2 22 r.length)]) rfl rfl (Nat.le_of_ble_eq_true rfl) ?_
            refine k_tailOf (hHs M3 hs3) hw (fun z b1 b4 b5 => ?_) (fun b4 => by cases b4)
            have e9 : (H i).2 = b1 := Option.some.inj b4
            subst e9
            show Ev _ _ _ _ [.long z, .int (nI r.length), .ref 22] _
            refine ev_last rfl rfl (vp_in_nI (show r.length < 2400 by omega) (by decide)) ?_
            rw [nI_clamp (by omega)]
            iterate 1 (refine ev_s rfl (?_ : Ev _ _ _ _ _ _))
            have s4 : SameM [22] M3 (mJ M3 22 r.length z) := SameM.Jk (by decide)
            refine ih _ (T2 ++ [32]) ((H i).2 :: r) y (H i).1 m2 (by simp; omega) (g1.same s4 (by decide) (by decide) (by decide)) (fun k w' hk => ?_) b3 ?_ (by simp; omega) (by simp; omega) (fun h9 => by simp at h9 ⊢; omega) (hs3.t2 s4 (by decide))
            · rw [List.reverse_cons] at hk
              by_cases hkr : k < r.length
              · rw [List.getElem?_append_left (by rw [List.length_reverse]; exact hkr)] at hk
                rw [mJ_ne (Or.inr (by omega)), e22]
                exact hr k w' hk
              · have hk2 := (List.getElem?_eq_some_iff.mp hk).1
                simp at hk2
                have ek : k = r.length := by omega
                subst ek
                rw [List.getElem?_append_right (by simp), List.length_reverse, Nat.sub_self] at hk
                have e9 : (H i).2 = w' := by simpa using hk
                rw [mJ_at, ← e9]
                exact b5
            · rw [hF2, pTxt_app]
          | false =>
            have hna : ∀ i, w ≠ aC i := fun i h9 => by rw [h9] at hc; cases hc
            rw [pClose_atom hna] at hF2
            dsimp only at hF2
            have w0 := hw.eqS (k := 0) (by decide)
            have fin : ∀ (M3 : PM) (T3 : List Nat), ByM M3 21 46 (pg T3) → SameM [21, 146] M2 M3 → T3 ++ [41] = T2 ++ endT nm w → Ev (BM (d + 2) qX10_prints) Q 149 [some (.ref 0), some (.long v), none, some (.int (nI r.length)), some (.long u2), none, some (.int 1)] [] M3 := fun M3 T3 hB3 g hT3 => by
              repeat (refine ev_s rfl (?_ : Ev _ _ _ _ _ _))
              refine ev_cv rfl (as := [.ref 0, .int (nI 41)]) rfl rfl (Nat.le_of_ble_eq_true rfl) ?_
              refine k_puts hB3 (by decide) (fun M4 g1 g2 => ?_)
              rw [hT3] at g1
              have s24 := g.t2 g2 (ids'' := [21, 146]) (by decide)
              have e22 : M4.2 22 = M2.2 22 := (s24.1 22 (by decide) (by decide)).2
              have hpos : 1 ≤ (endT nm w).length := by
                have := congrArg List.length hT3
                unfold endT
                split
                · decide
                · simp
              show Ev _ _ _ _ [] _
              iterate 1 (refine ev_s rfl (?_ : Ev _ _ _ _ _ _))
              refine ih2 M4 (T2 ++ endT nm w) u2 m2 (by simp; omega) g1 (fun k w' hk => by rw [e22]; exact hr k w' hk) ?_ (by simp; omega) (by omega) (fun h9 => by simp at h9 ⊢; omega) hT0 (hs2.t2 s24 (by decide))
              rw [hF2]
              simp only [List.append_assoc]
            show Ev _ _ _ _ [.int 0] _
            refine ev_ifF rfl (show ¬ ¬ (0 : Int32) = 0 by decide) ?_
            repeat (refine ev_s rfl (?_ : Ev _ _ _ _ _ _))
            rw [← Int32.sub_eq_add_neg, nI_pred]
            refine ev_lald rfl rfl (vp_in_nI (show r.length < 2400 by omega) (by decide)) ?_
            rw [nI_clamp (by omega)]
            repeat (refine ev_s rfl (?_ : Ev _ _ _ _ _ _))
            refine ev_lif rfl (fun hc0 => ?_) (fun hc0 => ?_)
            · refine fin M2 T2 hB2 SameM.rf ?_
              unfold endT
              rw [if_pos (w0.mp hc0)]
            · have n0 : ¬ w = aS 0 := fun h9 => hc0 (w0.mpr h9)
              repeat (refine ev_s rfl (?_ : Ev _ _ _ _ _ _))
              refine ev_cv rfl (as := [.ref 0, .int (nI 32)]) rfl rfl (Nat.le_of_ble_eq_true rfl) ?_
              refine k_puts hB2 (by decide) (fun M3 g1 g2 => ?_)
              show Ev _ _ _ _ [] _
              repeat (refine ev_s rfl (?_ : Ev _ _ _ _ _ _))
              refine ev_cv rfl (as := [.ref 0, .int (nI 46)]) rfl rfl (Nat.le_of_ble_eq_true rfl) ?_
              refine k_puts g1 (by decide) (fun M4 g3 g4 => ?_)
              show Ev _ _ _ _ [] _
              repeat (refine ev_s rfl (?_ : Ev _ _ _ _ _ _))
              refine ev_cv rfl (as := [.ref 0, .int (nI 32)]) rfl rfl (Nat.le_of_ble_eq_true rfl) ?_
              refine k_puts g3 (by decide) (fun M5 g5 g6 => ?_)
              have s25 := (g2.t2 g4 (ids'' := [21, 146]) (by decide)).t2 g6 (ids'' := [21, 146]) (by decide)
              show Ev _ _ _ _ [] _
              repeat (refine ev_s rfl (?_ : Ev _ _ _ _ _ _))
              refine ev_lald rfl rfl (vp_in_nI (show r.length < 2400 by omega) (by decide)) ?_
              rw [nI_clamp (by omega), (s25.1 22 (by decide) (by decide)).2]
              refine ev_cv rfl (as := [.ref 0, .long (M2.2 22 r.length)]) rfl rfl (Nat.le_of_ble_eq_true rfl) ?_
              refine k_atom g5 (hS.same (hs2.t2 s25 (ids'' := [21, 22, 146]) (by decide)) (by decide) (by decide)) hw hna (fun M6 g7 g8 => ?_)
              show Ev _ _ _ _ [] _
              refine fin M6 _ g7 (s25.t2 g8 (by decide)) ?_
              unfold endT
              rw [if_neg n0]
              simp
      -- the heads
      have heads : ∀ (ν : Nat) (M2 : PM) (T2 : List Nat) (rs2 : List AV) (u2 : Int64) (b2 : AV) (m2 : Nat), 2000 - T2.length < ν → T.length ≤ T2.length → ByM M2 21 46 (pg T2) → (∀ k w, rs2.reverse[k]? = some w → RTv U ψ nm.length (M2.2 22 k) w) → RTv U ψ nm.length u2 b2 → pg F = pg (T2 ++ pTxt nm H m2 b2 rs2) → 2000 ≤ T2.length + m2 → rs2.length ≤ 2000 → (T2.length < 2000 → rs2.length ≤ T2.length) → T.length < 2000 → SameM [21, 22, 146] M M2 → Ev (BM (d + 2) qX10_prints) Q 23 [some (.ref 0), some (.long v), none, some (.int (nI rs2.length)), some (.long u2), none, some (.int 1)] [] M2 := by
        intro ν
        induction ν with
        | zero => intro M2 T2 rs2 u2 b2 m2 h9; omega
        | succ ν ih2 =>
          intro M2 T2 rs2 u2 b2 m2 hν hT hB2 hrs2 hu2 hF2 hm2 hl2 hlT2 hT0 hs2
          have hpl := pg_len (t := T2)
          repeat (refine ev_s rfl (?_ : Ev _ _ _ _ _ _))
          refine ev_cs rfl (by decide) (by decide) (as := [.long u2]) rfl rfl (Nat.le_of_ble_eq_true rfl) ?_
          refine k_isCell hu2 ?_
          cases hc : aIsC b2 with
          | true =>
            obtain ⟨i, rfl⟩ : ∃ i, b2 = aC i := by
              rcases b2 with k | q | i
              · cases hc
              · cases hc
              · exact ⟨i, rfl⟩
            show Ev _ _ _ _ [.int 1] _
            refine ev_ifF rfl (show ¬ (1 : Int32) = 0 by decide) ?_
            repeat (refine ev_s rfl (?_ : Ev _ _ _ _ _ _))
            rw [hB2.1]
            refine ev_ic rfl (fun hf => ?_) (fun hf => ?_)
            · -- the page is full
              have hfull : 2000 ≤ T2.length := by
                have := (nI_leI (a := 2000) (by decide) (by omega)).mp hf
                omega
              rw [pg_full hfull] at hF2
              repeat (refine ev_s rfl (?_ : Ev _ _ _ _ _ _))
              refine ev_cs rfl (by decide) (by decide) (as := [.long u2]) rfl rfl (Nat.le_of_ble_eq_true rfl) ?_
              refine k_isCell hu2 ?_
              show Ev _ _ _ _ [.int 1] _
              refine ev_ifT rfl (show ¬ (1 : Int32) = 0 by decide) ?_
              refine close rs2 M2 T2 u2 0 hT hB2 hrs2 ?_ (by omega) hl2 hlT2 hT0 hs2
              rw [hF2, pg_full hfull]
            · have hnf : T2.length < 2000 := by
                have : ¬ 2000 ≤ (pg T2).length := fun h9 => hf (nI_le (a := 2000) h9 (by omega))
                omega
              obtain ⟨m3, rfl⟩ : ∃ m3, m2 = m3 + 1 := ⟨m2 - 1, by omega⟩
              rw [pTxt_cell] at hF2
              have hlr := hlT2 hnf
              repeat (refine ev_s rfl (?_ : Ev _ _ _ _ _ _))
              refine ev_cv rfl (as := [.ref 0, .int (nI 40)]) rfl rfl (Nat.le_of_ble_eq_true rfl) ?_
              refine k_puts hB2 (by decide) (fun M3 g1 g2 => ?_)
              have hs3 := hs2.t2 g2 (ids'' := [21, 22, 146]) (by decide)
              have e22 : M3.2 22 = M2.2 22 := (g2.1 22 (by decide) (by decide)).2
              show Ev _ _ _ _ [] _
              repeat (refine ev_s rfl (?_ : Ev _ _ _ _ _ _))
              refine ev_cv rfl (as := [.ref 0, .long u2]) rfl rfl (Nat.le_of_ble_eq_true rfl) ?_
              refine k_tailOf (hHs M3 hs3) hu2 (fun z b1 b4 b5 => ?_) (fun b4 => by cases b4)
              have e9 : (H i).2 = b1 := Option.some.inj b4
              subst e9
              show Ev _ _ _ _ [.long z, .int (nI rs2.length), .ref 22] _
              refine ev_last rfl rfl (vp_in_nI (show rs2.length < 2400 by omega) (by decide)) ?_
              rw [nI_clamp (by omega)]
              have s4 : SameM [22] M3 (mJ M3 22 rs2.length z) := SameM.Jk (by decide)
              have hs4 := hs3.t2 s4 (ids'' := [21, 22, 146]) (by decide)
              repeat (refine ev_s rfl (?_ : Ev _ _ _ _ _ _))
              rw [nI_1]
              refine ev_cv rfl (as := [.ref 0, .long u2]) rfl rfl (Nat.le_of_ble_eq_true rfl) ?_
              refine k_headOf (hHs _ hs4) hu2 (fun y b1 b6 b7 => ?_) (fun b6 => by cases b6)
              have e9 : (H i).1 = b1 := Option.some.inj b6
              subst e9
              show Ev _ _ _ _ [.long y] _
              iterate 2 (refine ev_s rfl (?_ : Ev _ _ _ _ _ _))
              have elr : nI (rs2.length + 1) = nI ((H i).2 :: rs2).length := rfl
              rw [elr]
              refine ih2 _ (T2 ++ [40]) ((H i).2 :: rs2) y (H i).1 m3 (by simp; omega) (by simp; omega) (g1.same s4 (by decide) (by decide) (by decide)) (fun k w' hk => ?_) b7 ?_ (by simp; omega) (by simp; omega) (fun h9 => by simp at h9 ⊢; omega) hT0 hs4
              · rw [List.reverse_cons] at hk
                by_cases hkr : k < rs2.length
                · rw [List.getElem?_append_left (by rw [List.length_reverse]; exact hkr)] at hk
                  rw [mJ_ne (Or.inr (by omega)), e22]
                  exact hrs2 k w' hk
                · have hk2 := (List.getElem?_eq_some_iff.mp hk).1
                  simp at hk2
                  have ek : k = rs2.length := by omega
                  subst ek
                  rw [List.getElem?_append_right (by simp), List.length_reverse, Nat.sub_self] at hk
                  have e9 : (H i).2 = w' := by simpa using hk
                  rw [mJ_at, ← e9]
                  exact b5
              · rw [hF2]
                simp
          | false =>
            have hna : ∀ i, b2 ≠ aC i := fun i h9 => by rw [h9] at hc; cases hc
            have hpos := atomT_pos hS hu2 hna
            show Ev _ _ _ _ [.int 0] _
            refine ev_ifT rfl (show (0 : Int32) = 0 from rfl) ?_
            repeat (refine ev_s rfl (?_ : Ev _ _ _ _ _ _))
            refine ev_cs rfl (by decide) (by decide) (as := [.long u2]) rfl rfl (Nat.le_of_ble_eq_true rfl) ?_
            refine k_isCell hu2 ?_
            rw [hc]
            show Ev _ _ _ _ [.int 0] _
            refine ev_ifF rfl (show ¬ ¬ (0 : Int32) = 0 by decide) ?_
            repeat (refine ev_s rfl (?_ : Ev _ _ _ _ _ _))
            refine ev_cv rfl (as := [.ref 0, .long u2]) rfl rfl (Nat.le_of_ble_eq_true rfl) ?_
            refine k_atom hB2 (hS.same hs2 (by decide) (by decide)) hu2 hna (fun M3 g1 g2 => ?_)
            have hs3 := hs2.t2 g2 (ids'' := [21, 22, 146]) (by decide)
            have e22 : M3.2 22 = M2.2 22 := (g2.1 22 (by decide) (by decide)).2
            show Ev _ _ _ _ [] _
            refine close rs2 M3 (T2 ++ atomT nm b2) u2 (m2 - 1) (by simp; omega) g1 (fun k w' hk => by rw [e22]; exact hrs2 k w' hk) ?_ (by simp; omega) hl2 (fun h9 => by simp at h9 ⊢; omega) hT0 hs3
            by_cases hfull : 2000 ≤ T2.length
            · rw [hF2, pg_full hfull, List.append_assoc, pg_full hfull]
            · obtain ⟨m3, rfl⟩ : ∃ m3, m2 = m3 + 1 := ⟨m2 - 1, by omega⟩
              rw [hF2, pTxt_atom hna, List.append_assoc]
              rfl
      have hpl := pg_len (t := T)
      repeat (refine ev_s rfl (?_ : Ev _ _ _ _ _ _))
      refine ev_ifF rfl (show ¬ (1 : Int32) = 0 by decide) ?_
      repeat (refine ev_s rfl (?_ : Ev _ _ _ _ _ _))
      rw [hB1.1]
      refine ev_ic rfl (fun hf => ?_) (fun hf => ?_)
      · have hfull : 2000 ≤ T.length := by
          have := (nI_leI (a := 2000) (by decide) (by omega)).mp hf
          omega
        rw [pg_full hfull] at hF1
        refine ev_retv rfl rfl (hq M1 ?_ hs)
        rw [hF1]
        exact hB1
      · have hnf : T.length < 2000 := by
          have : ¬ 2000 ≤ (pg T).length := fun h9 => hf (nI_le (a := 2000) h9 (by omega))
          omega
        exact heads (2000 - T.length + 1) M1 T rs u b m (by omega) (Nat.le_refl _) hB1 hrs hu hF1 hm hrl hrT hnf hs
  iterate 6 (refine ev_s rfl (?_ : Ev _ _ _ _ _ _))
  refine main 2001 M [] [] v a 2000 (by simp) hB (fun k w hk => by simp at hk) hv (by rw [hF]; rfl) (by simp) (by simp) (fun _ => by simp) SameM.rf
end KP

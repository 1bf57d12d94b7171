/-! The reference's machine: built-in functions. -/
theorem rN_32 {m : Int32} : (rN m - 1099511627776).toInt32 = m := by
  rw [← Int32.ofInt_int64ToInt, Int64.toInt_sub, rN_T, show (1099511627776 : Int64).toInt = 1099511627776 by decide]
  have := rN_n (n := m)
  rw [show (1099511627776 : Int) + m.toInt - 1099511627776 = m.toInt by omega, bmI (by omega) (by omega)]
  exact Int32.ofInt_toInt m
section KU
variable {M M0 : PM} {U : Nat → Bool} {ψ : Nat → Nat} {ns lim : Nat} {H : AHp} {n : Nat} {x e f : AV} {fns : List (Option AV)} {vs : List AV} {frs : List AF} {v : Int64} {w : AV} {fuel fl mo : Nat}
theorem RTv.eq2 {v u : Int64} {w a : AV} (hH : HeapM M U ψ ns H n) (h : RTv U ψ ns v w) (h' : RTv U ψ ns u a) : v = u ↔ w = a := by
  rcases h.int with ⟨m, rfl, _, m3, m4, m5⟩ | ⟨m, rfl, n4, n5⟩ | ⟨c, rfl, c1, c2, c4, c5⟩
  · constructor
    · intro h9; subst h9; exact ((h'.eqS m3).mp m4).symm
    · intro h9; subst h9; exact m4.trans ((h'.eqS m3).mpr rfl).symm
  · have := rN_n (n := m)
    rcases h'.int with ⟨m', rfl, _, q3, q4, q5⟩ | ⟨m', rfl, q4, q5⟩ | ⟨c', rfl, q1, q2, q4, q5⟩
    · constructor
      · intro h9; subst h9; omega
      · intro h9; cases h9
    · constructor
      · intro h9
        subst h9
        have e : m.toInt = m'.toInt := by omega
        rw [Int32.toInt_inj.mp e]
      · intro h9; cases h9; rw [n4, q4]
    · constructor
      · intro h9; subst h9; omega
      · intro h9; cases h9
  · rcases h'.int with ⟨m', rfl, _, q3, q4, q5⟩ | ⟨m', rfl, q4, q5⟩ | ⟨c', rfl, q1, q2, q4, q5⟩
    · constructor
      · intro h9; subst h9; omega
      · intro h9; cases h9
    · have := rN_n (n := m')
      constructor
      · intro h9; subst h9; omega
      · intro h9; cases h9
    · constructor
      · intro h9
        rw [c4, q4] at h9
        rw [lN_inj c1 q1 h9]
      · intro h9
        have h8 : ψ c = ψ c' := Sum.inr.inj (Sum.inr.inj h9)
        rw [c4, q4, hH.2 c c' c1 c2 q1 q2 h8]
theorem k_counts {d kk k : Nat} {va vb : Int64} {a b : AV} (h : LiveM fuel lim ns fns M U ψ x e f vs frs fl mo H n) (hk : k = kk + 8) (h17 : 17 ≤ k) (h22 : k ≤ 22) (hv : RTv U ψ ns va a) (hw : RTv U ψ ns vb b) {Q : Option (Option Value) → PM → Prop} (hq : ∀ o M', PostMM fuel lim ns fns M (match a, b with
        | .inr (.inl p), .inr (.inl q) => (match aCalc k p q with
          | some v => aRet x e v frs fl mo H n
          | none => aFl 13 fl mo H n)
        | _, _ => aFl 13 fl mo H n) o M' → Q o M') : SM (d + 4) 150 [.ref 0, .int (nI kk), .long va, .long vb] M Q := by
  refine ⟨qX10_counts, rfl, ⟨Nat.le_of_ble_eq_true rfl, rfl, 0, _, _, rfl, rfl⟩, ?_⟩
  show Ev (BM (d + 3) qX10_counts) Q 0 [some (.ref 0), some (.int (nI kk)), some (.long va), none, some (.long vb), none, none, none, none] [] M
  have hns : 23 ≤ ns := h.1.2.2.2.2.2.2.2.2.2.2.1
  have bad : (∀ o M', PostMM fuel lim ns fns M (aFl 13 fl mo H n) o M' → Q o M') → Ev (BM (d + 3) qX10_counts) Q 15 [some (.ref 0), some (.int (nI kk)), some (.long va), none, some (.long vb), none, none, none, none] [] M := fun hq => by
    repeat (refine ev_s rfl (?_ : Ev _ _ _ _ _ _))
    refine ev_cv rfl (as := [.ref 0, .int 13]) rfl rfl (Nat.le_of_ble_eq_true rfl) ?_
    refine k_fails ?_
    show Ev _ _ _ _ [.ref 5] _
    exact ev_s rfl (hq _ _ (h.f8 (c := 13) SameM.rf (by decide) (by decide)))
  repeat (refine ev_s rfl (?_ : Ev _ _ _ _ _ _))
  refine ev_cs rfl (by decide) (by decide) (as := [.long va]) rfl rfl (Nat.le_of_ble_eq_true rfl) ?_
  refine k_isNumber hv ?_
  rcases hv.int with ⟨m, rfl, _, m3, m4, m5⟩ | ⟨p, rfl, n4, n5⟩ | ⟨c, rfl, c1, c2, c4, c5⟩
  · show Ev _ _ _ _ [.int 0] _
    refine ev_ifT rfl (show (0 : Int32) = 0 from rfl) ?_
    exact bad hq
  · show Ev _ _ _ _ [.int 1] _
    refine ev_ifF rfl (show ¬ (1 : Int32) = 0 by decide) ?_
    repeat (refine ev_s rfl (?_ : Ev _ _ _ _ _ _))
    refine ev_cs rfl (by decide) (by decide) (as := [.long vb]) rfl rfl (Nat.le_of_ble_eq_true rfl) ?_
    refine k_isNumber hw ?_
    rcases hw.int with ⟨m', rfl, _, q3, q4, q5⟩ | ⟨q, rfl, q4, q5⟩ | ⟨c', rfl, q1, q2, q4, q5⟩
    · show Ev _ _ _ _ [.int 0] _
      refine ev_ifF rfl (show ¬ ¬ (0 : Int32) = 0 by decide) ?_
      exact bad hq
    · subst n4 q4
      dsimp only at hq
      show Ev _ _ _ _ [.int 1] _
      refine ev_ifT rfl (show ¬ (1 : Int32) = 0 by decide) ?_
      repeat (refine ev_s rfl (?_ : Ev _ _ _ _ _ _))
      rw [rN_32, rN_32]
      have ec : ∀ v', aCalc k p q = some v' → ∀ o M', PostMM fuel lim ns fns M (aRet x e v' frs fl mo H n) o M' → Q o M' := fun v' hv' o M' g => hq o M' (by rw [hv']; exact g)
      have c14 : (nI kk = 14) ↔ k = 22 := (nI_eq (b := 14) (by omega) (by decide)).trans (by omega)
      have c9 : (nI kk = 9) ↔ k = 17 := (nI_eq (b := 9) (by omega) (by decide)).trans (by omega)
      have c10 : (nI kk = 10) ↔ k = 18 := (nI_eq (b := 10) (by omega) (by decide)).trans (by omega)
      have c11 : (nI kk = 11) ↔ k = 19 := (nI_eq (b := 11) (by omega) (by decide)).trans (by omega)
      have c12 : (nI kk = 12) ↔ k = 20 := (nI_eq (b := 12) (by omega) (by decide)).trans (by omega)
      have c13 : (nI kk = 13) ↔ k = 21 := (nI_eq (b := 13) (by omega) (by decide)).trans (by omega)
      -- a number is given
      have give : ∀ r : Int32, aCalc k p q = some (aN r) → Ev (BM (d + 3) qX10_counts) Q 147 [some (.ref 0), some (.int (nI kk)), some (.long (rN p)), none, some (.long (rN q)), none, some (.int p), some (.int q), none] [.int r] M := fun r hr => by
        repeat (refine ev_s rfl (?_ : Ev _ _ _ _ _ _))
        refine ev_cv rfl (as := [.ref 0, .long (rN r)]) rfl rfl (Nat.le_of_ble_eq_true rfl) ?_
        refine k_gives ?_
        show Ev _ _ _ _ [.int 1] _
        exact ev_reti rfl rfl trivial rfl (ec _ hr _ _ (h.ret (w := aN r) rfl SameM.rf))
      -- which it is
      have from86 : ¬ k = 22 → (k = 20 ∨ k = 21 → ¬ q = 0) → Ev (BM (d + 3) qX10_counts) Q 86 [some (.ref 0), some (.int (nI kk)), some (.long (rN p)), none, some (.long (rN q)), none, some (.int p), some (.int q), none] [] M := fun n22 hz => by
        repeat (refine ev_s rfl (?_ : Ev _ _ _ _ _ _))
        refine ev_ic rfl (fun n17 => ?_) (fun n17 => ?_)
        · have n17 : ¬ k = 17 := fun h9 => n17 (c9.mpr h9)
          repeat (refine ev_s rfl (?_ : Ev _ _ _ _ _ _))
          refine ev_ic rfl (fun n18 => ?_) (fun n18 => ?_)
          · have n18 : ¬ k = 18 := fun h9 => n18 (c10.mpr h9)
            repeat (refine ev_s rfl (?_ : Ev _ _ _ _ _ _))
            refine ev_ic rfl (fun n19 => ?_) (fun n19 => ?_)
            · have n19 : ¬ k = 19 := fun h9 => n19 (c11.mpr h9)
              have hz' := hz (by omega)
              repeat (refine ev_s rfl (?_ : Ev _ _ _ _ _ _))
              refine ev_ic rfl (fun n20 => ?_) (fun n20 => ?_)
              · have n20 : ¬ k = 20 := fun h9 => n20 (c12.mpr h9)
                repeat (refine ev_s rfl (?_ : Ev _ _ _ _ _ _))
                refine ev_s rfl ⟨hz', ?_⟩
                refine give (p - p / q * q) ?_
                unfold aCalc
                rw [if_neg n22, if_neg n17, if_neg n18, if_neg n19, if_neg hz', if_neg n20]
              · have y20 : k = 20 := c12.mp (Decidable.not_not.mp n20)
                repeat (refine ev_s rfl (?_ : Ev _ _ _ _ _ _))
                refine ev_s rfl ⟨hz', ?_⟩
                show Ev _ _ _ _ [.int (p / q)] _
                iterate 1 (refine ev_s rfl (?_ : Ev _ _ _ _ _ _))
                refine give (p / q) ?_
                unfold aCalc
                rw [if_neg n22, if_neg n17, if_neg n18, if_neg n19, if_neg hz', if_pos y20]
            · have y : k = 19 := c11.mp (Decidable.not_not.mp n19)
              iterate 4 (refine ev_s rfl (?_ : Ev _ _ _ _ _ _))
              refine give (p * q) ?_
              unfold aCalc
              rw [if_neg n22, if_neg n17, if_neg n18, if_pos y]
          · have y : k = 18 := c10.mp (Decidable.not_not.mp n18)
            iterate 4 (refine ev_s rfl (?_ : Ev _ _ _ _ _ _))
            refine give (p - q) ?_
            unfold aCalc
            rw [if_neg n22, if_neg n17, if_pos y]
        · have y : k = 17 := c9.mp (Decidable.not_not.mp n17)
          iterate 4 (refine ev_s rfl (?_ : Ev _ _ _ _ _ _))
          refine give (p + q) ?_
          unfold aCalc
          rw [if_neg n22, if_pos y]
      -- a division by 0
      have zero : ¬ k = 22 → (k = 20 ∨ k = 21) → Ev (BM (d + 3) qX10_counts) Q 74 [some (.ref 0), some (.int (nI kk)), some (.long (rN p)), none, some (.long (rN q)), none, some (.int p), some (.int q), none] [] M := fun n22 hk2 => by
        repeat (refine ev_s rfl (?_ : Ev _ _ _ _ _ _))
        refine ev_if rfl (fun hz => from86 n22 (fun _ => hz)) (fun hz => ?_)
        have hz : q = 0 := Decidable.not_not.mp hz
        have e0 : aCalc k p q = none := by
          unfold aCalc
          rw [if_neg n22, if_neg (by omega), if_neg (by omega), if_neg (by omega), if_pos hz]
        rw [e0] at hq
        repeat (refine ev_s rfl (?_ : Ev _ _ _ _ _ _))
        refine ev_cv rfl (as := [.ref 0, .int 13]) rfl rfl (Nat.le_of_ble_eq_true rfl) ?_
        refine k_fails ?_
        show Ev _ _ _ _ [.ref 5] _
        exact ev_s rfl (hq _ _ (h.f8 (c := 13) SameM.rf (by decide) (by decide)))
      refine ev_ic rfl (fun n22 => ?_) (fun n22 => ?_)
      · have n22 : ¬ k = 22 := fun h9 => n22 (c14.mpr h9)
        repeat (refine ev_s rfl (?_ : Ev _ _ _ _ _ _))
        refine ev_ic rfl (fun y20 => zero n22 (Or.inl (c12.mp y20))) (fun n20 => ?_)
        repeat (refine ev_s rfl (?_ : Ev _ _ _ _ _ _))
        refine ev_ic rfl (fun n21 => from86 n22 (fun h9 => ?_)) (fun n21 => zero n22 (Or.inr (c13.mp (Decidable.not_not.mp n21))))
        rcases h9 with h9 | h9
        · exact (n20 (c12.mpr h9)).elim
        · exact (n21 (c13.mpr h9)).elim
      · have y22 : k = 22 := c14.mp (Decidable.not_not.mp n22)
        have e0 : aCalc k p q = some (aTr (decide (p < q))) := by unfold aCalc; rw [if_pos y22]
        repeat (refine ev_s rfl (?_ : Ev _ _ _ _ _ _))
        refine ev_ic rfl (fun hpq => ?_) (fun hpq => ?_)
        · have np : decide (p < q) = false := decide_eq_false (Int32.not_lt.mpr hpq)
          rw [np] at e0
          repeat (refine ev_s rfl (?_ : Ev _ _ _ _ _ _))
          refine ev_cv rfl (as := [.ref 0, .int (if false then 1 else 0)]) rfl rfl (Nat.le_of_ble_eq_true rfl) ?_
          refine k_says (U := U) (ψ := ψ) (ns := ns) (fun u hu => ?_) hns
          show Ev _ _ _ _ [.int 1] _
          exact ev_reti rfl rfl trivial rfl (ec _ e0 _ _ (h.ret hu SameM.rf))
        · have np : decide (p < q) = true := decide_eq_true (Int32.not_le.mp hpq)
          rw [np] at e0
          repeat (refine ev_s rfl (?_ : Ev _ _ _ _ _ _))
          refine ev_cv rfl (as := [.ref 0, .int (if true then 1 else 0)]) rfl rfl (Nat.le_of_ble_eq_true rfl) ?_
          refine k_says (U := U) (ψ := ψ) (ns := ns) (fun u hu => ?_) hns
          show Ev _ _ _ _ [.int 1] _
          exact ev_reti rfl rfl trivial rfl (ec _ e0 _ _ (h.ret hu SameM.rf))
    · show Ev _ _ _ _ [.int 0] _
      refine ev_ifF rfl (show ¬ ¬ (0 : Int32) = 0 by decide) ?_
      exact bad hq
  · show Ev _ _ _ _ [.int 0] _
    refine ev_ifT rfl (show (0 : Int32) = 0 from rfl) ?_
    exact bad hq
theorem kw_sw : ∀ kk, kk < 15 → swT (nI kk) 305 0 [124, 124, 160, 175, 192, 216, 234, 283, 296] = if kk ≤ 1 then 124 else if kk = 2 then 160 else if kk = 3 then 175 else if kk = 4 then 192 else if kk = 5 then 216 else if kk = 6 then 234 else if kk = 7 then 283 else if kk = 8 then 296 else 305 := by decide
theorem k_built {d kk k : Nat} (h : LiveM fuel lim ns fns M U ψ x e f vs frs fl mo H n) (hk : k = kk + 8) (h22 : k ≤ 22) {Q : Option (Option Value) → PM → Prop} (hq : ∀ o M', PostMM fuel lim ns fns M (aBuilt lim fns x e f k vs frs fl mo H n) o M' → Q o M') : SM (d + 7) 149 [.ref 0, .int (nI kk)] M Q := by
  refine ⟨qX10_built, rfl, ⟨Nat.le_of_ble_eq_true rfl, rfl, 0, _, _, rfl, rfl⟩, ?_⟩
  show Ev (BM (d + 6) qX10_built) Q 0 [some (.ref 0), some (.int (nI kk)), none, none, none, none, none, none, none, none] [] M
  have hns : 23 ≤ ns := h.1.2.2.2.2.2.2.2.2.2.2.1
  have hV := h.1.2.2.2.2.2.2.2.1
  have hH := h.1.1.2.2.2.2.2.2
  have h10 := hV.2.1
  have c6 : (nI kk = 6) ↔ kk = 6 := nI_eq (b := 6) (by omega) (by decide)
  have c3 : (nI kk = 3) ↔ kk = 3 := nI_eq (b := 3) (by omega) (by decide)
  have c5 : (nI kk = 5) ↔ kk = 5 := nI_eq (b := 5) (by omega) (by decide)
  have c8 : (nI kk = 8) ↔ kk = 8 := nI_eq (b := 8) (by omega) (by decide)
  -- the work
  have work : (k = 14 ∨ vs.length = aWant k) → ∀ z2, Ev (BM (d + 6) qX10_built) Q 56 [some (.ref 0), some (.int (nI kk)), some (.int z2), none, none, none, none, none, none, none] [] M := fun hw z2 => by
    repeat (refine ev_s rfl (?_ : Ev _ _ _ _ _ _))
    refine ev_lald rfl rfl (show vp_in 0 10 from vp_in_nI (n := 0) (by decide) (by decide)) ?_
    repeat (refine ev_s rfl (?_ : Ev _ _ _ _ _ _))
    refine ev_lald rfl rfl (show vp_in 1 10 from vp_in_nI (n := 1) (by decide) (by decide)) ?_
    rw [show (0 : Int32).toNatClampNeg = 0 by decide, show (1 : Int32).toNatClampNeg = 1 by decide]
    have v0 : ∀ a, vs[0]? = some a → RTv U ψ ns (M.2 14 0) a := fun a h9 => hV.2.2 0 a h9
    have v1 : ∀ a, vs[1]? = some a → RTv U ψ ns (M.2 14 1) a := fun a h9 => hV.2.2 1 a h9
    generalize M.2 14 0 = wa at v0 ⊢
    generalize M.2 14 1 = wb at v1 ⊢
    repeat (refine ev_s rfl (?_ : Ev _ _ _ _ _ _))
    refine ev_sw rfl ?_
    rw [kw_sw kk (by omega)]
    by_cases k14 : k = 14
    · -- LIST
      have e6 : kk = 6 := by omega
      subst e6
      show Ev _ _ 234 _ _ _
      unfold aBuilt at hq
      rw [if_pos k14] at hq
      have loop : ∀ (q : Nat) (M1 : PM) (U1 : Nat → Bool) (ψ1 : Nat → Nat) (H1 : AHp) (n1 : Nat) (u : Int64) (l : AV), q ≤ vs.length → LiveM fuel lim ns fns M1 U1 ψ1 x e f vs frs fl mo H1 n1 → RTv U1 ψ1 ns u l → SameM IDK M M1 → (∀ o M', PostMM fuel lim ns fns M (aList lim fns (rts x e f [] vs (flatA frs)) (vs.take q).reverse l H1 n1 (fun l H n => aRet x e l frs fl mo H n) (aFl 8 fl mo)) o M' → Q o M') → Ev (BM (d + 6) qX10_built) Q 247 [some (.ref 0), some (.int (nI 6)), some (.int z2), some (.long wa), none, some (.long wb), none, some (.long u), none, some (.int (nI q - 1))] [] M1 := by
        intro q
        induction q with
        | zero =>
          intro M1 U1 ψ1 H1 n1 u l hq1 hL hu hs hq
          repeat (refine ev_s rfl (?_ : Ev _ _ _ _ _ _))
          refine ev_ifT rfl (show nI 0 - 1 < 0 by decide) ?_
          repeat (refine ev_s rfl (?_ : Ev _ _ _ _ _ _))
          refine ev_cv rfl (as := [.ref 0, .long u]) rfl rfl (Nat.le_of_ble_eq_true rfl) ?_
          refine k_gives ?_
          show Ev _ _ _ _ [.int 1] _
          exact ev_reti rfl rfl trivial rfl (hq _ _ (hL.ret hu hs))
        | succ q ih =>
          intro M1 U1 ψ1 H1 n1 u l hq1 hL hu hs hq
          have eq0 : vs[q]? = some vs[q] := List.getElem?_eq_getElem (by omega)
          generalize vs[q] = a0 at eq0
          have et : (vs.take (q + 1)).reverse = a0 :: (vs.take q).reverse := by
            rw [List.take_succ, eq0]
            simp
          rw [et] at hq
          unfold aList at hq
          rw [nI_pred]
          have ra := hL.1.2.2.2.2.2.2.2.1.2.2 q a0 eq0
          repeat (refine ev_s rfl (?_ : Ev _ _ _ _ _ _))
          refine ev_ifF rfl (show ¬ nI q < 0 from Int32.not_lt.mpr (nI_pos' (by omega))) ?_
          repeat (refine ev_s rfl (?_ : Ev _ _ _ _ _ _))
          refine ev_lald rfl rfl (vp_in_nI (show q < 10 by omega) (by decide)) ?_
          rw [nI_clamp (by omega)]
          repeat (refine ev_s rfl (?_ : Ev _ _ _ _ _ _))
          refine ev_cv rfl (as := [.ref 0, .long (M1.2 14 q), .long u, .long (-1)]) rfl rfl (Nat.le_of_ble_eq_true rfl) ?_
          refine k_consL (d := d) hL ra hu hs (P := fun r => ∀ o M', PostMM fuel lim ns fns M r o M' → Q o M') hq (fun M2 U2 ψ2 v2 p2 L2 r2 kp2 s2 => ?_) (fun M2 p1 p2 => p1 _ _ p2)
          show Ev _ _ _ _ [.long v2] _
          iterate 3 (refine ev_s rfl (?_ : Ev _ _ _ _ _ _))
          rw [← Int32.sub_eq_add_neg]
          exact ih M2 U2 ψ2 _ _ v2 _ (by omega) L2 r2 s2 p2
      iterate 7 (refine ev_s rfl (?_ : Ev _ _ _ _ _ _))
      rw [hV.1]
      refine loop vs.length M U ψ H n (-1) (aS 0) (Nat.le_refl _) h (RTv.nil (by omega)) SameM.rf ?_
      rw [List.take_length]
      exact hq
    · have hl := hw.resolve_left k14
      unfold aBuilt at hq
      rw [if_neg k14] at hq
      by_cases hk1 : k = 8 ∨ k = 9 ∨ k = 11 ∨ k = 13 ∨ k = 16
      · -- one value
        have h1 : vs.length = 1 := by rw [hl]; unfold aWant; rw [if_pos hk1]
        obtain ⟨a, rfl⟩ := List.length_eq_one_iff.mp h1
        have ra := v0 a rfl
        dsimp only at hq
        rcases hk1 with e9 | e9 | e9 | e9 | e9
        · rw [if_pos e9] at hq
          have e0 : kk = 0 := by omega
          subst e0
          show Ev _ _ 124 _ _ _
          repeat (refine ev_s rfl (?_ : Ev _ _ _ _ _ _))
          refine ev_cs rfl (by decide) (by decide) (as := [.long wa]) rfl rfl (Nat.le_of_ble_eq_true rfl) ?_
          refine k_isCell ra ?_
          rcases ra.int with ⟨m', w1, _, w3, w4, w5⟩ | ⟨m', w1, w4, w5⟩ | ⟨c', w1, w2, w3, w4, w5⟩
          · rw [w1]
            rw [show aHd H a = none by rw [w1]; rfl] at hq
            show Ev _ _ _ _ [.int 0] _
            refine ev_ifF rfl (show ¬ ¬ (0 : Int32) = 0 by decide) ?_
            repeat (refine ev_s rfl (?_ : Ev _ _ _ _ _ _))
            refine ev_cv rfl (as := [.ref 0, .int 13]) rfl rfl (Nat.le_of_ble_eq_true rfl) ?_
            refine k_fails ?_
            show Ev _ _ _ _ [.ref 5] _
            exact ev_s rfl (hq _ _ (h.f8 (c := 13) SameM.rf (by decide) (by decide)))
          · rw [w1]
            rw [show aHd H a = none by rw [w1]; rfl] at hq
            show Ev _ _ _ _ [.int 0] _
            refine ev_ifF rfl (show ¬ ¬ (0 : Int32) = 0 by decide) ?_
            repeat (refine ev_s rfl (?_ : Ev _ _ _ _ _ _))
            refine ev_cv rfl (as := [.ref 0, .int 13]) rfl rfl (Nat.le_of_ble_eq_true rfl) ?_
            refine k_fails ?_
            show Ev _ _ _ _ [.ref 5] _
            exact ev_s rfl (hq _ _ (h.f8 (c := 13) SameM.rf (by decide) (by decide)))
          · rw [show aIsC a = true by rw [w1]; rfl]
            show Ev _ _ _ _ [.int 1] _
            refine ev_ifT rfl (show ¬ (1 : Int32) = 0 by decide) ?_
            repeat (refine ev_s rfl (?_ : Ev _ _ _ _ _ _))
            refine ev_ifF rfl (show ¬ ¬ nI 0 = 0 by decide) ?_
            repeat (refine ev_s rfl (?_ : Ev _ _ _ _ _ _))
            refine ev_cv rfl (as := [.ref 0, .long wa]) rfl rfl (Nat.le_of_ble_eq_true rfl) ?_
            refine k_headOf hH ra (fun y b b1 b2 => ?_) (fun b1 => by rw [w1] at b1; cases b1)
            rw [b1] at hq
            show Ev _ _ _ _ [.long y, .ref 0] _
            repeat (refine ev_s rfl (?_ : Ev _ _ _ _ _ _))
            refine ev_cv rfl (as := [.ref 0, .long y]) rfl rfl (Nat.le_of_ble_eq_true rfl) ?_
            refine k_gives ?_
            show Ev _ _ _ _ [.int 1] _
            exact ev_reti rfl rfl trivial rfl (hq _ _ (h.ret b2 SameM.rf))
        · rw [if_neg (by omega), if_pos e9] at hq
          have e0 : kk = 1 := by omega
          subst e0
          show Ev _ _ 124 _ _ _
          repeat (refine ev_s rfl (?_ : Ev _ _ _ _ _ _))
          refine ev_cs rfl (by decide) (by decide) (as := [.long wa]) rfl rfl (Nat.le_of_ble_eq_true rfl) ?_
          refine k_isCell ra ?_
          rcases ra.int with ⟨m', w1, _, w3, w4, w5⟩ | ⟨m', w1, w4, w5⟩ | ⟨c', w1, w2, w3, w4, w5⟩
          · rw [w1]
            rw [show aTl H a = none by rw [w1]; rfl] at hq
            show Ev _ _ _ _ [.int 0] _
            refine ev_ifF rfl (show ¬ ¬ (0 : Int32) = 0 by decide) ?_
            repeat (refine ev_s rfl (?_ : Ev _ _ _ _ _ _))
            refine ev_cv rfl (as := [.ref 0, .int 13]) rfl rfl (Nat.le_of_ble_eq_true rfl) ?_
            refine k_fails ?_
            show Ev _ _ _ _ [.ref 5] _
            exact ev_s rfl (hq _ _ (h.f8 (c := 13) SameM.rf (by decide) (by decide)))
          · rw [w1]
            rw [show aTl H a = none by rw [w1]; rfl] at hq
            show Ev _ _ _ _ [.int 0] _
            refine ev_ifF rfl (show ¬ ¬ (0 : Int32) = 0 by decide) ?_
            repeat (refine ev_s rfl (?_ : Ev _ _ _ _ _ _))
            refine ev_cv rfl (as := [.ref 0, .int 13]) rfl rfl (Nat.le_of_ble_eq_true rfl) ?_
            refine k_fails ?_
            show Ev _ _ _ _ [.ref 5] _
            exact ev_s rfl (hq _ _ (h.f8 (c := 13) SameM.rf (by decide) (by decide)))
          · rw [show aIsC a = true by rw [w1]; rfl]
            show Ev _ _ _ _ [.int 1] _
            refine ev_ifT rfl (show ¬ (1 : Int32) = 0 by decide) ?_
            repeat (refine ev_s rfl (?_ : Ev _ _ _ _ _ _))
            refine ev_ifT rfl (show ¬ nI 1 = 0 by decide) ?_
            repeat (refine ev_s rfl (?_ : Ev _ _ _ _ _ _))
            refine ev_cv rfl (as := [.ref 0, .long wa]) rfl rfl (Nat.le_of_ble_eq_true rfl) ?_
            refine k_tailOf hH ra (fun y b b1 b2 => ?_) (fun b1 => by rw [w1] at b1; cases b1)
            rw [b1] at hq
            show Ev _ _ _ _ [.long y, .ref 0] _
            refine ev_cv rfl (as := [.ref 0, .long y]) rfl rfl (Nat.le_of_ble_eq_true rfl) ?_
            refine k_gives ?_
            show Ev _ _ _ _ [.int 1] _
            exact ev_reti rfl rfl trivial rfl (hq _ _ (h.ret b2 SameM.rf))
        · rw [if_neg (by omega), if_neg (by omega), if_pos e9] at hq
          have e0 : kk = 3 := by omega
          subst e0
          show Ev _ _ 175 _ _ _
          repeat (refine ev_s rfl (?_ : Ev _ _ _ _ _ _))
          refine ev_cs rfl (by decide) (by decide) (as := [.long wa]) rfl rfl (Nat.le_of_ble_eq_true rfl) ?_
          refine k_isCell ra ?_
          cases hc : aIsC a with
          | true =>
            rw [hc] at hq
            show Ev _ _ _ _ [.int 1, .ref 0] _
            refine ev_ifT rfl (show ¬ (1 : Int32) = 0 by decide) ?_
            repeat (refine ev_s rfl (?_ : Ev _ _ _ _ _ _))
            refine ev_cv rfl (as := [.ref 0, .int (if false then 1 else 0)]) rfl rfl (Nat.le_of_ble_eq_true rfl) ?_
            refine k_says (U := U) (ψ := ψ) (ns := ns) (fun u hu => ?_) hns
            show Ev _ _ _ _ [.int 1] _
            exact ev_reti rfl rfl trivial rfl (hq _ _ (h.ret hu SameM.rf))
          | false =>
            rw [hc] at hq
            show Ev _ _ _ _ [.int 0, .ref 0] _
            refine ev_ifF rfl (show ¬ ¬ (0 : Int32) = 0 by decide) ?_
            repeat (refine ev_s rfl (?_ : Ev _ _ _ _ _ _))
            refine ev_cv rfl (as := [.ref 0, .int (if true then 1 else 0)]) rfl rfl (Nat.le_of_ble_eq_true rfl) ?_
            refine k_says (U := U) (ψ := ψ) (ns := ns) (fun u hu => ?_) hns
            show Ev _ _ _ _ [.int 1] _
            exact ev_reti rfl rfl trivial rfl (hq _ _ (h.ret hu SameM.rf))
        · rw [if_neg (by omega), if_neg (by omega), if_neg (by omega), if_pos e9] at hq
          have e0 : kk = 5 := by omega
          subst e0
          have a0 := ra.eqS (k := 0) (by decide)
          show Ev _ _ 216 _ _ _
          repeat (refine ev_s rfl (?_ : Ev _ _ _ _ _ _))
          refine ev_lif rfl (fun hc => ?_) (fun hc => ?_)
          · rw [decide_eq_false (fun h9 => hc (a0.mpr h9))] at hq
            repeat (refine ev_s rfl (?_ : Ev _ _ _ _ _ _))
            refine ev_cv rfl (as := [.ref 0, .int (if false then 1 else 0)]) rfl rfl (Nat.le_of_ble_eq_true rfl) ?_
            refine k_says (U := U) (ψ := ψ) (ns := ns) (fun u hu => ?_) hns
            show Ev _ _ _ _ [.int 1] _
            exact ev_reti rfl rfl trivial rfl (hq _ _ (h.ret hu SameM.rf))
          · rw [decide_eq_true (a0.mp (Decidable.not_not.mp hc))] at hq
            repeat (refine ev_s rfl (?_ : Ev _ _ _ _ _ _))
            refine ev_cv rfl (as := [.ref 0, .int (if true then 1 else 0)]) rfl rfl (Nat.le_of_ble_eq_true rfl) ?_
            refine k_says (U := U) (ψ := ψ) (ns := ns) (fun u hu => ?_) hns
            show Ev _ _ _ _ [.int 1] _
            exact ev_reti rfl rfl trivial rfl (hq _ _ (h.ret hu SameM.rf))
        · rw [if_neg (by omega), if_neg (by omega), if_neg (by omega), if_neg (by omega), if_pos e9] at hq
          have e0 : kk = 8 := by omega
          subst e0
          show Ev _ _ 296 _ _ _
          repeat (refine ev_s rfl (?_ : Ev _ _ _ _ _ _))
          refine ev_cs rfl (by decide) (by decide) (as := [.long wa]) rfl rfl (Nat.le_of_ble_eq_true rfl) ?_
          refine k_isNumber ra ?_
          show Ev _ _ _ _ [.int (if aIsN a then 1 else 0), .ref 0] _
          refine ev_cv rfl (as := [.ref 0, .int (if aIsN a then 1 else 0)]) rfl rfl (Nat.le_of_ble_eq_true rfl) ?_
          refine k_says (U := U) (ψ := ψ) (ns := ns) (fun u hu => ?_) hns
          show Ev _ _ _ _ [.int 1] _
          exact ev_reti rfl rfl trivial rfl (hq _ _ (h.ret hu SameM.rf))
      · -- two values
        have h2 : vs.length = 2 := by rw [hl]; unfold aWant; rw [if_neg hk1]
        obtain ⟨a, b, rfl⟩ : ∃ a b, vs = [a, b] := by
          match vs, h2 with
          | [a, b], _ => exact ⟨a, b, rfl⟩
        have ra := v0 a rfl
        have rb := v1 b rfl
        dsimp only at hq
        rw [if_neg hk1] at hq
        by_cases k10 : k = 10
        · rw [if_pos k10] at hq
          have e0 : kk = 2 := by omega
          subst e0
          show Ev _ _ 160 _ _ _
          repeat (refine ev_s rfl (?_ : Ev _ _ _ _ _ _))
          refine ev_cv rfl (as := [.ref 0, .long wa, .long wb, .long (-1)]) rfl rfl (Nat.le_of_ble_eq_true rfl) ?_
          refine k_consL (d := d) h ra rb SameM.rf (P := fun r => ∀ o M', PostMM fuel lim ns fns M r o M' → Q o M') hq (fun M2 U2 ψ2 v2 p2 L2 r2 kp2 s2 => ?_) (fun M2 p1 p2 => p1 _ _ p2)
          show Ev _ _ _ _ [.long v2, .ref 0] _
          refine ev_cv rfl (as := [.ref 0, .long v2]) rfl rfl (Nat.le_of_ble_eq_true rfl) ?_
          refine k_gives ?_
          show Ev _ _ _ _ [.int 1] _
          exact ev_reti rfl rfl trivial rfl (p2 _ _ (L2.ret r2 s2))
        · rw [if_neg k10] at hq
          by_cases k12 : k = 12
          · rw [if_pos k12] at hq
            have e0 : kk = 4 := by omega
            subst e0
            have eab := RTv.eq2 hH ra rb
            show Ev _ _ 192 _ _ _
            repeat (refine ev_s rfl (?_ : Ev _ _ _ _ _ _))
            refine ev_cs rfl (by decide) (by decide) (as := [.long wa]) rfl rfl (Nat.le_of_ble_eq_true rfl) ?_
            refine k_isCell ra ?_
            cases hc : aIsC a with
            | true =>
              rw [hc, show (decide (a = b) && !true) = false by simp] at hq
              show Ev _ _ _ _ [.int 1, .ref 0] _
              refine ev_ifT rfl (show ¬ (1 : Int32) = 0 by decide) ?_
              repeat (refine ev_s rfl (?_ : Ev _ _ _ _ _ _))
              refine ev_cv rfl (as := [.ref 0, .int (if false then 1 else 0)]) rfl rfl (Nat.le_of_ble_eq_true rfl) ?_
              refine k_says (U := U) (ψ := ψ) (ns := ns) (fun u hu => ?_) hns
              show Ev _ _ _ _ [.int 1] _
              exact ev_reti rfl rfl trivial rfl (hq _ _ (h.ret hu SameM.rf))
            | false =>
              rw [hc] at hq
              show Ev _ _ _ _ [.int 0, .ref 0] _
              refine ev_ifF rfl (show ¬ ¬ (0 : Int32) = 0 by decide) ?_
              repeat (refine ev_s rfl (?_ : Ev _ _ _ _ _ _))
              refine ev_lif rfl (fun hc2 => ?_) (fun hc2 => ?_)
              · rw [decide_eq_false (fun h9 => hc2 (eab.mpr h9))] at hq
                repeat (refine ev_s rfl (?_ : Ev _ _ _ _ _ _))
                refine ev_cv rfl (as := [.ref 0, .int (if false then 1 else 0)]) rfl rfl (Nat.le_of_ble_eq_true rfl) ?_
                refine k_says (U := U) (ψ := ψ) (ns := ns) (fun u hu => ?_) hns
                show Ev _ _ _ _ [.int 1] _
                exact ev_reti rfl rfl trivial rfl (hq _ _ (h.ret hu SameM.rf))
              · rw [decide_eq_true (eab.mp (Decidable.not_not.mp hc2))] at hq
                repeat (refine ev_s rfl (?_ : Ev _ _ _ _ _ _))
                refine ev_cv rfl (as := [.ref 0, .int (if true then 1 else 0)]) rfl rfl (Nat.le_of_ble_eq_true rfl) ?_
                refine k_says (U := U) (ψ := ψ) (ns := ns) (fun u hu => ?_) hns
                show Ev _ _ _ _ [.int 1] _
                exact ev_reti rfl rfl trivial rfl (hq _ _ (h.ret hu SameM.rf))
          · rw [if_neg k12] at hq
            by_cases k15 : k = 15
            · rw [if_pos k15] at hq
              have e0 : kk = 7 := by omega
              subst e0
              show Ev _ _ 283 _ _ _
              repeat (refine ev_s rfl (?_ : Ev _ _ _ _ _ _))
              exact ev_reti rfl rfl trivial rfl (hq _ _ (h.ev2 ra rb SameM.rf))
            · rw [if_neg k15] at hq
              rw [if_neg (by omega), if_neg (by omega), if_neg (by omega), if_neg (by omega), if_neg (by omega), if_neg (by omega), if_neg (by omega), if_neg (by omega)]
              repeat (refine ev_s rfl (?_ : Ev _ _ _ _ _ _))
              refine ev_cv rfl (as := [.ref 0, .int (nI kk), .long wa, .long wb]) rfl rfl (Nat.le_of_ble_eq_true rfl) ?_
              refine k_counts h hk (by omega) h22 ra rb (fun o M' g => ?_)
              have g2 := hq o M' g
              cases o with
              | none => exact g2
              | some o =>
                have e9 : ∃ y : Int32, o = some (.int y) := by
                  obtain ⟨_, g3⟩ := g
                  revert g3
                  split
                  · rintro ⟨g4, _⟩; exact ⟨_, Option.some.inj g4⟩
                  · rintro ⟨g4, _⟩; cases g4
                obtain ⟨y, rfl⟩ := e9
                show Ev _ _ _ _ [.int y] _
                exact ev_reti rfl rfl trivial rfl g2
  -- how many
  have at27 : ∀ one : Bool, (one = true ↔ (kk < 2 ∨ kk = 3 ∨ kk = 5 ∨ kk = 8)) → Ev (BM (d + 6) qX10_built) Q 26 [some (.ref 0), some (.int (nI kk)), none, none, none, none, none, none, none, none] [.int (if one then 1 else 0)] M := fun one hone => by
    have ew : aWant k = if one then 1 else 2 := by
      unfold aWant
      cases one with
      | true =>
        have := hone.mp rfl
        rw [if_pos (by omega)]; rfl
      | false =>
        have : ¬ (kk < 2 ∨ kk = 3 ∨ kk = 5 ∨ kk = 8) := fun h9 => by have := hone.mpr h9; cases this
        rw [if_neg (by omega)]; rfl
    repeat (refine ev_s rfl (?_ : Ev _ _ _ _ _ _))
    refine ev_ic rfl (fun hc => work (Or.inl (by have := c6.mp hc; omega)) _) (fun hc => ?_)
    have n14 : ¬ k = 14 := fun h9 => hc (c6.mpr (by omega))
    repeat (refine ev_s rfl (?_ : Ev _ _ _ _ _ _))
    rw [hV.1]
    have cmp : ∀ y : Nat, y ≤ 2 → aWant k = y → Ev (BM (d + 6) qX10_built) Q 46 [some (.ref 0), some (.int (nI kk)), some (.int (if one then 1 else 0)), none, none, none, none, none, none, none] [.int (nI y), .int (nI vs.length)] M := fun y hy hwy => by
      refine ev_ic rfl (fun hc2 => work (Or.inr ?_) _) (fun hc2 => ?_)
      · rw [hwy]; exact (nI_eq (by omega) (by omega)).mp hc2
      · have hne : ¬ vs.length = aWant k := fun h9 => hc2 (by rw [h9, hwy]; rfl)
        rw [aBuilt_len (by omega) h22 n14 hne] at hq
        repeat (refine ev_s rfl (?_ : Ev _ _ _ _ _ _))
        refine ev_cv rfl (as := [.ref 0, .int 11]) rfl rfl (Nat.le_of_ble_eq_true rfl) ?_
        refine k_fails ?_
        show Ev _ _ _ _ [.ref 5] _
        exact ev_s rfl (hq _ _ (h.f8 (c := 11) SameM.rf (by decide) (by decide)))
    cases one with
    | true =>
      refine ev_ifF rfl (show ¬ (1 : Int32) = 0 by decide) ?_
      iterate 2 (refine ev_s rfl (?_ : Ev _ _ _ _ _ _))
      exact cmp 1 (by decide) ew
    | false =>
      refine ev_ifT rfl (show (0 : Int32) = 0 from rfl) ?_
      iterate 1 (refine ev_s rfl (?_ : Ev _ _ _ _ _ _))
      exact cmp 2 (by decide) ew
  have yes : (kk < 2 ∨ kk = 3 ∨ kk = 5 ∨ kk = 8) → Ev (BM (d + 6) qX10_built) Q 21 [some (.ref 0), some (.int (nI kk)), none, none, none, none, none, none, none, none] [] M := fun h9 => by
    iterate 2 (refine ev_s rfl (?_ : Ev _ _ _ _ _ _))
    exact at27 true ⟨fun _ => h9, fun _ => rfl⟩
  repeat (refine ev_s rfl (?_ : Ev _ _ _ _ _ _))
  refine ev_ic rfl (fun hc => yes (Or.inl ((nI_ltI (b := 2) (by omega) (by decide)).mp hc))) (fun hc => ?_)
  repeat (refine ev_s rfl (?_ : Ev _ _ _ _ _ _))
  refine ev_ic rfl (fun hc2 => yes (Or.inr (Or.inl (c3.mp hc2)))) (fun hc2 => ?_)
  repeat (refine ev_s rfl (?_ : Ev _ _ _ _ _ _))
  refine ev_ic rfl (fun hc3 => yes (Or.inr (Or.inr (Or.inl (c5.mp hc3))))) (fun hc3 => ?_)
  repeat (refine ev_s rfl (?_ : Ev _ _ _ _ _ _))
  refine ev_ic rfl (fun hc4 => ?_) (fun hc4 => yes (Or.inr (Or.inr (Or.inr (c8.mp (Decidable.not_not.mp hc4))))))
  iterate 1 (refine ev_s rfl (?_ : Ev _ _ _ _ _ _))
  refine at27 false ⟨fun h9 => (by cases h9), fun h9 => ?_⟩
  rcases h9 with h9 | h9 | h9 | h9
  · exact (hc (nI_lt (b := 2) h9 (by decide))).elim
  · exact (hc2 (c3.mpr h9)).elim
  · exact (hc3 (c5.mpr h9)).elim
  · exact (hc4 (c8.mpr h9)).elim
end KU

/-! The class's reader: numbers, atoms, tokens, whole texts. -/
section RD4
variable {l : List Nat} {N lim : Nat} {fns : List (Option AV)} {M : PM} {fr : List Nat} {ψ : Nat → Nat} {H : AHp} {n p : Nat} {op : List (Nat × Nat)} {pe : List AV} {wh : Option AV} {nm : List (List Nat)}
theorem lN_neg {s : Nat} (h : s ≤ 2 ^ 63) : (-(lN s)).toInt = -(s : Int) := Int64.toInt_neg_ofNat_of_le h
theorem tw_go {f : Nat → Bool} {t : List Nat} {p c : Nat} (h : t[p]? = some c) (hf : f c = true) : (t.drop p).takeWhile f = c :: (t.drop (p + 1)).takeWhile f := by
  have hp := (List.getElem?_eq_some_iff.mp h).1
  have e : t.drop p = c :: t.drop (p + 1) := by
    rw [List.drop_eq_getElem_cons hp]
    congr 1
    exact (List.getElem?_eq_some_iff.mp h).2
  rw [e, List.takeWhile_cons, hf]
  simp
theorem tw_no {f : Nat → Bool} {t : List Nat} {p c : Nat} (h : t[p]? = some c) (hf : f c = false) : (t.drop p).takeWhile f = [] := by
  have hp := (List.getElem?_eq_some_iff.mp h).1
  have e : t.drop p = c :: t.drop (p + 1) := by
    rw [List.drop_eq_getElem_cons hp]
    congr 1
    exact (List.getElem?_eq_some_iff.mp h).2
  rw [e, List.takeWhile_cons, hf]
  simp
theorem tw_end {f : Nat → Bool} {t : List Nat} {p : Nat} (h : t.length ≤ p) : (t.drop p).takeWhile f = [] := by
  rw [List.drop_of_length_le h]
  rfl
theorem dg_range {c : Nat} (h : isDg c = true) : 48 ≤ c ∧ c ≤ 57 := by
  unfold isDg at h
  simp at h
  exact h
/-- what the class holds of the digits -/
theorem num_class {V s : Nat} (neg : Bool) (h1 : V ≤ 2147483648 → s = V) (h2 : 2147483648 < V → 2147483648 < s) (hb : s ≤ 21474836489) :
    ((if neg then -(lN s) else lN s) < -2147483648 ∨ 2147483647 < (if neg then -(lN s) else lN s)) ↔ ¬ V ≤ (if neg then 2147483648 else 2147483647) := by
  have e1 : (-2147483648 : Int64).toInt = -2147483648 := by decide
  have e2 : (2147483647 : Int64).toInt = 2147483647 := by decide
  cases neg with
  | true =>
    simp only [if_true]
    rw [Int64.lt_iff_toInt_lt, Int64.lt_iff_toInt_lt, lN_neg (by omega), e1, e2]
    by_cases hV : V ≤ 2147483648
    · have := h1 hV
      constructor
      · intro h; omega
      · intro h; omega
    · have := h2 (by omega)
      constructor
      · intro h; omega
      · intro h; omega
  | false =>
    simp only [if_false, Bool.false_eq_true]
    rw [Int64.lt_iff_toInt_lt, Int64.lt_iff_toInt_lt, pk_lT (by omega), e1, e2]
    by_cases hV : V ≤ 2147483648
    · have := h1 hV
      constructor
      · intro h; omega
      · intro h; omega
    · have := h2 (by omega)
      constructor
      · intro h; omega
      · intro h; omega
theorem num_i {s : Nat} (neg : Bool) (hb : s ≤ 21474836489) : (if neg then -(lN s) else lN s).toInt32 = Int32.ofInt (if neg then -(s : Int) else (s : Int)) := by
  rw [← Int32.ofInt_int64ToInt]
  cases neg with
  | true => simp only [if_true]; rw [lN_neg (by omega)]
  | false => simp only [if_false, Bool.false_eq_true]; rw [pk_lT (by omega)]
theorem r_readNumber {d c : Nat} (h : RdC l N lim fns M fr ψ H n p op pe wh nm) (hp : p < N) (hc0 : (l.take N)[p]? = some c) {Q : Option (Option Value) → PM → Prop}
    (hS : ∀ m q M', rNum (l.take N) p (c == 45) = .inl (m, q) → RdC l N lim fns M' fr ψ H n q op pe wh nm → Same [24] M M' → Q (some (some (.long (ofN m)))) M')
    (hF : ∀ f M' w, rNum (l.take N) p (c == 45) = .inr f → PostR l N lim fns M (.inr (f, p, nm, H, n)) M' → M'.1 24 6 = nI op.length → M'.1 24 11 = M.1 24 11 → Q (some (some (.long w))) M') : SC (d + 2) 78 [.ref 24] M Q := by
  refine ⟨qX4_readNumber, rfl, ⟨Nat.le_of_ble_eq_true rfl, rfl, 24, _, _, rfl, rfl⟩, ?_⟩
  show Ev (BC (d + 1) qX4_readNumber) Q 0 [some (.ref 24), none, none, none, none, none, none] [] M
  have hlen := h.len
  have h2000 : N ≤ 2000 := by have := h.2.2.1.2.1; have := h.2.2.2.1; omega
  obtain ⟨c', b1, b2, b3, b4⟩ := h.byte hp
  have ec : c' = c := Option.some.inj (b1.symm.trans hc0)
  subst ec
  obtain ⟨k1, k2, k3, k4, k5, k6, k7, k8, k9, k10, k11, k12, k13, k14, k15, k16⟩ := id h
  generalize hneg : (c' == 45) = neg at *
  generalize hp0 : (if neg then p + 1 else p) = p0 at *
  have hp0N : p ≤ p0 ∧ p0 ≤ N := by rw [← hp0]; split <;> omega
  -- behind the digits
  have fin : ∀ (s : Nat) (M1 : PM), dSat 2147483648 0 (((l.take N).drop p0).takeWhile isDg) = s → s ≤ 21474836489 → RdC l N lim fns M1 fr ψ H n (spanE isDg (l.take N) p0) op pe wh nm → Same [24] M M1 → M1.1 24 11 = M.1 24 11 → Ev (BC (d + 1) qX4_readNumber) Q 115 [some (.ref 24), some (.int (nI p)), some (.int (if neg then 1 else 0)), some (.long (lN s)), none, none, none] [] M1 := by
    intro s M1 hs hb hR hsm h11
    obtain ⟨v1, v2⟩ := dSat_val (thr := 2147483648) (((l.take N).drop p0).takeWhile isDg) 0
    rw [hs] at v1 v2
    have num := num_class neg (fun h9 => v1 h9) v2 hb
    -- with the number
    have rest : Ev (BC (d + 1) qX4_readNumber) Q 125 [some (.ref 24), some (.int (nI p)), some (.int (if neg then 1 else 0)), some (.long (lN s)), none, none, none] [.long (if neg then -(lN s) else lN s)] M1 := by
      have bad : ¬ dVal 0 (((l.take N).drop p0).takeWhile isDg) ≤ (if neg then 2147483648 else 2147483647) → Ev (BC (d + 1) qX4_readNumber) Q 145 [some (.ref 24), some (.int (nI p)), some (.int (if neg then 1 else 0)), some (.long (lN s)), none, some (.long (if neg then -(lN s) else lN s)), none] [] M1 := fun h9 => by
        repeat (refine ev_s rfl (?_ : Ev _ _ _ _ _ _))
        refine ev_cv rfl (as := [.ref 24, .int 2, .int (nI p)]) rfl rfl (Nat.le_of_ble_eq_true rfl) ?_
        refine r_fail ?_
        have k8' := hR.2.2.2.2.2.2.2.1
        have e6 : (rfl9 (nI 2) (nI p) M1).1 24 6 = M1.1 24 6 := by unfold rfl9; rw [if_pos k8', mI_ne (Or.inr (by decide)), mI_ne (Or.inr (by decide))]
        have e11 : (rfl9 (nI 2) (nI p) M1).1 24 11 = M1.1 24 11 := by unfold rfl9; rw [if_pos k8', mI_ne (Or.inr (by decide)), mI_ne (Or.inr (by decide))]
        show Ev _ _ _ _ [] _
        repeat (refine ev_s rfl (?_ : Ev _ _ _ _ _ _))
        refine ev_cs rfl (by decide) (by decide) (as := [.int (if neg then -(lN s) else lN s).toInt32]) rfl rfl (Nat.le_of_ble_eq_true rfl) ?_
        refine v_ofNumber ?_
        show Ev _ _ _ _ [.long (ofN (if neg then -(lN s) else lN s).toInt32)] _
        refine ev_retl rfl rfl (hF 2 _ _ ?_ ((hR.flt (c := 2) (by decide) (by decide) (by omega)).from hsm (by decide)) (e6.trans hR.2.2.2.2.1) (e11.trans h11))
        unfold rNum
        rw [hp0]
        exact if_neg h9
      repeat (refine ev_s rfl (?_ : Ev _ _ _ _ _ _))
      refine ev_lif rfl (fun hc => bad (num.mp (Or.inl hc))) (fun hc => ?_)
      repeat (refine ev_s rfl (?_ : Ev _ _ _ _ _ _))
      refine ev_lif rfl (fun hc2 => ?_) (fun hc2 => bad (num.mp (Or.inr (Int64.not_le.mp hc2))))
      have hin : dVal 0 (((l.take N).drop p0).takeWhile isDg) ≤ (if neg then 2147483648 else 2147483647) := Decidable.byContradiction fun h9 => by
        rcases num.mpr h9 with h8 | h8
        · exact hc h8
        · exact absurd hc2 (Int64.not_le.mpr h8)
      have hV : s = dVal 0 (((l.take N).drop p0).takeWhile isDg) := v1 (by split at hin <;> omega)
      repeat (refine ev_s rfl (?_ : Ev _ _ _ _ _ _))
      rw [num_i neg hb]
      refine ev_cs rfl (by decide) (by decide) (as := [.int (Int32.ofInt (if neg then -(s : Int) else (s : Int)))]) rfl rfl (Nat.le_of_ble_eq_true rfl) ?_
      refine v_ofNumber ?_
      show Ev _ _ _ _ [.long (ofN (Int32.ofInt (if neg then -(s : Int) else (s : Int))))] _
      refine ev_retl rfl rfl (hS _ _ M1 ?_ hR hsm)
      unfold rNum
      rw [hp0, if_pos hin, hV]
    repeat (refine ev_s rfl (?_ : Ev _ _ _ _ _ _))
    cases neg with
    | true =>
      refine ev_ifF rfl (show ¬ (1 : Int32) = 0 by decide) ?_
      iterate 3 (refine ev_s rfl (?_ : Ev _ _ _ _ _ _))
      exact rest
    | false =>
      refine ev_ifT rfl (show (0 : Int32) = 0 from rfl) ?_
      iterate 1 (refine ev_s rfl (?_ : Ev _ _ _ _ _ _))
      exact rest
  have loop : ∀ (m q s : Nat) (M1 : PM), N - q < m → p0 ≤ q → q ≤ N → s ≤ 21474836489 → spanE isDg (l.take N) q = spanE isDg (l.take N) p0 → dSat 2147483648 0 (((l.take N).drop p0).takeWhile isDg) = dSat 2147483648 s (((l.take N).drop q).takeWhile isDg) → RdC l N lim fns M1 fr ψ H n q op pe wh nm → Same [24] M M1 → M1.1 24 11 = M.1 24 11 → Ev (BC (d + 1) qX4_readNumber) Q 43 [some (.ref 24), some (.int (nI p)), some (.int (if neg then 1 else 0)), some (.long (lN s)), none, none, none] [] M1 := by
    intro m
    induction m with
    | zero => intro q s M1 h9; omega
    | succ m ih =>
      intro q s M1 hm hpq hqN hsb hsp hsat hR hs h11
      obtain ⟨k1, k2, k3, k4, k5, k6, k7, k8, k9, k10, k11, k12, k13, k14, k15, k16⟩ := id hR
      have stop : spanE isDg (l.take N) q = q → ((l.take N).drop q).takeWhile isDg = [] → Ev (BC (d + 1) qX4_readNumber) Q 115 [some (.ref 24), some (.int (nI p)), some (.int (if neg then 1 else 0)), some (.long (lN s)), none, none, none] [] M1 := fun h9 h8 => by
        rw [h8] at hsat
        refine fin s M1 hsat hsb ?_ hs h11
        rw [← hsp, h9]; exact hR
      repeat (refine ev_s rfl (?_ : Ev _ _ _ _ _ _))
      rw [k6, k7]
      refine ev_ic rfl (fun hc => ?_) (fun hc => ?_)
      · have hge := (nI_leI (by omega) (by omega)).mp hc
        exact stop (spanE_end (by rw [hlen]; exact hge)) (tw_end (by rw [hlen]; exact hge))
      have hlt : q < N := (nI_ltI (by omega) (by omega)).mp (Int32.not_le.mp hc)
      obtain ⟨c, c1, c2, c3, c4⟩ := hR.byte hlt
      repeat (refine ev_s rfl (?_ : Ev _ _ _ _ _ _))
      rw [k6]
      refine ev_cv rfl (as := [.ref 2, .int (nI q)]) rfl rfl (Nat.le_of_ble_eq_true rfl) ?_
      refine bytes_at b_tape k3 ?_
      rw [c3]
      show Ev _ _ _ _ [.int (nI c)] _
      refine ev_cs rfl (by decide) (by decide) (as := [.int (nI c)]) rfl rfl (Nat.le_of_ble_eq_true rfl) ?_
      refine r_isDigit c2 ?_
      cases hg : isDg c with
      | false =>
        show Ev _ _ _ _ [.int 0] _
        refine ev_ifT rfl (show (0 : Int32) = 0 from rfl) ?_
        exact stop (spanE_no c1 hg) (tw_no c1 hg)
      | true =>
        obtain ⟨d1, d2⟩ := dg_range hg
        rw [tw_go c1 hg] at hsat
        have hsat2 : dSat 2147483648 0 (((l.take N).drop p0).takeWhile isDg) = dSat 2147483648 (if s ≤ 2147483648 then s * 10 + (c - 48) else s) (((l.take N).drop (q + 1)).takeWhile isDg) := hsat
        -- the place goes on
        have adv : ∀ s', s' = (if s ≤ 2147483648 then s * 10 + (c - 48) else s) → Ev (BC (d + 1) qX4_readNumber) Q 102 [some (.ref 24), some (.int (nI p)), some (.int (if neg then 1 else 0)), some (.long (lN s')), none, none, none] [] M1 := fun s' hs' => by
          iterate 7 (refine ev_s rfl (?_ : Ev _ _ _ _ _ _))
          rw [k6, nI_1]
          rw [← hs'] at hsat2
          exact ih (q + 1) s' _ (by omega) (by omega) (by omega) (by rw [hs']; split <;> omega) ((spanE_go c1 hg).symm.trans hsp) hsat2 (hR.at (by omega) (by omega)) ((hs.tr Same.I).sub (by decide)) (by rw [mI_ne (Or.inr (by decide))]; exact h11)
        show Ev _ _ _ _ [.int 1] _
        refine ev_ifF rfl (show ¬ (1 : Int32) = 0 by decide) ?_
        repeat (refine ev_s rfl (?_ : Ev _ _ _ _ _ _))
        refine ev_lif rfl (fun hc2 => ?_) (fun hc2 => ?_)
        · have hgt : 2147483648 < s := (pk_lLT (a := 2147483648) (by decide) (by omega)).mp hc2
          exact adv s (by rw [if_neg (by omega)])
        · have hle : s ≤ 2147483648 := (pk_lLE (b := 2147483648) (by omega) (by decide)).mp (Int64.not_lt.mp hc2)
          repeat (refine ev_s rfl (?_ : Ev _ _ _ _ _ _))
          rw [k6]
          refine ev_cv rfl (as := [.ref 2, .int (nI q)]) rfl rfl (Nat.le_of_ble_eq_true rfl) ?_
          refine bytes_at b_tape k3 ?_
          rw [c3]
          show Ev _ _ _ _ [.int (nI c), .long (lN s * 10)] _
          iterate 5 (refine ev_s rfl (?_ : Ev _ _ _ _ _ _))
          rw [nI_l (by omega), show (10 : Int64) = lN 10 from rfl, lN_mul, lN_add, show (48 : Int64) = lN 48 from rfl, lN_sub (by omega), show s * 10 + c - 48 = s * 10 + (c - 48) by omega]
          exact adv _ (by rw [if_pos hle])
  -- the sign
  repeat (refine ev_s rfl (?_ : Ev _ _ _ _ _ _))
  rw [k6]
  refine ev_cv rfl (as := [.ref 2, .int (nI p)]) rfl rfl (Nat.le_of_ble_eq_true rfl) ?_
  refine bytes_at b_tape k3 ?_
  rw [b3]
  show Ev _ _ _ _ [.int (nI c')] _
  repeat (refine ev_s rfl (?_ : Ev _ _ _ _ _ _))
  have c45 : (nI c' = 45) ↔ c' = 45 := nI_eq (b := 45) (by omega) (by decide)
  cases neg with
  | true =>
    have e45 : c' = 45 := by simpa using hneg
    have ep : p0 = p + 1 := by rw [← hp0]; rfl
    refine ev_icF rfl (show ¬ ¬ nI c' = 45 from fun h9 => h9 (c45.mpr e45)) ?_
    repeat (refine ev_s rfl (?_ : Ev _ _ _ _ _ _))
    refine ev_ifF rfl (show ¬ (1 : Int32) = 0 by decide) ?_
    iterate 8 (refine ev_s rfl (?_ : Ev _ _ _ _ _ _))
    rw [k6, nI_1, ← ep]
    exact loop (N + 1) p0 0 _ (by omega) (Nat.le_refl _) hp0N.2 (by omega) rfl rfl (h.at (by omega) hp0N.2) Same.I (by rw [mI_ne (Or.inr (by decide))])
  | false =>
    have e45 : ¬ c' = 45 := by simpa using hneg
    have ep : p0 = p := by rw [← hp0]; rfl
    refine ev_icT rfl (show ¬ nI c' = 45 from fun h9 => e45 (c45.mp h9)) ?_
    repeat (refine ev_s rfl (?_ : Ev _ _ _ _ _ _))
    refine ev_ifT rfl (show (0 : Int32) = 0 from rfl) ?_
    iterate 2 (refine ev_s rfl (?_ : Ev _ _ _ _ _ _))
    exact loop (N + 1) p0 0 _ (by omega) (Nat.le_refl _) hp0N.2 (by omega) rfl rfl (by rw [ep]; exact h) Same.rf rfl
end RD4

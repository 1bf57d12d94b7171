/-! The class's world, and its rows. -/
abbrev ShC : List PSh := [
  .inl (9, [.inl 2, .inl 4, .inl 6, .inl 9, .inl 17, .inl 24, .inl 27, .inl 31]),
  .inl (6, [.inl 9, .inl 11, .inl 13, .inl 15, .inr .long, .inr .long, .inr .long]),
  .inl (1, [.inl 3, .inr .int]), .inr (0, 2000, .byte, []),
  .inl (1, [.inl 5, .inr .int]), .inr (0, 2000, .byte, []),
  .inl (8, [.inl 7, .inl 8, .inr .int]), .inr (0, 3000, .byte, []), .inr (1, 300, .int, []),
  .inl (7, [.inl 10, .inr .int]), .inr (2, 300, .long, []),
  .inl (7, [.inl 12, .inr .int]), .inr (2, 2000, .long, []),
  .inl (7, [.inl 14, .inr .int]), .inr (2, 10, .long, []),
  .inl (7, [.inl 16, .inr .int]), .inr (2, 2600, .long, []),
  .inl (2, [.inl 1, .inl 18, .inl 19, .inl 20, .inl 21, .inl 22, .inl 23, .inr .int, .inr .int, .inr .int]),
  .inr (4, 4, .object "ConsYard$Row", [9, 11, 13, 15]), .inr (2, 2000, .long, []), .inr (2, 2000, .long, []), .inr (3, 2000, .boolean, []), .inr (1, 2000, .int, []), .inr (2, 2002, .long, []),
  .inl (5, [.inl 2, .inl 6, .inl 17, .inl 11, .inl 25, .inl 26, .inr .int, .inr .int, .inr .int, .inr .int, .inr .int, .inr .boolean, .inr .long]), .inr (1, 60, .int, []), .inr (1, 60, .int, []),
  .inl (3, [.inl 17, .inl 1, .inl 13, .inl 15, .inl 28, .inl 30, .inr .int, .inr .int, .inr .int, .inr .int, .inr .int, .inr .int, .inr .long]),
  .inl (7, [.inl 29, .inr .int]), .inr (2, 10, .long, []), .inr (1, 200, .int, []),
  .inl (4, [.inl 4, .inl 6, .inl 17, .inl 32]), .inl (7, [.inl 33, .inr .int]), .inr (2, 2000, .long, [])]
abbrev SC (d : Nat) : PEnv := p_sem MT ShC d
abbrev BC (d : Nat) (q : PMeth) : PBody := (ShC, p_sem MT ShC d, q.hn, q.ret, q.code, fun _ _ _ _ => False)
/-! Value -/
theorem v_isSymbol {d : Nat} {v : Int64} {M : PM} {Q : Option (Option Value) → PM → Prop} (h1 : 0 ≤ v ∧ v < 300 → Q (some (some (.int 1))) M) (h0 : ¬ (0 ≤ v ∧ v < 300) → Q (some (some (.int 0))) M) : SC (d + 1) 95 [.long v] M Q := by
  refine ⟨qX8_isSymbol, rfl, ⟨Nat.le_of_ble_eq_true rfl, rfl⟩, ?_⟩
  show Ev (BC d qX8_isSymbol) Q 0 [some (.long v), none] [] M
  have hf : ¬ (0 ≤ v ∧ v < 300) → Ev (BC d qX8_isSymbol) Q 18 [some (.long v), none] [] M := fun hn => by
    repeat (refine ev_s rfl (?_ : Ev _ _ _ _ _ _))
    exact ev_reti rfl rfl trivial rfl (h0 hn)
  repeat (refine ev_s rfl (?_ : Ev _ _ _ _ _ _))
  refine ev_lif rfl (fun hc => hf (fun h9 => Int64.not_lt.mpr h9.1 hc)) (fun hc => ?_)
  repeat (refine ev_s rfl (?_ : Ev _ _ _ _ _ _))
  refine ev_lif rfl (fun hc2 => hf (fun h9 => Int64.not_lt.mpr hc2 h9.2)) (fun hc2 => ?_)
  repeat (refine ev_s rfl (?_ : Ev _ _ _ _ _ _))
  exact ev_reti rfl rfl trivial rfl (h1 ⟨Int64.not_lt.mp hc, Int64.not_le.mp hc2⟩)
theorem v_isNumber {d : Nat} {v : Int64} {M : PM} {Q : Option (Option Value) → PM → Prop} (h1 : 4294967296 ≤ v ∧ v < 8589934592 → Q (some (some (.int 1))) M) (h0 : ¬ (4294967296 ≤ v ∧ v < 8589934592) → Q (some (some (.int 0))) M) : SC (d + 1) 96 [.long v] M Q := by
  refine ⟨qX8_isNumber, rfl, ⟨Nat.le_of_ble_eq_true rfl, rfl⟩, ?_⟩
  show Ev (BC d qX8_isNumber) Q 0 [some (.long v), none] [] M
  have hf : ¬ (4294967296 ≤ v ∧ v < 8589934592) → Ev (BC d qX8_isNumber) Q 20 [some (.long v), none] [] M := fun hn => by
    repeat (refine ev_s rfl (?_ : Ev _ _ _ _ _ _))
    exact ev_reti rfl rfl trivial rfl (h0 hn)
  repeat (refine ev_s rfl (?_ : Ev _ _ _ _ _ _))
  refine ev_lif rfl (fun hc => hf (fun h9 => Int64.not_lt.mpr h9.1 hc)) (fun hc => ?_)
  repeat (refine ev_s rfl (?_ : Ev _ _ _ _ _ _))
  refine ev_lif rfl (fun hc2 => hf (fun h9 => Int64.not_lt.mpr hc2 h9.2)) (fun hc2 => ?_)
  repeat (refine ev_s rfl (?_ : Ev _ _ _ _ _ _))
  exact ev_reti rfl rfl trivial rfl (h1 ⟨Int64.not_lt.mp hc, Int64.not_le.mp hc2⟩)
def isC (v : Int64) : Prop := 8589934592 ≤ v ∧ v < 8589936592
theorem v_isCell {d : Nat} {v : Int64} {M : PM} {Q : Option (Option Value) → PM → Prop} (h1 : isC v → Q (some (some (.int 1))) M) (h0 : ¬ isC v → Q (some (some (.int 0))) M) : SC (d + 1) 97 [.long v] M Q := by
  refine ⟨qX8_isCell, rfl, ⟨Nat.le_of_ble_eq_true rfl, rfl⟩, ?_⟩
  show Ev (BC d qX8_isCell) Q 0 [some (.long v), none] [] M
  have hf : ¬ isC v → Ev (BC d qX8_isCell) Q 20 [some (.long v), none] [] M := fun hn => by
    repeat (refine ev_s rfl (?_ : Ev _ _ _ _ _ _))
    exact ev_reti rfl rfl trivial rfl (h0 hn)
  repeat (refine ev_s rfl (?_ : Ev _ _ _ _ _ _))
  refine ev_lif rfl (fun hc => hf (fun h9 => Int64.not_lt.mpr h9.1 hc)) (fun hc => ?_)
  repeat (refine ev_s rfl (?_ : Ev _ _ _ _ _ _))
  refine ev_lif rfl (fun hc2 => hf (fun h9 => Int64.not_lt.mpr hc2 h9.2)) (fun hc2 => ?_)
  repeat (refine ev_s rfl (?_ : Ev _ _ _ _ _ _))
  exact ev_reti rfl rfl trivial rfl (h1 ⟨Int64.not_lt.mp hc, Int64.not_le.mp hc2⟩)
def ofN (n : Int32) : Int64 := 4294967296 ||| (n.toInt64 &&& 4294967295)
theorem v_ofNumber {d : Nat} {n : Int32} {M : PM} {Q : Option (Option Value) → PM → Prop} (h : Q (some (some (.long (ofN n)))) M) : SC (d + 1) 98 [.int n] M Q := by
  refine ⟨qX8_ofNumber, rfl, ⟨Nat.le_of_ble_eq_true rfl, rfl⟩, ?_⟩
  show Ev (BC d qX8_ofNumber) Q 0 [some (.int n)] [] M
  repeat (refine ev_s rfl (?_ : Ev _ _ _ _ _ _))
  exact ev_retl rfl rfl h
theorem v_ofCell {d : Nat} {n : Int32} {M : PM} {Q : Option (Option Value) → PM → Prop} (h : Q (some (some (.long (8589934592 + n.toInt64)))) M) : SC (d + 1) 99 [.int n] M Q := by
  refine ⟨qX8_ofCell, rfl, ⟨Nat.le_of_ble_eq_true rfl, rfl⟩, ?_⟩
  show Ev (BC d qX8_ofCell) Q 0 [some (.int n)] [] M
  repeat (refine ev_s rfl (?_ : Ev _ _ _ _ _ _))
  exact ev_retl rfl rfl h
theorem v_ofTruth {d : Nat} {n : Int32} {M : PM} {Q : Option (Option Value) → PM → Prop} (h : Q (some (some (.long (if n = 0 then 0 else 1)))) M) : SC (d + 1) 100 [.int n] M Q := by
  refine ⟨qX8_ofTruth, rfl, ⟨Nat.le_of_ble_eq_true rfl, rfl⟩, ?_⟩
  show Ev (BC d qX8_ofTruth) Q 0 [some (.int n)] [] M
  repeat (refine ev_s rfl (?_ : Ev _ _ _ _ _ _))
  refine ev_if rfl (fun hc => ?_) (fun hc => ?_)
  · repeat (refine ev_s rfl (?_ : Ev _ _ _ _ _ _))
    rw [if_pos (show n = 0 from hc)] at h
    exact ev_retl rfl rfl h
  · repeat (refine ev_s rfl (?_ : Ev _ _ _ _ _ _))
    rw [if_neg (show ¬ n = 0 from hc)] at h
    exact ev_retl rfl rfl h
theorem v_number {d : Nat} {v : Int64} {M : PM} {Q : Option (Option Value) → PM → Prop} (h : Q (some (some (.int v.toInt32))) M) : SC (d + 1) 101 [.long v] M Q := by
  refine ⟨qX8_number, rfl, ⟨Nat.le_of_ble_eq_true rfl, rfl⟩, ?_⟩
  show Ev (BC d qX8_number) Q 0 [some (.long v), none] [] M
  repeat (refine ev_s rfl (?_ : Ev _ _ _ _ _ _))
  exact ev_reti rfl rfl trivial rfl h
/-! Row -/
/-- a row's object and its array -/
def isRow (r a n : Nat) : Prop := ShC[r]? = some (.inl (7, [.inl a, .inr .int])) ∧ ShC[a]? = some (.inr (2, n, .long, [])) ∧ n < 2147483648 ∧ r ≠ a
/-- what a row holds -/
def RowIs (M : PM) (r a n : Nat) (l : List Int64) : Prop := M.1 r 1 = nI l.length ∧ l.length ≤ n ∧ ∀ i v, l[i]? = some v → M.2 a i = v
theorem RowIs.same {M M' : PM} {r a n : Nat} {l : List Int64} {ids : List Nat} (h : RowIs M r a n l) (hs : Same ids M M') (h1 : r ∉ ids) (h2 : a ∉ ids) : RowIs M' r a n l :=
  ⟨by rw [(hs r h1).1]; exact h.1, h.2.1, fun i v hv => by rw [(hs a h2).2]; exact h.2.2 i v hv⟩
def rowAt (l : List Int64) (k : Int32) : Int64 := if 0 ≤ k then (l[k.toNatClampNeg]?).getD (-1) else -1
theorem rowAt_nI {l : List Int64} {i : Nat} (hi : i < 2147483648) : rowAt l (nI i) = (l[i]?).getD (-1) := by
  unfold rowAt
  rw [if_pos (nI_pos' hi), nI_clamp hi]
theorem row_size {d r a n : Nat} (hr : isRow r a n) {M : PM} {Q : Option (Option Value) → PM → Prop} (h : Q (some (some (.int (M.1 r 1)))) M) : SC (d + 1) 83 [.ref r] M Q := by
  refine ⟨qX6_size, rfl, ⟨Nat.le_of_ble_eq_true rfl, rfl, r, _, _, rfl, hr.1⟩, ?_⟩
  show Ev (BC d qX6_size) Q 0 [some (.ref r)] [] M
  refine ev_s rfl (?_ : Ev _ _ _ _ _ _)
  refine ev_getI rfl hr.1 rfl ?_
  exact ev_reti rfl rfl trivial rfl h
theorem row_in {l : List Int64} {n : Nat} {k : Int32} (hn : n < 2147483648) (hl : l.length ≤ n) (h0 : 0 ≤ k) (h1 : k < nI l.length) : k.toNatClampNeg < l.length ∧ vp_in k n ∧ k = nI k.toNatClampNeg := by
  obtain ⟨j, hj, rfl⟩ := nI_of (x := k) (Int32.not_lt.mpr h0)
  have h2 := (nI_ltI hj (by omega)).mp h1
  rw [nI_clamp hj]
  exact ⟨h2, vp_in_nI (by omega) (by omega), rfl⟩
theorem row_at {d r a n : Nat} (hr : isRow r a n) {k : Int32} {M : PM} {l : List Int64} (hR : RowIs M r a n l) {Q : Option (Option Value) → PM → Prop} (h : Q (some (some (.long (rowAt l k)))) M) : SC (d + 1) 84 [.ref r, .int k] M Q := by
  refine ⟨qX6_at, rfl, ⟨Nat.le_of_ble_eq_true rfl, rfl, r, _, _, rfl, hr.1⟩, ?_⟩
  show Ev (BC d qX6_at) Q 0 [some (.ref r), some (.int k)] [] M
  have hm : rowAt l k = -1 → Ev (BC d qX6_at) Q 21 [some (.ref r), some (.int k)] [] M := fun hn => by
    refine ev_s rfl (?_ : Ev _ _ _ _ _ _)
    rw [hn] at h
    exact ev_retl rfl rfl h
  refine ev_s rfl (?_ : Ev _ _ _ _ _ _)
  refine ev_if rfl (fun hc => hm (if_neg (Int32.not_le.mpr hc))) (fun hc => ?_)
  have hc0 : 0 ≤ k := Int32.not_lt.mp hc
  refine ev_s rfl (?_ : Ev _ _ _ _ _ _)
  refine ev_s rfl (?_ : Ev _ _ _ _ _ _)
  refine ev_getI rfl hr.1 rfl ?_
  rw [hR.1]
  refine ev_ic rfl (fun hc2 => hm ?_) (fun hc2 => ?_)
  · obtain ⟨j, hj, rfl⟩ := nI_of (x := k) hc
    have h2 := (nI_leI (by have := hR.2.1; have := hr.2.2.1; omega) hj).mp hc2
    rw [rowAt_nI hj, List.getElem?_eq_none h2]; rfl
  · obtain ⟨g1, g2, g3⟩ := row_in hr.2.2.1 hR.2.1 hc0 (Int32.not_le.mp hc2)
    refine ev_s rfl (?_ : Ev _ _ _ _ _ _)
    refine ev_getR rfl hr.1 rfl ?_
    refine ev_s rfl (?_ : Ev _ _ _ _ _ _)
    refine ev_lald rfl hr.2.1 g2 ?_
    refine ev_s rfl (?_ : Ev _ _ _ _ _ _)
    refine ev_retl rfl rfl ?_
    have e1 : l[k.toNatClampNeg]? = some l[k.toNatClampNeg] := List.getElem?_eq_getElem g1
    have e2 : rowAt l k = M.2 a k.toNatClampNeg := by unfold rowAt; rw [if_pos hc0, e1, hR.2.2 _ _ e1]; rfl
    rw [← e2]; exact h
theorem row_put {d r a n : Nat} (hr : isRow r a n) {i : Nat} {v : Int64} {M : PM} {l : List Int64} (hR : RowIs M r a n l) (hi : i < l.length) {Q : Option (Option Value) → PM → Prop} (h : ∀ M', RowIs M' r a n (l.set i v) → Same [a] M M' → Q (some none) M') : SC (d + 1) 85 [.ref r, .int (nI i), .long v] M Q := by
  refine ⟨qX6_put, rfl, ⟨Nat.le_of_ble_eq_true rfl, rfl, r, _, _, rfl, hr.1⟩, ?_⟩
  show Ev (BC d qX6_put) Q 0 [some (.ref r), some (.int (nI i)), some (.long v), none] [] M
  have hl := hR.2.1
  have hn := hr.2.2.1
  refine ev_s rfl (?_ : Ev _ _ _ _ _ _)
  refine ev_ifF rfl (nI_pos (by omega)) ?_
  refine ev_s rfl (?_ : Ev _ _ _ _ _ _)
  refine ev_s rfl (?_ : Ev _ _ _ _ _ _)
  refine ev_getI rfl hr.1 rfl ?_
  rw [hR.1]
  refine ev_icF rfl (nI_ge hi (by omega)) ?_
  refine ev_s rfl (?_ : Ev _ _ _ _ _ _)
  refine ev_getR rfl hr.1 rfl ?_
  refine ev_s rfl (?_ : Ev _ _ _ _ _ _)
  refine ev_s rfl (?_ : Ev _ _ _ _ _ _)
  refine ev_last rfl hr.2.1 (vp_in_nI (by omega) (by omega)) ?_
  rw [nI_clamp (by omega)]
  refine ev_retv rfl rfl (h _ ⟨by rw [List.length_set]; exact hR.1, by rw [List.length_set]; exact hl, fun j w hw => ?_⟩ Same.J)
  by_cases hj : j = i
  · subst hj
    rw [List.getElem?_set_self hi] at hw
    cases hw
    exact mJ_at
  · rw [List.getElem?_set_ne (Ne.symm hj)] at hw
    rw [mJ_ne (Or.inr hj)]
    exact hR.2.2 j w hw
theorem row_add {d r a n : Nat} (hr : isRow r a n) {v : Int64} {M : PM} {l : List Int64} (hR : RowIs M r a n l) (hi : l.length < n) {Q : Option (Option Value) → PM → Prop} (h : ∀ M', RowIs M' r a n (l ++ [v]) → Same [r, a] M M' → Q (some none) M') : SC (d + 1) 86 [.ref r, .long v] M Q := by
  refine ⟨qX6_add, rfl, ⟨Nat.le_of_ble_eq_true rfl, rfl, r, _, _, rfl, hr.1⟩, ?_⟩
  show Ev (BC d qX6_add) Q 0 [some (.ref r), some (.long v), none] [] M
  have hn := hr.2.2.1
  refine ev_s rfl (?_ : Ev _ _ _ _ _ _)
  refine ev_getI rfl hr.1 rfl ?_
  refine ev_s rfl (?_ : Ev _ _ _ _ _ _)
  refine ev_getR rfl hr.1 rfl ?_
  refine ev_alen rfl hr.2.1 ?_
  rw [hR.1]
  refine ev_icF rfl (nI_ge hi hn) ?_
  refine ev_s rfl (?_ : Ev _ _ _ _ _ _)
  refine ev_getR rfl hr.1 rfl ?_
  refine ev_s rfl (?_ : Ev _ _ _ _ _ _)
  refine ev_getI rfl hr.1 rfl ?_
  rw [hR.1]
  refine ev_s rfl (?_ : Ev _ _ _ _ _ _)
  refine ev_last rfl hr.2.1 (vp_in_nI hi hn) ?_
  rw [nI_clamp (by omega)]
  refine ev_s rfl (?_ : Ev _ _ _ _ _ _)
  refine ev_s rfl (?_ : Ev _ _ _ _ _ _)
  refine ev_getI rfl hr.1 rfl ?_
  rw [mJ_1, hR.1]
  refine ev_s rfl (?_ : Ev _ _ _ _ _ _)
  refine ev_s rfl (?_ : Ev _ _ _ _ _ _)
  refine ev_putI rfl hr.1 rfl ?_
  refine ev_retv rfl rfl (h _ ⟨?_, by simp; omega, fun j w hw => ?_⟩ ?_)
  · rw [mI_at, nI_1]; simp
  · rw [mI_2]
    by_cases hj : j = l.length
    · subst hj
      simp at hw
      rw [← hw]; exact mJ_at
    · have hj2 : j < l.length := by
        have := (List.getElem?_eq_some_iff.mp hw).1
        simp at this; omega
      rw [List.getElem?_append_left hj2] at hw
      rw [mJ_ne (Or.inr hj)]
      exact hR.2.2 j w hw
  · exact (Same.J.tr Same.I).sub (fun k hk => by simp at hk ⊢; omega)
theorem row_cut {d r a n : Nat} (hr : isRow r a n) {i : Nat} {M : PM} {l : List Int64} (hR : RowIs M r a n l) (hi : i ≤ l.length) {Q : Option (Option Value) → PM → Prop} (h : ∀ M', RowIs M' r a n (l.take i) → Same [r] M M' → Q (some none) M') : SC (d + 1) 87 [.ref r, .int (nI i)] M Q := by
  refine ⟨qX6_cut, rfl, ⟨Nat.le_of_ble_eq_true rfl, rfl, r, _, _, rfl, hr.1⟩, ?_⟩
  show Ev (BC d qX6_cut) Q 0 [some (.ref r), some (.int (nI i))] [] M
  have hl := hR.2.1
  have hn := hr.2.2.1
  refine ev_s rfl (?_ : Ev _ _ _ _ _ _)
  refine ev_ifF rfl (nI_pos (by omega)) ?_
  refine ev_s rfl (?_ : Ev _ _ _ _ _ _)
  refine ev_s rfl (?_ : Ev _ _ _ _ _ _)
  refine ev_getI rfl hr.1 rfl ?_
  rw [hR.1]
  refine ev_ic rfl (fun hc => ?_) (fun hc => ?_)
  · have h2 := (nI_leI (by omega) (by omega)).mp hc
    refine ev_retv rfl rfl (h M ?_ Same.rf)
    rw [List.take_of_length_le h2]; exact hR
  · refine ev_s rfl (?_ : Ev _ _ _ _ _ _)
    refine ev_s rfl (?_ : Ev _ _ _ _ _ _)
    refine ev_putI rfl hr.1 rfl ?_
    refine ev_retv rfl rfl (h _ ⟨?_, by simp; omega, fun j w hw => ?_⟩ Same.I)
    · rw [mI_at, List.length_take]; congr 1; omega
    · rw [mI_2]
      have hj : j < i := by
        have := (List.getElem?_eq_some_iff.mp hw).1
        simp at this; omega
      rw [List.getElem?_take_of_lt hj] at hw
      exact hR.2.2 j w hw

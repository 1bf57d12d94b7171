/-! The reference's world, its values, its memory. -/
abbrev ShM : List PSh := [
  .inl (10, [.inr .int, .inl 1, .inl 2, .inl 3, .inl 4, .inr .int, .inr .int, .inl 5, .inr .int, .inl 6, .inl 7, .inl 8, .inl 9, .inr .int, .inr .int, .inr .int, .inr .int, .inr .int, .inr .int, .inl 10, .inr .int, .inr .int, .inr .int, .inr .int, .inl 11, .inr .int, .inl 12, .inl 13, .inr .int, .inr .long, .inr .long, .inr .long, .inr .long, .inl 14, .inr .int, .inl 15, .inl 16, .inl 17, .inl 18, .inl 19, .inl 20, .inr .int, .inr .int, .inr .int, .inr .int, .inl 21, .inr .int, .inl 22]),
  .inr (1, 3000, .int, []), .inr (1, 300, .int, []), .inr (3, 300, .boolean, []), .inr (2, 300, .long, []), .inl (0, []),
  .inr (2, 2400, .long, []), .inr (2, 2400, .long, []), .inr (3, 2400, .boolean, []), .inr (1, 2400, .int, []), .inr (0, 2000, .byte, []),
  .inr (2, 2100, .long, []), .inr (1, 60, .int, []), .inr (1, 60, .int, []), .inr (2, 10, .long, []), .inr (3, 200, .boolean, []),
  .inr (2, 200, .long, []), .inr (2, 200, .long, []), .inr (2, 200, .long, []), .inr (2, 2000, .long, []), .inr (1, 200, .int, []), .inr (0, 2100, .byte, []), .inr (2, 2400, .long, [])]
abbrev SM (d : Nat) : PEnv := p_sem MT ShM d
abbrev BM (d : Nat) (q : PMeth) : PBody := (ShM, p_sem MT ShM d, q.hn, q.ret, q.code, fun _ _ _ _ => False)
/-- all else is the same: arrays by id, fields by 100 and their number -/
def SameM (ids : List Nat) (M M' : PM) : Prop := (∀ k, k ≠ 0 → k ∉ ids → M'.1 k = M.1 k ∧ M'.2 k = M.2 k) ∧ ∀ j, 100 + j ∉ ids → M'.1 0 j = M.1 0 j ∧ M'.2 0 j = M.2 0 j
theorem SameM.rf {ids : List Nat} {M : PM} : SameM ids M M := ⟨fun _ _ _ => ⟨rfl, rfl⟩, fun _ _ => ⟨rfl, rfl⟩⟩
theorem SameM.tr {ids ids' : List Nat} {M M' M'' : PM} (h : SameM ids M M') (h' : SameM ids' M' M'') : SameM (ids ++ ids') M M'' := by
  refine ⟨fun k h0 hk => ?_, fun j hj => ?_⟩
  · rw [List.mem_append] at hk
    have a := h.1 k h0 (fun h9 => hk (Or.inl h9))
    have b := h'.1 k h0 (fun h9 => hk (Or.inr h9))
    exact ⟨b.1.trans a.1, b.2.trans a.2⟩
  · rw [List.mem_append] at hj
    have a := h.2 j (fun h9 => hj (Or.inl h9))
    have b := h'.2 j (fun h9 => hj (Or.inr h9))
    exact ⟨b.1.trans a.1, b.2.trans a.2⟩
theorem SameM.sub {ids ids' : List Nat} {M M' : PM} (h : SameM ids M M') (hs : ∀ k ∈ ids, k ∈ ids') : SameM ids' M M' := ⟨fun k h0 hk => h.1 k h0 (fun h9 => hk (hs k h9)), fun j hj => h.2 j (fun h9 => hj (hs _ h9))⟩
theorem SameM.t2 {ids ids' ids'' : List Nat} {M M' M'' : PM} (h : SameM ids M M') (h' : SameM ids' M' M'') (hs : ∀ k ∈ ids ++ ids', k ∈ ids'') : SameM ids'' M M'' := (h.tr h').sub hs
/-- a field -/
theorem SameM.I0 {M : PM} {j : Nat} {v : Int32} : SameM [100 + j] M (mI M 0 j v) := ⟨fun k h0 _ => ⟨up2_ne h0, rfl⟩, fun i hi => ⟨mI_ne (Or.inr (fun h9 => hi (by rw [h9]; exact List.mem_singleton.mpr rfl))), rfl⟩⟩
theorem SameM.J0 {M : PM} {j : Nat} {v : Int64} : SameM [100 + j] M (mJ M 0 j v) := ⟨fun k h0 _ => ⟨rfl, up2_ne h0⟩, fun i hi => ⟨rfl, mJ_ne (Or.inr (fun h9 => hi (by rw [h9]; exact List.mem_singleton.mpr rfl)))⟩⟩
/-- a place of an array -/
theorem SameM.Ik {M : PM} {k j : Nat} {v : Int32} (h : k ≠ 0) : SameM [k] M (mI M k j v) := ⟨fun i _ hi => ⟨up2_ne (fun h9 => hi (List.mem_singleton.mpr h9)), rfl⟩, fun i _ => ⟨mI_ne (Or.inl (fun h9 => h h9.symm)), rfl⟩⟩
theorem SameM.Jk {M : PM} {k j : Nat} {v : Int64} (h : k ≠ 0) : SameM [k] M (mJ M k j v) := ⟨fun i _ hi => ⟨rfl, up2_ne (fun h9 => hi (List.mem_singleton.mpr h9))⟩, fun i _ => ⟨rfl, mJ_ne (Or.inl (fun h9 => h h9.symm))⟩⟩
/-! values -/
def rS (k : Nat) : Int64 := -1 - lN k
def rN (n : Int32) : Int64 := 1099511627776 + n.toInt64
theorem bmI {x : Int} (h1 : -9223372036854775808 ≤ x) (h2 : x < 9223372036854775808) : Int.bmod x (2 ^ 64) = x := by
  unfold Int.bmod
  have e : ((2 ^ 64 : Nat) : Int) = 18446744073709551616 := by decide
  rw [e]
  dsimp only
  split <;> omega
theorem rS_T {k : Nat} (h : k < 2147483648) : (rS k).toInt = -1 - (k : Int) := by
  unfold rS
  rw [Int64.toInt_sub, pk_lT (by omega), show (-1 : Int64).toInt = -1 by decide]
  exact bmI (by omega) (by omega)
theorem rN_T {n : Int32} : (rN n).toInt = 1099511627776 + n.toInt := by
  have h1 := Int32.le_toInt n
  have h2 := Int32.toInt_lt n
  unfold rN
  rw [Int64.toInt_add, Int32.toInt_toInt64, show (1099511627776 : Int64).toInt = 1099511627776 by decide]
  exact bmI (by omega) (by omega)
theorem rN_n {n : Int32} : -2147483648 ≤ n.toInt ∧ n.toInt < 2147483648 := ⟨Int32.le_toInt n, Int32.toInt_lt n⟩
/-- a value of the reference, and what it is -/
def RTv (U : Nat → Bool) (ψ : Nat → Nat) (ns : Nat) (v : Int64) (w : AV) : Prop := match w with
  | .inl k => k < ns ∧ k < 300 ∧ v = rS k
  | .inr (.inl n) => v = rN n
  | .inr (.inr i) => ∃ c, c < 2400 ∧ U c = true ∧ ψ c = i ∧ v = lN c
section RV
variable {U : Nat → Bool} {ψ : Nat → Nat} {ns : Nat} {v u : Int64} {w a b : AV} {M : PM}
theorem RTv.names {ns' : Nat} (h : RTv U ψ ns v w) (hn : ns ≤ ns') : RTv U ψ ns' v w := by
  match w, h with
  | .inl k, h => exact ⟨Nat.lt_of_lt_of_le h.1 hn, h.2⟩
  | .inr (.inl n), h => exact h
  | .inr (.inr i), h => exact h
theorem RTv.nil (h : 0 < ns) : RTv U ψ ns (-1) (aS 0) := ⟨h, by decide, by decide⟩
theorem RTv.sym {k : Nat} (h : k < ns) (h3 : k < 300) : RTv U ψ ns (rS k) (aS k) := ⟨h, h3, rfl⟩
theorem RTv.int (h : RTv U ψ ns v w) : (∃ k, w = aS k ∧ k < ns ∧ k < 300 ∧ v = rS k ∧ v.toInt = -1 - (k : Int)) ∨ (∃ n : Int32, w = aN n ∧ v = rN n ∧ v.toInt = 1099511627776 + n.toInt) ∨ ∃ c, w = aC (ψ c) ∧ c < 2400 ∧ U c = true ∧ v = lN c ∧ v.toInt = c := by
  match w, h with
  | .inl k, h => exact Or.inl ⟨k, rfl, h.1, h.2.1, h.2.2, by rw [h.2.2]; exact rS_T (by have := h.2.1; omega)⟩
  | .inr (.inl n), h => exact Or.inr (Or.inl ⟨n, rfl, h, by rw [h]; exact rN_T⟩)
  | .inr (.inr i), h =>
    obtain ⟨c, c1, c2, c3, c4⟩ := h
    subst c3
    exact Or.inr (Or.inr ⟨c, rfl, c1, c2, c4, by rw [c4]; exact pk_lT (by omega)⟩)
/-- equal values -/
theorem RTv.eqS (h : RTv U ψ ns v w) {k : Nat} (hk : k < 300) : v = rS k ↔ w = aS k := by
  have e := rS_T (k := k) (by omega)
  rcases h.int with ⟨m, rfl, _, m3, m4, m5⟩ | ⟨n, rfl, n4, n5⟩ | ⟨c, rfl, c1, c2, c4, c5⟩
  · constructor
    · intro h9
      rw [h9, e] at m5
      have : k = m := by omega
      rw [this]
    · intro h9
      cases h9
      exact m4
  · have := rN_n (n := n)
    constructor
    · intro h9; rw [h9, e] at n5; omega
    · intro h9; cases h9
  · constructor
    · intro h9; rw [h9, e] at c5; omega
    · intro h9; cases h9
theorem k_isCell {d : Nat} (hv : RTv U ψ ns v w) {Q : Option (Option Value) → PM → Prop} (h : Q (some (some (.int (if aIsC w then 1 else 0)))) M) : SM (d + 1) 114 [.long v] M Q := by
  refine ⟨qX10_isCell, rfl, ⟨Nat.le_of_ble_eq_true rfl, rfl⟩, ?_⟩
  show Ev (BM (d) qX10_isCell) Q 0 [some (.long v), none] [] M
  have e0 : (0 : Int64).toInt = 0 := by decide
  have e2 : (2400 : Int64).toInt = 2400 := by decide
  rcases hv.int with ⟨m, rfl, _, m3, m4, m5⟩ | ⟨n, rfl, n4, n5⟩ | ⟨c, rfl, c1, c2, c4, c5⟩
  · repeat (refine ev_s rfl (?_ : Ev _ _ _ _ _ _))
    refine ev_lifT rfl (show v < 0 by rw [Int64.lt_iff_toInt_lt, m5, e0]; omega) ?_
    repeat (refine ev_s rfl (?_ : Ev _ _ _ _ _ _))
    exact ev_reti rfl rfl trivial rfl h
  · have := rN_n (n := n)
    repeat (refine ev_s rfl (?_ : Ev _ _ _ _ _ _))
    refine ev_lifF rfl (show ¬ v < 0 by rw [Int64.lt_iff_toInt_lt, n5, e0]; omega) ?_
    repeat (refine ev_s rfl (?_ : Ev _ _ _ _ _ _))
    refine ev_lifT rfl (show 2400 ≤ v by rw [Int64.le_iff_toInt_le, n5, e2]; omega) ?_
    repeat (refine ev_s rfl (?_ : Ev _ _ _ _ _ _))
    exact ev_reti rfl rfl trivial rfl h
  · repeat (refine ev_s rfl (?_ : Ev _ _ _ _ _ _))
    refine ev_lifF rfl (show ¬ v < 0 by rw [Int64.lt_iff_toInt_lt, c5, e0]; omega) ?_
    repeat (refine ev_s rfl (?_ : Ev _ _ _ _ _ _))
    refine ev_lifF rfl (show ¬ 2400 ≤ v by rw [Int64.le_iff_toInt_le, c5, e2]; omega) ?_
    repeat (refine ev_s rfl (?_ : Ev _ _ _ _ _ _))
    exact ev_reti rfl rfl trivial rfl h
def aIsS (v : AV) : Bool := match v with
  | .inl _ => true
  | _ => false
theorem k_isSymbol {d : Nat} (hv : RTv U ψ ns v w) {Q : Option (Option Value) → PM → Prop} (h : Q (some (some (.int (if aIsS w then 1 else 0)))) M) : SM (d + 1) 112 [.long v] M Q := by
  refine ⟨qX10_isSymbol, rfl, ⟨Nat.le_of_ble_eq_true rfl, rfl⟩, ?_⟩
  show Ev (BM (d) qX10_isSymbol) Q 0 [some (.long v), none] [] M
  have e0 : (0 : Int64).toInt = 0 := by decide
  rcases hv.int with ⟨m, rfl, _, m3, m4, m5⟩ | ⟨n, rfl, n4, n5⟩ | ⟨c, rfl, c1, c2, c4, c5⟩
  · repeat (refine ev_s rfl (?_ : Ev _ _ _ _ _ _))
    refine ev_lifF rfl (show ¬ 0 ≤ v by rw [Int64.le_iff_toInt_le, m5, e0]; omega) ?_
    repeat (refine ev_s rfl (?_ : Ev _ _ _ _ _ _))
    exact ev_reti rfl rfl trivial rfl h
  · have := rN_n (n := n)
    repeat (refine ev_s rfl (?_ : Ev _ _ _ _ _ _))
    refine ev_lifT rfl (show 0 ≤ v by rw [Int64.le_iff_toInt_le, n5, e0]; omega) ?_
    repeat (refine ev_s rfl (?_ : Ev _ _ _ _ _ _))
    exact ev_reti rfl rfl trivial rfl h
  · repeat (refine ev_s rfl (?_ : Ev _ _ _ _ _ _))
    refine ev_lifT rfl (show 0 ≤ v by rw [Int64.le_iff_toInt_le, c5, e0]; omega) ?_
    repeat (refine ev_s rfl (?_ : Ev _ _ _ _ _ _))
    exact ev_reti rfl rfl trivial rfl h
theorem k_isNumber {d : Nat} (hv : RTv U ψ ns v w) {Q : Option (Option Value) → PM → Prop} (h : Q (some (some (.int (if aIsN w then 1 else 0)))) M) : SM (d + 1) 113 [.long v] M Q := by
  refine ⟨qX10_isNumber, rfl, ⟨Nat.le_of_ble_eq_true rfl, rfl⟩, ?_⟩
  show Ev (BM (d) qX10_isNumber) Q 0 [some (.long v), none] [] M
  have e0 : (1097364144128 : Int64).toInt = 1097364144128 := by decide
  rcases hv.int with ⟨m, rfl, _, m3, m4, m5⟩ | ⟨n, rfl, n4, n5⟩ | ⟨c, rfl, c1, c2, c4, c5⟩
  · repeat (refine ev_s rfl (?_ : Ev _ _ _ _ _ _))
    refine ev_lifT rfl (show v < 1097364144128 by rw [Int64.lt_iff_toInt_lt, m5, e0]; omega) ?_
    repeat (refine ev_s rfl (?_ : Ev _ _ _ _ _ _))
    exact ev_reti rfl rfl trivial rfl h
  · have := rN_n (n := n)
    repeat (refine ev_s rfl (?_ : Ev _ _ _ _ _ _))
    refine ev_lifF rfl (show ¬ v < 1097364144128 by rw [Int64.lt_iff_toInt_lt, n5, e0]; omega) ?_
    repeat (refine ev_s rfl (?_ : Ev _ _ _ _ _ _))
    exact ev_reti rfl rfl trivial rfl h
  · repeat (refine ev_s rfl (?_ : Ev _ _ _ _ _ _))
    refine ev_lifT rfl (show v < 1097364144128 by rw [Int64.lt_iff_toInt_lt, c5, e0]; omega) ?_
    repeat (refine ev_s rfl (?_ : Ev _ _ _ _ _ _))
    exact ev_reti rfl rfl trivial rfl h
theorem sub_rS {k : Nat} (h : k < 2147483648) : -1 - rS k = lN k := by
  apply Int64.toInt_inj.mp
  rw [Int64.toInt_sub, rS_T h, pk_lT (by omega), show (-1 : Int64).toInt = -1 by decide]
  rw [show (-1 : Int) - (-1 - (k : Int)) = k by omega]
  exact bmI (by omega) (by omega)
theorem k_symbolOf {d k : Nat} (hk : k < 300) {Q : Option (Option Value) → PM → Prop} (h : Q (some (some (.int (nI k)))) M) : SM (d + 1) 115 [.long (rS k)] M Q := by
  refine ⟨qX10_symbolOf, rfl, ⟨Nat.le_of_ble_eq_true rfl, rfl⟩, ?_⟩
  show Ev (BM (d) qX10_symbolOf) Q 0 [some (.long (rS k)), none] [] M
  repeat (refine ev_s rfl (?_ : Ev _ _ _ _ _ _))
  rw [sub_rS (by omega), lN_i32]
  exact ev_reti rfl rfl trivial rfl h
theorem k_fails {d : Nat} {c : Int32} {Q : Option (Option Value) → PM → Prop} (h : Q (some (some (.ref 5))) (mI M 0 8 c)) : SM (d + 1) 116 [.ref 0, .int c] M Q := by
  refine ⟨qX10_fails, rfl, ⟨Nat.le_of_ble_eq_true rfl, rfl, 0, _, _, rfl, rfl⟩, ?_⟩
  show Ev (BM (d) qX10_fails) Q 0 [some (.ref 0), some (.int c)] [] M
  repeat (refine ev_s rfl (?_ : Ev _ _ _ _ _ _))
  exact ev_s rfl ⟨rfl, ⟨_, rfl⟩, h⟩
end RV

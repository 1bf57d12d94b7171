/-! The class's world, and its rows. -/
abbrev ShC : List PSh := [
  .inl (9, [.inl 2, .inl 4, .inl 6, .inl 9, .inl 17, .inl 24, .inl 27, .inl 31]),
  .inl (6, [.inl 9, .inl 11, .inl 13, .inl 15, .inr .long, .inr .long, .inr .long]),
  .inl (1, [.inl 3, .inr .int]), .inr (0, 2000, .byte, []),
  .inl (1, [.inl 5, .inr .int]), .inr (0, 2000, .byte, []),
  .inl (8, [.inl 7, .inl 8, .inr .int]), .inr (0, 3000, .byte, []), .inr (1, 300, .int, []),
  .inl (7, [.inl 10, .inr .int]), .inr (2, 300, .long, []),
  .inl (7, [.inl 12, .inr .int]), .inr (2, 2000, .long, []),
  .inl (7, [.inl 14, .inr .int]), .inr (2, 10, .long, []),
  .inl (7, [.inl 16, .inr .int]), .inr (2, 2600, .long, []),
  .inl (2, [.inl 1, .inl 18, .inl 19, .inl 20, .inl 21, .inl 22, .inl 23, .inr .int, .inr .int, .inr .int]),
  .inr (4, 4, .object "ConsYard$Row", [9, 11, 13, 15]), .inr (2, 2000, .long, []), .inr (2, 2000, .long, []), .inr (3, 2000, .boolean, []), .inr (1, 2000, .int, []), .inr (2, 2002, .long, []),
  .inl (5, [.inl 2, .inl 6, .inl 17, .inl 11, .inl 25, .inl 26, .inr .int, .inr .int, .inr .int, .inr .int, .inr .int, .inr .boolean, .inr .long]), .inr (1, 60, .int, []), .inr (1, 60, .int, []),
  .inl (3, [.inl 17, .inl 1, .inl 13, .inl 15, .inl 28, .inl 30, .inr .int, .inr .int, .inr .int, .inr .int, .inr .int, .inr .int, .inr .long]),
  .inl (7, [.inl 29, .inr .int]), .inr (2, 10, .long, []), .inr (1, 200, .int, []),
  .inl (4, [.inl 4, .inl 6, .inl 17, .inl 32]), .inl (7, [.inl 33, .inr .int]), .inr (2, 2000, .long, [])]
abbrev SC (d : Nat) : PEnv := p_sem MT ShC d
abbrev BC (d : Nat) (q : PMeth) : PBody := (ShC, p_sem MT ShC d, q.hn, q.ret, q.code, fun _ _ _ _ => False)
/-- a row's object and its array -/
def isRow (r a n : Nat) : Prop := ShC[r]? = some (.inl (7, [.inl a, .inr .int])) ∧ ShC[a]? = some (.inr (2, n, .long, [])) ∧ n < 2147483648 ∧ r ≠ a
theorem row_size {d r a n : Nat} (hr : isRow r a n) {M : PM} {Q : Option (Option Value) → PM → Prop} (h : Q (some (some (.int (M.1 r 1)))) M) : SC (d + 1) 83 [.ref r] M Q := by
  refine ⟨qX6_size, rfl, ⟨Nat.le_of_ble_eq_true rfl, rfl, r, _, _, rfl, hr.1⟩, ?_⟩
  show Ev (BC d qX6_size) Q 0 [some (.ref r)] [] M
  refine ev_s rfl (?_ : Ev _ _ _ _ _ _)
  refine ev_getI rfl hr.1 rfl ?_
  exact ev_s rfl ⟨rfl, ⟨_, rfl, trivial, rfl⟩, h⟩
theorem row_at {d r a n : Nat} (hr : isRow r a n) {k : Int32} {M : PM} {Q : Option (Option Value) → PM → Prop}
    (h1 : 0 ≤ k → k < M.1 r 1 → vp_in k n ∧ Q (some (some (.long (M.2 a k.toNatClampNeg)))) M) (h2 : ¬ (0 ≤ k ∧ k < M.1 r 1) → Q (some (some (.long (-1)))) M) : SC (d + 1) 84 [.ref r, .int k] M Q := by
  refine ⟨qX6_at, rfl, ⟨Nat.le_of_ble_eq_true rfl, rfl, r, _, _, rfl, hr.1⟩, ?_⟩
  show Ev (BC d qX6_at) Q 0 [some (.ref r), some (.int k)] [] M
  have hm : (¬ (0 ≤ k ∧ k < M.1 r 1)) → Ev (BC d qX6_at) Q 21 [some (.ref r), some (.int k)] [] M := fun hn => by
    refine ev_s rfl (?_ : Ev _ _ _ _ _ _)
    exact ev_s rfl ⟨rfl, rfl, h2 hn⟩
  refine ev_s rfl (?_ : Ev _ _ _ _ _ _)
  refine ev_if rfl (fun hc => hm (fun h9 => Int32.not_lt.mpr h9.1 hc)) (fun hc => ?_)
  refine ev_s rfl (?_ : Ev _ _ _ _ _ _)
  refine ev_s rfl (?_ : Ev _ _ _ _ _ _)
  refine ev_getI rfl hr.1 rfl ?_
  refine ev_ic rfl (fun hc2 => hm (fun h9 => Int32.not_lt.mpr hc2 h9.2)) (fun hc2 => ?_)
  obtain ⟨g1, g2⟩ := h1 (Int32.not_lt.mp hc) (Int32.not_le.mp hc2)
  refine ev_s rfl (?_ : Ev _ _ _ _ _ _)
  refine ev_getR rfl hr.1 rfl ?_
  refine ev_s rfl (?_ : Ev _ _ _ _ _ _)
  refine ev_lald rfl hr.2.1 g1 ?_
  refine ev_s rfl (?_ : Ev _ _ _ _ _ _)
  exact ev_s rfl ⟨rfl, rfl, g2⟩

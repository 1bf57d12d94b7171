/-! The class's world, and its rows. -/
abbrev ShC : List PSh := [
  .inl (9, [.inl 2, .inl 4, .inl 6, .inl 9, .inl 17, .inl 24, .inl 27, .inl 31]),
  .inl (6, [.inl 9, .inl 11, .inl 13, .inl 15, .inr .long, .inr .long, .inr .long]),
  .inl (1, [.inl 3, .inr .int]), .inr (0, 2000, .byte, []),
  .inl (1, [.inl 5, .inr .int]), .inr (0, 2000, .byte, []),
  .inl (8, [.inl 7, .inl 8, .inr .int]), .inr (0, 3000, .byte, []), .inr (1, 300, .int, []),
  .inl (7, [.inl 10, .inr .int]), .inr (2, 300, .long, []),
  .inl (7, [.inl 12, .inr .int]), .inr (2, 2000, .long, []),
  .inl (7, [.inl 14, .inr .int]), .inr (2, 10, .long, []),
  .inl (7, [.inl 16, .inr .int]), .inr (2, 2600, .long, []),
  .inl (2, [.inl 1, .inl 18, .inl 19, .inl 20, .inl 21, .inl 22, .inl 23, .inr .int, .inr .int, .inr .int]),
  .inr (4, 4, .object "ConsYard$Row", [9, 11, 13, 15]), .inr (2, 2000, .long, []), .inr (2, 2000, .long, []), .inr (3, 2000, .boolean, []), .inr (1, 2000, .int, []), .inr (2, 2002, .long, []),
  .inl (5, [.inl 2, .inl 6, .inl 17, .inl 11, .inl 25, .inl 26, .inr .int, .inr .int, .inr .int, .inr .int, .inr .int, .inr .boolean, .inr .long]), .inr (1, 60, .int, []), .inr (1, 60, .int, []),
  .inl (3, [.inl 17, .inl 1, .inl 13, .inl 15, .inl 28, .inl 30, .inr .int, .inr .int, .inr .int, .inr .int, .inr .int, .inr .int, .inr .long]),
  .inl (7, [.inl 29, .inr .int]), .inr (2, 10, .long, []), .inr (1, 200, .int, []),
  .inl (4, [.inl 4, .inl 6, .inl 17, .inl 32]), .inl (7, [.inl 33, .inr .int]), .inr (2, 2000, .long, [])]
abbrev SC (d : Nat) : PEnv := p_sem MT ShC d
abbrev BC (d : Nat) (q : PMeth) : PBody := (ShC, p_sem MT ShC d, q.hn, q.ret, q.code, fun _ _ _ _ => False)
set_option maxRecDepth 20000 in
theorem row_at {d r a n : Nat} (hr : ShC[r]? = some (.inl (7, [.inl a, .inr .int]))) (ha : ShC[a]? = some (.inr (2, n, .long, []))) {k : Int32} {M : PM} {Q : Option (Option Value) → PM → Prop}
    (h1 : 0 ≤ k → k < M.1 r 1 → vp_in k n ∧ Q (some (some (.long (M.2 a k.toNatClampNeg)))) M) (h2 : ¬ (0 ≤ k ∧ k < M.1 r 1) → Q (some (some (.long (-1)))) M) : SC (d + 1) 84 [.ref r, .int k] M Q := by
  refine ⟨qX6_at, rfl, ⟨by decide, rfl, r, _, _, rfl, hr⟩, ?_⟩
  refine Ev.go [] 30 ?_
  simp only [p_st, p_vc, qX6_at, cdX6_at, p_ex, p_ent0, p_ent, p_ld, p_isI, p_isJ, p_isR, p_popI, p_popJ, p_popR, p_ax, p_br, p_icmp, p_obj, p_arr, hr, ha]
  trace_state
  sorry

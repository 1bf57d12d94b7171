/-! The reference's public methods: small ones. -/
theorem bv_tn (y : BitVec 32) : (y.toNat : Int) = y.toInt % 4294967296 := by
  have h := BitVec.toInt_eq_toNat_cond y
  have := y.isLt
  split at h <;> omega
theorem bv_sh (x : BitVec 32) (k : Nat) (d : Int) (hd : d = 2 ^ k) (hk : d = 16777216 ∨ d = 65536 ∨ d = 256 ∨ d = 1) : (((x.sshiftRight k).toNat % 256 : Nat) : Int) = ((x.toNat : Int) / d) % 256 := by
  have h1 := bv_tn (x.sshiftRight k)
  have h2 := bv_tn x
  rw [BitVec.toInt_sshiftRight, Int.shiftRight_eq_div_pow] at h1
  have h3 : (((2:Nat) ^ k : Nat) : Int) = d := by rw [hd]; simp
  rw [h3] at h1
  have h5 := BitVec.le_toInt x
  have h6 := BitVec.toInt_lt (x := x)
  rcases hk with rfl | rfl | rfl | rfl <;> omega
theorem oct_sshr (x s : Int32) (k : Nat) (hs : s.toBitVec.smod 32 = BitVec.ofNat 32 k) (hk : k = 24 ∨ k = 16 ∨ k = 8 ∨ k = 0) : oct (x >>> s) = x.toBitVec.toNat / 2 ^ k % 256 := by
  unfold oct
  rw [Int32.toBitVec_shiftRight, hs]
  have e : x.toBitVec.sshiftRight' (BitVec.ofNat 32 k) = x.toBitVec.sshiftRight k := by
    rcases hk with rfl | rfl | rfl | rfl <;> rfl
  rw [e]
  have h := bv_sh x.toBitVec k (2 ^ k) rfl (by rcases hk with rfl | rfl | rfl | rfl <;> decide)
  apply Int.ofNat_inj.mp
  rw [h]
  simp
/-- the reference between calls -/
def YM (M : PM) (S : YS) : Prop := match S with
  | (tp, pa, nm, fns, H, n, lim, pl, tk, mo) => (∃ U ψ, CoreM M U ψ nm.length lim H n (aS 0) (aS 0) (aS 0) fns [] [] []) ∧ SymM M nm ∧ ByM M 10 20 tp ∧ ByM M 21 46 pa ∧ M.1 0 28 = nI 0 ∧ M.1 0 23 = pl ∧ M.1 0 44 = nI tk ∧ M.1 0 42 = nI mo ∧ M.1 0 6 = nI (fns.filter Option.isSome).length
/-- what is left behind a fault -/
def DX (lim : Nat) (fns : List (Option AV)) (M : PM) (nm : List (List Nat)) (H : AHp) (n : Nat) : Prop :=
  (∃ U ψ, MemM M U ψ nm.length H n lim ∧ FnM M U ψ nm.length fns) ∧ Acy H n ∧ M.1 0 5 = nI nm.length ∧ 23 ≤ nm.length ∧ nm.length ≤ 300 ∧ SymM M nm
section KQ
variable {M : PM} {tp pa : List Nat} {nm : List (List Nat)} {fns : List (Option AV)} {H : AHp} {n lim : Nat} {pl : Int32} {tk mo : Nat}
theorem YM.same {M' : PM} {ids : List Nat} (h : YM M (tp, pa, nm, fns, H, n, lim, pl, tk, mo)) (hs : SameM ids M M') (hd : ∀ k ∈ [1, 2, 10, 21, 106, 120, 123, 128, 142, 144, 146] ++ cmIds, k ∉ ids) : YM M' (tp, pa, nm, fns, H, n, lim, pl, tk, mo) := by
  obtain ⟨⟨U, ψ, h1⟩, h2, h3, h4, h5, h6, h7, h8, h9⟩ := h
  exact ⟨⟨U, ψ, h1.same hs (fun k hk => hd k (List.mem_append_right _ hk))⟩, h2.same hs (hd 1 (by decide)) (hd 2 (by decide)), h3.same hs (by decide) (hd 10 (by decide)) (hd 120 (by decide)), h4.same hs (by decide) (hd 21 (by decide)) (hd 146 (by decide)), (hs.2 28 (hd 128 (by decide))).1.trans h5, (hs.2 23 (hd 123 (by decide))).1.trans h6, (hs.2 44 (hd 144 (by decide))).1.trans h7, (hs.2 42 (hd 142 (by decide))).1.trans h8, (hs.2 6 (hd 106 (by decide))).1.trans h9⟩
theorem YM.thr {y : Int32} (h : YM M (tp, pa, nm, fns, H, n, lim, pl, tk, mo)) : YM (mI M 0 0 y) (tp, pa, nm, fns, H, n, lim, pl, tk, mo) := h.same (SameM.I0 (j := 0)) (by decide)
theorem q_thrown {d : Nat} {Q : Option (Option Value) → PM → Prop} (hq : Q (some (some (.int (M.1 0 0)))) M) : SM (d + 1) 111 [.ref 0] M Q := by
  refine ⟨qX10_thrown, rfl, ⟨Nat.le_of_ble_eq_true rfl, rfl, 0, _, _, rfl, rfl⟩, ?_⟩
  show Ev (BM (d) qX10_thrown) Q 0 [some (.ref 0)] [] M
  repeat (refine ev_s rfl (?_ : Ev _ _ _ _ _ _))
  exact ev_reti rfl rfl trivial rfl hq
theorem q_place {d : Nat} (h : YM M (tp, pa, nm, fns, H, n, lim, pl, tk, mo)) {Q : Option (Option Value) → PM → Prop} (hq : ∀ M', YM M' (tp, pa, nm, fns, H, n, lim, pl, tk, mo) → Q (some (some (.int pl))) M') : SM (d + 1) 161 [.ref 0] M Q := by
  refine ⟨qX10_place, rfl, ⟨Nat.le_of_ble_eq_true rfl, rfl, 0, _, _, rfl, rfl⟩, ?_⟩
  show Ev (BM (d) qX10_place) Q 0 [some (.ref 0)] [] M
  have h2 := h.thr (y := 0)
  repeat (refine ev_s rfl (?_ : Ev _ _ _ _ _ _))
  rw [h2.2.2.2.2.2.1]
  exact ev_reti rfl rfl trivial rfl (hq _ h2)
theorem q_octet {d : Nat} {k : Int32} (h : YM M (tp, pa, nm, fns, H, n, lim, pl, tk, mo)) {Q : Option (Option Value) → PM → Prop} (hq : ∀ M', YM M' (tp, pa, nm, fns, H, n, lim, pl, tk, mo) → Q (some (some (.int (bAt pa k)))) M') : SM (d + 1) 166 [.ref 0, .int k] M Q := by
  refine ⟨qX10_octet, rfl, ⟨Nat.le_of_ble_eq_true rfl, rfl, 0, _, _, rfl, rfl⟩, ?_⟩
  show Ev (BM (d) qX10_octet) Q 0 [some (.ref 0), some (.int k)] [] M
  have h2 := h.thr (y := 0)
  have hP := h2.2.2.2.1
  have hpl := hP.2.1
  have out : bAt pa k = -1 → Ev (BM d qX10_octet) Q 30 [some (.ref 0), some (.int k)] [] (mI M 0 0 0) := fun h9 => by
    have := hq _ h2
    rw [h9] at this
    repeat (refine ev_s rfl (?_ : Ev _ _ _ _ _ _))
    exact ev_reti rfl rfl trivial rfl this
  repeat (refine ev_s rfl (?_ : Ev _ _ _ _ _ _))
  refine ev_if rfl (fun hc => out ?_) (fun hc => ?_)
  · unfold bAt
    rw [if_neg (Int32.not_le.mpr hc)]
  obtain ⟨j, hj, rfl⟩ := nI_of hc
  rw [bAt_nI hj] at out hq
  repeat (refine ev_s rfl (?_ : Ev _ _ _ _ _ _))
  rw [hP.1]
  refine ev_ic rfl (fun hc2 => out ?_) (fun hc2 => ?_)
  · have hge := (nI_leI (by omega) (by omega)).mp hc2
    rw [List.getElem?_eq_none hge]
    rfl
  · have hlt : j < pa.length := by
      have : ¬ pa.length ≤ j := fun h9 => hc2 (nI_le h9 hj)
      omega
    have e : pa[j]? = some pa[j] := List.getElem?_eq_getElem hlt
    obtain ⟨g1, g2⟩ := hP.2.2 _ _ e
    have hq2 := hq _ h2
    rw [e] at hq2
    repeat (refine ev_s rfl (?_ : Ev _ _ _ _ _ _))
    refine ev_bald rfl rfl (vp_in_nI (show j < 2100 by omega) (by decide)) ?_
    rw [nI_clamp hj, g2]
    repeat (refine ev_s rfl (?_ : Ev _ _ _ _ _ _))
    have e2 : sb_b pa[j] &&& 255 = nI pa[j] := (sb_byte _ g1).1
    rw [e2]
    exact ev_reti rfl rfl trivial rfl hq2
theorem rts_fns {fns : List (Option AV)} {v : AV} (i : Nat) : ARt fns (rts (aS 0) (aS 0) (aS 0) [] [] []) (aS 0) (aS 0) (aC i) ↔ some (aC i) ∈ fns := by
  unfold ARt
  simp [rts]
theorem k_ofFunctions {d : Nat} (h : YM M (tp, pa, nm, fns, H, n, lim, pl, tk, mo)) {Q : Option (Option Value) → PM → Prop} (hq : ∀ M', YM M' (tp, pa, nm, fns, H, n, lim, pl, tk, mo) → aFns H fns n ≤ 2400 → SameM [8, 9, 113, 114, 115, 116] M M' → Q (some (some (.int (nI (aFns H fns n))))) M') : SM (d + 5) 162 [.ref 0] M Q := by
  refine ⟨qX10_ofFunctions, rfl, ⟨Nat.le_of_ble_eq_true rfl, rfl, 0, _, _, rfl, rfl⟩, ?_⟩
  show Ev (BM (d + 4) qX10_ofFunctions) Q 0 [some (.ref 0)] [] M
  have h0 := h
  obtain ⟨⟨U, ψ, hC⟩, h2, h3, h4, h5, h6, h7, h8, h9⟩ := h
  have hH := hC.1.2.2.2.2.2.2
  obtain ⟨c1, c2, c3, c4, c5, c6, c7, c8, c9, c10, c11⟩ := id hC
  repeat (refine ev_s rfl (?_ : Ev _ _ _ _ _ _))
  refine ev_cv rfl (as := [.ref 0]) rfl rfl (Nat.le_of_ble_eq_true rfl) ?_
  refine k_reachF hC (RA := ARt fns (rts (aS 0) (aS 0) (aS 0) [] [] []) (aS 0) (aS 0)) (fun v hv => Or.inl hv) (fun M1 T g1 g2 => ?_)
  obtain ⟨e1, e2, e3⟩ := mark_end hH g1 (fun i hi => by
    have hm := (rts_fns (v := aS 0) i).mp hi
    obtain ⟨k, k1, k2⟩ := List.getElem_of_mem hm
    have ek : fns[k]? = some (some (aC i)) := by rw [List.getElem?_eq_getElem k1, k2]
    exact ⟨_, (c6.2.1 k _ ek).2.1, g2 k _ ek⟩)
  obtain ⟨m1, m2, m3, m4, m5, m6, m7, m8, m9⟩ := id g1
  have hs : SameM [8, 9, 113, 114, 115, 116] M (mI (mI M1 0 15 (M1.1 0 14)) 0 16 0) := ((m9.tr (SameM.I0 (j := 15))).tr (SameM.I0 (j := 16))).sub (by decide)
  show Ev _ _ _ _ [] _
  repeat (refine ev_s rfl (?_ : Ev _ _ _ _ _ _))
  have e14 : (mI (mI M1 0 15 (M1.1 0 14)) 0 16 0).1 0 14 = nI (cntB T 2400) := by rw [mI_ne (Or.inr (by decide)), mI_ne (Or.inr (by decide))]; exact m2
  rw [e14, e2]
  have hC2 : CoreM (mI (mI M1 0 15 (M1.1 0 14)) 0 16 0) T ψ nm.length lim H n (aS 0) (aS 0) (aS 0) fns [] [] [] := by
    refine hC.kept e1 (fun v hv => ?_) hs (by decide) ⟨fun c hc => ?_, ?_, ⟨0, mI_at, by omega, fun c hc => by omega⟩, (hs.2 17 (by decide)).1.trans c1.2.2.2.1, c1.2.2.2.2.1, (hs.2 18 (by decide)).1.trans c1.2.2.2.2.2.1, ?_⟩ c2
    · rcases hv with h9 | h9
      · exact Or.inl h9
      · exact Or.inr (Or.inl h9)
    · rw [mI_ne (Or.inl (by decide)), mI_ne (Or.inl (by decide))]; exact m1 c hc
    · rw [mI_ne (Or.inr (by decide)), mI_at]; exact m2
    · unfold HeapM
      rw [(hs.1 6 (by decide) (by decide)).2, (hs.1 7 (by decide) (by decide)).2]
      exact e3
  refine ev_reti rfl rfl trivial rfl (hq _ ⟨⟨T, ψ, hC2⟩, h2.same hs (by decide) (by decide), h3.same hs (by decide) (by decide) (by decide), h4.same hs (by decide) (by decide) (by decide), (hs.2 28 (by decide)).1.trans h5, (hs.2 23 (by decide)).1.trans h6, (hs.2 44 (by decide)).1.trans h7, (hs.2 42 (by decide)).1.trans h8, (hs.2 6 (by decide)).1.trans h9⟩ ?_ hs)
  unfold aFns
  rw [← e2]
  exact cntB_le T 2400
theorem CoreM.room {U : Nat → Bool} {ψ : Nat → Nat} {ns k : Nat} {x e f : AV} {pe vs : List AV} {frs : List AF} (h : CoreM M U ψ ns lim H n x e f fns pe vs frs) (hk : k ≤ 2000) : CoreM (mI M 0 17 (nI k)) U ψ ns k H n x e f fns pe vs frs := by
  obtain ⟨⟨m1, m2, m3, m4, m5, m6, m7⟩, c2, c3, c4, c5, c6, c7, c8, c9, c10, c11⟩ := h
  have s1 : SameM [117] M (mI M 0 17 (nI k)) := SameM.I0 (j := 17)
  refine ⟨⟨fun c hc => by rw [mI_ne (Or.inl (by decide))]; exact m1 c hc, (s1.2 15 (by decide)).1.trans m2, ?_, mI_at, hk, (s1.2 18 (by decide)).1.trans m6, m7⟩, c2, c3, c4, c5, c6.kept (RA := fun _ => True) (H := H) KeptM.rf (fun _ _ => trivial) s1 (by decide) (by decide), c7.kept (RA := fun _ => True) (H := H) KeptM.rf (fun _ _ => trivial) s1 (by decide) (by decide) (by decide), c8.kept (RA := fun _ => True) (H := H) KeptM.rf (fun _ _ => trivial) s1 (by decide) (by decide) (by decide), c9.kept (RA := fun _ => True) (H := H) KeptM.rf (fun _ _ => trivial) s1 (by decide), (s1.2 5 (by decide)).1.trans c10, c11⟩
  rw [(s1.2 16 (by decide)).1]; exact m3
theorem q_room_bad {d : Nat} {x : Int32} (h : YM M (tp, pa, nm, fns, H, n, lim, pl, tk, mo)) (hx : x < 0 ∨ 2000 < x) {Q : Option (Option Value) → PM → Prop} (hq : ∀ M', YM M' (tp, pa, nm, fns, H, n, lim, pl, tk, mo) → M'.1 0 0 = 1 → Q (some (some (.int 0))) M') : SM (d + 1) 163 [.ref 0, .int x] M Q := by
  refine ⟨qX10_room, rfl, ⟨Nat.le_of_ble_eq_true rfl, rfl, 0, _, _, rfl, rfl⟩, ?_⟩
  show Ev (BM (d) qX10_room) Q 0 [some (.ref 0), some (.int x), none] [] M
  have bad : Ev (BM d qX10_room) Q 12 [some (.ref 0), some (.int x), none] [.ref 0] M := by
    repeat (refine ev_s rfl (?_ : Ev _ _ _ _ _ _))
    have e1 : (mI M 0 0 1).1 0 0 = 1 := mI_at
    rw [e1]
    refine ev_ifF rfl (show ¬ (1 : Int32) ≤ 0 by decide) ?_
    repeat (refine ev_s rfl (?_ : Ev _ _ _ _ _ _))
    exact ev_reti rfl rfl trivial rfl (hq _ h.thr mI_at)
  repeat (refine ev_s rfl (?_ : Ev _ _ _ _ _ _))
  refine ev_if rfl (fun hc => bad) (fun hc => ?_)
  repeat (refine ev_s rfl (?_ : Ev _ _ _ _ _ _))
  refine ev_icF rfl (show ¬ x ≤ 2000 from Int32.not_le.mpr (hx.resolve_left hc)) ?_
  exact bad
theorem q_room {d N : Nat} (h : YM M (tp, pa, nm, fns, H, n, lim, pl, tk, mo)) (hN : N ≤ 2000) {Q : Option (Option Value) → PM → Prop} (hq : ∀ M', YM M' (yRoom (tp, pa, nm, fns, H, n, lim, pl, tk, mo) N).2 → M'.1 0 0 = 0 → Q (some (some (.int (yRoom (tp, pa, nm, fns, H, n, lim, pl, tk, mo) N).1))) M') : SM (d + 6) 163 [.ref 0, .int (nI N)] M Q := by
  refine ⟨qX10_room, rfl, ⟨Nat.le_of_ble_eq_true rfl, rfl, 0, _, _, rfl, rfl⟩, ?_⟩
  show Ev (BM (d + 5) qX10_room) Q 0 [some (.ref 0), some (.int (nI N)), none] [] M
  unfold yRoom at hq
  dsimp only at hq
  have h2 := h.thr (y := 0)
  repeat (refine ev_s rfl (?_ : Ev _ _ _ _ _ _))
  refine ev_ifF rfl (show ¬ nI N < 0 from Int32.not_lt.mpr (nI_pos' (by omega))) ?_
  repeat (refine ev_s rfl (?_ : Ev _ _ _ _ _ _))
  refine ev_icT rfl (show nI N ≤ 2000 from nI_le (b := 2000) hN (by decide)) ?_
  repeat (refine ev_s rfl (?_ : Ev _ _ _ _ _ _))
  have e1 : (mI M 0 0 0).1 0 0 = 0 := mI_at
  rw [e1]
  refine ev_ifT rfl (show (0 : Int32) ≤ 0 by decide) ?_
  repeat (refine ev_s rfl (?_ : Ev _ _ _ _ _ _))
  refine ev_cv rfl (as := [.ref 0]) rfl rfl (Nat.le_of_ble_eq_true rfl) ?_
  refine k_ofFunctions h2 (fun M2 g1 gb g2 => ?_)
  have e02 : M2.1 0 0 = 0 := (g2.2 0 (by decide)).1.trans e1
  show Ev _ _ _ _ [.int (nI (aFns H fns n))] _
  repeat (refine ev_s rfl (?_ : Ev _ _ _ _ _ _))
  refine ev_ic rfl (fun hc => ?_) (fun hc => ?_)
  · have hle : aFns H fns n ≤ N := (nI_leI (by omega) (by omega)).mp hc
    rw [if_pos hle] at hq
    repeat (refine ev_s rfl (?_ : Ev _ _ _ _ _ _))
    have s1 : SameM [117] M2 (mI M2 0 17 (nI N)) := SameM.I0 (j := 17)
    obtain ⟨⟨U, ψ, hC⟩, h2', h3, h4, h5, h6, h7, h8, h9⟩ := g1
    exact ev_reti rfl rfl trivial rfl (hq _ ⟨⟨U, ψ, hC.room hN⟩, h2'.same s1 (by decide) (by decide), h3.same s1 (by decide) (by decide) (by decide), h4.same s1 (by decide) (by decide) (by decide), (s1.2 28 (by decide)).1.trans h5, (s1.2 23 (by decide)).1.trans h6, (s1.2 44 (by decide)).1.trans h7, (s1.2 42 (by decide)).1.trans h8, (s1.2 6 (by decide)).1.trans h9⟩ ((s1.2 0 (by decide)).1.trans e02))
  · have hle : ¬ aFns H fns n ≤ N := fun h9 => hc (nI_le h9 (by omega))
    rw [if_neg hle] at hq
    repeat (refine ev_s rfl (?_ : Ev _ _ _ _ _ _))
    exact ev_reti rfl rfl trivial rfl (hq M2 g1 e02)
theorem q_count {d : Nat} {k : Int32} (h : YM M (tp, pa, nm, fns, H, n, lim, pl, tk, mo)) {Q : Option (Option Value) → PM → Prop} (hq : ∀ M', YM M' (tp, pa, nm, fns, H, n, lim, pl, tk, mo) → Q (some (some (.int (yCount (tp, pa, nm, fns, H, n, lim, pl, tk, mo) k)))) M') : SM (d + 6) 164 [.ref 0, .int k] M Q := by
  refine ⟨qX10_count, rfl, ⟨Nat.le_of_ble_eq_true rfl, rfl, 0, _, _, rfl, rfl⟩, ?_⟩
  show Ev (BM (d + 5) qX10_count) Q 0 [some (.ref 0), some (.int k)] [] M
  have h0 := h.thr (y := 0)
  have hC := h0
  obtain ⟨⟨U, ψ, hC⟩, h2, h3, h4, h5, h6, h7, h8, h9⟩ := hC
  unfold yCount at hq
  dsimp only at hq
  repeat (refine ev_s rfl (?_ : Ev _ _ _ _ _ _))
  refine ev_s rfl ⟨fun hc => ?_, fun n0 => ⟨fun hc => ?_, fun n1 => ⟨fun hc => ?_, fun n2 => ⟨fun hc => ?_, fun n3 => ⟨fun hc => ?_, fun n4 => ⟨fun hc => ?_, fun n5 => ⟨fun hc => ?_, fun n6 => ⟨fun hc => ?_, fun n7 => ⟨fun hc => ?_, fun n8 => ?_⟩⟩⟩⟩⟩⟩⟩⟩⟩
  · rw [if_pos (show k = 0 from hc)] at hq
    show Ev _ _ _ _ _ _
    repeat (refine ev_s rfl (?_ : Ev _ _ _ _ _ _))
    rw [hC.2.2.2.2.2.2.2.2.2.1]
    exact ev_reti rfl rfl trivial rfl (hq _ h0)
  · rw [if_neg (show ¬ k = 0 from n0), if_pos (show k = 1 from hc)] at hq
    show Ev _ _ _ _ _ _
    repeat (refine ev_s rfl (?_ : Ev _ _ _ _ _ _))
    refine ev_cv rfl (as := [.ref 0]) rfl rfl (Nat.le_of_ble_eq_true rfl) ?_
    refine k_ofFunctions h0 (fun M2 g1 gb g2 => ?_)
    show Ev _ _ _ _ [.int (nI (aFns H fns n))] _
    exact ev_reti rfl rfl trivial rfl (hq _ g1)
  · rw [if_neg (show ¬ k = 0 from n0), if_neg (show ¬ k = 1 from n1), if_pos (show k = 2 from hc)] at hq
    show Ev _ _ _ _ _ _
    repeat (refine ev_s rfl (?_ : Ev _ _ _ _ _ _))
    rw [h7]
    exact ev_reti rfl rfl trivial rfl (hq _ h0)
  · rw [if_neg (show ¬ k = 0 from n0), if_neg (show ¬ k = 1 from n1), if_neg (show ¬ k = 2 from n2), if_pos (show k = 3 from hc)] at hq
    show Ev _ _ _ _ _ _
    repeat (refine ev_s rfl (?_ : Ev _ _ _ _ _ _))
    rw [h8]
    exact ev_reti rfl rfl trivial rfl (hq _ h0)
  · rw [if_neg (show ¬ k = 0 from n0), if_neg (show ¬ k = 1 from n1), if_neg (show ¬ k = 2 from n2), if_neg (show ¬ k = 3 from n3), if_pos (show k = 4 from hc)] at hq
    show Ev _ _ _ _ _ _
    repeat (refine ev_s rfl (?_ : Ev _ _ _ _ _ _))
    rw [hC.1.2.2.2.2.2.1]
    exact ev_reti rfl rfl trivial rfl (hq _ h0)
  · rw [if_neg (show ¬ k = 0 from n0), if_neg (show ¬ k = 1 from n1), if_neg (show ¬ k = 2 from n2), if_neg (show ¬ k = 3 from n3), if_neg (show ¬ k = 4 from n4), if_pos (show k = 5 from hc)] at hq
    show Ev _ _ _ _ _ _
    repeat (refine ev_s rfl (?_ : Ev _ _ _ _ _ _))
    rw [h4.1]
    exact ev_reti rfl rfl trivial rfl (hq _ h0)
  · rw [if_neg (show ¬ k = 0 from n0), if_neg (show ¬ k = 1 from n1), if_neg (show ¬ k = 2 from n2), if_neg (show ¬ k = 3 from n3), if_neg (show ¬ k = 4 from n4), if_neg (show ¬ k = 5 from n5), if_pos (show k = 6 from hc)] at hq
    show Ev _ _ _ _ _ _
    repeat (refine ev_s rfl (?_ : Ev _ _ _ _ _ _))
    rw [h3.1]
    exact ev_reti rfl rfl trivial rfl (hq _ h0)
  · rw [if_neg (show ¬ k = 0 from n0), if_neg (show ¬ k = 1 from n1), if_neg (show ¬ k = 2 from n2), if_neg (show ¬ k = 3 from n3), if_neg (show ¬ k = 4 from n4), if_neg (show ¬ k = 5 from n5), if_neg (show ¬ k = 6 from n6), if_pos (show k = 7 from hc)] at hq
    show Ev _ _ _ _ _ _
    repeat (refine ev_s rfl (?_ : Ev _ _ _ _ _ _))
    rw [hC.1.2.2.2.1]
    exact ev_reti rfl rfl trivial rfl (hq _ h0)
  · rw [if_neg (show ¬ k = 0 from n0), if_neg (show ¬ k = 1 from n1), if_neg (show ¬ k = 2 from n2), if_neg (show ¬ k = 3 from n3), if_neg (show ¬ k = 4 from n4), if_neg (show ¬ k = 5 from n5), if_neg (show ¬ k = 6 from n6), if_neg (show ¬ k = 7 from n7), if_pos (show k = 8 from hc)] at hq
    show Ev _ _ _ _ _ _
    repeat (refine ev_s rfl (?_ : Ev _ _ _ _ _ _))
    rw [h9]
    exact ev_reti rfl rfl trivial rfl (hq _ h0)
  · rw [if_neg (show ¬ k = 0 from n0), if_neg (show ¬ k = 1 from n1), if_neg (show ¬ k = 2 from n2), if_neg (show ¬ k = 3 from n3), if_neg (show ¬ k = 4 from n4), if_neg (show ¬ k = 5 from n5), if_neg (show ¬ k = 6 from n6), if_neg (show ¬ k = 7 from n7), if_neg (show ¬ k = 8 from n8)] at hq
    show Ev _ _ _ _ _ _
    repeat (refine ev_s rfl (?_ : Ev _ _ _ _ _ _))
    exact ev_reti rfl rfl trivial rfl (hq _ h0)
theorem q_function {d : Nat} {k : Int32} (h : YM M (tp, pa, nm, fns, H, n, lim, pl, tk, mo)) {Q : Option (Option Value) → PM → Prop} (hq : ∀ M', YM M' (yFun (tp, pa, nm, fns, H, n, lim, pl, tk, mo) k).2 → Q (some (some (.int (yFun (tp, pa, nm, fns, H, n, lim, pl, tk, mo) k).1))) M') : SM (d + 4) 165 [.ref 0, .int k] M Q := by
  refine ⟨qX10_function, rfl, ⟨Nat.le_of_ble_eq_true rfl, rfl, 0, _, _, rfl, rfl⟩, ?_⟩
  show Ev (BM (d + 3) qX10_function) Q 0 [some (.ref 0), some (.int k)] [] M
  have h0 := h.thr (y := 0)
  have hD := h0
  obtain ⟨⟨U, ψ, hC⟩, h2, h3, h4, h5, h6, h7, h8, h9⟩ := hD
  have hFn := hC.2.2.2.2.2.1
  have h300 := hC.2.2.2.2.2.2.2.2.2.2.2
  unfold yFun at hq
  dsimp only at hq
  have none_ : (if 0 ≤ k then (fns[k.toNatClampNeg]?).join else none) = none → Ev (BM (d + 3) qX10_function) Q 26 [some (.ref 0), some (.int k)] [] (mI M 0 0 0) := fun h9 => by
    rw [h9] at hq
    repeat (refine ev_s rfl (?_ : Ev _ _ _ _ _ _))
    exact ev_reti rfl rfl trivial rfl (hq _ h0)
  repeat (refine ev_s rfl (?_ : Ev _ _ _ _ _ _))
  refine ev_if rfl (fun hc => none_ (if_neg (Int32.not_le.mpr hc))) (fun hc => ?_)
  obtain ⟨j, hj, rfl⟩ := nI_of hc
  rw [if_pos (nI_pos' hj), nI_clamp hj] at none_ hq
  repeat (refine ev_s rfl (?_ : Ev _ _ _ _ _ _))
  rw [hC.2.2.2.2.2.2.2.2.2.1]
  refine ev_ic rfl (fun hc2 => none_ ?_) (fun hc2 => ?_)
  · have hge := (nI_leI (by omega) hj).mp hc2
    cases hf : fns[j]? with
    | none => rfl
    | some o =>
      cases o with
      | none => rfl
      | some a =>
        have := (hFn.2.1 j a hf).2.2
        omega
  · have hlt : j < nm.length := by
      have : ¬ nm.length ≤ j := fun h9 => hc2 (nI_le h9 hj)
      omega
    have hjl : j < fns.length := by rw [hFn.1]; omega
    have ej : fns[j]? = some fns[j] := List.getElem?_eq_getElem hjl
    repeat (refine ev_s rfl (?_ : Ev _ _ _ _ _ _))
    refine ev_zald rfl rfl (vp_in_nI (show j < 300 by omega) (by decide)) ?_
    rw [nI_clamp hj]
    cases hf : fns[j] with
    | none =>
      rw [hf] at ej
      rw [hFn.2.2 j ej]
      refine ev_ifF rfl (show ¬ ¬ (0 : Int32) = 0 by decide) ?_
      exact none_ (by rw [ej]; rfl)
    | some a =>
      rw [hf] at ej
      obtain ⟨f1, f2, f3⟩ := hFn.2.1 j a ej
      rw [ej] at hq
      rw [f1]
      refine ev_ifT rfl (show ¬ (1 : Int32) = 0 by decide) ?_
      repeat (refine ev_s rfl (?_ : Ev _ _ _ _ _ _))
      refine ev_lald rfl rfl (vp_in_nI (show j < 300 by omega) (by decide)) ?_
      rw [nI_clamp hj, mI_2]
      have s1 : SameM [146] (mI M 0 0 0) (mI (mI M 0 0 0) 0 46 0) := SameM.I0 (j := 46)
      have hC2 := hC.same s1 (by decide)
      refine ev_cv rfl (as := [.ref 0, .long ((mI M 0 0 0).2 4 j)]) rfl rfl (Nat.le_of_ble_eq_true rfl) ?_
      refine k_prints hC2 (h2.same s1 (by decide) (by decide)) ⟨mI_at, by decide, fun i c hi => by simp at hi⟩ f2 (fun M2 g1 g2 => ?_)
      have hs := s1.t2 g2 (ids'' := [21, 22, 146]) (by decide)
      show Ev _ _ _ _ [] _
      repeat (refine ev_s rfl (?_ : Ev _ _ _ _ _ _))
      rw [g1.1]
      exact ev_reti rfl rfl trivial rfl (hq M2 ⟨⟨U, ψ, hC.same hs (by decide)⟩, h2.same hs (by decide) (by decide), h3.same hs (by decide) (by decide) (by decide), g1, (hs.2 28 (by decide)).1.trans h5, (hs.2 23 (by decide)).1.trans h6, (hs.2 44 (by decide)).1.trans h7, (hs.2 42 (by decide)).1.trans h8, (hs.2 6 (by decide)).1.trans h9⟩)
theorem q_feed {d : Nat} {a b c e f : Int32} (h : YM M (tp, pa, nm, fns, H, n, lim, pl, tk, mo)) {Q : Option (Option Value) → PM → Prop} (hq : ∀ M', YM M' (yFeed (tp, pa, nm, fns, H, n, lim, pl, tk, mo) a b c e f).2 → Q (some (some (.int (yFeed (tp, pa, nm, fns, H, n, lim, pl, tk, mo) a b c e f).1))) M') : SM (d + 1) 154 [.ref 0, .int a, .int b, .int c, .int e, .int f] M Q := by
  refine ⟨qX10_feed, rfl, ⟨Nat.le_of_ble_eq_true rfl, rfl, 0, _, _, rfl, rfl⟩, ?_⟩
  show Ev (BM (d) qX10_feed) Q 0 [some (.ref 0), some (.int a), some (.int b), some (.int c), some (.int e), some (.int f), none, none, none] [] M
  have h0 := h.thr (y := 0)
  have hD := h0
  obtain ⟨⟨U, ψ, hC⟩, h2, h3, h4, h5, h6, h7, h8, h9⟩ := hD
  have h2000 := h3.2.1
  unfold yFeed at hq
  dsimp only at hq
  -- a byte
  have byte : ∀ (w y s : Int32) (k : Nat) (M1 : PM) (l : List Nat), (s &&& 31).toBitVec.smod 32 = BitVec.ofNat 32 k → (k = 24 ∨ k = 16 ∨ k = 8 ∨ k = 0) → ¬ s < 0 → ByM M1 10 20 l → l.length < 2000 → SameM [10, 120] (mI M 0 0 0) M1 → (∀ M2, ByM M2 10 20 (l ++ [y.toBitVec.toNat / 2 ^ k % 256]) → SameM [10, 120] (mI M 0 0 0) M2 → Ev (BM d qX10_feed) Q 77 [some (.ref 0), some (.int a), some (.int b), some (.int c), some (.int e), some (.int f), some (.int w), some (.int y), some (.int (s + -8))] [] M2) → Ev (BM d qX10_feed) Q 77 [some (.ref 0), some (.int a), some (.int b), some (.int c), some (.int e), some (.int f), some (.int w), some (.int y), some (.int s)] [] M1 := by
    intro w y s k M1 l hk hk2 hs0 hB hl hs hn
    repeat (refine ev_s rfl (?_ : Ev _ _ _ _ _ _))
    refine ev_ifF rfl hs0 ?_
    repeat (refine ev_s rfl (?_ : Ev _ _ _ _ _ _))
    rw [hB.1]
    repeat (refine ev_s rfl (?_ : Ev _ _ _ _ _ _))
    refine ev_bast rfl rfl (vp_in_nI (show l.length < 2000 from hl) (by decide)) ?_
    rw [nI_clamp (by omega), pk_vb]
    iterate 8 (refine ev_s rfl (?_ : Ev _ _ _ _ _ _))
    have e20 : (mI M1 10 l.length ((y >>> (s &&& 31)).toInt8.toInt32)).1 0 20 = nI l.length := by rw [mI_ne (Or.inl (by decide))]; exact hB.1
    rw [e20, nI_1]
    refine hn _ ⟨?_, by rw [List.length_append, List.length_singleton]; omega, fun i x hi => ?_⟩ (hs.t2 ((SameM.Ik (k := 10) (by decide)).t2 (SameM.I0 (j := 20)) (ids'' := [10, 120]) (by decide)) (by decide))
    · rw [mI_at]; simp
    · rw [mI_ne (Or.inl (by decide))]
      by_cases hj : i = l.length
      · subst hj
        simp only [List.getElem?_concat_length, Option.some.injEq] at hi
        subst hi
        refine ⟨Nat.mod_lt _ (by decide), ?_⟩
        rw [mI_at, oct_b, oct_sshr y _ k hk hk2]
      · have hj2 : i < l.length := by
          have := (List.getElem?_eq_some_iff.mp hi).1
          simp only [List.length_append, List.length_singleton] at this; omega
        rw [List.getElem?_append_left hj2] at hi
        rw [mI_ne (Or.inr hj)]
        exact hB.2.2 i x hi
  -- a number
  have word : ∀ (w y : Int32) (M1 : PM) (l : List Nat) (z7 z8 : Option Value), ByM M1 10 20 l → l.length + 4 ≤ 2000 → SameM [10, 120] (mI M 0 0 0) M1 → (∀ M2 z8, ByM M2 10 20 (l ++ b4 y) → SameM [10, 120] (mI M 0 0 0) M2 → Ev (BM d qX10_feed) Q 113 [some (.ref 0), some (.int a), some (.int b), some (.int c), some (.int e), some (.int f), some (.int w), some (.int y), z8] [] M2) → Ev (BM d qX10_feed) Q 71 [some (.ref 0), some (.int a), some (.int b), some (.int c), some (.int e), some (.int f), some (.int w), z7, z8] [.int y] M1 := by
    intro w y M1 l z7 z8 hB hl hs hn
    iterate 3 (refine ev_s rfl (?_ : Ev _ _ _ _ _ _))
    refine byte w y 24 24 M1 l (by decide) (by decide) (by decide) hB (by omega) hs (fun M2 g1 s1 => ?_)
    refine byte w y (24 + -8) 16 M2 _ (by decide) (by decide) (by decide) g1 (by simp; omega) s1 (fun M3 g2 s2 => ?_)
    refine byte w y (24 + -8 + -8) 8 M3 _ (by decide) (by decide) (by decide) g2 (by simp; omega) s2 (fun M4 g3 s3 => ?_)
    refine byte w y (24 + -8 + -8 + -8) 0 M4 _ (by decide) (by decide) (by decide) g3 (by simp; omega) s3 (fun M5 g4 s4 => ?_)
    repeat (refine ev_s rfl (?_ : Ev _ _ _ _ _ _))
    refine ev_ifT rfl (show (24 + -8 + -8 + -8 + -8 : Int32) < 0 by decide) ?_
    refine hn M5 _ ?_ s4
    simpa [b4] using g4
  have b4l : ∀ y, (b4 y).length = 4 := fun y => rfl
  repeat (refine ev_s rfl (?_ : Ev _ _ _ _ _ _))
  rw [h3.1, show (20 : Int32) = nI 20 from rfl, nI_add]
  refine ev_ic rfl (fun hc => ?_) (fun hc => ?_)
  · have hle : tp.length + 20 ≤ 2000 := (nI_leI (b := 2000) (by omega) (by decide)).mp hc
    rw [if_pos hle] at hq
    repeat (refine ev_s rfl (?_ : Ev _ _ _ _ _ _))
    refine ev_icF rfl (show ¬ (5 : Int32) ≤ 0 by decide) ?_
    repeat (refine ev_s rfl (?_ : Ev _ _ _ _ _ _))
    refine ev_ifF rfl (show ¬ ¬ (0 : Int32) = 0 by decide) ?_
    iterate 2 (refine ev_s rfl (?_ : Ev _ _ _ _ _ _))
    refine word 0 a _ tp _ _ h3 (by omega) SameM.rf (fun M1 z1 g1 s1 => ?_)
    repeat (refine ev_s rfl (?_ : Ev _ _ _ _ _ _))
    refine ev_icF rfl (show ¬ (5 : Int32) ≤ 0 + 1 by decide) ?_
    repeat (refine ev_s rfl (?_ : Ev _ _ _ _ _ _))
    refine ev_ifT rfl (show ¬ (0 + 1 : Int32) = 0 by decide) ?_
    repeat (refine ev_s rfl (?_ : Ev _ _ _ _ _ _))
    refine ev_icF rfl (show ¬ ¬ (0 + 1 : Int32) = 1 by decide) ?_
    iterate 2 (refine ev_s rfl (?_ : Ev _ _ _ _ _ _))
    refine word (0 + 1) b M1 _ _ _ g1 (by simp [b4l]; omega) s1 (fun M2 z2 g2 s2 => ?_)
    repeat (refine ev_s rfl (?_ : Ev _ _ _ _ _ _))
    refine ev_icF rfl (show ¬ (5 : Int32) ≤ 0 + 1 + 1 by decide) ?_
    repeat (refine ev_s rfl (?_ : Ev _ _ _ _ _ _))
    refine ev_ifT rfl (show ¬ (0 + 1 + 1 : Int32) = 0 by decide) ?_
    repeat (refine ev_s rfl (?_ : Ev _ _ _ _ _ _))
    refine ev_icT rfl (show ¬ (0 + 1 + 1 : Int32) = 1 by decide) ?_
    repeat (refine ev_s rfl (?_ : Ev _ _ _ _ _ _))
    refine ev_icF rfl (show ¬ ¬ (0 + 1 + 1 : Int32) = 2 by decide) ?_
    iterate 2 (refine ev_s rfl (?_ : Ev _ _ _ _ _ _))
    refine word (0 + 1 + 1) c M2 _ _ _ g2 (by simp [b4l]; omega) s2 (fun M3 z3 g3 s3 => ?_)
    repeat (refine ev_s rfl (?_ : Ev _ _ _ _ _ _))
    refine ev_icF rfl (show ¬ (5 : Int32) ≤ 0 + 1 + 1 + 1 by decide) ?_
    repeat (refine ev_s rfl (?_ : Ev _ _ _ _ _ _))
    refine ev_ifT rfl (show ¬ (0 + 1 + 1 + 1 : Int32) = 0 by decide) ?_
    repeat (refine ev_s rfl (?_ : Ev _ _ _ _ _ _))
    refine ev_icT rfl (show ¬ (0 + 1 + 1 + 1 : Int32) = 1 by decide) ?_
    repeat (refine ev_s rfl (?_ : Ev _ _ _ _ _ _))
    refine ev_icT rfl (show ¬ (0 + 1 + 1 + 1 : Int32) = 2 by decide) ?_
    repeat (refine ev_s rfl (?_ : Ev _ _ _ _ _ _))
    refine ev_icF rfl (show ¬ ¬ (0 + 1 + 1 + 1 : Int32) = 3 by decide) ?_
    iterate 2 (refine ev_s rfl (?_ : Ev _ _ _ _ _ _))
    refine word (0 + 1 + 1 + 1) e M3 _ _ _ g3 (by simp [b4l]; omega) s3 (fun M4 z4 g4 s4 => ?_)
    repeat (refine ev_s rfl (?_ : Ev _ _ _ _ _ _))
    refine ev_icF rfl (show ¬ (5 : Int32) ≤ 0 + 1 + 1 + 1 + 1 by decide) ?_
    repeat (refine ev_s rfl (?_ : Ev _ _ _ _ _ _))
    refine ev_ifT rfl (show ¬ (0 + 1 + 1 + 1 + 1 : Int32) = 0 by decide) ?_
    repeat (refine ev_s rfl (?_ : Ev _ _ _ _ _ _))
    refine ev_icT rfl (show ¬ (0 + 1 + 1 + 1 + 1 : Int32) = 1 by decide) ?_
    repeat (refine ev_s rfl (?_ : Ev _ _ _ _ _ _))
    refine ev_icT rfl (show ¬ (0 + 1 + 1 + 1 + 1 : Int32) = 2 by decide) ?_
    repeat (refine ev_s rfl (?_ : Ev _ _ _ _ _ _))
    refine ev_icT rfl (show ¬ (0 + 1 + 1 + 1 + 1 : Int32) = 3 by decide) ?_
    iterate 1 (refine ev_s rfl (?_ : Ev _ _ _ _ _ _))
    refine word (0 + 1 + 1 + 1 + 1) f M4 _ _ _ g4 (by simp [b4l]; omega) s4 (fun M5 z5 g5 s5 => ?_)
    repeat (refine ev_s rfl (?_ : Ev _ _ _ _ _ _))
    refine ev_icT rfl (show (5 : Int32) ≤ 0 + 1 + 1 + 1 + 1 + 1 by decide) ?_
    repeat (refine ev_s rfl (?_ : Ev _ _ _ _ _ _))
    have el : (tp ++ b4 a ++ b4 b ++ b4 c ++ b4 e ++ b4 f).length = tp.length + 20 := by simp [b4l]
    rw [g5.1, el]
    have g6 : ByM M5 10 20 (tp ++ (b4 a ++ (b4 b ++ (b4 c ++ (b4 e ++ b4 f))))) := by simp only [List.append_assoc] at g5; exact g5
    exact ev_reti rfl rfl trivial rfl (hq M5 ⟨⟨U, ψ, hC.same s5 (by decide)⟩, h2.same s5 (by decide) (by decide), g6, h4.same s5 (by decide) (by decide) (by decide), (s5.2 28 (by decide)).1.trans h5, (s5.2 23 (by decide)).1.trans h6, (s5.2 44 (by decide)).1.trans h7, (s5.2 42 (by decide)).1.trans h8, (s5.2 6 (by decide)).1.trans h9⟩)
  · have hle : ¬ tp.length + 20 ≤ 2000 := fun h9 => hc (nI_le (b := 2000) h9 (by decide))
    rw [if_neg hle] at hq
    repeat (refine ev_s rfl (?_ : Ev _ _ _ _ _ _))
    exact ev_reti rfl rfl trivial rfl (hq _ h0)
end KQ

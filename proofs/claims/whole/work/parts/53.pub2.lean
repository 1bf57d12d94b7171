/-! The class's public methods. -/
theorem rowF_put {M : PM} {fr : List Nat} {ψ : Nat → Nat} {ns lim : Nat} {H : AHp} {nid : Nat} {x e f : AV} {fns : List (Option AV)} {pe ha sk : List AV} {d k : Nat} {v : Int64} {a : AV} (hC : CoreA M fr ψ ns lim H nid x e f fns pe ha sk) (hv : Tv fr ψ ns v a) (hk : k < fns.length) {Q : Option (Option Value) → PM → Prop}
    (hq : ∀ M', CoreA M' fr ψ ns lim H nid x e f (fns.set k (some a)) pe ha sk → Same [10] M M' → Q (some none) M') : SC (d + 1) 85 [.ref 9, .int (nI k), .long v] M Q := by
  obtain ⟨h1, h2, h3, h4, h5, ⟨lf, f1, f2, f3⟩, h7, h8, h9⟩ := hC
  have hl : k < lf.length := by rw [f2, List.length_map] at hk; exact hk
  refine row_put ⟨rfl, rfl, by decide, by decide⟩ f1 hl (fun M' g1 g2 => hq M' ?_ g2)
  have e1 := (g2 1 (by decide)).2
  refine ⟨h1.same g2 (by decide), h2, by rw [e1]; exact h3, by rw [e1]; exact h4, by rw [e1]; exact h5, ⟨lf.set k v, g1, ?_, fun w hw => ?_⟩, h7.same g2 (by decide) (by decide), h8.same g2 (by decide) (by decide), h9.same g2 (by decide) (by decide)⟩
  · rw [f2, List.map_set]
    congr 1
    unfold fd
    rw [if_neg hv.miss, hv.2]
  · rcases List.mem_or_eq_of_mem_set hw with h9 | h9
    · exact f3 w h9
    · rw [h9]; exact Or.inr hv.1
theorem pres_map {ψ : Nat → Nat} (l : List Int64) : (l.filter (fun v => decide (v ≠ -1))).length = ((l.map (fd ψ)).filter Option.isSome).length := by
  induction l with
  | nil => rfl
  | cons v r ih =>
    by_cases h : v = -1
    · rw [List.filter_cons_of_neg (by simp; exact h), List.map_cons, List.filter_cons_of_neg (by unfold fd; rw [if_pos h]; decide)]
      exact ih
    · rw [List.filter_cons_of_pos (by simp; exact h), List.map_cons, List.filter_cons_of_pos (by unfold fd; rw [if_neg h]; rfl), List.length_cons, List.length_cons, ih]
section PUB
variable {M : PM} {tp pa : List Nat} {nm : List (List Nat)} {fns : List (Option AV)} {H : AHp} {n lim : Nat} {pl : Int32} {tk mo : Nat}
theorem c_place {d : Nat} (h : YC M (tp, pa, nm, fns, H, n, lim, pl, tk, mo)) {Q : Option (Option Value) → PM → Prop} (hq : Q (some (some (.int pl))) M) : SC (d + 2) 106 [.ref 0] M Q := by
  refine ⟨qX9_place, rfl, ⟨Nat.le_of_ble_eq_true rfl, rfl, 0, _, _, rfl, rfl⟩, ?_⟩
  show Ev (BC (d + 1) qX9_place) Q 0 [some (.ref 0)] [] M
  obtain ⟨⟨fr, ψ, hI⟩, hS, hT, hP, ⟨lr, hR⟩, h300, e10, e9, e7⟩ := h
  repeat (refine ev_s rfl (?_ : Ev _ _ _ _ _ _))
  refine ev_cv rfl (as := [.ref 24]) rfl rfl (Nat.le_of_ble_eq_true rfl) ?_
  refine r_faultPlace ?_
  rw [e10]
  show Ev _ _ _ _ [.int pl] _
  exact ev_reti rfl rfl trivial rfl hq
theorem c_octet {d : Nat} {k : Int32} (h : YC M (tp, pa, nm, fns, H, n, lim, pl, tk, mo)) {Q : Option (Option Value) → PM → Prop} (hq : Q (some (some (.int (bAt pa k)))) M) : SC (d + 2) 110 [.ref 0, .int k] M Q := by
  refine ⟨qX9_octet, rfl, ⟨Nat.le_of_ble_eq_true rfl, rfl, 0, _, _, rfl, rfl⟩, ?_⟩
  show Ev (BC (d + 1) qX9_octet) Q 0 [some (.ref 0), some (.int k)] [] M
  obtain ⟨⟨fr, ψ, hI⟩, hS, hT, hP, ⟨lr, hR⟩, h300, e10, e9, e7⟩ := h
  repeat (refine ev_s rfl (?_ : Ev _ _ _ _ _ _))
  refine ev_cv rfl (as := [.ref 4, .int k]) rfl rfl (Nat.le_of_ble_eq_true rfl) ?_
  refine bytes_at b_page hP ?_
  show Ev _ _ _ _ [.int (bAt pa k)] _
  exact ev_reti rfl rfl trivial rfl hq
theorem c_function {d : Nat} {k : Int32} (h : YC M (tp, pa, nm, fns, H, n, lim, pl, tk, mo)) {Q : Option (Option Value) → PM → Prop} (hq : ∀ M', YC M' (yFun (tp, pa, nm, fns, H, n, lim, pl, tk, mo) k).2 → Q (some (some (.int (yFun (tp, pa, nm, fns, H, n, lim, pl, tk, mo) k).1))) M') : SC (d + 8) 109 [.ref 0, .int k] M Q := by
  refine ⟨qX9_function, rfl, ⟨Nat.le_of_ble_eq_true rfl, rfl, 0, _, _, rfl, rfl⟩, ?_⟩
  show Ev (BC (d + 7) qX9_function) Q 0 [some (.ref 0), some (.int k), none, none] [] M
  have h0 := h
  obtain ⟨⟨fr, ψ, hI⟩, hS, hT, hP, ⟨lr, hR⟩, h300, e10, e9, e7⟩ := h
  obtain ⟨lf, f1, f2, f3⟩ := hI.1.2.2.2.2.2.1
  have none_ : (if 0 ≤ k then (fns[k.toNatClampNeg]?).join else none) = none → Ev (BC (d + 7) qX9_function) Q 9 [some (.ref 0), some (.int k), some (.long (-1)), none] [] M := fun h9 => by
    unfold yFun at hq
    dsimp only at hq
    rw [h9] at hq
    repeat (refine ev_s rfl (?_ : Ev _ _ _ _ _ _))
    refine ev_lifF rfl (show ¬ ¬ (-1 : Int64) = -1 from fun h9 => h9 rfl) ?_
    repeat (refine ev_s rfl (?_ : Ev _ _ _ _ _ _))
    exact ev_reti rfl rfl trivial rfl (hq M h0)
  repeat (refine ev_s rfl (?_ : Ev _ _ _ _ _ _))
  refine ev_cv rfl (as := [.ref 9, .int k]) rfl rfl (Nat.le_of_ble_eq_true rfl) ?_
  refine row_at ⟨rfl, rfl, by decide, by decide⟩ f1 ?_
  show Ev _ _ _ _ [.long (rowAt lf k)] _
  iterate 1 (refine ev_s rfl (?_ : Ev _ _ _ _ _ _))
  unfold rowAt
  by_cases hk : 0 ≤ k
  · rw [if_pos hk]
    cases hg : lf[k.toNatClampNeg]? with
    | none =>
      refine none_ ?_
      rw [if_pos hk, f2, List.getElem?_map, hg]
      rfl
    | some w =>
      have ew : fns[k.toNatClampNeg]? = some (fd ψ w) := by rw [f2, List.getElem?_map, hg]; rfl
      by_cases hw : w = -1
      · subst hw
        refine none_ ?_
        rw [if_pos hk, ew]
        rfl
      · have hv : Tv fr ψ nm.length w (dv ψ w) := ⟨(f3 w (List.mem_of_getElem? hg)).resolve_left hw, rfl⟩
        have e : (if 0 ≤ k then (fns[k.toNatClampNeg]?).join else none) = some (dv ψ w) := by
          rw [if_pos hk, ew]
          unfold fd
          rw [if_neg hw]
          rfl
        unfold yFun at hq
        dsimp only at hq
        rw [e] at hq
        show Ev _ _ _ [some (.ref 0), some (.int k), some (.long w), none] [] _
        repeat (refine ev_s rfl (?_ : Ev _ _ _ _ _ _))
        refine ev_lifT rfl (show ¬ w = -1 from hw) ?_
        repeat (refine ev_s rfl (?_ : Ev _ _ _ _ _ _))
        refine ev_cv rfl (as := [.ref 31, .long w]) rfl rfl (Nat.le_of_ble_eq_true rfl) ?_
        refine pr_print hI.1 hS hP hR hv (fun M2 rs g1 g2 => ?_)
        show Ev _ _ _ _ [] _
        repeat (refine ev_s rfl (?_ : Ev _ _ _ _ _ _))
        refine ev_cv rfl (as := [.ref 4]) rfl rfl (Nat.le_of_ble_eq_true rfl) ?_
        refine bytes_size b_page ?_
        rw [g1.2.2.1.1]
        show Ev _ _ _ _ [.int (nI (pg (pTxt nm H 2000 (dv ψ w) [])).length)] _
        have e24 := (g2 24 (by decide)).1
        have e27 := (g2 27 (by decide)).1
        obtain ⟨l9, l1, -⟩ := g1.2.2.2
        refine ev_reti rfl rfl trivial rfl (hq M2 ⟨⟨fr, ψ, g1.1, by rw [e27]; exact hI.2.1, hI.2.2.1.imp (fun _ h9 => h9.same g2 (by decide) (by decide)), hI.2.2.2⟩, g1.2.1, hT.same g2 (by decide) (by decide), g1.2.2.1, ⟨l9, l1⟩, h300, by rw [e24]; exact e10, by rw [e27]; exact e9, by rw [e27]; exact e7⟩)
  · rw [if_neg hk]
    exact none_ (if_neg hk)
theorem c_count {d : Nat} {k : Int32} (h : YC M (tp, pa, nm, fns, H, n, lim, pl, tk, mo)) {Q : Option (Option Value) → PM → Prop} (hq : ∀ M', YC M' (tp, pa, nm, fns, H, n, lim, pl, tk, mo) → Q (some (some (.int (yCount (tp, pa, nm, fns, H, n, lim, pl, tk, mo) k)))) M') : SC (d + 4) 108 [.ref 0, .int k] M Q := by
  refine ⟨qX9_count, rfl, ⟨Nat.le_of_ble_eq_true rfl, rfl, 0, _, _, rfl, rfl⟩, ?_⟩
  show Ev (BC (d + 3) qX9_count) Q 0 [some (.ref 0), some (.int k)] [] M
  have h0 := h
  obtain ⟨⟨fr, ψ, hI⟩, hS, hT, hP, ⟨lr, hR⟩, h300, e10, e9, e7⟩ := h
  unfold yCount at hq
  dsimp only at hq
  repeat (refine ev_s rfl (?_ : Ev _ _ _ _ _ _))
  refine ev_s rfl ⟨fun hc => ?_, fun n0 => ⟨fun hc => ?_, fun n1 => ⟨fun hc => ?_, fun n2 => ⟨fun hc => ?_, fun n3 => ⟨fun hc => ?_, fun n4 => ⟨fun hc => ?_, fun n5 => ⟨fun hc => ?_, fun n6 => ⟨fun hc => ?_, fun n7 => ⟨fun hc => ?_, fun n8 => ?_⟩⟩⟩⟩⟩⟩⟩⟩⟩
  · rw [if_pos (show k = 0 from hc)] at hq
    show Ev _ _ _ _ _ _
    repeat (refine ev_s rfl (?_ : Ev _ _ _ _ _ _))
    refine ev_cv rfl (as := [.ref 6]) rfl rfl (Nat.le_of_ble_eq_true rfl) ?_
    refine sym_size ?_
    rw [hS.1]
    show Ev _ _ _ _ [.int (nI nm.length)] _
    exact ev_reti rfl rfl trivial rfl (hq M h0)
  · rw [if_neg (show ¬ k = 0 from n0), if_pos (show k = 1 from hc)] at hq
    show Ev _ _ _ _ _ _
    repeat (refine ev_s rfl (?_ : Ev _ _ _ _ _ _))
    refine ev_cv rfl (as := [.ref 17]) rfl rfl (Nat.le_of_ble_eq_true rfl) ?_
    refine core_reached hI.1 (by have := hI.2.2.2.1; omega) (fun M2 fr2 g1 g2 hcn => ?_)
    have e24 := (g2 24 (by decide)).1
    have e27 := (g2 27 (by decide)).1
    show Ev _ _ _ _ [.int (nI (aFns H fns n))] _
    refine ev_reti rfl rfl trivial rfl (hq M2 ⟨⟨fr2, ψ, g1, by rw [e27]; exact hI.2.1, hI.2.2.1.imp (fun _ h9 => h9.same g2 (by decide) (by decide)), hI.2.2.2⟩, hS.same g2 (by decide) (by decide) (by decide), hT.same g2 (by decide) (by decide), hP.same g2 (by decide) (by decide), ⟨lr, hR.same g2 (by decide) (by decide)⟩, h300, by rw [e24]; exact e10, by rw [e27]; exact e9, by rw [e27]; exact e7⟩)
  · rw [if_neg (show ¬ k = 0 from n0), if_neg (show ¬ k = 1 from n1), if_pos (show k = 2 from hc)] at hq
    show Ev _ _ _ _ _ _
    repeat (refine ev_s rfl (?_ : Ev _ _ _ _ _ _))
    refine ev_cv rfl (as := [.ref 27]) rfl rfl (Nat.le_of_ble_eq_true rfl) ?_
    refine m_fuelTaken ?_
    rw [e9]
    show Ev _ _ _ _ [.int (nI tk)] _
    exact ev_reti rfl rfl trivial rfl (hq M h0)
  · rw [if_neg (show ¬ k = 0 from n0), if_neg (show ¬ k = 1 from n1), if_neg (show ¬ k = 2 from n2), if_pos (show k = 3 from hc)] at hq
    show Ev _ _ _ _ _ _
    repeat (refine ev_s rfl (?_ : Ev _ _ _ _ _ _))
    refine ev_cv rfl (as := [.ref 27]) rfl rfl (Nat.le_of_ble_eq_true rfl) ?_
    refine m_mostFrames ?_
    rw [e7]
    show Ev _ _ _ _ [.int (nI mo)] _
    exact ev_reti rfl rfl trivial rfl (hq M h0)
  · rw [if_neg (show ¬ k = 0 from n0), if_neg (show ¬ k = 1 from n1), if_neg (show ¬ k = 2 from n2), if_neg (show ¬ k = 3 from n3), if_pos (show k = 4 from hc)] at hq
    show Ev _ _ _ _ _ _
    repeat (refine ev_s rfl (?_ : Ev _ _ _ _ _ _))
    refine ev_cv rfl (as := [.ref 17]) rfl rfl (Nat.le_of_ble_eq_true rfl) ?_
    refine cell_made ?_
    rw [hI.1.1.2.2.2.2.1]
    show Ev _ _ _ _ [.int (nI n)] _
    exact ev_reti rfl rfl trivial rfl (hq M h0)
  · rw [if_neg (show ¬ k = 0 from n0), if_neg (show ¬ k = 1 from n1), if_neg (show ¬ k = 2 from n2), if_neg (show ¬ k = 3 from n3), if_neg (show ¬ k = 4 from n4), if_pos (show k = 5 from hc)] at hq
    show Ev _ _ _ _ _ _
    repeat (refine ev_s rfl (?_ : Ev _ _ _ _ _ _))
    refine ev_cv rfl (as := [.ref 4]) rfl rfl (Nat.le_of_ble_eq_true rfl) ?_
    refine bytes_size b_page ?_
    rw [hP.1]
    show Ev _ _ _ _ [.int (nI pa.length)] _
    exact ev_reti rfl rfl trivial rfl (hq M h0)
  · rw [if_neg (show ¬ k = 0 from n0), if_neg (show ¬ k = 1 from n1), if_neg (show ¬ k = 2 from n2), if_neg (show ¬ k = 3 from n3), if_neg (show ¬ k = 4 from n4), if_neg (show ¬ k = 5 from n5), if_pos (show k = 6 from hc)] at hq
    show Ev _ _ _ _ _ _
    repeat (refine ev_s rfl (?_ : Ev _ _ _ _ _ _))
    refine ev_cv rfl (as := [.ref 2]) rfl rfl (Nat.le_of_ble_eq_true rfl) ?_
    refine bytes_size b_tape ?_
    rw [hT.1]
    show Ev _ _ _ _ [.int (nI tp.length)] _
    exact ev_reti rfl rfl trivial rfl (hq M h0)
  · rw [if_neg (show ¬ k = 0 from n0), if_neg (show ¬ k = 1 from n1), if_neg (show ¬ k = 2 from n2), if_neg (show ¬ k = 3 from n3), if_neg (show ¬ k = 4 from n4), if_neg (show ¬ k = 5 from n5), if_neg (show ¬ k = 6 from n6), if_pos (show k = 7 from hc)] at hq
    show Ev _ _ _ _ _ _
    repeat (refine ev_s rfl (?_ : Ev _ _ _ _ _ _))
    refine ev_cv rfl (as := [.ref 17]) rfl rfl (Nat.le_of_ble_eq_true rfl) ?_
    refine cell_limit ?_
    rw [hI.1.1.2.2.1]
    show Ev _ _ _ _ [.int (nI lim)] _
    exact ev_reti rfl rfl trivial rfl (hq M h0)
  · rw [if_neg (show ¬ k = 0 from n0), if_neg (show ¬ k = 1 from n1), if_neg (show ¬ k = 2 from n2), if_neg (show ¬ k = 3 from n3), if_neg (show ¬ k = 4 from n4), if_neg (show ¬ k = 5 from n5), if_neg (show ¬ k = 6 from n6), if_neg (show ¬ k = 7 from n7), if_pos (show k = 8 from hc)] at hq
    show Ev _ _ _ _ _ _
    obtain ⟨lf, f1, f2, f3⟩ := hI.1.2.2.2.2.2.1
    have hq := hq M h0
    rw [f2, ← pres_map] at hq
    repeat (refine ev_s rfl (?_ : Ev _ _ _ _ _ _))
    refine ev_cv rfl (as := [.ref 9]) rfl rfl (Nat.le_of_ble_eq_true rfl) ?_
    refine present_l f1 ?_
    show Ev _ _ _ _ [.int (nI (lf.filter (fun v => decide (v ≠ -1))).length)] _
    exact ev_reti rfl rfl trivial rfl hq
  · rw [if_neg (show ¬ k = 0 from n0), if_neg (show ¬ k = 1 from n1), if_neg (show ¬ k = 2 from n2), if_neg (show ¬ k = 3 from n3), if_neg (show ¬ k = 4 from n4), if_neg (show ¬ k = 5 from n5), if_neg (show ¬ k = 6 from n6), if_neg (show ¬ k = 7 from n7), if_neg (show ¬ k = 8 from n8)] at hq
    show Ev _ _ _ _ _ _
    repeat (refine ev_s rfl (?_ : Ev _ _ _ _ _ _))
    exact ev_reti rfl rfl trivial rfl (hq M h0)
theorem c_feed {d : Nat} {a b c e f : Int32} (h : YC M (tp, pa, nm, fns, H, n, lim, pl, tk, mo)) {Q : Option (Option Value) → PM → Prop} (hq : ∀ M', YC M' (yFeed (tp, pa, nm, fns, H, n, lim, pl, tk, mo) a b c e f).2 → Q (some (some (.int (yFeed (tp, pa, nm, fns, H, n, lim, pl, tk, mo) a b c e f).1))) M') : SC (d + 3) 102 [.ref 0, .int a, .int b, .int c, .int e, .int f] M Q := by
  refine ⟨qX9_feed, rfl, ⟨Nat.le_of_ble_eq_true rfl, rfl, 0, _, _, rfl, rfl⟩, ?_⟩
  show Ev (BC (d + 2) qX9_feed) Q 0 [some (.ref 0), some (.int a), some (.int b), some (.int c), some (.int e), some (.int f)] [] M
  have h0 := h
  obtain ⟨⟨fr, ψ, hI⟩, hS, hT, hP, ⟨lr, hR⟩, h300, e10, e9, e7⟩ := h
  have h2000 := hT.2.1
  unfold yFeed at hq
  dsimp only at hq
  repeat (refine ev_s rfl (?_ : Ev _ _ _ _ _ _))
  refine ev_cv rfl (as := [.ref 2]) rfl rfl (Nat.le_of_ble_eq_true rfl) ?_
  refine bytes_size b_tape ?_
  rw [hT.1]
  show Ev _ _ _ _ [.int (nI tp.length)] _
  repeat (refine ev_s rfl (?_ : Ev _ _ _ _ _ _))
  rw [show (20 : Int32) = nI 20 from rfl, nI_add]
  refine ev_ic rfl (fun hc => ?_) (fun hc => ?_)
  · have hle : tp.length + 20 ≤ 2000 := (nI_leI (b := 2000) (by omega) (by decide)).mp hc
    rw [if_pos hle] at hq
    repeat (refine ev_s rfl (?_ : Ev _ _ _ _ _ _))
    refine ev_cv rfl (as := [.ref 2, .int a]) rfl rfl (Nat.le_of_ble_eq_true rfl) ?_
    refine bytes_addNumber b_tape hT (by omega) (fun M1 g1 s1 => ?_)
    show Ev _ _ _ _ [] _
    repeat (refine ev_s rfl (?_ : Ev _ _ _ _ _ _))
    refine ev_cv rfl (as := [.ref 2, .int b]) rfl rfl (Nat.le_of_ble_eq_true rfl) ?_
    have l1 : (tp ++ b4 a).length = tp.length + 4 := by simp [b4]
    refine bytes_addNumber b_tape g1 (by omega) (fun M2 g2 s2 => ?_)
    show Ev _ _ _ _ [] _
    repeat (refine ev_s rfl (?_ : Ev _ _ _ _ _ _))
    refine ev_cv rfl (as := [.ref 2, .int c]) rfl rfl (Nat.le_of_ble_eq_true rfl) ?_
    have l2 : (tp ++ b4 a ++ b4 b).length = tp.length + 8 := by simp [b4]
    refine bytes_addNumber b_tape g2 (by omega) (fun M3 g3 s3 => ?_)
    show Ev _ _ _ _ [] _
    repeat (refine ev_s rfl (?_ : Ev _ _ _ _ _ _))
    refine ev_cv rfl (as := [.ref 2, .int e]) rfl rfl (Nat.le_of_ble_eq_true rfl) ?_
    have l3 : (tp ++ b4 a ++ b4 b ++ b4 c).length = tp.length + 12 := by simp [b4]
    refine bytes_addNumber b_tape g3 (by omega) (fun M4 g4 s4 => ?_)
    show Ev _ _ _ _ [] _
    repeat (refine ev_s rfl (?_ : Ev _ _ _ _ _ _))
    refine ev_cv rfl (as := [.ref 2, .int f]) rfl rfl (Nat.le_of_ble_eq_true rfl) ?_
    have l4 : (tp ++ b4 a ++ b4 b ++ b4 c ++ b4 e).length = tp.length + 16 := by simp [b4]
    refine bytes_addNumber b_tape g4 (by omega) (fun M5 g5 s5 => ?_)
    have l5 : (tp ++ b4 a ++ b4 b ++ b4 c ++ b4 e ++ b4 f).length = tp.length + 20 := by simp [b4]
    have hs : Same [2, 3] M M5 := ((((s1.tr s2).tr s3).tr s4).tr s5).sub (by decide)
    show Ev _ _ _ _ [] _
    repeat (refine ev_s rfl (?_ : Ev _ _ _ _ _ _))
    refine ev_cv rfl (as := [.ref 2]) rfl rfl (Nat.le_of_ble_eq_true rfl) ?_
    refine bytes_size b_tape ?_
    rw [g5.1, l5]
    show Ev _ _ _ _ [.int (nI (tp.length + 20))] _
    have e24 := (hs 24 (by decide)).1
    have e27 := (hs 27 (by decide)).1
    refine ev_reti rfl rfl trivial rfl (hq M5 ⟨⟨fr, ψ, hI.1.same hs (by decide), by rw [e27]; exact hI.2.1, hI.2.2.1.imp (fun _ h9 => h9.same hs (by decide) (by decide)), hI.2.2.2⟩, hS.same hs (by decide) (by decide) (by decide), ?_, hP.same hs (by decide) (by decide), ⟨lr, hR.same hs (by decide) (by decide)⟩, h300, by rw [e24]; exact e10, by rw [e27]; exact e9, by rw [e27]; exact e7⟩)
    simp only [List.append_assoc] at g5
    exact g5
  · have hle : ¬ tp.length + 20 ≤ 2000 := fun h9 => hc (nI_le (b := 2000) h9 (by decide))
    rw [if_neg hle] at hq
    repeat (refine ev_s rfl (?_ : Ev _ _ _ _ _ _))
    exact ev_reti rfl rfl trivial rfl (hq M h0)
variable {X : Nat → List (Option Value) → List Value → PM → Prop}
theorem c_room_bad {d : Nat} {x : Int32} (hx : x < 0 ∨ 2000 < x) {Q : Option (Option Value) → PM → Prop} (hX : X 11 [some (.ref 0), some (.int x), none] [] M) : Ev (BX d qX9_room X) Q 0 [some (.ref 0), some (.int x), none] [] M := by
  repeat (refine ev_s rfl (?_ : Ev _ _ _ _ _ _))
  refine ev_if rfl (fun hc => ev_exit rfl hX) (fun hc => ?_)
  repeat (refine ev_s rfl (?_ : Ev _ _ _ _ _ _))
  refine ev_icF rfl (show ¬ x ≤ 2000 from Int32.not_le.mpr (hx.resolve_left hc)) ?_
  exact ev_exit rfl hX
theorem c_room {d N : Nat} (h : YC M (tp, pa, nm, fns, H, n, lim, pl, tk, mo)) (hN : N ≤ 2000) {Q : Option (Option Value) → PM → Prop} (hq : ∀ M', YC M' (yRoom (tp, pa, nm, fns, H, n, lim, pl, tk, mo) N).2 → Q (some (some (.int (yRoom (tp, pa, nm, fns, H, n, lim, pl, tk, mo) N).1))) M') : Ev (BX (d + 7) qX9_room X) Q 0 [some (.ref 0), some (.int (nI N)), none] [] M := by
  obtain ⟨⟨fr, ψ, hI⟩, hS, hT, hP, ⟨lr, hR⟩, h300, e10, e9, e7⟩ := h
  unfold yRoom at hq
  dsimp only at hq
  repeat (refine ev_s rfl (?_ : Ev _ _ _ _ _ _))
  refine ev_ifF rfl (show ¬ nI N < 0 from Int32.not_lt.mpr (nI_pos' (by omega))) ?_
  repeat (refine ev_s rfl (?_ : Ev _ _ _ _ _ _))
  refine ev_icT rfl (show nI N ≤ 2000 from nI_le (b := 2000) hN (by decide)) ?_
  repeat (refine ev_s rfl (?_ : Ev _ _ _ _ _ _))
  refine ev_cv rfl (as := [.ref 17]) rfl rfl (Nat.le_of_ble_eq_true rfl) ?_
  refine core_reached hI.1 (by have := hI.2.2.2.1; omega) (fun M2 fr2 g1 g2 hcn => ?_)
  have e24 := (g2 24 (by decide)).1
  have e27 := (g2 27 (by decide)).1
  show Ev _ _ _ _ [.int (nI (aFns H fns n))] _
  repeat (refine ev_s rfl (?_ : Ev _ _ _ _ _ _))
  refine ev_ic rfl (fun hc => ?_) (fun hc => ?_)
  · have hle : aFns H fns n ≤ N := (nI_leI (by omega) (by omega)).mp hc
    rw [if_pos hle] at hq
    repeat (refine ev_s rfl (?_ : Ev _ _ _ _ _ _))
    refine ev_cv rfl (as := [.ref 17, .int (nI N)]) rfl rfl (Nat.le_of_ble_eq_true rfl) ?_
    refine cell_setLimit ?_
    show Ev _ _ _ _ [] _
    repeat (refine ev_s rfl (?_ : Ev _ _ _ _ _ _))
    have hs : Same [17, 21, 22, 23] M (mI M2 17 8 (nI N)) := (g2.tr Same.I).sub (by decide)
    have e24' := (hs 24 (by decide)).1
    have e27' := (hs 27 (by decide)).1
    refine ev_reti rfl rfl trivial rfl (hq _ ⟨⟨fr2, ψ, g1.setLim hN, by rw [e27']; exact hI.2.1, hI.2.2.1.imp (fun _ h9 => h9.same hs (by decide) (by decide)), hI.2.2.2⟩, hS.same hs (by decide) (by decide) (by decide), hT.same hs (by decide) (by decide), hP.same hs (by decide) (by decide), ⟨lr, hR.same hs (by decide) (by decide)⟩, h300, by rw [e24']; exact e10, by rw [e27']; exact e9, by rw [e27']; exact e7⟩)
  · have hle : ¬ aFns H fns n ≤ N := fun h9 => hc (nI_le h9 (by omega))
    rw [if_neg hle] at hq
    repeat (refine ev_s rfl (?_ : Ev _ _ _ _ _ _))
    refine ev_reti rfl rfl trivial rfl (hq M2 ⟨⟨fr2, ψ, g1, by rw [e27]; exact hI.2.1, hI.2.2.1.imp (fun _ h9 => h9.same g2 (by decide) (by decide)), hI.2.2.2⟩, hS.same g2 (by decide) (by decide) (by decide), hT.same g2 (by decide) (by decide), hP.same g2 (by decide) (by decide), ⟨lr, hR.same g2 (by decide) (by decide)⟩, h300, by rw [e24]; exact e10, by rw [e27]; exact e9, by rw [e27]; exact e7⟩)
theorem c_begin_bad {d : Nat} {x : Int32} (h : YC M (tp, pa, nm, fns, H, n, lim, pl, tk, mo)) (hx : x < 0 ∨ nI tp.length < x) {Q : Option (Option Value) → PM → Prop} (hX : X 15 [some (.ref 0), some (.int x), none, none, none] [] M) : Ev (BX (d + 1) qX9_define X) Q 0 [some (.ref 0), some (.int x), none, none, none] [] M := by
  obtain ⟨⟨fr, ψ, hI⟩, hS, hT, hP, ⟨lr, hR⟩, h300, e10, e9, e7⟩ := h
  repeat (refine ev_s rfl (?_ : Ev _ _ _ _ _ _))
  refine ev_if rfl (fun hc => ev_exit rfl hX) (fun hc => ?_)
  repeat (refine ev_s rfl (?_ : Ev _ _ _ _ _ _))
  refine ev_cv rfl (as := [.ref 2]) rfl rfl (Nat.le_of_ble_eq_true rfl) ?_
  refine bytes_size b_tape ?_
  rw [hT.1]
  show Ev _ _ _ _ [.int (nI tp.length), .int x] _
  refine ev_icF rfl (show ¬ x ≤ nI tp.length from Int32.not_le.mpr (hx.resolve_left hc)) ?_
  exact ev_exit rfl hX
theorem c_echo_bad {d : Nat} {x : Int32} (h : YC M (tp, pa, nm, fns, H, n, lim, pl, tk, mo)) (hx : x < 0 ∨ nI tp.length < x) {Q : Option (Option Value) → PM → Prop} (hX : X 15 [some (.ref 0), some (.int x), none, none] [] M) : Ev (BX (d + 1) qX9_echo X) Q 0 [some (.ref 0), some (.int x), none, none] [] M := by
  obtain ⟨⟨fr, ψ, hI⟩, hS, hT, hP, ⟨lr, hR⟩, h300, e10, e9, e7⟩ := h
  repeat (refine ev_s rfl (?_ : Ev _ _ _ _ _ _))
  refine ev_if rfl (fun hc => ev_exit rfl hX) (fun hc => ?_)
  repeat (refine ev_s rfl (?_ : Ev _ _ _ _ _ _))
  refine ev_cv rfl (as := [.ref 2]) rfl rfl (Nat.le_of_ble_eq_true rfl) ?_
  refine bytes_size b_tape ?_
  rw [hT.1]
  show Ev _ _ _ _ [.int (nI tp.length), .int x] _
  refine ev_icF rfl (show ¬ x ≤ nI tp.length from Int32.not_le.mpr (hx.resolve_left hc)) ?_
  exact ev_exit rfl hX
theorem c_eval_bad {d : Nat} {x y : Int32} (h : YC M (tp, pa, nm, fns, H, n, lim, pl, tk, mo)) (hx : x < 0 ∨ nI tp.length < x ∨ y < 0 ∨ 20000 < y) {Q : Option (Option Value) → PM → Prop} (hX : X 26 [some (.ref 0), some (.int x), some (.int y), none, none] [] M) : Ev (BX (d + 1) qX9_eval X) Q 0 [some (.ref 0), some (.int x), some (.int y), none, none] [] M := by
  obtain ⟨⟨fr, ψ, hI⟩, hS, hT, hP, ⟨lr, hR⟩, h300, e10, e9, e7⟩ := h
  repeat (refine ev_s rfl (?_ : Ev _ _ _ _ _ _))
  refine ev_if rfl (fun hc => ev_exit rfl hX) (fun hc => ?_)
  repeat (refine ev_s rfl (?_ : Ev _ _ _ _ _ _))
  refine ev_cv rfl (as := [.ref 2]) rfl rfl (Nat.le_of_ble_eq_true rfl) ?_
  refine bytes_size b_tape ?_
  rw [hT.1]
  show Ev _ _ _ _ [.int (nI tp.length), .int x] _
  refine ev_ic rfl (fun hc2 => ev_exit rfl hX) (fun hc2 => ?_)
  repeat (refine ev_s rfl (?_ : Ev _ _ _ _ _ _))
  refine ev_if rfl (fun hc3 => ev_exit rfl hX) (fun hc3 => ?_)
  repeat (refine ev_s rfl (?_ : Ev _ _ _ _ _ _))
  refine ev_icF rfl (show ¬ y ≤ 20000 from Int32.not_le.mpr (((hx.resolve_left hc).resolve_left hc2).resolve_left hc3)) ?_
  exact ev_exit rfl hX
theorem c_define {d N : Nat} (h : YC M (tp, pa, nm, fns, H, n, lim, pl, tk, mo)) (hN : N ≤ tp.length) {Q : Option (Option Value) → PM → Prop} (hq : ∀ M', YC M' (yDefine (tp, pa, nm, fns, H, n, lim, pl, tk, mo) N).2 → Q (some (some (.int (yDefine (tp, pa, nm, fns, H, n, lim, pl, tk, mo) N).1))) M') : Ev (BX (d + 7) qX9_define X) Q 0 [some (.ref 0), some (.int (nI N)), none, none, none] [] M := by
  obtain ⟨⟨fr, ψ, hI⟩, hS, hT, hP, ⟨lr, hR⟩, h300, e10, e9, e7⟩ := h
  have h2000 := hT.2.1
  unfold yDefine at hq
  dsimp only at hq
  -- with a fault
  have bad : ∀ (x : Int32) (v : Int64) (M3 : PM) (fr3 : List Nat) (ψ3 : Nat → Nat) (c p n3 : Nat) (nm3 : List (List Nat)) (H3 : AHp), Same IDR M M3 → CoreA M3 fr3 ψ3 nm3.length lim H3 n3 (aS 0) (aS 0) (aS 0) fns [] [] [] → SymIs M3 nm3 → M3.1 24 9 = nI c → M3.1 24 10 = nI p → 23 ≤ nm3.length → 0 < c → c < 14 → (∀ M', YC M' ([], pa, nm3, fns, H3, n3, lim, nI p, tk, mo) → Q (some (some (.int (nI c)))) M') → Ev (BX (d + 7) qX9_define X) Q 46 [some (.ref 0), some (.int (nI N)), some (.int x), none, none] [.long v] M3 := by
    intro x v M3 fr3 ψ3 c p n3 nm3 H3 hs c1 c2 c3 c4 c5 c6 c7 hq
    repeat (refine ev_s rfl (?_ : Ev _ _ _ _ _ _))
    refine ev_cv rfl (as := [.ref 2]) rfl rfl (Nat.le_of_ble_eq_true rfl) ?_
    refine bytes_clear b_tape (hT.same hs (by decide) (by decide)) (fun M4 t1 t2 => ?_)
    have e24 := (t2 24 (by decide)).1
    have hs4 : Same (2 :: IDR) M M4 := (hs.tr t2).sub (by decide)
    have e27 := (hs4 27 (by decide)).1
    show Ev _ _ _ _ [] _
    repeat (refine ev_s rfl (?_ : Ev _ _ _ _ _ _))
    refine ev_cv rfl (as := [.ref 24]) rfl rfl (Nat.le_of_ble_eq_true rfl) ?_
    refine r_fault ?_
    rw [e24, c3]
    show Ev _ _ _ _ [.int (nI c)] _
    refine ev_ifT rfl (show ¬ nI c = 0 from flt_ne rfl c6 c7) ?_
    repeat (refine ev_s rfl (?_ : Ev _ _ _ _ _ _))
    refine ev_cv rfl (as := [.ref 24]) rfl rfl (Nat.le_of_ble_eq_true rfl) ?_
    refine r_fault ?_
    rw [e24, c3]
    show Ev _ _ _ _ [.int (nI c)] _
    refine ev_reti rfl rfl trivial rfl (hq M4 ⟨⟨fr3, ψ3, c1.same t2 (by decide), by rw [e27]; exact hI.2.1, hI.2.2.1.imp (fun _ h9 => h9.same hs4 (by decide) (by decide)), c5, c2.2.1⟩, c2.same t2 (by decide) (by decide) (by decide), t1, hP.same hs4 (by decide) (by decide), ⟨lr, hR.same hs4 (by decide) (by decide)⟩, h300, by rw [e24]; exact c4, by rw [e27]; exact e9, by rw [e27]; exact e7⟩)
  repeat (refine ev_s rfl (?_ : Ev _ _ _ _ _ _))
  refine ev_ifF rfl (show ¬ nI N < 0 from Int32.not_lt.mpr (nI_pos' (by omega))) ?_
  repeat (refine ev_s rfl (?_ : Ev _ _ _ _ _ _))
  refine ev_cv rfl (as := [.ref 2]) rfl rfl (Nat.le_of_ble_eq_true rfl) ?_
  refine bytes_size b_tape ?_
  rw [hT.1]
  show Ev _ _ _ _ [.int (nI tp.length), .int (nI N)] _
  refine ev_icT rfl (show nI N ≤ nI tp.length from nI_le hN (by omega)) ?_
  repeat (refine ev_s rfl (?_ : Ev _ _ _ _ _ _))
  refine ev_cv rfl (as := [.ref 24, .int (nI N)]) rfl rfl (Nat.le_of_ble_eq_true rfl) ?_
  refine r_begin hI.1 hS hT hN hI.2.2.2.1 (fun M1 g1 g2 => ?_)
  show Ev _ _ _ _ [] _
  repeat (refine ev_s rfl (?_ : Ev _ _ _ _ _ _))
  refine ev_cv rfl (as := [.ref 24]) rfl rfl (Nat.le_of_ble_eq_true rfl) ?_
  refine r_readName g1 (fun k q nm' M2 e a1 a2 a3 a4 a5 => ?_) (fun c p x M2 e a1 => ?_)
  · rw [e] at hq
    dsimp only at hq
    show Ev _ _ _ _ [.int (nI k)] _
    repeat (refine ev_s rfl (?_ : Ev _ _ _ _ _ _))
    refine ev_cv rfl (as := [.ref 24]) rfl rfl (Nat.le_of_ble_eq_true rfl) ?_
    refine r_readWhole a1 (fun v M3 b => ?_)
    cases hr : rAll lim fns (tp.take N) 2000 (q, [], [], none, nm', H, n) with
    | inl F =>
      obtain ⟨a, nm3, H3, n3⟩ := F
      rw [hr] at b hq
      obtain ⟨b0, fr3, ψ3, c1, c2, c3, c4, c5, c6⟩ := b
      have hs : Same IDR M M3 := (((g2.sub (by decide) : Same IDR M M1)).r a5).r b0
      show Ev _ _ _ _ [.long v] _
      repeat (refine ev_s rfl (?_ : Ev _ _ _ _ _ _))
      refine ev_cv rfl (as := [.ref 2]) rfl rfl (Nat.le_of_ble_eq_true rfl) ?_
      refine bytes_clear b_tape (hT.same hs (by decide) (by decide)) (fun M4 t1 t2 => ?_)
      have e24 := (t2 24 (by decide)).1
      show Ev _ _ _ _ [] _
      repeat (refine ev_s rfl (?_ : Ev _ _ _ _ _ _))
      refine ev_cv rfl (as := [.ref 24]) rfl rfl (Nat.le_of_ble_eq_true rfl) ?_
      refine r_fault ?_
      rw [e24, c3]
      show Ev _ _ _ _ [.int 0] _
      refine ev_ifF rfl (show ¬ ¬ (0 : Int32) = 0 by decide) ?_
      repeat (refine ev_s rfl (?_ : Ev _ _ _ _ _ _))
      refine ev_cv rfl (as := [.ref 9, .int (nI k), .long v]) rfl rfl (Nat.le_of_ble_eq_true rfl) ?_
      refine rowF_put (c1.same t2 (by decide)) c6 (by omega) (fun M5 u1 u2 => ?_)
      have hs5 : Same (2 :: 10 :: IDR) M M5 := ((hs.tr t2).tr u2).sub (by decide)
      have e27 := (hs5 27 (by decide)).1
      have e24' := ((t2.tr u2) 24 (by decide)).1
      show Ev _ _ _ _ [] _
      repeat (refine ev_s rfl (?_ : Ev _ _ _ _ _ _))
      refine ev_cv rfl (as := [.ref 24]) rfl rfl (Nat.le_of_ble_eq_true rfl) ?_
      refine r_fault ?_
      rw [e24', c3]
      show Ev _ _ _ _ [.int 0] _
      refine ev_reti rfl rfl trivial rfl (hq M5 ⟨⟨fr3, ψ3, u1, by rw [e27]; exact hI.2.1, hI.2.2.1.imp (fun _ h9 => h9.same hs5 (by decide) (by decide)), c5, c2.2.1⟩, (c2.same t2 (by decide) (by decide) (by decide)).same u2 (by decide) (by decide) (by decide), t1.same u2 (by decide) (by decide), hP.same hs5 (by decide) (by decide), ⟨lr, hR.same hs5 (by decide) (by decide)⟩, by rw [List.length_set]; exact h300, by rw [e24']; exact c4, by rw [e27]; exact e9, by rw [e27]; exact e7⟩)
    | inr F =>
      obtain ⟨c, p, nm3, H3, n3⟩ := F
      rw [hr] at b hq
      obtain ⟨b0, fr3, ψ3, c1, c2, c3, c4, c5, c6, c7, c8⟩ := b
      exact bad _ v M3 fr3 ψ3 c p n3 nm3 H3 ((((g2.sub (by decide) : Same IDR M M1)).r a5).r b0) c1 c2 c3 c4 c5 c6 c7 hq
  · rw [e] at hq
    dsimp only at hq
    show Ev _ _ _ _ [.int x] _
    repeat (refine ev_s rfl (?_ : Ev _ _ _ _ _ _))
    refine ev_cv rfl (as := [.ref 24]) rfl rfl (Nat.le_of_ble_eq_true rfl) ?_
    refine r_readWhole_d a1.2 (fun v M3 b => ?_)
    obtain ⟨b0, fr3, ψ3, c1, c2, c3, c4, c5, c6, c7, c8⟩ := b
    exact bad _ v M3 fr3 ψ3 c p n nm H ((((g2.sub (by decide) : Same IDR M M1)).r a1.1).r b0) c1 c2 c3 c4 c5 c6 c7 hq
theorem c_echo {d N : Nat} (h : YC M (tp, pa, nm, fns, H, n, lim, pl, tk, mo)) (hN : N ≤ tp.length) {Q : Option (Option Value) → PM → Prop} (hq : ∀ M', YC M' (yEcho (tp, pa, nm, fns, H, n, lim, pl, tk, mo) N).2 → Q (some (some (.int (yEcho (tp, pa, nm, fns, H, n, lim, pl, tk, mo) N).1))) M') : Ev (BX (d + 7) qX9_echo X) Q 0 [some (.ref 0), some (.int (nI N)), none, none] [] M := by
  obtain ⟨⟨fr, ψ, hI⟩, hS, hT, hP, ⟨lr, hR⟩, h300, e10, e9, e7⟩ := h
  have h2000 := hT.2.1
  unfold yEcho at hq
  dsimp only at hq
  repeat (refine ev_s rfl (?_ : Ev _ _ _ _ _ _))
  refine ev_ifF rfl (show ¬ nI N < 0 from Int32.not_lt.mpr (nI_pos' (by omega))) ?_
  repeat (refine ev_s rfl (?_ : Ev _ _ _ _ _ _))
  refine ev_cv rfl (as := [.ref 2]) rfl rfl (Nat.le_of_ble_eq_true rfl) ?_
  refine bytes_size b_tape ?_
  rw [hT.1]
  show Ev _ _ _ _ [.int (nI tp.length), .int (nI N)] _
  refine ev_icT rfl (show nI N ≤ nI tp.length from nI_le hN (by omega)) ?_
  repeat (refine ev_s rfl (?_ : Ev _ _ _ _ _ _))
  refine ev_cv rfl (as := [.ref 24, .int (nI N)]) rfl rfl (Nat.le_of_ble_eq_true rfl) ?_
  refine r_begin hI.1 hS hT hN hI.2.2.2.1 (fun M1 g1 g2 => ?_)
  show Ev _ _ _ _ [] _
  repeat (refine ev_s rfl (?_ : Ev _ _ _ _ _ _))
  refine ev_cv rfl (as := [.ref 24]) rfl rfl (Nat.le_of_ble_eq_true rfl) ?_
  refine r_readWhole g1 (fun v M3 b => ?_)
  show Ev _ _ _ _ [.long v] _
  repeat (refine ev_s rfl (?_ : Ev _ _ _ _ _ _))
  have hb : Same IDR M M3 := ((g2.sub (by decide) : Same IDR M M1)).r b.1
  refine ev_cv rfl (as := [.ref 2]) rfl rfl (Nat.le_of_ble_eq_true rfl) ?_
  refine bytes_clear b_tape (hT.same hb (by decide) (by decide)) (fun M4 t1 t2 => ?_)
  show Ev _ _ _ _ [] _
  repeat (refine ev_s rfl (?_ : Ev _ _ _ _ _ _))
  refine ev_cv rfl (as := [.ref 4]) rfl rfl (Nat.le_of_ble_eq_true rfl) ?_
  refine bytes_clear b_page ((hP.same hb (by decide) (by decide)).same t2 (by decide) (by decide)) (fun M5 t3 t4 => ?_)
  have s5 : Same (2 :: 4 :: IDR) M M5 := ((hb.tr t2).tr t4).sub (by decide)
  have s35 : Same [2, 4] M3 M5 := (t2.tr t4).sub (by decide)
  have e24 := (s35 24 (by decide)).1
  have e27 := (s5 27 (by decide)).1
  show Ev _ _ _ _ [] _
  repeat (refine ev_s rfl (?_ : Ev _ _ _ _ _ _))
  refine ev_cv rfl (as := [.ref 24]) rfl rfl (Nat.le_of_ble_eq_true rfl) ?_
  refine r_fault ?_
  rw [e24]
  cases hr : rAll lim fns (tp.take N) 2000 (0, [], [], none, nm, H, n) with
  | inl F =>
    obtain ⟨a, nm3, H3, n3⟩ := F
    rw [hr] at b hq
    obtain ⟨b0, fr3, ψ3, c1, c2, c3, c4, c5, c6⟩ := b
    rw [c3]
    show Ev _ _ _ _ [.int 0] _
    refine ev_ifF rfl (show ¬ ¬ (0 : Int32) = 0 by decide) ?_
    repeat (refine ev_s rfl (?_ : Ev _ _ _ _ _ _))
    refine ev_cv rfl (as := [.ref 31, .long v]) rfl rfl (Nat.le_of_ble_eq_true rfl) ?_
    refine pr_print (c1.same s35 (by decide)) (c2.same s35 (by decide) (by decide) (by decide)) t3 (hR.same s5 (by decide) (by decide)) c6 (fun M6 rs p1 p2 => ?_)
    have s36 : Same (2 :: IDP) M3 M6 := (s35.tr p2).sub (by decide)
    have s6 : Same (2 :: (IDR ++ IDP)) M M6 := (s5.tr p2).sub (by decide)
    have e24' := (s36 24 (by decide)).1
    have e27' := (s6 27 (by decide)).1
    obtain ⟨l9, l1, -⟩ := p1.2.2.2
    show Ev _ _ _ _ [] _
    repeat (refine ev_s rfl (?_ : Ev _ _ _ _ _ _))
    refine ev_cv rfl (as := [.ref 24]) rfl rfl (Nat.le_of_ble_eq_true rfl) ?_
    refine r_fault ?_
    rw [e24', c3]
    show Ev _ _ _ _ [.int 0] _
    refine ev_reti rfl rfl trivial rfl (hq M6 ⟨⟨fr3, ψ3, p1.1, by rw [e27']; exact hI.2.1, hI.2.2.1.imp (fun _ h9 => h9.same s6 (by decide) (by decide)), c5, c2.2.1⟩, p1.2.1, (t1.same t4 (by decide) (by decide)).same p2 (by decide) (by decide), p1.2.2.1, ⟨l9, l1⟩, h300, by rw [e24']; exact c4, by rw [e27']; exact e9, by rw [e27']; exact e7⟩)
  | inr F =>
    obtain ⟨c, p, nm3, H3, n3⟩ := F
    rw [hr] at b hq
    obtain ⟨b0, fr3, ψ3, c1, c2, c3, c4, c5, c6, c7, c8⟩ := b
    rw [c3]
    show Ev _ _ _ _ [.int (nI c)] _
    refine ev_ifT rfl (show ¬ nI c = 0 from flt_ne rfl c6 c7) ?_
    repeat (refine ev_s rfl (?_ : Ev _ _ _ _ _ _))
    refine ev_cv rfl (as := [.ref 24]) rfl rfl (Nat.le_of_ble_eq_true rfl) ?_
    refine r_fault ?_
    rw [e24, c3]
    show Ev _ _ _ _ [.int (nI c)] _
    refine ev_reti rfl rfl trivial rfl (hq M5 ⟨⟨fr3, ψ3, c1.same s35 (by decide), by rw [e27]; exact hI.2.1, hI.2.2.1.imp (fun _ h9 => h9.same s5 (by decide) (by decide)), c5, c2.2.1⟩, c2.same s35 (by decide) (by decide) (by decide), t1.same t4 (by decide) (by decide), t3, ⟨lr, hR.same s5 (by decide) (by decide)⟩, h300, by rw [e24]; exact c4, by rw [e27]; exact e9, by rw [e27]; exact e7⟩)
theorem c_eval {d N fuel : Nat} (h : YC M (tp, pa, nm, fns, H, n, lim, pl, tk, mo)) (hN : N ≤ tp.length) (hfu : fuel ≤ 20000) {Q : Option (Option Value) → PM → Prop} (hq : ∀ M', YC M' (yEval (tp, pa, nm, fns, H, n, lim, pl, tk, mo) N fuel).2 → Q (some (some (.int (yEval (tp, pa, nm, fns, H, n, lim, pl, tk, mo) N fuel).1))) M') : Ev (BX (d + 7) qX9_eval X) Q 0 [some (.ref 0), some (.int (nI N)), some (.int (nI fuel)), none, none] [] M := by
  obtain ⟨⟨fr, ψ, hI⟩, hS, hT, hP, ⟨lr, hR⟩, h300, e10, e9, e7⟩ := h
  have h2000 := hT.2.1
  unfold yEval at hq
  dsimp only at hq
  repeat (refine ev_s rfl (?_ : Ev _ _ _ _ _ _))
  refine ev_ifF rfl (show ¬ nI N < 0 from Int32.not_lt.mpr (nI_pos' (by omega))) ?_
  repeat (refine ev_s rfl (?_ : Ev _ _ _ _ _ _))
  refine ev_cv rfl (as := [.ref 2]) rfl rfl (Nat.le_of_ble_eq_true rfl) ?_
  refine bytes_size b_tape ?_
  rw [hT.1]
  show Ev _ _ _ _ [.int (nI tp.length), .int (nI N)] _
  refine ev_icF rfl (show ¬ nI tp.length < nI N from fun h9 => by have := (nI_ltI (by omega) (by omega)).mp h9; omega) ?_
  repeat (refine ev_s rfl (?_ : Ev _ _ _ _ _ _))
  refine ev_ifF rfl (show ¬ nI fuel < 0 from Int32.not_lt.mpr (nI_pos' (by omega))) ?_
  repeat (refine ev_s rfl (?_ : Ev _ _ _ _ _ _))
  refine ev_icT rfl (show nI fuel ≤ 20000 from nI_le (b := 20000) hfu (by decide)) ?_
  repeat (refine ev_s rfl (?_ : Ev _ _ _ _ _ _))
  refine ev_cv rfl (as := [.ref 24, .int (nI N)]) rfl rfl (Nat.le_of_ble_eq_true rfl) ?_
  refine r_begin hI.1 hS hT hN hI.2.2.2.1 (fun M1 g1 g2 => ?_)
  show Ev _ _ _ _ [] _
  repeat (refine ev_s rfl (?_ : Ev _ _ _ _ _ _))
  refine ev_cv rfl (as := [.ref 24]) rfl rfl (Nat.le_of_ble_eq_true rfl) ?_
  refine r_readWhole g1 (fun v M3 b => ?_)
  show Ev _ _ _ _ [.long v] _
  repeat (refine ev_s rfl (?_ : Ev _ _ _ _ _ _))
  have hb : Same IDR M M3 := ((g2.sub (by decide) : Same IDR M M1)).r b.1
  refine ev_cv rfl (as := [.ref 2]) rfl rfl (Nat.le_of_ble_eq_true rfl) ?_
  refine bytes_clear b_tape (hT.same hb (by decide) (by decide)) (fun M4 t1 t2 => ?_)
  show Ev _ _ _ _ [] _
  repeat (refine ev_s rfl (?_ : Ev _ _ _ _ _ _))
  refine ev_cv rfl (as := [.ref 4]) rfl rfl (Nat.le_of_ble_eq_true rfl) ?_
  refine bytes_clear b_page ((hP.same hb (by decide) (by decide)).same t2 (by decide) (by decide)) (fun M4b t3 t4 => ?_)
  show Ev _ _ _ _ [] _
  repeat (refine ev_s rfl (?_ : Ev _ _ _ _ _ _))
  refine ev_cv rfl (as := [.ref 27]) rfl rfl (Nat.le_of_ble_eq_true rfl) ?_
  refine m_forget ?_
  have sf : Same [27] M4b (mI (mI (mI M4b 27 10 0) 27 9 0) 27 7 0) := ((Same.I.tr Same.I).tr Same.I).sub (by decide)
  have f10 : (mI (mI (mI M4b 27 10 0) 27 9 0) 27 7 0).1 27 10 = 0 := by rw [mI_ne (Or.inr (by decide)), mI_ne (Or.inr (by decide)), mI_at]
  have f9 : (mI (mI (mI M4b 27 10 0) 27 9 0) 27 7 0).1 27 9 = nI 0 := by rw [mI_ne (Or.inr (by decide)), mI_at]; rfl
  have f7 : (mI (mI (mI M4b 27 10 0) 27 9 0) 27 7 0).1 27 7 = nI 0 := mI_at
  have f6 : (mI (mI (mI M4b 27 10 0) 27 9 0) 27 7 0).1 27 6 = M4b.1 27 6 := by rw [mI_ne (Or.inr (by decide)), mI_ne (Or.inr (by decide)), mI_ne (Or.inr (by decide))]
  generalize mI (mI (mI M4b 27 10 0) 27 9 0) 27 7 0 = M5 at sf f10 f9 f7 f6 ⊢
  have s5 : Same (2 :: 4 :: 27 :: IDR) M M5 := (((hb.tr t2).tr t4).tr sf).sub (by decide)
  have s35 : Same [2, 4, 27] M3 M5 := ((t2.tr t4).tr sf).sub (by decide)
  have s4b : Same (2 :: 4 :: IDR) M M4b := ((hb.tr t2).tr t4).sub (by decide)
  have e24 := (s35 24 (by decide)).1
  have z6 : M5.1 27 6 = 0 := by rw [f6, (s4b 27 (by decide)).1]; exact hI.2.1
  have hT5 : BytesIs M5 2 3 [] := (t1.same t4 (by decide) (by decide)).same sf (by decide) (by decide)
  have hP5 : BytesIs M5 4 5 [] := t3.same sf (by decide) (by decide)
  show Ev _ _ _ _ [] _
  repeat (refine ev_s rfl (?_ : Ev _ _ _ _ _ _))
  refine ev_cv rfl (as := [.ref 24]) rfl rfl (Nat.le_of_ble_eq_true rfl) ?_
  refine r_fault ?_
  rw [e24]
  cases hr : rAll lim fns (tp.take N) 2000 (0, [], [], none, nm, H, n) with
  | inl F =>
    obtain ⟨a, nm3, H3, n3⟩ := F
    rw [hr] at b hq
    obtain ⟨b0, fr3, ψ3, c1, c2, c3, c4, c5, c6⟩ := b
    rw [c3]
    show Ev _ _ _ _ [.int 0] _
    refine ev_ifT rfl (show (0 : Int32) = 0 from rfl) ?_
    repeat (refine ev_s rfl (?_ : Ev _ _ _ _ _ _))
    refine ev_cv rfl (as := [.ref 27, .long v, .int (nI fuel)]) rfl rfl (Nat.le_of_ble_eq_true rfl) ?_
    refine m_run ⟨c1.same s35 (by decide), z6, hI.2.2.1.imp (fun _ h9 => h9.same s5 (by decide) (by decide)), c5, c2.2.1⟩ f10 f7 c6 hfu (fun M6 fr6 ψ6 c fl6 mo6 H6 n6 w r1 r2 r3 r4 r5 r6 r7 r8 r9 r10 => ?_)
    dsimp only at hq
    rw [r1] at hq
    dsimp only at hq
    have s36 : Same (2 :: 4 :: IDM) M3 M6 := (s35.tr r10).sub (by decide)
    have s6 : Same (2 :: 4 :: (IDR ++ IDM)) M M6 := (s5.tr r10).sub (by decide)
    show Ev _ _ _ _ [] _
    repeat (refine ev_s rfl (?_ : Ev _ _ _ _ _ _))
    refine ev_cv rfl (as := [.ref 27]) rfl rfl (Nat.le_of_ble_eq_true rfl) ?_
    refine m_fault ?_
    rw [r3]
    by_cases hc0 : c = 0
    · subst hc0
      rw [if_pos rfl] at hq
      show Ev _ _ _ _ [.int 0] _
      refine ev_ifF rfl (show ¬ ¬ (0 : Int32) = 0 by decide) ?_
      repeat (refine ev_s rfl (?_ : Ev _ _ _ _ _ _))
      refine ev_cv rfl (as := [.ref 27]) rfl rfl (Nat.le_of_ble_eq_true rfl) ?_
      refine m_answer ?_
      show Ev _ _ _ _ [.long (M6.2 27 12), .ref 31] _
      refine ev_cv rfl (as := [.ref 31, .long (M6.2 27 12)]) rfl rfl (Nat.le_of_ble_eq_true rfl) ?_
      refine pr_print r2.1 (c2.same s36 (by decide) (by decide) (by decide)) (hP5.same r10 (by decide) (by decide)) (hR.same s6 (by decide) (by decide)) (r6 rfl) (fun M7 rs p1 p2 => ?_)
      have e24' := ((s36.tr p2) 24 (by decide)).1
      have e27' := (p2 27 (by decide)).1
      obtain ⟨l9, l1, -⟩ := p1.2.2.2
      show Ev _ _ _ _ [] _
      repeat (refine ev_s rfl (?_ : Ev _ _ _ _ _ _))
      refine ev_cv rfl (as := [.ref 27]) rfl rfl (Nat.le_of_ble_eq_true rfl) ?_
      refine m_fault ?_
      rw [e27', r3]
      show Ev _ _ _ _ [.int (nI 0)] _
      refine ev_reti rfl rfl trivial rfl (hq M7 ⟨⟨fr6, ψ6, p1.1, by rw [e27']; exact r2.2.1, r2.2.2.1.imp (fun _ h9 => h9.same p2 (by decide) (by decide)), c5, c2.2.1⟩, p1.2.1, (hT5.same r10 (by decide) (by decide)).same p2 (by decide) (by decide), p1.2.2.1, ⟨l9, l1⟩, h300, by rw [e24']; exact c4, by rw [e27']; exact r5, by rw [e27']; exact r4⟩)
    · rw [if_neg hc0] at hq
      have e24' := (s36 24 (by decide)).1
      show Ev _ _ _ _ [.int (nI c)] _
      refine ev_ifT rfl (show ¬ nI c = 0 from flt_ne rfl (by omega) r7) ?_
      repeat (refine ev_s rfl (?_ : Ev _ _ _ _ _ _))
      refine ev_cv rfl (as := [.ref 27]) rfl rfl (Nat.le_of_ble_eq_true rfl) ?_
      refine m_fault ?_
      rw [r3]
      show Ev _ _ _ _ [.int (nI c)] _
      refine ev_reti rfl rfl trivial rfl (hq M6 ⟨⟨fr6, ψ6, r2⟩, c2.same s36 (by decide) (by decide) (by decide), hT5.same r10 (by decide) (by decide), hP5.same r10 (by decide) (by decide), ⟨lr, hR.same s6 (by decide) (by decide)⟩, h300, by rw [e24']; exact c4, r5, r4⟩)
  | inr F =>
    obtain ⟨c, p, nm3, H3, n3⟩ := F
    rw [hr] at b hq
    obtain ⟨b0, fr3, ψ3, c1, c2, c3, c4, c5, c6, c7, c8⟩ := b
    rw [c3]
    show Ev _ _ _ _ [.int (nI c)] _
    refine ev_ifF rfl (show ¬ nI c = 0 from flt_ne rfl c6 c7) ?_
    repeat (refine ev_s rfl (?_ : Ev _ _ _ _ _ _))
    refine ev_cv rfl (as := [.ref 24]) rfl rfl (Nat.le_of_ble_eq_true rfl) ?_
    refine r_fault ?_
    rw [e24, c3]
    show Ev _ _ _ _ [.int (nI c)] _
    refine ev_reti rfl rfl trivial rfl (hq M5 ⟨⟨fr3, ψ3, c1.same s35 (by decide), z6, hI.2.2.1.imp (fun _ h9 => h9.same s5 (by decide) (by decide)), c5, c2.2.1⟩, c2.same s35 (by decide) (by decide) (by decide), hT5, hP5, ⟨lr, hR.same s5 (by decide) (by decide)⟩, h300, by rw [e24]; exact c4, f9, f7⟩)
end PUB

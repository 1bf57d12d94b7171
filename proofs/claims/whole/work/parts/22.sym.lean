/-! Symbols: the names. -/
theorem b_tape : isBytes 2 3 := ⟨rfl, rfl, by decide⟩
theorem b_page : isBytes 4 5 := ⟨rfl, rfl, by decide⟩
/-- the names, each a row of signs -/
def SymIs (M : PM) (ns : List (List Nat)) : Prop := M.1 6 2 = nI ns.length ∧ ns.length ≤ 300 ∧ (∀ k nm, ns[k]? = some nm → nm.length ≤ 10 ∧ M.1 8 k = nI nm.length ∧ ∀ j c, nm[j]? = some c → c < 128 ∧ M.1 7 (10 * k + j) = nI c) ∧ ∀ k, ns.length ≤ k → M.1 8 k = 0
theorem SymIs.same {M M' : PM} {ns : List (List Nat)} {ids : List Nat} (h : SymIs M ns) (hs : Same ids M M') (h1 : 6 ∉ ids) (h2 : 7 ∉ ids) (h3 : 8 ∉ ids) : SymIs M' ns :=
  ⟨by rw [(hs 6 h1).1]; exact h.1, h.2.1, fun k nm hk => by rw [(hs 7 h2).1, (hs 8 h3).1]; exact h.2.2.1 k nm hk, fun k hk => by rw [(hs 8 h3).1]; exact h.2.2.2 k hk⟩
theorem sym_size {d : Nat} {M : PM} {Q : Option (Option Value) → PM → Prop} (h : Q (some (some (.int (M.1 6 2)))) M) : SC (d + 1) 89 [.ref 6] M Q := by
  refine ⟨qX7_size, rfl, ⟨Nat.le_of_ble_eq_true rfl, rfl, 6, _, _, rfl, rfl⟩, ?_⟩
  show Ev (BC d qX7_size) Q 0 [some (.ref 6)] [] M
  repeat (refine ev_s rfl (?_ : Ev _ _ _ _ _ _))
  exact ev_reti rfl rfl trivial rfl h
theorem sym_lengthOf {d : Nat} {M : PM} {ns : List (List Nat)} (hS : SymIs M ns) {s : Nat} {nm : List Nat} (hs : ns[s]? = some nm) {Q : Option (Option Value) → PM → Prop} (h : Q (some (some (.int (nI nm.length)))) M) : SC (d + 1) 90 [.ref 6, .int (nI s)] M Q := by
  refine ⟨qX7_lengthOf, rfl, ⟨Nat.le_of_ble_eq_true rfl, rfl, 6, _, _, rfl, rfl⟩, ?_⟩
  show Ev (BC d qX7_lengthOf) Q 0 [some (.ref 6), some (.int (nI s))] [] M
  have hl := (List.getElem?_eq_some_iff.mp hs).1
  have h300 := hS.2.1
  repeat (refine ev_s rfl (?_ : Ev _ _ _ _ _ _))
  refine ev_ifF rfl (nI_pos (by omega)) ?_
  repeat (refine ev_s rfl (?_ : Ev _ _ _ _ _ _))
  rw [hS.1]
  refine ev_icF rfl (nI_ge hl (by omega)) ?_
  repeat (refine ev_s rfl (?_ : Ev _ _ _ _ _ _))
  refine ev_iald rfl rfl (vp_in_nI (by omega) (by omega)) ?_
  rw [nI_clamp (by omega), (hS.2.2.1 s nm hs).2.1]
  repeat (refine ev_s rfl (?_ : Ev _ _ _ _ _ _))
  exact ev_reti rfl rfl trivial rfl h
theorem nI10 {s j : Nat} : nI s * 10 + nI j = nI (10 * s + j) := by
  rw [show (10 : Int32) = nI 10 from rfl, pk_mul, nI_add]; congr 1; omega
theorem sym_signOf {d : Nat} {M : PM} {ns : List (List Nat)} (hS : SymIs M ns) {s j : Nat} {nm : List Nat} {c : Nat} (hs : ns[s]? = some nm) (hj : nm[j]? = some c) {Q : Option (Option Value) → PM → Prop} (h : Q (some (some (.int (nI c)))) M) : SC (d + 2) 91 [.ref 6, .int (nI s), .int (nI j)] M Q := by
  refine ⟨qX7_signOf, rfl, ⟨Nat.le_of_ble_eq_true rfl, rfl, 6, _, _, rfl, rfl⟩, ?_⟩
  show Ev (BC (d + 1) qX7_signOf) Q 0 [some (.ref 6), some (.int (nI s)), some (.int (nI j))] [] M
  have hl := (List.getElem?_eq_some_iff.mp hs).1
  have hl2 := (List.getElem?_eq_some_iff.mp hj).1
  have h300 := hS.2.1
  obtain ⟨g1, g2, g3⟩ := hS.2.2.1 s nm hs
  repeat (refine ev_s rfl (?_ : Ev _ _ _ _ _ _))
  refine ev_ifF rfl (nI_pos (by omega)) ?_
  repeat (refine ev_s rfl (?_ : Ev _ _ _ _ _ _))
  refine ev_cv rfl (as := [.ref 6, .int (nI s)]) rfl rfl (Nat.le_of_ble_eq_true rfl) ?_
  refine sym_lengthOf hS hs ?_
  show Ev _ _ _ _ [.int (nI nm.length), .int (nI j)] _
  refine ev_icF rfl (nI_ge hl2 (by omega)) ?_
  repeat (refine ev_s rfl (?_ : Ev _ _ _ _ _ _))
  rw [nI10]
  refine ev_bald rfl rfl (vp_in_nI (by omega) (by omega)) ?_
  rw [nI_clamp (by omega), (g3 j c hj).2]
  repeat (refine ev_s rfl (?_ : Ev _ _ _ _ _ _))
  exact ev_reti rfl rfl trivial rfl h
/-- the signs of a text from start on -/
def slice (l : List Nat) (st n : Nat) : List Nat := (l.drop st).take n
theorem slice_get {l : List Nat} {st n j : Nat} (h : j < n) : (slice l st n)[j]? = l[st + j]? := by
  unfold slice
  rw [List.getElem?_take_of_lt h, List.getElem?_drop]
theorem slice_len {l : List Nat} {st n : Nat} (h : st + n ≤ l.length) : (slice l st n).length = n := by
  unfold slice
  simp; omega
theorem sym_isNamed {d : Nat} {M : PM} {ns : List (List Nat)} (hS : SymIs M ns) {l : List Nat} (hT : BytesIs M 2 3 l) {s st : Nat} {nm : List Nat} (hs : ns[s]? = some nm) (hl : st + nm.length ≤ l.length) {Q : Option (Option Value) → PM → Prop}
    (h1 : nm = slice l st nm.length → Q (some (some (.int 1))) M) (h0 : ¬ nm = slice l st nm.length → Q (some (some (.int 0))) M) : SC (d + 2) 93 [.ref 6, .int (nI s), .ref 2, .int (nI st)] M Q := by
  refine ⟨qX7_isNamed, rfl, ⟨Nat.le_of_ble_eq_true rfl, rfl, 6, _, _, rfl, rfl⟩, ?_⟩
  show Ev (BC (d + 1) qX7_isNamed) Q 0 [some (.ref 6), some (.int (nI s)), some (.ref 2), some (.int (nI st)), none] [] M
  have hsl := (List.getElem?_eq_some_iff.mp hs).1
  have h300 := hS.2.1
  have h2000 := hT.2.1
  obtain ⟨g1, g2, g3⟩ := hS.2.2.1 s nm hs
  have loop : ∀ (n k : Nat), nm.length - k < n → k ≤ nm.length → (∀ j, j < k → nm[j]? = l[st + j]?) → Ev (BC (d + 1) qX7_isNamed) Q 3 [some (.ref 6), some (.int (nI s)), some (.ref 2), some (.int (nI st)), some (.int (nI k))] [] M := by
    intro n
    induction n with
    | zero => intro k h; omega
    | succ n ih =>
      intro k hn hk heq
      repeat (refine ev_s rfl (?_ : Ev _ _ _ _ _ _))
      refine ev_iald rfl rfl (vp_in_nI (by omega) (by omega)) ?_
      rw [nI_clamp (by omega), g2]
      refine ev_ic rfl (fun hc => ?_) (fun hc => ?_)
      · have hk2 : nm.length ≤ k := (nI_leI (by omega) (by omega)).mp hc
        repeat (refine ev_s rfl (?_ : Ev _ _ _ _ _ _))
        refine ev_reti rfl rfl trivial rfl (h1 ?_)
        apply List.ext_getElem?
        intro j
        by_cases hj : j < nm.length
        · rw [slice_get hj]; exact heq j (by omega)
        · rw [List.getElem?_eq_none (by omega), List.getElem?_eq_none (by rw [slice_len hl]; omega)]
      · have hk2 : k < nm.length := (nI_ltI (by omega) (by omega)).mp (Int32.not_le.mp hc)
        repeat (refine ev_s rfl (?_ : Ev _ _ _ _ _ _))
        refine ev_icF rfl (nI_ge (show k < 10 by omega) (by decide)) ?_
        repeat (refine ev_s rfl (?_ : Ev _ _ _ _ _ _))
        rw [nI10]
        refine ev_bald rfl rfl (vp_in_nI (by omega) (by omega)) ?_
        have e1 : nm[k]? = some nm[k] := List.getElem?_eq_getElem hk2
        have e2 : l[st + k]? = some l[st + k] := List.getElem?_eq_getElem (by omega)
        rw [nI_clamp (by omega), (g3 k _ e1).2]
        repeat (refine ev_s rfl (?_ : Ev _ _ _ _ _ _))
        rw [nI_add]
        refine ev_cv rfl (as := [.ref 2, .int (nI (st + k))]) rfl rfl (Nat.le_of_ble_eq_true rfl) ?_
        refine bytes_at b_tape hT ?_
        rw [bAt_nI (by omega), e2]
        show Ev _ _ _ _ [.int (nI l[st + k]), .int (nI nm[k])] _
        have hb1 := (g3 k _ e1).1
        have hb2 := (hT.2.2 _ _ e2).1
        refine ev_ic rfl (fun hc2 => ?_) (fun hc2 => ?_)
        · have e3 : nm[k] = l[st + k] := (nI_eq (by omega) (by omega)).mp hc2
          iterate 2 (refine ev_s rfl (?_ : Ev _ _ _ _ _ _))
          rw [nI_1]
          exact ih (k + 1) (by omega) (by omega) (fun j hj => by
            by_cases hjk : j = k
            · subst hjk; rw [e1, e2, e3]
            · exact heq j (by omega))
        · repeat (refine ev_s rfl (?_ : Ev _ _ _ _ _ _))
          refine ev_reti rfl rfl trivial rfl (h0 fun h9 => hc2 ?_)
          have e4 := congrArg (fun z => z[k]?) h9
          rw [slice_get hk2, e1, e2] at e4
          show nI nm[k] = nI l[st + k]
          rw [Option.some.inj e4]
  iterate 2 (refine ev_s rfl (?_ : Ev _ _ _ _ _ _))
  exact loop (nm.length + 1) 0 (by omega) (by omega) (fun j hj => by omega)

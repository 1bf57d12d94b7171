/-! The reference's reader: bytes, symbols, numbers. -/
def SymM (M : PM) (nm : List (List Nat)) : Prop := ∀ k w, nm[k]? = some w → 1 ≤ w.length ∧ w.length ≤ 10 ∧ M.1 2 k = nI w.length ∧ ∀ j c, w[j]? = some c → c < 256 ∧ M.1 1 (10 * k + j) = nI c
def TxM (M : PM) (t : List Nat) : Prop := M.1 0 21 = nI t.length ∧ t.length ≤ 2000 ∧ ∀ i c, t[i]? = some c → c < 256 ∧ M.1 10 i = sb_b c
/-- what is open -/
def OpsM (M : PM) (op : List (Nat × Nat)) : Prop := ∀ k s st, op.reverse[k]? = some (s, st) → M.1 13 k = nI (s - 2) ∧ M.1 12 k = nI st
def RdM (t : List Nat) (lim : Nat) (fns : List (Option AV)) (M : PM) (U : Nat → Bool) (ψ : Nat → Nat) (H : AHp) (n p : Nat) (op : List (Nat × Nat)) (pe : List AV) (nm : List (List Nat)) : Prop :=
  CoreM M U ψ nm.length lim H n (aS 0) (aS 0) (aS 0) fns pe [] [] ∧ SymM M nm ∧ TxM M t ∧ M.1 0 22 = nI p ∧ p ≤ t.length ∧ M.1 0 28 = nI op.length ∧ OpsM M op ∧ op.length ≤ 60 ∧ OpOk op pe.length ∧ pe.length ≤ p
def RdX (lim : Nat) (fns : List (Option AV)) (M : PM) (nm : List (List Nat)) (H : AHp) (n c pl : Nat) : Prop :=
  (∃ U ψ, MemM M U ψ nm.length H n lim ∧ FnM M U ψ nm.length fns) ∧ Acy H n ∧ M.1 0 5 = nI nm.length ∧ 23 ≤ nm.length ∧ nm.length ≤ 300 ∧ SymM M nm ∧ M.1 0 8 = nI c ∧ M.1 0 23 = nI pl ∧ 0 < c ∧ c < 14 ∧ pl ≤ 2000
abbrev IDXs : List Nat := [1, 2, 6, 7, 8, 9, 11, 12, 13, 105, 113, 114, 115, 116, 118, 122, 125, 128]
abbrev IDX : List Nat := [1, 2, 6, 7, 8, 9, 11, 12, 13, 105, 108, 113, 114, 115, 116, 118, 122, 123, 125, 128]
theorem SymM.same {M M' : PM} {nm : List (List Nat)} {ids : List Nat} (h : SymM M nm) (hs : SameM ids M M') (h1 : 1 ∉ ids) (h2 : 2 ∉ ids) : SymM M' nm := by
  have e1 := (hs.1 1 (by decide) h1).1
  have e2 := (hs.1 2 (by decide) h2).1
  intro k w hk
  obtain ⟨a, b, c, d⟩ := h k w hk
  exact ⟨a, b, by rw [e2]; exact c, fun j x hj => by rw [e1]; exact d j x hj⟩
theorem TxM.same {M M' : PM} {t : List Nat} {ids : List Nat} (h : TxM M t) (hs : SameM ids M M') (h1 : 10 ∉ ids) (h2 : 121 ∉ ids) : TxM M' t := by
  have e1 := (hs.1 10 (by decide) h1).1
  exact ⟨(hs.2 21 h2).1.trans h.1, h.2.1, fun i c hi => by rw [e1]; exact h.2.2 i c hi⟩
theorem OpsM.same {M M' : PM} {op : List (Nat × Nat)} {ids : List Nat} (h : OpsM M op) (hs : SameM ids M M') (h1 : 12 ∉ ids) (h2 : 13 ∉ ids) : OpsM M' op := by
  have e1 := (hs.1 12 (by decide) h1).1
  have e2 := (hs.1 13 (by decide) h2).1
  intro k s st hk
  rw [e1, e2]
  exact h k s st hk
def bt (t : List Nat) (q : Nat) : Nat := (t[q]?).getD 0
theorem bt_at {t : List Nat} {q c : Nat} (h : t[q]? = some c) : bt t q = c := by unfold bt; rw [h]; rfl
theorem bt_end {t : List Nat} {q : Nat} (h : t.length ≤ q) : bt t q = 0 := by unfold bt; rw [List.getElem?_eq_none h]; rfl
theorem CoreM.names {M M' : PM} {U : Nat → Bool} {ψ : Nat → Nat} {ns ns' lim : Nat} {H : AHp} {nid : Nat} {x e f : AV} {fns : List (Option AV)} {pe vs : List AV} {frs : List AF} {ids : List Nat} (h : CoreM M U ψ ns lim H nid x e f fns pe vs frs) (hn : ns ≤ ns') (h3 : ns' ≤ 300) (hs : SameM ids M M') (hd : ∀ k ∈ [3, 4, 6, 7, 8, 11, 14, 15, 16, 17, 18, 19, 20, 115, 116, 117, 118, 125, 129, 130, 131, 134, 141], k ∉ ids) (h5 : M'.1 0 5 = nI ns') : CoreM M' U ψ ns' lim H nid x e f fns pe vs frs := by
  obtain ⟨c1, c2, c3, c4, c5, c6, c7, c8, c9, c10, c11, c12⟩ := h
  have e8 := (hs.1 8 (by decide) (hd 8 (by decide))).1
  refine ⟨?_, c2, by rw [(hs.2 29 (hd 129 (by decide))).2]; exact c3.names hn, by rw [(hs.2 30 (hd 130 (by decide))).2]; exact c4.names hn, by rw [(hs.2 31 (hd 131 (by decide))).2]; exact c5.names hn, ⟨c6.1, fun k a hk => ?_, fun k hk => ?_⟩, ⟨(hs.2 25 (hd 125 (by decide))).1.trans c7.1, c7.2.1, fun i a hi => ?_⟩, ⟨(hs.2 34 (hd 134 (by decide))).1.trans c8.1, c8.2.1, fun i a hi => ?_⟩, ⟨(hs.2 41 (hd 141 (by decide))).1.trans c9.1, c9.2.1, fun k F hF => ?_⟩, h5, by omega, h3⟩
  · obtain ⟨m1, m2, m3, m4, m5, m6, m7⟩ := c1
    refine ⟨fun c hc => by rw [e8]; exact m1 c hc, (hs.2 15 (hd 115 (by decide))).1.trans m2, ?_, (hs.2 17 (hd 117 (by decide))).1.trans m4, m5, (hs.2 18 (hd 118 (by decide))).1.trans m6, fun c hc hu => ?_, m7.2⟩
    · rw [(hs.2 16 (hd 116 (by decide))).1]; exact m3
    · rw [(hs.1 6 (by decide) (hd 6 (by decide))).2, (hs.1 7 (by decide) (hd 7 (by decide))).2]
      obtain ⟨g1, g2, g3⟩ := m7.1 c hc hu
      exact ⟨g1, g2.names hn, g3.names hn⟩
  · rw [(hs.1 3 (by decide) (hd 3 (by decide))).1, (hs.1 4 (by decide) (hd 4 (by decide))).2]
    obtain ⟨g1, g2, g3⟩ := c6.2.1 k a hk
    exact ⟨g1, g2.names hn, by omega⟩
  · rw [(hs.1 3 (by decide) (hd 3 (by decide))).1]; exact c6.2.2 k hk
  · rw [(hs.1 11 (by decide) (hd 11 (by decide))).2]; exact (c7.2.2 i a hi).names hn
  · rw [(hs.1 14 (by decide) (hd 14 (by decide))).2]; exact (c8.2.2 i a hi).names hn
  · obtain ⟨a1, a2, a3, a4, a5, a6, a7, a8⟩ := c9.2.2 k F hF
    refine ⟨by rw [(hs.1 15 (by decide) (hd 15 (by decide))).1]; exact a1, by rw [(hs.1 16 (by decide) (hd 16 (by decide))).2]; exact a2.names hn, by rw [(hs.1 17 (by decide) (hd 17 (by decide))).2]; exact a3.names hn, fun h9 => by rw [(hs.1 18 (by decide) (hd 18 (by decide))).2]; exact a4 h9, fun h9 => by rw [(hs.1 18 (by decide) (hd 18 (by decide))).2]; exact (a5 h9).names hn, by rw [(hs.1 20 (by decide) (hd 20 (by decide))).1]; exact a6, a7, fun i a hi => by rw [(hs.1 19 (by decide) (hd 19 (by decide))).2]; exact (a8 i a hi).names hn⟩
section KD
variable {t : List Nat} {lim : Nat} {fns : List (Option AV)} {M M0 : PM} {U : Nat → Bool} {ψ : Nat → Nat} {H : AHp} {n p : Nat} {op : List (Nat × Nat)} {pe : List AV} {nm : List (List Nat)}
theorem TxM.bt (h : TxM M t) (q : Nat) : bt t q < 256 := by
  by_cases hq : q < t.length
  · have e : t[q]? = some t[q] := List.getElem?_eq_getElem hq
    rw [bt_at e]
    exact (h.2.2 q _ e).1
  · rw [bt_end (by omega)]; decide
theorem k_byteAt {d q : Nat} (h : TxM M t) (hq : q < 2147483648) {Q : Option (Option Value) → PM → Prop} (hQ : Q (some (some (.int (nI (bt t q))))) M) : SM (d + 1) 126 [.ref 0, .int (nI q)] M Q := by
  refine ⟨qX10_byteAt, rfl, ⟨Nat.le_of_ble_eq_true rfl, rfl, 0, _, _, rfl, rfl⟩, ?_⟩
  show Ev (BM (d) qX10_byteAt) Q 0 [some (.ref 0), some (.int (nI q))] [] M
  have h2 := h.2.1
  repeat (refine ev_s rfl (?_ : Ev _ _ _ _ _ _))
  rw [h.1]
  refine ev_ic rfl (fun hc => ?_) (fun hc => ?_)
  · have hge := (nI_leI (by omega) (by omega)).mp hc
    rw [bt_end hge] at hQ
    repeat (refine ev_s rfl (?_ : Ev _ _ _ _ _ _))
    exact ev_reti rfl rfl trivial rfl hQ
  · have hlt : q < t.length := by
      have : ¬ t.length ≤ q := fun h9 => hc (nI_le h9 (by omega))
      omega
    have e : t[q]? = some t[q] := List.getElem?_eq_getElem hlt
    obtain ⟨g1, g2⟩ := h.2.2 q _ e
    rw [bt_at e] at hQ
    repeat (refine ev_s rfl (?_ : Ev _ _ _ _ _ _))
    refine ev_bald rfl rfl (vp_in_nI (show q < 2000 by omega) (by decide)) ?_
    rw [nI_clamp (by omega), g2]
    repeat (refine ev_s rfl (?_ : Ev _ _ _ _ _ _))
    have e2 : sb_b t[q] &&& 255 = nI t[q] := (sb_byte _ g1).1
    rw [e2]
    exact ev_reti rfl rfl trivial rfl hQ
theorem k_isCapital {d c : Nat} (hc : c < 256) {Q : Option (Option Value) → PM → Prop} (h : Q (some (some (.int (if isLt c then 1 else 0)))) M) : SM (d + 1) 128 [.int (nI c)] M Q := by
  refine ⟨qX10_isCapital, rfl, ⟨Nat.le_of_ble_eq_true rfl, rfl⟩, ?_⟩
  show Ev (BM (d) qX10_isCapital) Q 0 [some (.int (nI c))] [] M
  have no : isLt c = false → Ev (BM d qX10_isCapital) Q 16 [some (.int (nI c))] [] M := fun h9 => by
    rw [h9] at h
    repeat (refine ev_s rfl (?_ : Ev _ _ _ _ _ _))
    exact ev_reti rfl rfl trivial rfl h
  repeat (refine ev_s rfl (?_ : Ev _ _ _ _ _ _))
  refine ev_ic rfl (fun hc1 => no ?_) (fun hc1 => ?_)
  · have := (nI_ltI (b := 65) (by omega) (by decide)).mp hc1
    simp [isLt]; omega
  repeat (refine ev_s rfl (?_ : Ev _ _ _ _ _ _))
  refine ev_ic rfl (fun hc2 => no ?_) (fun hc2 => ?_)
  · have := (nI_ltI (a := 90) (by decide) (by omega)).mp hc2
    have e : Nat.ble c 90 = false := by rw [Bool.eq_false_iff]; intro h9; have := Nat.le_of_ble_eq_true h9; omega
    unfold isLt
    rw [e, Bool.and_false]
  have e : isLt c = true := by
    have n1 : ¬ c < 65 := fun h9 => hc1 (nI_lt (b := 65) h9 (by decide))
    have n2 : ¬ 90 < c := fun h9 => hc2 (nI_lt (a := 90) h9 (by omega))
    simp [isLt]; omega
  rw [e] at h
  repeat (refine ev_s rfl (?_ : Ev _ _ _ _ _ _))
  exact ev_reti rfl rfl trivial rfl h
theorem k_isDigit {d c : Nat} (hc : c < 256) {Q : Option (Option Value) → PM → Prop} (h : Q (some (some (.int (if isDg c then 1 else 0)))) M) : SM (d + 1) 129 [.int (nI c)] M Q := by
  refine ⟨qX10_isDigit, rfl, ⟨Nat.le_of_ble_eq_true rfl, rfl⟩, ?_⟩
  show Ev (BM (d) qX10_isDigit) Q 0 [some (.int (nI c))] [] M
  have no : isDg c = false → Ev (BM d qX10_isDigit) Q 16 [some (.int (nI c))] [] M := fun h9 => by
    rw [h9] at h
    repeat (refine ev_s rfl (?_ : Ev _ _ _ _ _ _))
    exact ev_reti rfl rfl trivial rfl h
  repeat (refine ev_s rfl (?_ : Ev _ _ _ _ _ _))
  refine ev_ic rfl (fun hc1 => no ?_) (fun hc1 => ?_)
  · have := (nI_ltI (b := 48) (by omega) (by decide)).mp hc1
    simp [isDg]; omega
  repeat (refine ev_s rfl (?_ : Ev _ _ _ _ _ _))
  refine ev_ic rfl (fun hc2 => no ?_) (fun hc2 => ?_)
  · have := (nI_ltI (a := 57) (by decide) (by omega)).mp hc2
    have e : Nat.ble c 57 = false := by rw [Bool.eq_false_iff]; intro h9; have := Nat.le_of_ble_eq_true h9; omega
    unfold isDg
    rw [e, Bool.and_false]
  have e : isDg c = true := by
    have n1 : ¬ c < 48 := fun h9 => hc1 (nI_lt (b := 48) h9 (by decide))
    have n2 : ¬ 57 < c := fun h9 => hc2 (nI_lt (a := 57) h9 (by omega))
    simp [isDg]; omega
  rw [e] at h
  repeat (refine ev_s rfl (?_ : Ev _ _ _ _ _ _))
  exact ev_reti rfl rfl trivial rfl h
theorem k_failsAt {d : Nat} {c q : Int32} {Q : Option (Option Value) → PM → Prop} (h : Q (some (some (.ref 5))) (mI (mI M 0 23 q) 0 8 c)) : SM (d + 2) 127 [.ref 0, .int c, .int q] M Q := by
  refine ⟨qX10_failsAt, rfl, ⟨Nat.le_of_ble_eq_true rfl, rfl, 0, _, _, rfl, rfl⟩, ?_⟩
  show Ev (BM (d + 1) qX10_failsAt) Q 0 [some (.ref 0), some (.int c), some (.int q)] [] M
  repeat (refine ev_s rfl (?_ : Ev _ _ _ _ _ _))
  refine ev_cv rfl (as := [.ref 0, .int c]) rfl rfl (Nat.le_of_ble_eq_true rfl) ?_
  refine k_fails ?_
  show Ev _ _ _ _ [.ref 5] _
  exact ev_s rfl ⟨rfl, ⟨_, rfl⟩, h⟩
/-- the place goes on -/
theorem RdM.at (h : RdM t lim fns M U ψ H n p op pe nm) {q : Nat} (h1 : p ≤ q) (h2 : q ≤ t.length) : RdM t lim fns (mI M 0 22 (nI q)) U ψ H n q op pe nm := by
  obtain ⟨k1, k2, k3, k4, k5, k6, k7, k8, k9, k10⟩ := h
  have s1 : SameM [122] M (mI M 0 22 (nI q)) := SameM.I0 (j := 22)
  exact ⟨k1.same s1 (by decide), k2.same s1 (by decide) (by decide), k3.same s1 (by decide) (by decide), mI_at, h2, (s1.2 28 (by decide)).1.trans k6, k7.same s1 (by decide) (by decide), k8, k9, by omega⟩
/-- a fault with its place -/
theorem RdM.flt (h : RdM t lim fns M U ψ H n p op pe nm) {c q : Nat} (h0 : 0 < c) (h1 : c < 14) (h2 : q ≤ 2000) : RdX lim fns (mI (mI M 0 23 (nI q)) 0 8 (nI c)) nm H n c q := by
  obtain ⟨k1, k2, k3, k4, k5, k6, k7, k8, k9, k10⟩ := h
  have s1 : SameM [108, 123] M (mI (mI M 0 23 (nI q)) 0 8 (nI c)) := (SameM.I0 (j := 23)).t2 (SameM.I0 (j := 8)) (by decide)
  exact ⟨⟨U, ψ, k1.1.same s1 (by decide), k1.2.2.2.2.2.1.kept (RA := fun _ => True) (H := H) KeptM.rf (fun _ _ => trivial) s1 (by decide) (by decide)⟩, k1.2.1, (s1.2 5 (by decide)).1.trans k1.2.2.2.2.2.2.2.2.2.1, k1.2.2.2.2.2.2.2.2.2.2.1, k1.2.2.2.2.2.2.2.2.2.2.2, k2.same s1 (by decide) (by decide), mI_at, by rw [mI_ne (Or.inr (by decide)), mI_at], h0, h1, h2⟩
theorem RdM.fs {c q : Int32} : SameM [108, 123] M (mI (mI M 0 23 q) 0 8 c) := (SameM.I0 (j := 23)).t2 (SameM.I0 (j := 8)) (by decide)
theorem k_blanks {d : Nat} (h : RdM t lim fns M U ψ H n p op pe nm) {Q : Option (Option Value) → PM → Prop} (hq : ∀ M', RdM t lim fns M' U ψ H n (spanE isBl t p) op pe nm → SameM [122] M M' → Q (some none) M') : SM (d + 2) 130 [.ref 0] M Q := by
  refine ⟨qX10_blanks, rfl, ⟨Nat.le_of_ble_eq_true rfl, rfl, 0, _, _, rfl, rfl⟩, ?_⟩
  show Ev (BM (d + 1) qX10_blanks) Q 0 [some (.ref 0)] [] M
  have h2000 := h.2.2.1.2.1
  have loop : ∀ (m q : Nat) (M1 : PM), t.length - q < m → spanE isBl t q = spanE isBl t p → RdM t lim fns M1 U ψ H n q op pe nm → SameM [122] M M1 → Ev (BM (d + 1) qX10_blanks) Q 0 [some (.ref 0)] [] M1 := by
    intro m
    induction m with
    | zero => intro q M1 h9; omega
    | succ m ih =>
      intro q M1 hm hsp hR hs
      obtain ⟨k1, k2, k3, k4, k5, k6, k7, k8, k9, k10⟩ := id hR
      have stop : spanE isBl t q = q → Ev (BM (d + 1) qX10_blanks) Q 50 [some (.ref 0)] [] M1 := fun h9 => by
        refine ev_retv rfl rfl (hq M1 ?_ hs)
        rw [← hsp, h9]; exact hR
      repeat (refine ev_s rfl (?_ : Ev _ _ _ _ _ _))
      rw [k4, k3.1]
      refine ev_ic rfl (fun hc => ?_) (fun hc => ?_)
      · exact stop (spanE_end ((nI_leI (by omega) (by omega)).mp hc))
      have hlt : q < t.length := by
        have : ¬ t.length ≤ q := fun h9 => hc (nI_le h9 (by omega))
        omega
      have e : t[q]? = some t[q] := List.getElem?_eq_getElem hlt
      have eb := bt_at e
      have hb := k3.bt q
      rw [eb] at hb
      have c32 : (nI t[q] = 32) ↔ t[q] = 32 := nI_eq (b := 32) (by omega) (by decide)
      have c10 : (nI t[q] = 10) ↔ t[q] = 10 := nI_eq (b := 10) (by omega) (by decide)
      have go : isBl t[q] = true → Ev (BM (d + 1) qX10_blanks) Q 37 [some (.ref 0)] [] M1 := fun h9 => by
        iterate 7 (refine ev_s rfl (?_ : Ev _ _ _ _ _ _))
        rw [k4, nI_1]
        exact ih (q + 1) _ (by omega) ((spanE_go e h9).symm.trans hsp) (hR.at (by omega) (by omega)) (hs.t2 (SameM.I0 (j := 22)) (by decide))
      repeat (refine ev_s rfl (?_ : Ev _ _ _ _ _ _))
      rw [k4]
      refine ev_cv rfl (as := [.ref 0, .int (nI q)]) rfl rfl (Nat.le_of_ble_eq_true rfl) ?_
      refine k_byteAt k3 (by omega) ?_
      rw [eb]
      show Ev _ _ _ _ [.int (nI t[q])] _
      repeat (refine ev_s rfl (?_ : Ev _ _ _ _ _ _))
      refine ev_ic rfl (fun hc1 => go (by simp [isBl, c32.mp hc1])) (fun hc1 => ?_)
      repeat (refine ev_s rfl (?_ : Ev _ _ _ _ _ _))
      rw [k4]
      refine ev_cv rfl (as := [.ref 0, .int (nI q)]) rfl rfl (Nat.le_of_ble_eq_true rfl) ?_
      refine k_byteAt k3 (by omega) ?_
      rw [eb]
      show Ev _ _ _ _ [.int (nI t[q])] _
      repeat (refine ev_s rfl (?_ : Ev _ _ _ _ _ _))
      refine ev_ic rfl (fun hc2 => ?_) (fun hc2 => go (by simp [isBl, c10.mp (Decidable.not_not.mp hc2)]))
      refine stop (spanE_no e ?_)
      have n1 : ¬ t[q] = 32 := fun h9 => hc1 (c32.mpr h9)
      have n2 : ¬ t[q] = 10 := fun h9 => hc2 (c10.mpr h9)
      simp [isBl, n1, n2]
  exact loop (t.length + 1) p M (by omega) rfl h SameM.rf
theorem list_ext9 {a b : List Nat} (h : a.length = b.length) (h2 : ∀ i, i < a.length → a[i]? = b[i]?) : a = b := by
  refine List.ext_getElem? (fun i => ?_)
  by_cases hi : i < a.length
  · exact h2 i hi
  · rw [List.getElem?_eq_none (by omega), List.getElem?_eq_none (by omega)]
theorem neg_rS {k : Nat} (h : k < 300) : -(lN (k + 1)) = rS k := by
  apply Int64.toInt_inj.mp
  rw [rS_T (by omega), Int64.toInt_neg, pk_lT (by omega), bmI (by omega) (by omega)]
  omega
theorem k_symbol {d c : Nat} (h : RdM t lim fns M U ψ H n p op pe nm) (hc0 : t[p]? = some c) (hlt0 : isLt c = true) {Q : Option (Option Value) → PM → Prop}
    (hS : ∀ k q nm' M', rSym t p nm = .inl (k, q, nm') → RdM t lim fns M' U ψ H n q op pe nm' → k < nm'.length → nm'.length ≤ 300 → SameM IDXs M M' → Q (some (some (.long (rS k)))) M')
    (hF : ∀ f M', rSym t p nm = .inr f → RdX lim fns M' nm H n f p → SameM IDX M M' → Q none M') : SM (d + 3) 131 [.ref 0] M Q := by
  refine ⟨qX10_symbol, rfl, ⟨Nat.le_of_ble_eq_true rfl, rfl, 0, _, _, rfl, rfl⟩, ?_⟩
  show Ev (BM (d + 2) qX10_symbol) Q 0 [some (.ref 0), none, none, none, none, none] [] M
  have h2000 := h.2.2.1.2.1
  have hp := h.2.2.2.2.1
  have e1 := spanE_le (f := isAn) (t := t) (p := p) hp
  have e2 := spanE_ge (f := isAn) (t := t) (p := p)
  have e3 : p < spanE isAn t p := by
    rw [spanE_go hc0 (by simp [isAn, hlt0])]
    have := spanE_ge (f := isAn) (t := t) (p := p + 1)
    omega
  -- behind the signs
  have fin : ∀ M1 : PM, RdM t lim fns M1 U ψ H n (spanE isAn t p) op pe nm → SameM [122] M M1 → Ev (BM (d + 2) qX10_symbol) Q 46 [some (.ref 0), some (.int (nI p)), none, none, none, none] [] M1 := by
    intro M1 hR hs
    generalize hqq : spanE isAn t p = q at *
    obtain ⟨k1, k2, k3, k4, k5, k6, k7, k8, k9, k10⟩ := id hR
    have h300 := k1.2.2.2.2.2.2.2.2.2.2.2
    have h5 := k1.2.2.2.2.2.2.2.2.2.1
    repeat (refine ev_s rfl (?_ : Ev _ _ _ _ _ _))
    rw [k4, pk_sub e2]
    refine ev_ic rfl (fun hc => ?_) (fun hc => ?_)
    · have h10 : q - p ≤ 10 := (nI_leI (b := 10) (by omega) (by decide)).mp hc
      have esl : ∀ j, j < q - p → (slice t p (q - p))[j]? = some (bt t (p + j)) := fun j hj => by
        rw [slice_get hj, List.getElem?_eq_getElem (by omega), bt_at (List.getElem?_eq_getElem (by omega))]
      have ell : (slice t p (q - p)).length = q - p := slice_len (by omega)
      -- a new one
      have new : (∀ j : Nat, nm[j]? ≠ some (slice t p (q - p))) → ∀ z4 z5, Ev (BM (d + 2) qX10_symbol) Q 161 [some (.ref 0), some (.int (nI p)), some (.int (nI (q - p))), some (.int (nI nm.length)), z4, z5] [] M1 := fun hne z4 z5 => by
        repeat (refine ev_s rfl (?_ : Ev _ _ _ _ _ _))
        rw [h5]
        refine ev_ic rfl (fun hc3 => ?_) (fun hc3 => ?_)
        · have hl3 : nm.length < 300 := by
            have : ¬ nm.length = 300 := fun h9 => hc3 (by rw [h9]; rfl)
            omega
          have cp : ∀ (q2 j : Nat) (M2 : PM), j + q2 = q - p → SameM [1] M1 M2 → (∀ i, i < j → M2.1 1 (10 * nm.length + i) = nI (bt t (p + i))) → (∀ i, i < 10 * nm.length → M2.1 1 i = M1.1 1 i) → Ev (BM (d + 2) qX10_symbol) Q 180 [some (.ref 0), some (.int (nI p)), some (.int (nI (q - p))), some (.int (nI j)), z4, z5] [] M2 := by
            intro q2
            induction q2 with
            | zero =>
              intro j M2 hj hs2 hw ho
              have h52 : M2.1 0 5 = nI nm.length := (hs2.2 5 (by decide)).1.trans h5
              repeat (refine ev_s rfl (?_ : Ev _ _ _ _ _ _))
              refine ev_icT rfl (show nI (q - p) ≤ nI j from nI_le (by omega) (by omega)) ?_
              repeat (refine ev_s rfl (?_ : Ev _ _ _ _ _ _))
              rw [h52]
              refine ev_iast rfl rfl (vp_in_nI hl3 (by decide)) ?_
              rw [nI_clamp (by omega)]
              repeat (refine ev_s rfl (?_ : Ev _ _ _ _ _ _))
              have e5 : (mI M2 2 nm.length (nI (q - p))).1 0 5 = nI nm.length := by rw [mI_ne (Or.inl (by decide))]; exact h52
              rw [e5, nI_1]
              have e5' : (mI (mI M2 2 nm.length (nI (q - p))) 0 5 (nI (nm.length + 1))).1 0 5 = nI (nm.length + 1) := mI_at
              rw [e5', nI_l (by omega), neg_rS hl3]
              have s3 : SameM [1, 2, 105] M1 (mI (mI M2 2 nm.length (nI (q - p))) 0 5 (nI (nm.length + 1))) := (hs2.t2 (SameM.Ik (k := 2) (by decide)) (ids'' := [1, 2]) (by decide)).t2 (SameM.I0 (j := 5)) (by decide)
              have el9 : (nm ++ [slice t p (q - p)]).length = nm.length + 1 := by simp
              have hR3 : RdM t lim fns (mI (mI M2 2 nm.length (nI (q - p))) 0 5 (nI (nm.length + 1))) U ψ H n q op pe (nm ++ [slice t p (q - p)]) := by
                refine ⟨k1.names (by rw [el9]; omega) (by rw [el9]; omega) s3 (by decide) (by rw [el9]; exact mI_at), fun k w hk => ?_, k3.same s3 (by decide) (by decide), (s3.2 22 (by decide)).1.trans k4, k5, (s3.2 28 (by decide)).1.trans k6, k7.same s3 (by decide) (by decide), k8, k9, k10⟩
                rw [mI_ne (Or.inl (by decide))]
                by_cases hkl : k < nm.length
                · rw [List.getElem?_append_left hkl] at hk
                  obtain ⟨a1, a2, a3, a4⟩ := k2 k w hk
                  refine ⟨a1, a2, ?_, fun j c hj => ?_⟩
                  · rw [mI_ne (Or.inr (by omega)), (hs2.1 2 (by decide) (by decide)).1]; exact a3
                  · have := (List.getElem?_eq_some_iff.mp hj).1
                    rw [mI_ne (Or.inl (by decide)), mI_ne (Or.inl (by decide)), ho _ (by omega)]
                    exact a4 j c hj
                · have hk2 := (List.getElem?_eq_some_iff.mp hk).1
                  rw [el9] at hk2
                  have ek : k = nm.length := by omega
                  subst ek
                  rw [List.getElem?_append_right (Nat.le_refl _), Nat.sub_self] at hk
                  have ew : slice t p (q - p) = w := by simpa using hk
                  rw [← ew, ell]
                  refine ⟨by omega, h10, mI_at, fun j c hj => ?_⟩
                  have hjl := (List.getElem?_eq_some_iff.mp hj).1
                  rw [ell] at hjl
                  rw [esl j hjl] at hj
                  have ec : bt t (p + j) = c := Option.some.inj hj
                  rw [mI_ne (Or.inl (by decide)), mI_ne (Or.inl (by decide)), hw j (by omega), ← ec]
                  exact ⟨k3.bt _, rfl⟩
              refine ev_retl rfl rfl (hS nm.length q _ _ ?_ hR3 (by rw [el9]; omega) (by rw [el9]; omega) (hs.t2 s3 (by decide)))
              unfold rSym
              rw [hqq, if_pos h10, fidx_none nm 0 hne]
              exact if_pos hl3
            | succ q2 ih =>
              intro j M2 hj hs2 hw ho
              have h52 : M2.1 0 5 = nI nm.length := (hs2.2 5 (by decide)).1.trans h5
              repeat (refine ev_s rfl (?_ : Ev _ _ _ _ _ _))
              refine ev_icF rfl (show ¬ nI (q - p) ≤ nI j from fun h9 => by have := (nI_leI (by omega) (by omega)).mp h9; omega) ?_
              repeat (refine ev_s rfl (?_ : Ev _ _ _ _ _ _))
              rw [h52, Int32.mul_comm, nI10, nI_add]
              refine ev_cv rfl (as := [.ref 0, .int (nI (p + j))]) rfl rfl (Nat.le_of_ble_eq_true rfl) ?_
              refine k_byteAt (k3.same hs2 (by decide) (by decide)) (by omega) ?_
              show Ev _ _ _ _ [.int (nI (bt t (p + j))), .int (nI (10 * nm.length + j)), .ref 1] _
              refine ev_iast rfl rfl (vp_in_nI (show 10 * nm.length + j < 3000 by omega) (by decide)) ?_
              rw [nI_clamp (by omega)]
              iterate 2 (refine ev_s rfl (?_ : Ev _ _ _ _ _ _))
              rw [nI_1]
              refine ih (j + 1) _ (by omega) (hs2.t2 (SameM.Ik (by decide)) (by decide)) (fun i hi => ?_) (fun i hi => ?_)
              · by_cases hij : i = j
                · rw [hij, mI_at]
                · rw [mI_ne (Or.inr (by omega))]; exact hw i (by omega)
              · rw [mI_ne (Or.inr (by omega))]; exact ho i hi
          iterate 2 (refine ev_s rfl (?_ : Ev _ _ _ _ _ _))
          exact cp (q - p) 0 M1 (by omega) SameM.rf (fun i hi => by omega) (fun i hi => rfl)
        · have hl3 : nm.length = 300 := (nI_eq (b := 300) (by omega) (by decide)).mp (Decidable.not_not.mp hc3)
          repeat (refine ev_s rfl (?_ : Ev _ _ _ _ _ _))
          refine ev_cv rfl (as := [.ref 0, .int 3, .int (nI p)]) rfl rfl (Nat.le_of_ble_eq_true rfl) ?_
          refine k_failsAt ?_
          show Ev _ _ _ _ [.ref 5] _
          refine ev_s rfl (hF 3 _ ?_ (hR.flt (c := 3) (by decide) (by decide) (by omega)) (hs.t2 RdM.fs (by decide)))
          unfold rSym
          rw [hqq, if_pos h10, fidx_none nm 0 hne]
          exact if_neg (by omega)
      -- the names
      have loop : ∀ (q2 k : Nat) (z4 z5 : Option Value), k + q2 = nm.length → (∀ j, j < k → nm[j]? ≠ some (slice t p (q - p))) → Ev (BM (d + 2) qX10_symbol) Q 68 [some (.ref 0), some (.int (nI p)), some (.int (nI (q - p))), some (.int (nI k)), z4, z5] [] M1 := by
        intro q2
        induction q2 with
        | zero =>
          intro k z4 z5 hk hne
          have ek : k = nm.length := by omega
          subst ek
          repeat (refine ev_s rfl (?_ : Ev _ _ _ _ _ _))
          rw [h5]
          refine ev_icT rfl (show nI nm.length ≤ nI nm.length from Int32.le_refl _) ?_
          refine new (fun j => ?_) _ _
          by_cases hj : j < nm.length
          · exact hne j hj
          · rw [List.getElem?_eq_none (by omega)]; intro h9; cases h9
        | succ q2 ih =>
          intro k z4 z5 hk hne
          have hkl : k < nm.length := by omega
          have ek : nm[k]? = some nm[k] := List.getElem?_eq_getElem hkl
          generalize hw : nm[k] = w at ek
          obtain ⟨a1, a2, a3, a4⟩ := k2 k w ek
          have nxt : ¬ w = slice t p (q - p) → ∀ z5, Ev (BM (d + 2) qX10_symbol) Q 143 [some (.ref 0), some (.int (nI p)), some (.int (nI (q - p))), some (.int (nI k)), some (.int 0), z5] [] M1 := fun hne2 z5 => by
            repeat (refine ev_s rfl (?_ : Ev _ _ _ _ _ _))
            refine ev_ifT rfl (show (0 : Int32) = 0 from rfl) ?_
            iterate 2 (refine ev_s rfl (?_ : Ev _ _ _ _ _ _))
            rw [nI_1]
            refine ih (k + 1) _ _ (by omega) (fun j hj => ?_)
            by_cases hjk : j = k
            · rw [hjk, ek]
              intro h9
              exact hne2 (Option.some.inj h9)
            · exact hne j (by omega)
          -- its signs
          have cmp : w.length = q - p → ∀ (q3 j : Nat), j + q3 = q - p → (∀ i, i < j → w[i]? = some (bt t (p + i))) → Ev (BM (d + 2) qX10_symbol) Q 96 [some (.ref 0), some (.int (nI p)), some (.int (nI (q - p))), some (.int (nI k)), some (.int 1), some (.int (nI j))] [] M1 := by
            intro hwl q3
            induction q3 with
            | zero =>
              intro j hj heq
              have ew : w = slice t p (q - p) := list_ext9 (by rw [ell]; exact hwl) (fun i hi => by rw [heq i (by omega), esl i (by omega)])
              repeat (refine ev_s rfl (?_ : Ev _ _ _ _ _ _))
              refine ev_icT rfl (show nI (q - p) ≤ nI j from nI_le (by omega) (by omega)) ?_
              repeat (refine ev_s rfl (?_ : Ev _ _ _ _ _ _))
              refine ev_ifF rfl (show ¬ (1 : Int32) = 0 by decide) ?_
              repeat (refine ev_s rfl (?_ : Ev _ _ _ _ _ _))
              rw [nI_l (by omega)]
              show Ev _ _ _ _ [.long (rS k)] _
              refine ev_retl rfl rfl (hS k q nm M1 ?_ hR hkl h300 (hs.sub (by decide)))
              unfold rSym
              rw [hqq, if_pos h10, fidx_some nm k 0 (by rw [ek, ew]) hne, Nat.zero_add]
            | succ q3 ih3 =>
              intro j hj heq
              have ej : w[j]? = some w[j] := List.getElem?_eq_getElem (by omega)
              generalize w[j] = c at ej
              obtain ⟨b1, b2⟩ := a4 j c ej
              have hbt := k3.bt (p + j)
              repeat (refine ev_s rfl (?_ : Ev _ _ _ _ _ _))
              refine ev_icF rfl (show ¬ nI (q - p) ≤ nI j from fun h9 => by have := (nI_leI (by omega) (by omega)).mp h9; omega) ?_
              repeat (refine ev_s rfl (?_ : Ev _ _ _ _ _ _))
              refine ev_ifF rfl (show ¬ (1 : Int32) = 0 by decide) ?_
              repeat (refine ev_s rfl (?_ : Ev _ _ _ _ _ _))
              rw [Int32.mul_comm, nI10]
              refine ev_iald rfl rfl (vp_in_nI (show 10 * k + j < 3000 by omega) (by decide)) ?_
              rw [nI_clamp (by omega), b2]
              repeat (refine ev_s rfl (?_ : Ev _ _ _ _ _ _))
              rw [nI_add]
              refine ev_cv rfl (as := [.ref 0, .int (nI (p + j))]) rfl rfl (Nat.le_of_ble_eq_true rfl) ?_
              refine k_byteAt k3 (by omega) ?_
              show Ev _ _ _ _ [.int (nI (bt t (p + j))), .int (nI c)] _
              refine ev_ic rfl (fun hc5 => ?_) (fun hc5 => ?_)
              · have hne5 : ¬ c = bt t (p + j) := fun h9 => hc5 (by rw [h9])
                iterate 4 (refine ev_s rfl (?_ : Ev _ _ _ _ _ _))
                rw [nI_1]
                have nw : ¬ w = slice t p (q - p) := fun h9 => by
                  rw [h9, esl j (by omega)] at ej
                  exact hne5 (Option.some.inj ej).symm
                repeat (refine ev_s rfl (?_ : Ev _ _ _ _ _ _))
                refine ev_ic rfl (fun _ => nxt nw _) (fun _ => ?_)
                repeat (refine ev_s rfl (?_ : Ev _ _ _ _ _ _))
                refine ev_ifT rfl (show (0 : Int32) = 0 from rfl) ?_
                exact nxt nw _
              · have heq5 : c = bt t (p + j) := (nI_eq (by omega) (by omega)).mp (Decidable.not_not.mp hc5)
                iterate 5 (refine ev_s rfl (?_ : Ev _ _ _ _ _ _))
                rw [nI_1]
                refine ih3 (j + 1) (by omega) (fun i hi => ?_)
                by_cases hij : i = j
                · rw [hij, ej, heq5]
                · exact heq i (by omega)
          repeat (refine ev_s rfl (?_ : Ev _ _ _ _ _ _))
          rw [h5]
          refine ev_icF rfl (show ¬ nI nm.length ≤ nI k from fun h9 => by have := (nI_leI (by omega) (by omega)).mp h9; omega) ?_
          repeat (refine ev_s rfl (?_ : Ev _ _ _ _ _ _))
          refine ev_iald rfl rfl (vp_in_nI (show k < 300 by omega) (by decide)) ?_
          rw [nI_clamp (by omega), a3]
          repeat (refine ev_s rfl (?_ : Ev _ _ _ _ _ _))
          refine ev_ic rfl (fun hc5 => ?_) (fun hc5 => ?_)
          · have hne5 : ¬ w.length = q - p := fun h9 => hc5 (by rw [h9])
            have nw : ¬ w = slice t p (q - p) := fun h9 => hne5 (by rw [h9, ell])
            repeat (refine ev_s rfl (?_ : Ev _ _ _ _ _ _))
            refine ev_ic rfl (fun _ => nxt nw _) (fun _ => ?_)
            repeat (refine ev_s rfl (?_ : Ev _ _ _ _ _ _))
            refine ev_ifT rfl (show (0 : Int32) = 0 from rfl) ?_
            exact nxt nw _
          · have heq5 : w.length = q - p := (nI_eq (by omega) (by omega)).mp (Decidable.not_not.mp hc5)
            iterate 5 (refine ev_s rfl (?_ : Ev _ _ _ _ _ _))
            exact cmp heq5 (q - p) 0 (by omega) (fun i hi => by omega)
      iterate 2 (refine ev_s rfl (?_ : Ev _ _ _ _ _ _))
      exact loop nm.length 0 _ _ (by omega) (fun j hj => by omega)
    · have h10 : ¬ q - p ≤ 10 := fun h9 => hc (nI_le (b := 10) h9 (by decide))
      repeat (refine ev_s rfl (?_ : Ev _ _ _ _ _ _))
      refine ev_cv rfl (as := [.ref 0, .int 2, .int (nI p)]) rfl rfl (Nat.le_of_ble_eq_true rfl) ?_
      refine k_failsAt ?_
      show Ev _ _ _ _ [.ref 5] _
      refine ev_s rfl (hF 2 _ ?_ (hR.flt (c := 2) (by decide) (by decide) (by omega)) (hs.t2 RdM.fs (by decide)))
      unfold rSym
      rw [hqq, if_neg h10]
  have loop : ∀ (m q : Nat) (M1 : PM), t.length - q < m → spanE isAn t q = spanE isAn t p → RdM t lim fns M1 U ψ H n q op pe nm → SameM [122] M M1 → Ev (BM (d + 2) qX10_symbol) Q 5 [some (.ref 0), some (.int (nI p)), none, none, none, none] [] M1 := by
    intro m
    induction m with
    | zero => intro q M1 h9; omega
    | succ m ih =>
      intro q M1 hm hsp hR hs
      obtain ⟨k1, k2, k3, k4, k5, k6, k7, k8, k9, k10⟩ := id hR
      have hb := k3.bt q
      have stop : isAn (bt t q) = false → Ev (BM (d + 2) qX10_symbol) Q 46 [some (.ref 0), some (.int (nI p)), none, none, none, none] [] M1 := fun h9 => by
        have e9 : spanE isAn t q = q := by
          by_cases hq : q < t.length
          · have e : t[q]? = some t[q] := List.getElem?_eq_getElem hq
            rw [bt_at e] at h9
            exact spanE_no e h9
          · exact spanE_end (by omega)
        refine fin M1 ?_ hs
        rw [← hsp, e9]; exact hR
      have go : isAn (bt t q) = true → Ev (BM (d + 2) qX10_symbol) Q 33 [some (.ref 0), some (.int (nI p)), none, none, none, none] [] M1 := fun h9 => by
        have hq : q < t.length := by
          refine Decidable.byContradiction (fun h8 => ?_)
          rw [bt_end (by omega)] at h9
          exact absurd h9 (by decide)
        have e : t[q]? = some t[q] := List.getElem?_eq_getElem hq
        rw [bt_at e] at h9
        iterate 7 (refine ev_s rfl (?_ : Ev _ _ _ _ _ _))
        rw [k4, nI_1]
        exact ih (q + 1) _ (by omega) ((spanE_go e h9).symm.trans hsp) (hR.at (by omega) (by omega)) (hs.t2 (SameM.I0 (j := 22)) (by decide))
      repeat (refine ev_s rfl (?_ : Ev _ _ _ _ _ _))
      rw [k4]
      refine ev_cv rfl (as := [.ref 0, .int (nI q)]) rfl rfl (Nat.le_of_ble_eq_true rfl) ?_
      refine k_byteAt k3 (by omega) ?_
      show Ev _ _ _ _ [.int (nI (bt t q))] _
      refine ev_cs rfl (by decide) (by decide) (as := [.int (nI (bt t q))]) rfl rfl (Nat.le_of_ble_eq_true rfl) ?_
      refine k_isCapital hb ?_
      cases hl : isLt (bt t q) with
      | true =>
        show Ev _ _ _ _ [.int 1] _
        refine ev_ifT rfl (show ¬ (1 : Int32) = 0 by decide) ?_
        exact go (by simp [isAn, hl])
      | false =>
        show Ev _ _ _ _ [.int 0] _
        refine ev_ifF rfl (show ¬ ¬ (0 : Int32) = 0 by decide) ?_
        repeat (refine ev_s rfl (?_ : Ev _ _ _ _ _ _))
        rw [k4]
        refine ev_cv rfl (as := [.ref 0, .int (nI q)]) rfl rfl (Nat.le_of_ble_eq_true rfl) ?_
        refine k_byteAt k3 (by omega) ?_
        show Ev _ _ _ _ [.int (nI (bt t q))] _
        refine ev_cs rfl (by decide) (by decide) (as := [.int (nI (bt t q))]) rfl rfl (Nat.le_of_ble_eq_true rfl) ?_
        refine k_isDigit hb ?_
        cases hg : isDg (bt t q) with
        | true =>
          show Ev _ _ _ _ [.int 1] _
          refine ev_ifF rfl (show ¬ (1 : Int32) = 0 by decide) ?_
          exact go (by simp [isAn, hg])
        | false =>
          show Ev _ _ _ _ [.int 0] _
          refine ev_ifT rfl (show (0 : Int32) = 0 from rfl) ?_
          exact stop (by simp [isAn, hl, hg])
  iterate 3 (refine ev_s rfl (?_ : Ev _ _ _ _ _ _))
  rw [h.2.2.2.1]
  exact loop (t.length + 1) p M (by omega) rfl h SameM.rf
end KD

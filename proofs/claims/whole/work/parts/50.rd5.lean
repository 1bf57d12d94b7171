/-! The class's reader: atoms, tokens, whole texts. -/
section RD5
variable {l : List Nat} {N lim : Nat} {fns : List (Option AV)} {M : PM} {fr : List Nat} {ψ : Nat → Nat} {H : AHp} {n p : Nat} {op : List (Nat × Nat)} {pe : List AV} {wh : Option AV} {nm : List (List Nat)}
theorem rSym_q {t : List Nat} {p k q c : Nat} {nm nm' : List (List Nat)} (h : rSym t p nm = .inl (k, q, nm')) (hc : t[p]? = some c) (hl : isLt c = true) : p < q := by
  have e : q = spanE isAn t p := by
    unfold rSym at h
    split at h
    · split at h
      · cases h; rfl
      · split at h
        · cases h; rfl
        · cases h
    · cases h
  rw [e, spanE_go hc (by simp [isAn, hl])]
  have := spanE_ge (f := isAn) (t := t) (p := p + 1)
  omega
theorem rNum_q {t : List Nat} {p q c : Nat} {m : Int32} (h : rNum t p (c == 45) = .inl (m, q)) (hc : t[p]? = some c) (hl : isDg c = true ∨ c = 45) : p < q := by
  have e : q = spanE isDg t (if (c == 45) then p + 1 else p) := by
    generalize (c == 45) = b at h
    unfold rNum at h
    cases b with
    | true =>
      simp only [if_true] at h ⊢
      split at h
      · cases h; rfl
      · cases h
    | false =>
      simp only [Bool.false_eq_true, if_false] at h ⊢
      split at h
      · cases h; rfl
      · cases h
  by_cases h45 : c = 45
  · rw [e, h45]
    exact spanE_ge (f := isDg) (t := t) (p := p + 1)
  · have hd : isDg c = true := hl.resolve_right h45
    have e2 : (c == 45) = false := by simp [h45]
    rw [e, e2]
    show p < spanE isDg t p
    rw [spanE_go hc hd]
    exact spanE_ge (f := isDg) (t := t) (p := p + 1)
theorem flt_ne {c : Nat} {x : Int32} (e : x = nI c) (h0 : 0 < c) (h1 : c < 14) : x ≠ 0 := by
  rw [e]
  exact nI_ne0 h0 (by omega)
theorem r_readAtom {d c : Nat} (h : RdC l N lim fns M fr ψ H n p op pe wh nm) (hp : p < N) (hc0 : (l.take N)[p]? = some c) (hc : c < 256) {Q : Option (Option Value) → PM → Prop} (hq : ∀ M', PostR l N lim fns M (rAtom lim fns (l.take N) c p op pe wh nm H n) M' → Q (some none) M') : SC (d + 5) 76 [.ref 24, .int (nI c)] M Q := by
  refine ⟨qX4_readAtom, rfl, ⟨Nat.le_of_ble_eq_true rfl, rfl, 24, _, _, rfl, rfl⟩, ?_⟩
  show Ev (BC (d + 4) qX4_readAtom) Q 0 [some (.ref 24), some (.int (nI c)), none] [] M
  obtain ⟨k1, k2, k3, k4, k5, k6, k7, k8, k9, k10, k11, k12, k13, k14, k15, k16⟩ := id h
  have h2000 := k3.2.1
  have hlen := h.len
  unfold rAtom at hq
  repeat (refine ev_s rfl (?_ : Ev _ _ _ _ _ _))
  rw [k6]
  refine ev_cv rfl (as := [.ref 24]) rfl rfl (Nat.le_of_ble_eq_true rfl) ?_
  refine r_mayBegin h ?_
  cases hm : rMay op wh with
  | false =>
    rw [hm] at hq
    show Ev _ _ _ _ [.int 0] _
    refine ev_ifF rfl (show ¬ ¬ (0 : Int32) = 0 by decide) ?_
    repeat (refine ev_s rfl (?_ : Ev _ _ _ _ _ _))
    refine ev_cv rfl (as := [.ref 24, .int 1, .int (nI p)]) rfl rfl (Nat.le_of_ble_eq_true rfl) ?_
    refine r_fail ?_
    show Ev _ _ _ _ [] _
    repeat (refine ev_s rfl (?_ : Ev _ _ _ _ _ _))
    exact ev_retv rfl rfl (hq _ (h.flt (c := 1) (by decide) (by decide) (by omega)))
  | true =>
    rw [hm] at hq
    simp only [if_true] at hq
    have hw := h.none (Or.inl hm)
    subst hw
    have h11 : M.1 24 11 = 0 := k16
    show Ev _ _ _ _ [.int 1] _
    refine ev_ifT rfl (show ¬ (1 : Int32) = 0 by decide) ?_
    repeat (refine ev_s rfl (?_ : Ev _ _ _ _ _ _))
    refine ev_cs rfl (by decide) (by decide) (as := [.int (nI c)]) rfl rfl (Nat.le_of_ble_eq_true rfl) ?_
    refine r_isLetter hc ?_
    cases hl : isLt c with
    | true =>
      rw [hl] at hq
      simp only [if_true] at hq
      show Ev _ _ _ _ [.int 1] _
      refine ev_ifF rfl (show ¬ (1 : Int32) = 0 by decide) ?_
      repeat (refine ev_s rfl (?_ : Ev _ _ _ _ _ _))
      refine ev_cv rfl (as := [.ref 24]) rfl rfl (Nat.le_of_ble_eq_true rfl) ?_
      refine r_readSymbol h (fun k q nm' M1 e g1 g2 g3 g4 => ?_) (fun f M1 e g1 g2 g3 => ?_)
      · rw [e] at hq
        have hpq := rSym_q e hc0 hl
        show Ev _ _ _ _ [.int (nI k), .ref 24] _
        repeat (refine ev_s rfl (?_ : Ev _ _ _ _ _ _))
        rw [nI_l (by omega)]
        refine ev_cv rfl (as := [.ref 24, .long (lN k), .int (nI p)]) rfl rfl (Nat.le_of_ble_eq_true rfl) ?_
        refine r_complete g1 (Tv.lN g2 (by omega)) (by omega) (by omega) (fun M2 g5 => ?_)
        show Ev _ _ _ _ [] _
        repeat (refine ev_s rfl (?_ : Ev _ _ _ _ _ _))
        exact ev_retv rfl rfl (hq _ (g5.from g4 (by decide)))
      · rw [e] at hq
        show Ev _ _ _ _ [.int (-1), .ref 24] _
        repeat (refine ev_s rfl (?_ : Ev _ _ _ _ _ _))
        refine ev_cv rfl (as := [.ref 24, .long ((-1 : Int32).toInt64), .int (nI p)]) rfl rfl (Nat.le_of_ble_eq_true rfl) ?_
        refine r_complete_d (flt_ne g1.2.2.2.1 g1.2.2.2.2.2.1 g1.2.2.2.2.2.2.1) g2 k11 (Or.inl (g3.trans h11)) ?_
        show Ev _ _ _ _ [] _
        repeat (refine ev_s rfl (?_ : Ev _ _ _ _ _ _))
        exact ev_retv rfl rfl (hq _ g1)
    | false =>
      rw [hl] at hq
      simp only [Bool.false_eq_true, if_false] at hq
      show Ev _ _ _ _ [.int 0] _
      refine ev_ifT rfl (show (0 : Int32) = 0 from rfl) ?_
      repeat (refine ev_s rfl (?_ : Ev _ _ _ _ _ _))
      have num : (isDg c || (c == 45 && (((l.take N)[p + 1]?).map isDg).getD false)) = true → Ev (BC (d + 4) qX4_readAtom) Q 86 [some (.ref 24), some (.int (nI c)), some (.int (nI p))] [] M := fun h9 => by
        rw [h9] at hq
        simp only [if_true] at hq
        have hcl : isDg c = true ∨ c = 45 := by
          rw [Bool.or_eq_true, Bool.and_eq_true] at h9
          exact h9.imp id (fun h8 => by simpa using h8.1)
        repeat (refine ev_s rfl (?_ : Ev _ _ _ _ _ _))
        refine ev_cv rfl (as := [.ref 24]) rfl rfl (Nat.le_of_ble_eq_true rfl) ?_
        refine r_readNumber h hp hc0 (fun m q M1 e g1 g2 => ?_) (fun f M1 w e g1 g2 g3 => ?_)
        · rw [e] at hq
          have hpq := rNum_q e hc0 hcl
          show Ev _ _ _ _ [.long (ofN m), .ref 24] _
          repeat (refine ev_s rfl (?_ : Ev _ _ _ _ _ _))
          refine ev_cv rfl (as := [.ref 24, .long (ofN m), .int (nI p)]) rfl rfl (Nat.le_of_ble_eq_true rfl) ?_
          refine r_complete g1 Tv.ofN (by omega) (by omega) (fun M2 g5 => ?_)
          show Ev _ _ _ _ [] _
          repeat (refine ev_s rfl (?_ : Ev _ _ _ _ _ _))
          exact ev_retv rfl rfl (hq _ (g5.from g2 (by decide)))
        · rw [e] at hq
          show Ev _ _ _ _ [.long w, .ref 24] _
          repeat (refine ev_s rfl (?_ : Ev _ _ _ _ _ _))
          refine ev_cv rfl (as := [.ref 24, .long w, .int (nI p)]) rfl rfl (Nat.le_of_ble_eq_true rfl) ?_
          refine r_complete_d (flt_ne g1.2.2.2.1 g1.2.2.2.2.2.1 g1.2.2.2.2.2.2.1) g2 k11 (Or.inl (g3.trans h11)) ?_
          show Ev _ _ _ _ [] _
          repeat (refine ev_s rfl (?_ : Ev _ _ _ _ _ _))
          exact ev_retv rfl rfl (hq _ g1)
      have non : (isDg c || (c == 45 && (((l.take N)[p + 1]?).map isDg).getD false)) = false → Ev (BC (d + 4) qX4_readAtom) Q 98 [some (.ref 24), some (.int (nI c)), some (.int (nI p))] [] M := fun h9 => by
        rw [h9] at hq
        simp only [Bool.false_eq_true, if_false] at hq
        repeat (refine ev_s rfl (?_ : Ev _ _ _ _ _ _))
        refine ev_cv rfl (as := [.ref 24, .int 1, .int (nI p)]) rfl rfl (Nat.le_of_ble_eq_true rfl) ?_
        refine r_fail ?_
        show Ev _ _ _ _ [] _
        exact ev_retv rfl rfl (hq _ (h.flt (c := 1) (by decide) (by decide) (by omega)))
      refine ev_cs rfl (by decide) (by decide) (as := [.int (nI c)]) rfl rfl (Nat.le_of_ble_eq_true rfl) ?_
      refine r_isDigit hc ?_
      cases hg : isDg c with
      | true =>
        show Ev _ _ _ _ [.int 1] _
        refine ev_ifT rfl (show ¬ (1 : Int32) = 0 by decide) ?_
        exact num (by rw [hg]; rfl)
      | false =>
        show Ev _ _ _ _ [.int 0] _
        refine ev_ifF rfl (show ¬ ¬ (0 : Int32) = 0 by decide) ?_
        repeat (refine ev_s rfl (?_ : Ev _ _ _ _ _ _))
        have c45 : (nI c = 45) ↔ c = 45 := nI_eq (b := 45) (by omega) (by decide)
        refine ev_ic rfl (fun hc1 => ?_) (fun hc1 => ?_)
        · have n45 : (c == 45) = false := by
            have : ¬ c = 45 := fun h9 => hc1 (c45.mpr h9)
            simp [this]
          exact non (by rw [hg, n45]; rfl)
        have y45 : (c == 45) = true := by
          have : c = 45 := c45.mp (Decidable.not_not.mp hc1)
          simp [this]
        repeat (refine ev_s rfl (?_ : Ev _ _ _ _ _ _))
        rw [k6, k7, nI_1]
        refine ev_ic rfl (fun hc2 => ?_) (fun hc2 => ?_)
        · have hge := (nI_leI (by omega) (by omega)).mp hc2
          have e : (l.take N)[p + 1]? = none := List.getElem?_eq_none (by rw [hlen]; omega)
          exact non (by rw [hg, y45, e]; rfl)
        have hlt : p + 1 < N := (nI_ltI (by omega) (by omega)).mp (Int32.not_le.mp hc2)
        obtain ⟨c', c1, c2, c3, c4⟩ := h.byte hlt
        repeat (refine ev_s rfl (?_ : Ev _ _ _ _ _ _))
        rw [k6, nI_1]
        refine ev_cv rfl (as := [.ref 2, .int (nI (p + 1))]) rfl rfl (Nat.le_of_ble_eq_true rfl) ?_
        refine bytes_at b_tape k3 ?_
        rw [c3]
        show Ev _ _ _ _ [.int (nI c')] _
        refine ev_cs rfl (by decide) (by decide) (as := [.int (nI c')]) rfl rfl (Nat.le_of_ble_eq_true rfl) ?_
        refine r_isDigit c2 ?_
        cases hg2 : isDg c' with
        | true =>
          show Ev _ _ _ _ [.int 1] _
          refine ev_ifF rfl (show ¬ (1 : Int32) = 0 by decide) ?_
          exact num (by rw [hg, y45, c1]; simp [hg2])
        | false =>
          show Ev _ _ _ _ [.int 0] _
          refine ev_ifT rfl (show (0 : Int32) = 0 from rfl) ?_
          exact non (by rw [hg, y45, c1]; simp [hg2])
theorem r_readToken {d c : Nat} (h : RdC l N lim fns M fr ψ H n p op pe wh nm) (hp : p < N) (hc0 : (l.take N)[p]? = some c) {Q : Option (Option Value) → PM → Prop} (hq : ∀ M', PostR l N lim fns M (rTok lim fns (l.take N) c (p, op, pe, wh, nm, H, n)) M' → Q (some none) M') : SC (d + 6) 69 [.ref 24] M Q := by
  refine ⟨qX4_readToken, rfl, ⟨Nat.le_of_ble_eq_true rfl, rfl, 24, _, _, rfl, rfl⟩, ?_⟩
  show Ev (BC (d + 5) qX4_readToken) Q 0 [some (.ref 24), none] [] M
  obtain ⟨k1, k2, k3, k4, k5, k6, k7, k8, k9, k10, k11, k12, k13, k14, k15, k16⟩ := id h
  obtain ⟨c', b1, b2, b3, b4⟩ := h.byte hp
  have ec : c' = c := Option.some.inj (b1.symm.trans hc0)
  subst ec
  unfold rTok at hq
  dsimp only at hq
  repeat (refine ev_s rfl (?_ : Ev _ _ _ _ _ _))
  rw [k6]
  refine ev_cv rfl (as := [.ref 2, .int (nI p)]) rfl rfl (Nat.le_of_ble_eq_true rfl) ?_
  refine bytes_at b_tape k3 ?_
  rw [b3]
  show Ev _ _ _ _ [.int (nI c')] _
  repeat (refine ev_s rfl (?_ : Ev _ _ _ _ _ _))
  refine ev_cs rfl (by decide) (by decide) (as := [.int (nI c')]) rfl rfl (Nat.le_of_ble_eq_true rfl) ?_
  refine r_isBlank b2 ?_
  cases hb : isBl c' with
  | true =>
    rw [hb] at hq
    simp only [if_true] at hq
    show Ev _ _ _ _ [.int 1] _
    refine ev_ifF rfl (show ¬ (1 : Int32) = 0 by decide) ?_
    repeat (refine ev_s rfl (?_ : Ev _ _ _ _ _ _))
    rw [k6, nI_1]
    exact ev_retv rfl rfl (hq _ ⟨Same.I.sub (by decide), fr, ψ, h.at (by omega) (by omega)⟩)
  | false =>
    rw [hb] at hq
    simp only [Bool.false_eq_true, if_false] at hq
    show Ev _ _ _ _ [.int 0] _
    refine ev_ifT rfl (show (0 : Int32) = 0 from rfl) ?_
    repeat (refine ev_s rfl (?_ : Ev _ _ _ _ _ _))
    refine ev_ic rfl (fun hc1 => ?_) (fun hc1 => ?_)
    · have n1 : ¬ c' = 40 := fun h9 => hc1 ((nI_eq (b := 40) (by omega) (by decide)).mpr h9)
      rw [if_neg n1] at hq
      repeat (refine ev_s rfl (?_ : Ev _ _ _ _ _ _))
      refine ev_ic rfl (fun hc2 => ?_) (fun hc2 => ?_)
      · have n2 : ¬ c' = 39 := fun h9 => hc2 ((nI_eq (b := 39) (by omega) (by decide)).mpr h9)
        rw [if_neg n2] at hq
        repeat (refine ev_s rfl (?_ : Ev _ _ _ _ _ _))
        refine ev_ic rfl (fun hc3 => ?_) (fun hc3 => ?_)
        · have n3 : ¬ c' = 41 := fun h9 => hc3 ((nI_eq (b := 41) (by omega) (by decide)).mpr h9)
          rw [if_neg n3] at hq
          repeat (refine ev_s rfl (?_ : Ev _ _ _ _ _ _))
          refine ev_ic rfl (fun hc4 => ?_) (fun hc4 => ?_)
          · have n4 : ¬ c' = 46 := fun h9 => hc4 ((nI_eq (b := 46) (by omega) (by decide)).mpr h9)
            rw [if_neg n4] at hq
            repeat (refine ev_s rfl (?_ : Ev _ _ _ _ _ _))
            refine ev_cv rfl (as := [.ref 24, .int (nI c')]) rfl rfl (Nat.le_of_ble_eq_true rfl) ?_
            refine r_readAtom h hp b1 b2 (fun M1 g => ?_)
            show Ev _ _ _ _ [] _
            exact ev_retv rfl rfl (hq _ g)
          · have y4 : c' = 46 := (nI_eq (b := 46) (by omega) (by decide)).mp (Decidable.not_not.mp hc4)
            rw [if_pos y4] at hq
            repeat (refine ev_s rfl (?_ : Ev _ _ _ _ _ _))
            refine ev_cv rfl (as := [.ref 24]) rfl rfl (Nat.le_of_ble_eq_true rfl) ?_
            refine r_readDot h hp (fun M1 g => ?_)
            show Ev _ _ _ _ [] _
            repeat (refine ev_s rfl (?_ : Ev _ _ _ _ _ _))
            exact ev_retv rfl rfl (hq _ g)
        · have y3 : c' = 41 := (nI_eq (b := 41) (by omega) (by decide)).mp (Decidable.not_not.mp hc3)
          rw [if_pos y3] at hq
          repeat (refine ev_s rfl (?_ : Ev _ _ _ _ _ _))
          refine ev_cv rfl (as := [.ref 24]) rfl rfl (Nat.le_of_ble_eq_true rfl) ?_
          refine r_closeList h hp (fun M1 g => ?_)
          show Ev _ _ _ _ [] _
          repeat (refine ev_s rfl (?_ : Ev _ _ _ _ _ _))
          exact ev_retv rfl rfl (hq _ g)
      · have y2 : c' = 39 := (nI_eq (b := 39) (by omega) (by decide)).mp (Decidable.not_not.mp hc2)
        rw [if_pos y2] at hq
        repeat (refine ev_s rfl (?_ : Ev _ _ _ _ _ _))
        refine ev_cv rfl (as := [.ref 24, .int (nI 2)]) rfl rfl (Nat.le_of_ble_eq_true rfl) ?_
        refine r_openOne h ⟨by decide, by decide⟩ hp (fun M1 g => ?_)
        show Ev _ _ _ _ [] _
        repeat (refine ev_s rfl (?_ : Ev _ _ _ _ _ _))
        exact ev_retv rfl rfl (hq _ g)
    · have y1 : c' = 40 := (nI_eq (b := 40) (by omega) (by decide)).mp (Decidable.not_not.mp hc1)
      rw [if_pos y1] at hq
      repeat (refine ev_s rfl (?_ : Ev _ _ _ _ _ _))
      refine ev_cv rfl (as := [.ref 24, .int (nI 3)]) rfl rfl (Nat.le_of_ble_eq_true rfl) ?_
      refine r_openOne h ⟨by decide, by decide⟩ hp (fun M1 g => ?_)
      show Ev _ _ _ _ [] _
      repeat (refine ev_s rfl (?_ : Ev _ _ _ _ _ _))
      exact ev_retv rfl rfl (hq _ g)
/-- behind a whole text -/
def PostW (lim : Nat) (fns : List (Option AV)) (M0 : PM) (r : (AV × List (List Nat) × AHp × Nat) ⊕ RF) (v : Int64) (M' : PM) : Prop := Same IDR M0 M' ∧ match r with
  | .inl (a, nm, H, n) => ∃ fr ψ, CoreA M' fr ψ nm.length lim H n (aS 0) (aS 0) (aS 0) fns [] [] [] ∧ SymIs M' nm ∧ M'.1 24 9 = 0 ∧ M'.1 24 10 = -1 ∧ 23 ≤ nm.length ∧ Tv fr ψ nm.length v a
  | .inr (c, pl, nm, H, n) => ∃ fr ψ, CoreA M' fr ψ nm.length lim H n (aS 0) (aS 0) (aS 0) fns [] [] [] ∧ SymIs M' nm ∧ M'.1 24 9 = nI c ∧ M'.1 24 10 = nI pl ∧ 23 ≤ nm.length ∧ 0 < c ∧ c < 14 ∧ pl ≤ 2000
theorem r_readWhole {d : Nat} (h : RdC l N lim fns M fr ψ H n p op pe wh nm) {Q : Option (Option Value) → PM → Prop} (hq : ∀ v M', PostW lim fns M (rAll lim fns (l.take N) 2000 (p, op, pe, wh, nm, H, n)) v M' → Q (some (some (.long v))) M') : SC (d + 7) 67 [.ref 24] M Q := by
  refine ⟨qX4_readWhole, rfl, ⟨Nat.le_of_ble_eq_true rfl, rfl, 24, _, _, rfl, rfl⟩, ?_⟩
  show Ev (BC (d + 6) qX4_readWhole) Q 0 [some (.ref 24), none] [] M
  have hlen := h.len
  have h2000 : N ≤ 2000 := by have := h.2.2.1.2.1; have := h.2.2.2.1; omega
  have dead : ∀ (j : Nat) (M1 : PM) (c pl n1 : Nat) (nm1 : List (List Nat)) (H1 : AHp), RdD lim fns M1 nm1 H1 n1 c pl → Same IDR M M1 → (∀ v M', PostW lim fns M (.inr (c, pl, nm1, H1, n1)) v M' → Q (some (some (.long v))) M') → Ev (BC (d + 6) qX4_readWhole) Q 37 [some (.ref 24), some (.int (nI j))] [] M1 := by
    intro j M1 c pl n1 nm1 H1 hD hs hq
    obtain ⟨⟨fr1, ψ1, pe1, d1⟩, d2, d3, d4, d5, d6, d7, d8⟩ := hD
    have cut : Ev (BC (d + 6) qX4_readWhole) Q 53 [some (.ref 24), some (.int (nI j))] [] M1 := by
      repeat (refine ev_s rfl (?_ : Ev _ _ _ _ _ _))
      refine ev_cv rfl (as := [.ref 11, .int (nI 0)]) rfl rfl (Nat.le_of_ble_eq_true rfl) ?_
      refine rowA_cut r_pend d1.2.2.2.2.2.2.1 (by omega) (fun M2 g1 g2 => ?_)
      show Ev _ _ _ _ [] _
      repeat (refine ev_s rfl (?_ : Ev _ _ _ _ _ _))
      refine ev_retl rfl rfl (hq _ _ ⟨(hs.tr g2).sub (by decide), fr1, ψ1, d1.setPe g2 (by decide) g1, d2.same g2 (by decide) (by decide) (by decide), ?_, ?_, d8, d5, d6, d7⟩)
      · rw [(g2 24 (by decide)).1]; exact d3
      · rw [(g2 24 (by decide)).1]; exact d4
    repeat (refine ev_s rfl (?_ : Ev _ _ _ _ _ _))
    refine ev_if rfl (fun hc => cut) (fun hc => ?_)
    repeat (refine ev_s rfl (?_ : Ev _ _ _ _ _ _))
    refine ev_cv rfl (as := [.ref 24, .int 1, .int (M1.1 24 8)]) rfl rfl (Nat.le_of_ble_eq_true rfl) ?_
    refine r_fail ?_
    have e : rfl9 1 (M1.1 24 8) M1 = M1 := if_neg (flt_ne d3 d5 d6)
    rw [e]
    show Ev _ _ _ _ [] _
    exact cut
  have fin : ∀ (j : Nat) (M1 : PM) (fr1 : List Nat) (ψ1 : Nat → Nat) (H1 : AHp) (n1 p1 : Nat) (op1 : List (Nat × Nat)) (pe1 : List AV) (wh1 : Option AV) (nm1 : List (List Nat)), RdC l N lim fns M1 fr1 ψ1 H1 n1 p1 op1 pe1 wh1 nm1 → Same IDR M M1 → (∀ v M', PostW lim fns M (match wh1 with
    | some a => .inl (a, nm1, H1, n1)
    | none => .inr (1, (l.take N).length, nm1, H1, n1)) v M' → Q (some (some (.long v))) M') → Ev (BC (d + 6) qX4_readWhole) Q 37 [some (.ref 24), some (.int (nI j))] [] M1 := by
    intro j M1 fr1 ψ1 H1 n1 p1 op1 pe1 wh1 nm1 hR hs hq
    obtain ⟨k1, k2, k3, k4, k5, k6, k7, k8, k9, k10, k11, k12, k13, k14, k15, k16⟩ := id hR
    cases wh1 with
    | none =>
      have hD := hR.flt (c := 1) (pl := N) (by decide) (by decide) h2000
      rw [hlen] at hq
      repeat (refine ev_s rfl (?_ : Ev _ _ _ _ _ _))
      rw [show M1.1 24 11 = 0 from k16]
      refine ev_ifF rfl (show ¬ ¬ (0 : Int32) = 0 by decide) ?_
      repeat (refine ev_s rfl (?_ : Ev _ _ _ _ _ _))
      rw [k7]
      refine ev_cv rfl (as := [.ref 24, .int 1, .int (nI N)]) rfl rfl (Nat.le_of_ble_eq_true rfl) ?_
      refine r_fail ?_
      show Ev _ _ _ _ [] _
      have hD2 := hD.2
      obtain ⟨⟨fr2, ψ2, pe2, d1⟩, d2, d3, d4, d5, d6, d7, d8⟩ := hD2
      repeat (refine ev_s rfl (?_ : Ev _ _ _ _ _ _))
      refine ev_cv rfl (as := [.ref 11, .int (nI 0)]) rfl rfl (Nat.le_of_ble_eq_true rfl) ?_
      refine rowA_cut r_pend d1.2.2.2.2.2.2.1 (by omega) (fun M2 g1 g2 => ?_)
      show Ev _ _ _ _ [] _
      repeat (refine ev_s rfl (?_ : Ev _ _ _ _ _ _))
      refine ev_retl rfl rfl (hq _ _ ⟨((hs.r hD.1).tr g2).sub (by decide), fr2, ψ2, d1.setPe g2 (by decide) g1, d2.same g2 (by decide) (by decide) (by decide), ?_, ?_, d8, d5, d6, d7⟩)
      · rw [(g2 24 (by decide)).1]; exact d3
      · rw [(g2 24 (by decide)).1]; exact d4
    | some a =>
      repeat (refine ev_s rfl (?_ : Ev _ _ _ _ _ _))
      rw [k16.1]
      refine ev_ifT rfl (show ¬ (1 : Int32) = 0 by decide) ?_
      repeat (refine ev_s rfl (?_ : Ev _ _ _ _ _ _))
      refine ev_cv rfl (as := [.ref 11, .int (nI 0)]) rfl rfl (Nat.le_of_ble_eq_true rfl) ?_
      refine rowA_cut r_pend k1.2.2.2.2.2.2.1 (by omega) (fun M2 g1 g2 => ?_)
      have e24 := g2 24 (by decide)
      show Ev _ _ _ _ [] _
      repeat (refine ev_s rfl (?_ : Ev _ _ _ _ _ _))
      refine ev_retl rfl rfl (hq _ _ ⟨(hs.tr g2).sub (by decide), fr1, ψ1, k1.setPe g2 (by decide) g1, k2.same g2 (by decide) (by decide) (by decide), ?_, ?_, k15, ?_⟩)
      · rw [e24.1]; exact k8
      · rw [e24.1]; exact k9
      · rw [e24.2]; exact k16.2.1
  have loop : ∀ (m j : Nat) (M1 : PM) (fr1 : List Nat) (ψ1 : Nat → Nat) (H1 : AHp) (n1 p1 : Nat) (op1 : List (Nat × Nat)) (pe1 : List AV) (wh1 : Option AV) (nm1 : List (List Nat)), j + m = 2000 → RdC l N lim fns M1 fr1 ψ1 H1 n1 p1 op1 pe1 wh1 nm1 → Same IDR M M1 → (∀ v M', PostW lim fns M (rAll lim fns (l.take N) m (p1, op1, pe1, wh1, nm1, H1, n1)) v M' → Q (some (some (.long v))) M') → Ev (BC (d + 6) qX4_readWhole) Q 2 [some (.ref 24), some (.int (nI j))] [] M1 := by
    intro m
    induction m with
    | zero =>
      intro j M1 fr1 ψ1 H1 n1 p1 op1 pe1 wh1 nm1 hj hR hs hq
      repeat (refine ev_s rfl (?_ : Ev _ _ _ _ _ _))
      refine ev_icT rfl (show (2000 : Int32) ≤ nI j from nI_le (a := 2000) (by omega) (by omega)) ?_
      unfold rAll at hq
      exact fin j M1 fr1 ψ1 H1 n1 p1 op1 pe1 wh1 nm1 hR hs hq
    | succ m ih =>
      intro j M1 fr1 ψ1 H1 n1 p1 op1 pe1 wh1 nm1 hj hR hs hq
      obtain ⟨k1, k2, k3, k4, k5, k6, k7, k8, k9, k10, k11, k12, k13, k14, k15, k16⟩ := id hR
      unfold rAll at hq
      repeat (refine ev_s rfl (?_ : Ev _ _ _ _ _ _))
      refine ev_icF rfl (show ¬ (2000 : Int32) ≤ nI j from fun h9 => by have := (nI_leI (a := 2000) (by decide) (by omega)).mp h9; omega) ?_
      repeat (refine ev_s rfl (?_ : Ev _ _ _ _ _ _))
      rw [k6, k7]
      refine ev_ic rfl (fun hc => ?_) (fun hc => ?_)
      · have hge := (nI_leI (by omega) (by omega)).mp hc
        rw [List.getElem?_eq_none (by rw [hlen]; exact hge)] at hq
        exact fin j M1 fr1 ψ1 H1 n1 p1 op1 pe1 wh1 nm1 hR hs hq
      have hlt : p1 < N := (nI_ltI (by omega) (by omega)).mp (Int32.not_le.mp hc)
      obtain ⟨c, c1, c2, c3, c4⟩ := hR.byte hlt
      rw [c1] at hq
      dsimp only at hq
      repeat (refine ev_s rfl (?_ : Ev _ _ _ _ _ _))
      rw [k8]
      refine ev_ifF rfl (show ¬ ¬ (0 : Int32) = 0 by decide) ?_
      repeat (refine ev_s rfl (?_ : Ev _ _ _ _ _ _))
      refine ev_cv rfl (as := [.ref 24]) rfl rfl (Nat.le_of_ble_eq_true rfl) ?_
      refine r_readToken hR hlt c1 (fun M2 g => ?_)
      generalize hrt : rTok lim fns (l.take N) c (p1, op1, pe1, wh1, nm1, H1, n1) = rt at *
      show Ev _ _ _ _ [] _
      iterate 2 (refine ev_s rfl (?_ : Ev _ _ _ _ _ _))
      rw [nI_1]
      cases rt with
      | inl s =>
        obtain ⟨p2, op2, pe2, wh2, nm2, H2, n2⟩ := s
        obtain ⟨g1, fr2, ψ2, g2⟩ := g
        exact ih (j + 1) M2 fr2 ψ2 H2 n2 p2 op2 pe2 wh2 nm2 (by omega) g2 (hs.r g1) hq
      | inr F =>
        obtain ⟨c2, pl2, nm2, H2, n2⟩ := F
        obtain ⟨g1, g2⟩ := g
        have go := dead (j + 1) M2 c2 pl2 n2 nm2 H2 g2 (hs.r g1) hq
        repeat (refine ev_s rfl (?_ : Ev _ _ _ _ _ _))
        refine ev_ic rfl (fun hc => go) (fun hc => ?_)
        repeat (refine ev_s rfl (?_ : Ev _ _ _ _ _ _))
        refine ev_ic rfl (fun hc => go) (fun hc => ?_)
        repeat (refine ev_s rfl (?_ : Ev _ _ _ _ _ _))
        refine ev_ifT rfl (show ¬ M2.1 24 9 = 0 from flt_ne g2.2.2.1 g2.2.2.2.2.1 g2.2.2.2.2.2.1) ?_
        exact go
  iterate 2 (refine ev_s rfl (?_ : Ev _ _ _ _ _ _))
  exact loop 2000 0 M fr ψ H n p op pe wh nm (by omega) h Same.rf hq
theorem r_readWhole_d {d c pl : Nat} (hD : RdD lim fns M nm H n c pl) {Q : Option (Option Value) → PM → Prop} (hq : ∀ v M', PostW lim fns M (.inr (c, pl, nm, H, n)) v M' → Q (some (some (.long v))) M') : SC (d + 7) 67 [.ref 24] M Q := by
  refine ⟨qX4_readWhole, rfl, ⟨Nat.le_of_ble_eq_true rfl, rfl, 24, _, _, rfl, rfl⟩, ?_⟩
  show Ev (BC (d + 6) qX4_readWhole) Q 0 [some (.ref 24), none] [] M
  obtain ⟨⟨fr1, ψ1, pe1, d1⟩, d2, d3, d4, d5, d6, d7, d8⟩ := hD
  have cut : Ev (BC (d + 6) qX4_readWhole) Q 53 [some (.ref 24), some (.int 0)] [] M := by
    repeat (refine ev_s rfl (?_ : Ev _ _ _ _ _ _))
    refine ev_cv rfl (as := [.ref 11, .int (nI 0)]) rfl rfl (Nat.le_of_ble_eq_true rfl) ?_
    refine rowA_cut r_pend d1.2.2.2.2.2.2.1 (by omega) (fun M2 g1 g2 => ?_)
    show Ev _ _ _ _ [] _
    repeat (refine ev_s rfl (?_ : Ev _ _ _ _ _ _))
    refine ev_retl rfl rfl (hq _ _ ⟨g2.sub (by decide), fr1, ψ1, d1.setPe g2 (by decide) g1, d2.same g2 (by decide) (by decide) (by decide), ?_, ?_, d8, d5, d6, d7⟩)
    · rw [(g2 24 (by decide)).1]; exact d3
    · rw [(g2 24 (by decide)).1]; exact d4
  have fin : Ev (BC (d + 6) qX4_readWhole) Q 37 [some (.ref 24), some (.int 0)] [] M := by
    repeat (refine ev_s rfl (?_ : Ev _ _ _ _ _ _))
    refine ev_if rfl (fun hc => cut) (fun hc => ?_)
    repeat (refine ev_s rfl (?_ : Ev _ _ _ _ _ _))
    refine ev_cv rfl (as := [.ref 24, .int 1, .int (M.1 24 8)]) rfl rfl (Nat.le_of_ble_eq_true rfl) ?_
    refine r_fail ?_
    have e : rfl9 1 (M.1 24 8) M = M := if_neg (flt_ne d3 d5 d6)
    rw [e]
    show Ev _ _ _ _ [] _
    exact cut
  repeat (refine ev_s rfl (?_ : Ev _ _ _ _ _ _))
  refine ev_icF rfl (show ¬ (2000 : Int32) ≤ 0 by decide) ?_
  repeat (refine ev_s rfl (?_ : Ev _ _ _ _ _ _))
  refine ev_ic rfl (fun hc => fin) (fun hc => ?_)
  repeat (refine ev_s rfl (?_ : Ev _ _ _ _ _ _))
  refine ev_ifT rfl (show ¬ M.1 24 9 = 0 from flt_ne d3 d5 d6) ?_
  exact fin
theorem r_begin {d : Nat} (hC : CoreA M fr ψ nm.length lim H n (aS 0) (aS 0) (aS 0) fns [] [] []) (hS : SymIs M nm) (hB : BytesIs M 2 3 l) (hN : N ≤ l.length) (h23 : 23 ≤ nm.length) {Q : Option (Option Value) → PM → Prop} (hq : ∀ M', RdC l N lim fns M' fr ψ H n 0 [] [] none nm → Same [24] M M' → Q (some none) M') : SC (d + 1) 65 [.ref 24, .int (nI N)] M Q := by
  refine ⟨qX4_begin, rfl, ⟨Nat.le_of_ble_eq_true rfl, rfl, 24, _, _, rfl, rfl⟩, ?_⟩
  show Ev (BC (d) qX4_begin) Q 0 [some (.ref 24), some (.int (nI N))] [] M
  repeat (refine ev_s rfl (?_ : Ev _ _ _ _ _ _))
  refine ev_s rfl ⟨rfl, rfl, ?_⟩
  repeat (refine ev_s rfl (?_ : Ev _ _ _ _ _ _))
  generalize hM' : mJ (mI (mI (mI (mI (mI (mI M 24 6 0) 24 7 0) 24 8 (nI N)) 24 9 0) 24 10 (-1)) 24 11 0) 24 12 0 = M'
  have hs : Same [24] M M' := by
    rw [← hM']
    exact ((((((Same.I.tr Same.I).tr Same.I).tr Same.I).tr Same.I).tr Same.I).tr Same.J).sub (by decide)
  have e : M'.1 24 6 = 0 ∧ M'.1 24 7 = 0 ∧ M'.1 24 8 = nI N ∧ M'.1 24 9 = 0 ∧ M'.1 24 10 = -1 ∧ M'.1 24 11 = 0 := by
    rw [← hM', mJ_1]
    refine ⟨?_, ?_, ?_, ?_, ?_, mI_at⟩
    · rw [mI_ne (Or.inr (by decide)), mI_ne (Or.inr (by decide)), mI_ne (Or.inr (by decide)), mI_ne (Or.inr (by decide)), mI_ne (Or.inr (by decide)), mI_at]
    · rw [mI_ne (Or.inr (by decide)), mI_ne (Or.inr (by decide)), mI_ne (Or.inr (by decide)), mI_ne (Or.inr (by decide)), mI_at]
    · rw [mI_ne (Or.inr (by decide)), mI_ne (Or.inr (by decide)), mI_ne (Or.inr (by decide)), mI_at]
    · rw [mI_ne (Or.inr (by decide)), mI_ne (Or.inr (by decide)), mI_at]
    · rw [mI_ne (Or.inr (by decide)), mI_at]
  refine ev_retv rfl rfl (hq _ ⟨hC.same hs (by decide), hS.same hs (by decide) (by decide) (by decide), hB.same hs (by decide) (by decide), hN, e.1, e.2.1, e.2.2.1, e.2.2.2.1, e.2.2.2.2.1, trivial, by decide, trivial, by omega, by decide, h23, e.2.2.2.2.2⟩ hs)
theorem r_fault {d : Nat} {Q : Option (Option Value) → PM → Prop} (hq : Q (some (some (.int (M.1 24 9)))) M) : SC (d + 1) 63 [.ref 24] M Q := by
  refine ⟨qX4_fault, rfl, ⟨Nat.le_of_ble_eq_true rfl, rfl, 24, _, _, rfl, rfl⟩, ?_⟩
  show Ev (BC (d) qX4_fault) Q 0 [some (.ref 24)] [] M
  repeat (refine ev_s rfl (?_ : Ev _ _ _ _ _ _))
  exact ev_reti rfl rfl trivial rfl hq
theorem r_faultPlace {d : Nat} {Q : Option (Option Value) → PM → Prop} (hq : Q (some (some (.int (M.1 24 10)))) M) : SC (d + 1) 64 [.ref 24] M Q := by
  refine ⟨qX4_faultPlace, rfl, ⟨Nat.le_of_ble_eq_true rfl, rfl, 24, _, _, rfl, rfl⟩, ?_⟩
  show Ev (BC (d) qX4_faultPlace) Q 0 [some (.ref 24)] [] M
  repeat (refine ev_s rfl (?_ : Ev _ _ _ _ _ _))
  exact ev_reti rfl rfl trivial rfl hq
theorem rSym_old {t : List Nat} {p k q : Nat} {nm nm' : List (List Nat)} (h : rSym t p nm = .inl (k, q, nm')) (hk : k ≤ 7) (h23 : 23 ≤ nm.length) : nm' = nm := by
  unfold rSym at h
  split at h
  · split at h
    · cases h; rfl
    · split at h
      · cases h; omega
      · cases h
  · cases h
theorem r_readName {d : Nat} (h : RdC l N lim fns M fr ψ H n 0 [] [] none nm) {Q : Option (Option Value) → PM → Prop}
    (hS : ∀ k q nm' M', rName (l.take N) nm = .inl (k, q, nm') → RdC l N lim fns M' fr ψ H n q [] [] none nm' → 7 < k → k < nm'.length → nm'.length ≤ 300 → Same IDR M M' → Q (some (some (.int (nI k)))) M')
    (hF : ∀ c pl x M', rName (l.take N) nm = .inr (c, pl) → PostR l N lim fns M (.inr (c, pl, nm, H, n)) M' → Q (some (some (.int x))) M') : SC (d + 5) 66 [.ref 24] M Q := by
  refine ⟨qX4_readName, rfl, ⟨Nat.le_of_ble_eq_true rfl, rfl, 24, _, _, rfl, rfl⟩, ?_⟩
  show Ev (BC (d + 4) qX4_readName) Q 0 [some (.ref 24), none, none] [] M
  have hlen := h.len
  have h2000 : N ≤ 2000 := by have := h.2.2.1.2.1; have := h.2.2.2.1; omega
  have h23 := h.2.2.2.2.2.2.2.2.2.2.2.2.2.2.1
  have fin : ∀ (M1 : PM), RdC l N lim fns M1 fr ψ H n (spanE isBl (l.take N) 0) [] [] none nm → Same [24] M M1 → Ev (BC (d + 4) qX4_readName) Q 41 [some (.ref 24), none, none] [] M1 := by
    intro M1 hR hs
    generalize hqq : spanE isBl (l.take N) 0 = q at *
    obtain ⟨k1, k2, k3, k4, k5, k6, k7, k8, k9, k10, k11, k12, k13, k14, k15, k16⟩ := id hR
    have bad : rName (l.take N) nm = .inr (1, q) → Ev (BC (d + 4) qX4_readName) Q 74 [some (.ref 24), some (.int (nI q)), none] [] M1 := fun h9 => by
      repeat (refine ev_s rfl (?_ : Ev _ _ _ _ _ _))
      refine ev_cv rfl (as := [.ref 24, .int 1, .int (nI q)]) rfl rfl (Nat.le_of_ble_eq_true rfl) ?_
      refine r_fail ?_
      show Ev _ _ _ _ [] _
      repeat (refine ev_s rfl (?_ : Ev _ _ _ _ _ _))
      exact ev_reti rfl rfl trivial rfl (hF 1 q _ _ h9 ((hR.flt (c := 1) (by decide) (by decide) (by omega)).from hs (by decide)))
    repeat (refine ev_s rfl (?_ : Ev _ _ _ _ _ _))
    rw [k6, k7]
    refine ev_ic rfl (fun hc => ?_) (fun hc => ?_)
    · have hge := (nI_leI (by omega) (by omega)).mp hc
      refine bad ?_
      unfold rName
      rw [hqq, List.getElem?_eq_none (by rw [hlen]; exact hge)]
    have hlt : q < N := (nI_ltI (by omega) (by omega)).mp (Int32.not_le.mp hc)
    obtain ⟨c, c1, c2, c3, c4⟩ := hR.byte hlt
    repeat (refine ev_s rfl (?_ : Ev _ _ _ _ _ _))
    rw [k6]
    refine ev_cv rfl (as := [.ref 2, .int (nI q)]) rfl rfl (Nat.le_of_ble_eq_true rfl) ?_
    refine bytes_at b_tape k3 ?_
    rw [c3]
    show Ev _ _ _ _ [.int (nI c)] _
    refine ev_cs rfl (by decide) (by decide) (as := [.int (nI c)]) rfl rfl (Nat.le_of_ble_eq_true rfl) ?_
    refine r_isLetter c2 ?_
    cases hl : isLt c with
    | false =>
      show Ev _ _ _ _ [.int 0] _
      refine ev_ifF rfl (show ¬ ¬ (0 : Int32) = 0 by decide) ?_
      refine bad ?_
      unfold rName
      rw [hqq, c1]
      dsimp only
      rw [hl]
      rfl
    | true =>
      have en : rName (l.take N) nm = (match rSym (l.take N) q nm with
        | .inl (k, q', nm') => if k ≤ 7 then .inr (1, q) else .inl (k, q', nm')
        | .inr f => .inr (f, q)) := by
        unfold rName
        rw [hqq, c1]
        dsimp only
        rw [hl]
        rfl
      show Ev _ _ _ _ [.int 1] _
      refine ev_ifT rfl (show ¬ (1 : Int32) = 0 by decide) ?_
      repeat (refine ev_s rfl (?_ : Ev _ _ _ _ _ _))
      refine ev_cv rfl (as := [.ref 24]) rfl rfl (Nat.le_of_ble_eq_true rfl) ?_
      refine r_readSymbol hR (fun k q' nm' M2 e g1 g2 g3 g4 => ?_) (fun f M2 e g1 g2 g3 => ?_)
      · rw [e] at en
        dsimp only at en
        show Ev _ _ _ _ [.int (nI k)] _
        repeat (refine ev_s rfl (?_ : Ev _ _ _ _ _ _))
        refine ev_ifF rfl (show ¬ nI k < 0 from Int32.not_lt.mpr (nI_pos' (by omega))) ?_
        repeat (refine ev_s rfl (?_ : Ev _ _ _ _ _ _))
        refine ev_ic rfl (fun hc7 => ?_) (fun hc7 => ?_)
        · have h7 : 7 < k := (nI_ltI (a := 7) (by decide) (by omega)).mp hc7
          rw [if_neg (by omega)] at en
          repeat (refine ev_s rfl (?_ : Ev _ _ _ _ _ _))
          exact ev_reti rfl rfl trivial rfl (hS k q' nm' M2 en g1 h7 g2 g3 ((hs.tr g4).sub (by decide)))
        · have h7 : k ≤ 7 := (nI_leI (b := 7) (by omega) (by decide)).mp (Int32.not_lt.mp hc7)
          rw [if_pos h7] at en
          have enm := rSym_old e h7 h23
          subst enm
          repeat (refine ev_s rfl (?_ : Ev _ _ _ _ _ _))
          refine ev_cv rfl (as := [.ref 24, .int 1, .int (nI q)]) rfl rfl (Nat.le_of_ble_eq_true rfl) ?_
          refine r_fail ?_
          show Ev _ _ _ _ [] _
          repeat (refine ev_s rfl (?_ : Ev _ _ _ _ _ _))
          exact ev_reti rfl rfl trivial rfl (hF 1 q _ _ en ((g1.flt (c := 1) (pl := q) (by decide) (by decide) (by omega)).from (hs.tr g4) (by decide)))
      · rw [e] at en
        dsimp only at en
        show Ev _ _ _ _ [.int (-1)] _
        repeat (refine ev_s rfl (?_ : Ev _ _ _ _ _ _))
        refine ev_ifT rfl (show (-1 : Int32) < 0 by decide) ?_
        repeat (refine ev_s rfl (?_ : Ev _ _ _ _ _ _))
        exact ev_reti rfl rfl trivial rfl (hF f q _ _ en (g1.from hs (by decide)))
  have loop : ∀ (m q : Nat) (M1 : PM), N - q < m → q ≤ N → spanE isBl (l.take N) q = spanE isBl (l.take N) 0 → RdC l N lim fns M1 fr ψ H n q [] [] none nm → Same [24] M M1 → Ev (BC (d + 4) qX4_readName) Q 0 [some (.ref 24), none, none] [] M1 := by
    intro m
    induction m with
    | zero => intro q M1 h9; omega
    | succ m ih =>
      intro q M1 hm hqN hsp hR hs
      obtain ⟨k1, k2, k3, k4, k5, k6, k7, k8, k9, k10, k11, k12, k13, k14, k15, k16⟩ := id hR
      have stop : spanE isBl (l.take N) q = q → Ev (BC (d + 4) qX4_readName) Q 41 [some (.ref 24), none, none] [] M1 := fun h9 => by
        refine fin M1 ?_ hs
        rw [← hsp, h9]; exact hR
      repeat (refine ev_s rfl (?_ : Ev _ _ _ _ _ _))
      rw [k6, k7]
      refine ev_ic rfl (fun hc => ?_) (fun hc => ?_)
      · have hge := (nI_leI (by omega) (by omega)).mp hc
        exact stop (spanE_end (by rw [hlen]; exact hge))
      have hlt : q < N := (nI_ltI (by omega) (by omega)).mp (Int32.not_le.mp hc)
      obtain ⟨c, c1, c2, c3, c4⟩ := hR.byte hlt
      repeat (refine ev_s rfl (?_ : Ev _ _ _ _ _ _))
      rw [k6]
      refine ev_cv rfl (as := [.ref 2, .int (nI q)]) rfl rfl (Nat.le_of_ble_eq_true rfl) ?_
      refine bytes_at b_tape k3 ?_
      rw [c3]
      show Ev _ _ _ _ [.int (nI c)] _
      refine ev_cs rfl (by decide) (by decide) (as := [.int (nI c)]) rfl rfl (Nat.le_of_ble_eq_true rfl) ?_
      refine r_isBlank c2 ?_
      cases hb : isBl c with
      | true =>
        show Ev _ _ _ _ [.int 1] _
        refine ev_ifF rfl (show ¬ (1 : Int32) = 0 by decide) ?_
        iterate 7 (refine ev_s rfl (?_ : Ev _ _ _ _ _ _))
        rw [k6, nI_1]
        exact ih (q + 1) _ (by omega) (by omega) ((spanE_go c1 hb).symm.trans hsp) (hR.at (by omega) (by omega)) ((hs.tr Same.I).sub (by decide))
      | false =>
        show Ev _ _ _ _ [.int 0] _
        refine ev_ifT rfl (show (0 : Int32) = 0 from rfl) ?_
        exact stop (spanE_no c1 hb)
  exact loop (N + 1) 0 M (by omega) (by omega) rfl h Same.rf
end RD5

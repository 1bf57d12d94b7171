/-! apply. -/
theorem row_addF {d r a n : Nat} (hr : isRow r a n) {v : Int64} {M : PM} {l : List Int64} (hR : RowIs M r a n l) (hi : l.length = n) {Q : Option (Option Value) → PM → Prop} (h : Q (some none) M) : SC (d + 1) 86 [.ref r, .long v] M Q := by
  refine ⟨qX6_add, rfl, ⟨Nat.le_of_ble_eq_true rfl, rfl, r, _, _, rfl, hr.1⟩, ?_⟩
  show Ev (BC d qX6_add) Q 0 [some (.ref r), some (.long v), none] [] M
  have hn := hr.2.2.1
  refine ev_s rfl (?_ : Ev _ _ _ _ _ _)
  refine ev_getI rfl hr.1 rfl ?_
  refine ev_s rfl (?_ : Ev _ _ _ _ _ _)
  refine ev_getR rfl hr.1 rfl ?_
  refine ev_alen rfl hr.2.1 ?_
  rw [hR.1]
  refine ev_icT rfl (nI_le (a := n) (by omega) (by omega)) ?_
  exact ev_retv rfl rfl h
section APPLY
variable {M : PM} {fr : List Nat} {ψ : Nat → Nat} {ns lim : Nat} {H : AHp} {nid : Nat} {x e f : AV} {fns : List (Option AV)} {ha pe sk : List AV} {frs : List AF} {fl mo : Nat}
theorem rowF_at {d : Nat} (h : RowF M fr ψ ns fns) {k : Nat} (hk : k < 300) {Q : Option (Option Value) → PM → Prop} (hN : (fns[k]?).getD none = none → Q (some (some (.long (-1)))) M) (hS : ∀ b w, (fns[k]?).getD none = some b → Tv fr ψ ns w b → Q (some (some (.long w))) M) : SC (d + 1) 84 [.ref 9, .int (nI k)] M Q := by
  obtain ⟨l, k1, k2, k3⟩ := h
  refine row_at r_fun k1 ?_
  rw [rowAt_nI (by omega)]
  have e1 : fns[k]? = (l[k]?).map (fd ψ) := by rw [k2, List.getElem?_map]
  cases hl : l[k]? with
  | none =>
    rw [hl] at e1
    exact hN (by rw [e1]; rfl)
  | some v =>
    rw [hl] at e1
    show Q (some (some (.long v))) M
    have e2 : (fns[k]?).getD none = fd ψ v := by rw [e1]; rfl
    have hm : v ∈ l := List.mem_of_getElem? hl
    by_cases hv : v = -1
    · subst hv
      exact hN (by rw [e2]; rfl)
    · exact hS (dv ψ v) v (by rw [e2]; exact if_neg hv) ⟨(k3 v hm).resolve_left hv, rfl⟩
theorem m_applySymbol {d : Nat} {s : Int64} {k : Nat} (hL : LiveA M fr ψ ns lim H nid x e (aS k) fns ha frs fl mo) (hn : M.1 27 11 = 3) (hs : Tv fr ψ ns s (aS k)) (hb : (fns[k]?).getD none = none → ¬ (8 ≤ k ∧ k ≤ 22)) {Q : Option (Option Value) → PM → Prop} (h : ∀ M', PostM ns lim fns M (aApply lim fns x e (aS k) ha frs fl mo H nid) M' → Q (some none) M') : SC (d + 4) 47 [.ref 27, .long s] M Q := by
  refine ⟨qX2_applySymbol, rfl, ⟨Nat.le_of_ble_eq_true rfl, rfl, 27, _, _, rfl, rfl⟩, ?_⟩
  show Ev (BC (d + 3) qX2_applySymbol) Q 0 [some (.ref 27), some (.long s), none, none, none] [] M
  obtain ⟨es, h300, -⟩ := hs.isS
  have ok : ∀ (M1 : PM) (b : AV) (w : Int64) (fl' : Nat), LiveA M1 fr ψ ns lim H nid x e (aS k) fns ha frs fl' mo → M1.1 27 11 = 3 → Same [27] M M1 → Tv fr ψ ns w b → aApply lim fns x e (aS k) ha frs fl mo H nid = aAp x e b ha frs fl' mo H nid → Ev (BC (d + 3) qX2_applySymbol) Q 27 [some (.ref 27), some (.long s), none, some (.long w), none] [] M1 := by
    intro M1 b w fl' hL1 h11 hs1 hw he
    repeat (refine ev_s rfl (?_ : Ev _ _ _ _ _ _))
    refine ev_lifT rfl (show ¬ w = -1 from hw.miss) ?_
    repeat (refine ev_s rfl (?_ : Ev _ _ _ _ _ _))
    refine ev_retv rfl rfl (h _ ?_)
    rw [he]
    exact ⟨(hs1.tr Same.J).sub (by decide), fr, ψ, hL1.core (hL1.1.setF hw) Same.J (by decide), by rw [mJ_1]; exact h11, fun h9 => by omega⟩
  repeat (refine ev_s rfl (?_ : Ev _ _ _ _ _ _))
  rw [es, lN_i32, ← es]
  refine ev_cv rfl (as := [.ref 9, .int (nI k)]) rfl rfl (Nat.le_of_ble_eq_true rfl) ?_
  refine rowF_at hL.1.2.2.2.2.2.1 h300 (fun hN => ?_) (fun b w hb hw => ?_)
  · have ea : aApply lim fns x e (aS k) ha frs fl mo H nid = match aLook H (aS k) fl e with
        | (.inl c, fl') => aFl c fl' mo H nid
        | (.inr none, fl') => aFl 10 fl' mo H nid
        | (.inr (some v), fl') => aAp x e v ha frs fl' mo H nid := by
      unfold aApply
      dsimp only
      rw [hN]
      exact if_neg (hb hN)
    show Ev _ _ _ _ [.long (-1)] _
    repeat (refine ev_s rfl (?_ : Ev _ _ _ _ _ _))
    refine ev_lifF rfl (show ¬ ¬ (-1 : Int64) = -1 from fun h9 => h9 rfl) ?_
    repeat (refine ev_s rfl (?_ : Ev _ _ _ _ _ _))
    refine ev_cv rfl (as := [.ref 27, .long s]) rfl rfl (Nat.le_of_ble_eq_true rfl) ?_
    refine m_lookUp hL hs (fun c fl' M' q1 q2 q3 q4 => ?_) (fun fl' M' q1 q2 q3 => ?_) (fun b w fl' M' q1 q2 q3 q4 q5 => ?_)
    · rw [q1] at ea
      show Ev _ _ _ _ [.long (-1)] _
      repeat (refine ev_s rfl (?_ : Ev _ _ _ _ _ _))
      refine ev_lifF rfl (show ¬ ¬ (-1 : Int64) = -1 from fun h9 => h9 rfl) ?_
      repeat (refine ev_s rfl (?_ : Ev _ _ _ _ _ _))
      refine ev_cv rfl (as := [.ref 27, .int 10]) rfl rfl (Nat.le_of_ble_eq_true rfl) ?_
      refine m_fail ?_
      rw [failM_dead q3]
      show Ev _ _ _ _ [] _
      repeat (refine ev_s rfl (?_ : Ev _ _ _ _ _ _))
      refine ev_retv rfl rfl (h M' ?_)
      rw [ea]
      exact ⟨q2.sub (by decide), q4⟩
    · rw [q1] at ea
      show Ev _ _ _ _ [.long (-1)] _
      repeat (refine ev_s rfl (?_ : Ev _ _ _ _ _ _))
      refine ev_lifF rfl (show ¬ ¬ (-1 : Int64) = -1 from fun h9 => h9 rfl) ?_
      repeat (refine ev_s rfl (?_ : Ev _ _ _ _ _ _))
      refine ev_cv rfl (as := [.ref 27, .int 10]) rfl rfl (Nat.le_of_ble_eq_true rfl) ?_
      refine m_fail ?_
      show Ev _ _ _ _ [] _
      repeat (refine ev_s rfl (?_ : Ev _ _ _ _ _ _))
      refine ev_retv rfl rfl (h _ ?_)
      rw [ea]
      exact (q3.flt (c := 10) (by decide) (by decide)).of q2 (by decide)
    · rw [q1] at ea
      show Ev _ _ _ _ [.long w] _
      iterate 1 (refine ev_s rfl (?_ : Ev _ _ _ _ _ _))
      exact ok M' b w fl' q3 (q5.trans hn) q2 q4 ea
  · show Ev _ _ _ _ [.long w] _
    repeat (refine ev_s rfl (?_ : Ev _ _ _ _ _ _))
    refine ev_lifT rfl (show ¬ w = -1 from hw.miss) ?_
    refine ok M b w fl hL hn Same.rf hw ?_
    unfold aApply
    dsimp only
    rw [hb]
theorem m_askVariable {d : Nat} {v : Int64} {a : AV} (hv : Tv fr ψ ns v a) {Q : Option (Option Value) → PM → Prop} (h1 : aVar a → Q (some none) M) (h0 : ¬ aVar a → Q (some none) (failM 5 M)) : SC (d + 2) 50 [.ref 27, .long v] M Q := by
  refine ⟨qX2_askVariable, rfl, ⟨Nat.le_of_ble_eq_true rfl, rfl, 27, _, _, rfl, rfl⟩, ?_⟩
  show Ev (BC (d + 1) qX2_askVariable) Q 0 [some (.ref 27), some (.long v), none] [] M
  have bad : ¬ aVar a → Ev (BC (d + 1) qX2_askVariable) Q 19 [some (.ref 27), some (.long v), none] [] M := fun h9 => by
    repeat (refine ev_s rfl (?_ : Ev _ _ _ _ _ _))
    refine ev_cv rfl (as := [.ref 27, .int 5]) rfl rfl (Nat.le_of_ble_eq_true rfl) ?_
    refine m_fail ?_
    show Ev _ _ _ _ [] _
    exact ev_retv rfl rfl (h0 h9)
  repeat (refine ev_s rfl (?_ : Ev _ _ _ _ _ _))
  refine ev_cs rfl (by decide) (by decide) (as := [.long v]) rfl rfl (Nat.le_of_ble_eq_true rfl) ?_
  refine v_isSymbol (fun hc => ?_) (fun hc => ?_)
  · obtain ⟨k, rfl⟩ := hv.sym.mp hc
    show Ev _ _ _ _ [.int 1] _
    refine ev_ifF rfl (show ¬ (1 : Int32) = 0 by decide) ?_
    repeat (refine ev_s rfl (?_ : Ev _ _ _ _ _ _))
    refine ev_lif rfl (fun hc => bad ?_) (fun hc => ?_)
    · have := (hv.eqS (k := 0) (by decide)).mp hc
      cases this
      rintro ⟨j, j1, j2⟩
      cases j2
      omega
    repeat (refine ev_s rfl (?_ : Ev _ _ _ _ _ _))
    refine ev_lif rfl (fun hc1 => ?_) (fun hc1 => bad ?_)
    · have g0 : k ≠ 0 := fun h9 => hc ((hv.eqS (k := 0) (by decide)).mpr (by rw [h9]))
      have g1 : k ≠ 1 := fun h9 => hc1 ((hv.eqS (k := 1) (by decide)).mpr (by rw [h9]))
      exact ev_retv rfl rfl (h1 ⟨k, by omega, rfl⟩)
    · have := (hv.eqS (k := 1) (by decide)).mp (Decidable.not_not.mp hc1)
      cases this
      rintro ⟨j, j1, j2⟩
      cases j2
      omega
  · show Ev _ _ _ _ [.int 0] _
    refine ev_ifT rfl (show (0 : Int32) = 0 from rfl) ?_
    refine bad ?_
    rintro ⟨j, j1, rfl⟩
    exact hc (hv.sym.mpr ⟨j, rfl⟩)
theorem m_askVariable_d {d : Nat} {v : Int64} (hD : Dd M) {Q : Option (Option Value) → PM → Prop} (h : Q (some none) M) : SC (d + 2) 50 [.ref 27, .long v] M Q := by
  refine ⟨qX2_askVariable, rfl, ⟨Nat.le_of_ble_eq_true rfl, rfl, 27, _, _, rfl, rfl⟩, ?_⟩
  show Ev (BC (d + 1) qX2_askVariable) Q 0 [some (.ref 27), some (.long v), none] [] M
  have bad : Ev (BC (d + 1) qX2_askVariable) Q 19 [some (.ref 27), some (.long v), none] [] M := by
    repeat (refine ev_s rfl (?_ : Ev _ _ _ _ _ _))
    refine ev_cv rfl (as := [.ref 27, .int 5]) rfl rfl (Nat.le_of_ble_eq_true rfl) ?_
    refine m_fail ?_
    rw [failM_dead hD]
    show Ev _ _ _ _ [] _
    exact ev_retv rfl rfl h
  repeat (refine ev_s rfl (?_ : Ev _ _ _ _ _ _))
  refine ev_cs rfl (by decide) (by decide) (as := [.long v]) rfl rfl (Nat.le_of_ble_eq_true rfl) ?_
  refine v_isSymbol (fun hc => ?_) (fun hc => ?_)
  · show Ev _ _ _ _ [.int 1] _
    refine ev_ifF rfl (show ¬ (1 : Int32) = 0 by decide) ?_
    repeat (refine ev_s rfl (?_ : Ev _ _ _ _ _ _))
    refine ev_lif rfl (fun hc => bad) (fun hc => ?_)
    repeat (refine ev_s rfl (?_ : Ev _ _ _ _ _ _))
    refine ev_lif rfl (fun hc1 => ?_) (fun hc1 => bad)
    exact ev_retv rfl rfl h
  · show Ev _ _ _ _ [.int 0] _
    refine ev_ifT rfl (show (0 : Int32) = 0 from rfl) ?_
    exact bad
theorem DeadA.vars {c : Nat} (h : DeadA M ns lim fns c fl mo H nid) {M' : PM} (hs : Same [28, 29] M M') (hv : ∃ vl, RowIs M' 28 29 10 vl) : DeadA M' ns lim fns c fl mo H nid := by
  obtain ⟨⟨fr, ψ, h1, h2, h3, h4⟩, ⟨ha, h5⟩, ⟨sk, h6⟩, h7, h8, h9, h10, -, h12⟩ := h
  have e27 := (hs 27 (by decide)).1
  exact ⟨⟨fr, ψ, h1.same hs (by decide), h2, h3.same hs (by decide) (by decide), h4.same hs (by decide) (by decide)⟩, ⟨ha, h5.same hs (by decide) (by decide)⟩, ⟨sk, h6.same hs (by decide) (by decide)⟩, by rw [e27]; exact h7, by rw [e27]; exact h8, by rw [e27]; exact h9, by rw [e27]; exact h10, hv, h12⟩
/-- a row's add, whatever its length -/
theorem row_addX {d r a n : Nat} (hr : isRow r a n) {v : Int64} {l : List Int64} (hR : RowIs M r a n l) {Q : Option (Option Value) → PM → Prop} (h : ∀ M' l', RowIs M' r a n l' → (l.length < n → l' = l ++ [v]) → Same [r, a] M M' → Q (some none) M') : SC (d + 1) 86 [.ref r, .long v] M Q := by
  by_cases hl : l.length < n
  · exact row_add hr hR hl (fun M' g1 g2 => h M' _ g1 (fun _ => rfl) g2)
  · exact row_addF hr hR (by have := hR.2.1; omega) (h M l hR (fun h9 => (hl h9).elim) Same.rf)
/-- the codes of variables -/
def VarsIs (M : PM) (ns : Nat) (vars : List AV) : Prop := ∃ vl, RowIs M 28 29 10 vl ∧ (vars.length ≤ 10 → vl.length = vars.length ∧ ∀ (j : Nat) (v : Int64), vl[j]? = some v → ∃ k, k < ns ∧ k < 300 ∧ v = lN k ∧ vars[j]? = some (aS k))
theorem lookAt_dl {d : Nat} {v : Int64} {c : Nat} {Q : Option (Option Value) → PM → Prop} : ∀ (n j : Nat) (M : PM) (w : Int64) (z1 z2 : Option Value), 2000 - j < n → j ≤ 2000 → Dd M → DeadA M ns lim fns c fl mo H nid → (∀ n M', Dd M' → DeadA M' ns lim fns c fl mo H nid → Same [28, 29] M M' → Q (some (some (.int n))) M') →
    Ev (BC (d + 2) qX2_lookAtVariables) Q 13 [some (.ref 27), some (.long v), none, some (.int (nI j)), some (.long w), none, z1, z2] [] M := by
  intro n
  induction n with
  | zero => intro j M w z1 z2 h; omega
  | succ n ih =>
    intro j M w z1 z2 hn hj hD hA h
    have out : ∀ z1 z2 : Option Value, Ev (BC (d + 2) qX2_lookAtVariables) Q 71 [some (.ref 27), some (.long v), none, some (.int (nI j)), some (.long w), none, z1, z2] [] M := fun z1 z2 => by
      repeat (refine ev_s rfl (?_ : Ev _ _ _ _ _ _))
      refine ev_lif rfl (fun hc => ?_) (fun hc => ?_)
      · repeat (refine ev_s rfl (?_ : Ev _ _ _ _ _ _))
        exact ev_reti rfl rfl trivial rfl (h _ M hD hA Same.rf)
      · repeat (refine ev_s rfl (?_ : Ev _ _ _ _ _ _))
        refine ev_cv rfl (as := [.ref 27, .int 5]) rfl rfl (Nat.le_of_ble_eq_true rfl) ?_
        refine m_fail ?_
        rw [failM_dead hD]
        show Ev _ _ _ _ [] _
        repeat (refine ev_s rfl (?_ : Ev _ _ _ _ _ _))
        exact ev_reti rfl rfl trivial rfl (h _ M hD hA Same.rf)
    repeat (refine ev_s rfl (?_ : Ev _ _ _ _ _ _))
    refine ev_ic rfl (fun hc => out _ _) (fun hc => ?_)
    have hj2 : j < 2000 := (nI_ltI (b := 2000) (by omega) (by decide)).mp (Int32.not_le.mp hc)
    repeat (refine ev_s rfl (?_ : Ev _ _ _ _ _ _))
    refine ev_cs rfl (by decide) (by decide) (as := [.long w]) rfl rfl (Nat.le_of_ble_eq_true rfl) ?_
    refine v_isCell (fun hc => ?_) (fun hc => ?_)
    · show Ev _ _ _ _ [.int 1] _
      refine ev_ifF rfl (show ¬ (1 : Int32) = 0 by decide) ?_
      repeat (refine ev_s rfl (?_ : Ev _ _ _ _ _ _))
      refine ev_cv rfl (as := [.ref 17, .long w]) rfl rfl (Nat.le_of_ble_eq_true rfl) ?_
      refine cell_head hc ?_
      show Ev _ _ _ _ [.long (M.2 19 (cix w))] _
      repeat (refine ev_s rfl (?_ : Ev _ _ _ _ _ _))
      refine ev_cv rfl (as := [.ref 27, .long (M.2 19 (cix w))]) rfl rfl (Nat.le_of_ble_eq_true rfl) ?_
      refine m_askVariable_d hD ?_
      show Ev _ _ _ _ [] _
      repeat (refine ev_s rfl (?_ : Ev _ _ _ _ _ _))
      refine ev_cv rfl (as := [.ref 28, .long (M.2 19 (cix w))]) rfl rfl (Nat.le_of_ble_eq_true rfl) ?_
      obtain ⟨vl, hvl⟩ := hA.2.2.2.2.2.2.2.1
      refine row_addX r_var hvl (fun M1 l' g1 _ g2 => ?_)
      have hD1 : Dd M1 := by unfold Dd; rw [(g2 27 (by decide)).1]; exact hD
      show Ev _ _ _ _ [] _
      repeat (refine ev_s rfl (?_ : Ev _ _ _ _ _ _))
      refine ev_cv rfl (as := [.ref 17, .long w]) rfl rfl (Nat.le_of_ble_eq_true rfl) ?_
      refine cell_tail hc ?_
      show Ev _ _ _ _ [.long (M1.2 20 (cix w))] _
      iterate 3 (refine ev_s rfl (?_ : Ev _ _ _ _ _ _))
      rw [nI_1]
      exact ih (j + 1) M1 _ _ _ (by omega) (by omega) hD1 (hA.vars g2 ⟨l', g1⟩) (fun n M' k1 k2 k3 => h n M' k1 k2 ((g2.tr k3).sub (by decide)))
    · show Ev _ _ _ _ [.int 0] _
      refine ev_ifT rfl (show (0 : Int32) = 0 from rfl) ?_
      exact out _ _
theorem m_lookAt_d {d : Nat} {v : Int64} {c : Nat} (hD : Dd M) (hA : DeadA M ns lim fns c fl mo H nid) {Q : Option (Option Value) → PM → Prop} (h : ∀ n M', Dd M' → DeadA M' ns lim fns c fl mo H nid → Same [28, 29] M M' → Q (some (some (.int n))) M') : SC (d + 3) 49 [.ref 27, .long v] M Q := by
  refine ⟨qX2_lookAtVariables, rfl, ⟨Nat.le_of_ble_eq_true rfl, rfl, 27, _, _, rfl, rfl⟩, ?_⟩
  show Ev (BC (d + 2) qX2_lookAtVariables) Q 0 [some (.ref 27), some (.long v), none, none, none, none, none, none] [] M
  repeat (refine ev_s rfl (?_ : Ev _ _ _ _ _ _))
  obtain ⟨vl, hvl⟩ := hA.2.2.2.2.2.2.2.1
  refine ev_cv rfl (as := [.ref 28, .int (nI 0)]) rfl rfl (Nat.le_of_ble_eq_true rfl) ?_
  refine row_cut r_var hvl (Nat.zero_le _) (fun M1 g1 g2 => ?_)
  have g3 : Same [28, 29] M M1 := g2.sub (by decide)
  have hD1 : Dd M1 := by unfold Dd; rw [(g2 27 (by decide)).1]; exact hD
  show Ev _ _ _ _ [] _
  iterate 4 (refine ev_s rfl (?_ : Ev _ _ _ _ _ _))
  exact lookAt_dl 2001 0 M1 v _ _ (by omega) (by omega) hD1 (hA.vars g3 ⟨_, g1⟩) (fun n M' k1 k2 k3 => h n M' k1 k2 ((g3.tr k3).sub (by decide)))
theorem LiveA.vars (h : LiveA M fr ψ ns lim H nid x e f fns ha frs fl mo) {M' : PM} (hs : Same [28, 29] M M') (hv : ∃ vl, RowIs M' 28 29 10 vl) : LiveA M' fr ψ ns lim H nid x e f fns ha frs fl mo := by
  obtain ⟨hC, k6, k7, k8, k10, kb, kf, k200, kn, -⟩ := h
  have e27 := (hs 27 (by decide)).1
  exact ⟨hC.same hs (by decide), by rw [e27]; exact k6, by rw [e27]; exact k7, by rw [e27]; exact k8, by rw [e27]; exact k10, kb.congr (fun i _ => by rw [(hs 30 (by decide)).1]), kf, k200, kn, hv⟩
theorem aVars_C {m i : Nat} : aVars H (m + 1) (aC i) = if @decide (aVar (H i).1) (Classical.propDecidable _) then (aVars H m (H i).2).map ((H i).1 :: ·) else none := rfl
theorem aVars_nil {m : Nat} : aVars H (m + 1) (aS 0) = some [] := rfl
theorem aVars_bad {m : Nat} {b : AV} (h1 : ∀ i, b ≠ aC i) (h2 : b ≠ aS 0) : aVars H (m + 1) b = none := by
  rcases b with k | n | i
  · exact if_neg h2
  · rfl
  · exact (h1 i rfl).elim
theorem nd_bound {cs : List Nat} (h : cs.Nodup) (h2 : ∀ c ∈ cs, c < 2000) : cs.length ≤ 2000 := by
  have := cntB_free cs (fun _ => false) h (n := 2000) (fun c hc => ⟨h2 c hc, rfl⟩)
  omega
theorem m_lookAt {d : Nat} {v : Int64} {a : AV} (hL : LiveA M fr ψ ns lim H nid x e f fns ha frs fl mo) (hv : Tv fr ψ ns v a) {Q : Option (Option Value) → PM → Prop}
    (hS : ∀ vars M', aVars H (nid + 1) a = some vars → LiveA M' fr ψ ns lim H nid x e f fns ha frs fl mo → VarsIs M' ns vars → vars.length ≤ 2000 → Same [28, 29] M M' → Q (some (some (.int (nI vars.length)))) M')
    (hN : aVars H (nid + 1) a = none → ∀ n M', Dd M' → DeadA M' ns lim fns 5 fl mo H nid → Same [27, 28, 29] M M' → Q (some (some (.int n))) M') : SC (d + 3) 49 [.ref 27, .long v] M Q := by
  refine ⟨qX2_lookAtVariables, rfl, ⟨Nat.le_of_ble_eq_true rfl, rfl, 27, _, _, rfl, rfl⟩, ?_⟩
  show Ev (BC (d + 2) qX2_lookAtVariables) Q 0 [some (.ref 27), some (.long v), none, none, none, none, none, none] [] M
  have done : ∀ (m : Nat) (M1 : PM) (sn : List AV) (w : Int64) (b : AV) (z1 z2 : Option Value), LiveA M1 fr ψ ns lim H nid x e f fns ha frs fl mo → VarsIs M1 ns sn → Same [28, 29] M M1 → Tv fr ψ ns w b → (∀ i, b ≠ aC i) → aVars H (nid + 1) a = (aVars H (m + 1) b).map (sn ++ ·) → sn.length ≤ 2000 →
      Ev (BC (d + 2) qX2_lookAtVariables) Q 71 [some (.ref 27), some (.long v), none, some (.int (nI sn.length)), some (.long w), none, z1, z2] [] M1 := by
    intro m M1 sn w b z1 z2 hL1 hV hs1 hw hb he hlen
    repeat (refine ev_s rfl (?_ : Ev _ _ _ _ _ _))
    refine ev_lif rfl (fun hc => ?_) (fun hc => ?_)
    · have hb0 : b = aS 0 := (hw.eqS (k := 0) (by decide)).mp hc
      subst hb0
      repeat (refine ev_s rfl (?_ : Ev _ _ _ _ _ _))
      refine ev_reti rfl rfl trivial rfl (hS sn M1 ?_ hL1 hV hlen hs1)
      rw [he, aVars_nil]
      simp
    · have hb0 : ¬ b = aS 0 := fun h9 => hc ((hw.eqS (k := 0) (by decide)).mpr h9)
      repeat (refine ev_s rfl (?_ : Ev _ _ _ _ _ _))
      refine ev_cv rfl (as := [.ref 27, .int 5]) rfl rfl (Nat.le_of_ble_eq_true rfl) ?_
      refine m_fail ?_
      show Ev _ _ _ _ [] _
      repeat (refine ev_s rfl (?_ : Ev _ _ _ _ _ _))
      refine ev_reti rfl rfl trivial rfl (hN ?_ _ _ (failM_Dd hL1.2.2.2.2.1 (by decide)) (hL1.dead (c := 5) (by decide) (by decide)) ((hs1.tr failM_same).sub (by decide)))
      rw [he, aVars_bad hb hb0]
      rfl
  have loop : ∀ (m : Nat) (M1 : PM) (sn : List AV) (cs : List Nat) (w : Int64) (b : AV) (z1 z2 : Option Value), LiveA M1 fr ψ ns lim H nid x e f fns ha frs fl mo → VarsIs M1 ns sn → Same [28, 29] M M1 → Tv fr ψ ns w b → (∀ i, b = aC i → i < m) → aVars H (nid + 1) a = (aVars H (m + 1) b).map (sn ++ ·) → cs.Nodup → cs.length = sn.length → (∀ c ∈ cs, c < 2000 ∧ ∀ i, b = aC i → i < ψ c) →
      Ev (BC (d + 2) qX2_lookAtVariables) Q 13 [some (.ref 27), some (.long v), none, some (.int (nI sn.length)), some (.long w), none, z1, z2] [] M1 := by
    have atom : ∀ (m : Nat) (M1 : PM) (sn : List AV) (cs : List Nat) (w : Int64) (b : AV) (z1 z2 : Option Value), LiveA M1 fr ψ ns lim H nid x e f fns ha frs fl mo → VarsIs M1 ns sn → Same [28, 29] M M1 → Tv fr ψ ns w b → (∀ i, b ≠ aC i) → aVars H (nid + 1) a = (aVars H (m + 1) b).map (sn ++ ·) → cs.Nodup → cs.length = sn.length → (∀ c ∈ cs, c < 2000 ∧ ∀ i, b = aC i → i < ψ c) →
        Ev (BC (d + 2) qX2_lookAtVariables) Q 13 [some (.ref 27), some (.long v), none, some (.int (nI sn.length)), some (.long w), none, z1, z2] [] M1 := by
      intro m M1 sn cs w b z1 z2 hL1 hV hs1 hw hb he hnd hcl hcs
      have hlen : sn.length ≤ 2000 := by have := nd_bound hnd (fun c hc => (hcs c hc).1); omega
      repeat (refine ev_s rfl (?_ : Ev _ _ _ _ _ _))
      refine ev_ic rfl (fun hc => done m M1 sn w b _ _ hL1 hV hs1 hw hb he hlen) (fun hc => ?_)
      repeat (refine ev_s rfl (?_ : Ev _ _ _ _ _ _))
      refine ev_cs rfl (by decide) (by decide) (as := [.long w]) rfl rfl (Nat.le_of_ble_eq_true rfl) ?_
      refine v_isCell (fun hc => (hb _ (hw.cell hc)).elim) (fun hc => ?_)
      show Ev _ _ _ _ [.int 0] _
      refine ev_ifT rfl (show (0 : Int32) = 0 from rfl) ?_
      exact done m M1 sn w b _ _ hL1 hV hs1 hw hb he hlen
    intro m
    induction m with
    | zero => exact fun M1 sn cs w b z1 z2 hL1 hV hs1 hw hbm he hnd hcl hcs => atom 0 M1 sn cs w b z1 z2 hL1 hV hs1 hw (fun i hi => by have := hbm i hi; omega) he hnd hcl hcs
    | succ m ih =>
      intro M1 sn cs w b z1 z2 hL1 hV hs1 hw hbm he hnd hcl hcs
      by_cases hb : isC w
      · have eb := hw.cell hb
        subst eb
        obtain ⟨q1, q2, q3, q4⟩ := hw.isCl
        obtain ⟨p1, p2, p3⟩ := CoreA.part hL1.1.1 hw
        have him := hbm _ rfl
        generalize hi : ψ (cix w) = i at *
        have hnd2 : (cix w :: cs).Nodup := List.nodup_cons.mpr ⟨fun h9 => by
          have := (hcs _ h9).2 i rfl
          rw [hi] at this
          omega, hnd⟩
        have hlt : sn.length < 2000 := by
          have := nd_bound hnd2 (fun c hc => by
            rcases List.mem_cons.mp hc with rfl | hc
            · exact q3
            · exact (hcs c hc).1)
          simp at this
          omega
        repeat (refine ev_s rfl (?_ : Ev _ _ _ _ _ _))
        refine ev_icF rfl (nI_ge (b := 2000) hlt (by decide)) ?_
        repeat (refine ev_s rfl (?_ : Ev _ _ _ _ _ _))
        refine ev_cs rfl (by decide) (by decide) (as := [.long w]) rfl rfl (Nat.le_of_ble_eq_true rfl) ?_
        refine v_isCell (fun hc => ?_) (fun hc => (hc hb).elim)
        show Ev _ _ _ _ [.int 1] _
        refine ev_ifF rfl (show ¬ (1 : Int32) = 0 by decide) ?_
        repeat (refine ev_s rfl (?_ : Ev _ _ _ _ _ _))
        refine ev_cv rfl (as := [.ref 17, .long w]) rfl rfl (Nat.le_of_ble_eq_true rfl) ?_
        refine cell_head hb ?_
        generalize hw1 : M1.2 19 (cix w) = w1 at *
        show Ev _ _ _ _ [.long w1] _
        repeat (refine ev_s rfl (?_ : Ev _ _ _ _ _ _))
        obtain ⟨vl, v1, v2⟩ := hV
        refine ev_cv rfl (as := [.ref 27, .long w1]) rfl rfl (Nat.le_of_ble_eq_true rfl) ?_
        refine m_askVariable p1 (fun hvr => ?_) (fun hvr => ?_)
        · show Ev _ _ _ _ [] _
          repeat (refine ev_s rfl (?_ : Ev _ _ _ _ _ _))
          refine ev_cv rfl (as := [.ref 28, .long w1]) rfl rfl (Nat.le_of_ble_eq_true rfl) ?_
          refine row_addX r_var v1 (fun M2 l' g1 g1' g2 => ?_)
          have e20 : M2.2 20 (cix w) = M1.2 20 (cix w) := by rw [(g2 20 (by decide)).2]
          show Ev _ _ _ _ [] _
          repeat (refine ev_s rfl (?_ : Ev _ _ _ _ _ _))
          refine ev_cv rfl (as := [.ref 17, .long w]) rfl rfl (Nat.le_of_ble_eq_true rfl) ?_
          refine cell_tail hb ?_
          rw [e20]
          show Ev _ _ _ _ [.long (M1.2 20 (cix w))] _
          iterate 3 (refine ev_s rfl (?_ : Ev _ _ _ _ _ _))
          rw [nI_1, show sn.length + 1 = (sn ++ [(H i).1]).length by simp]
          refine ih M2 (sn ++ [(H i).1]) (cix w :: cs) _ (H i).2 _ _ (hL1.vars g2 ⟨l', g1⟩) ⟨l', g1, fun h9 => ?_⟩ ((hs1.tr g2).sub (by decide)) p2 (fun j hj => ?_) ?_ hnd2 (by simp [hcl]) (fun c hc => ?_)
          · simp at h9
            obtain ⟨k1, k2⟩ := v2 (by omega)
            have e9 := g1' (by omega)
            subst e9
            refine ⟨by simp [k1], fun j u hj => ?_⟩
            by_cases hjl : j < vl.length
            · rw [List.getElem?_append_left hjl] at hj
              obtain ⟨k, a1, a2, a3, a4⟩ := k2 j u hj
              exact ⟨k, a1, a2, a3, by rw [List.getElem?_append_left (by omega)]; exact a4⟩
            · have hj9 : j = vl.length := by
                have := (List.getElem?_eq_some_iff.mp hj).1
                simp at this
                omega
              subst hj9
              simp at hj
              subst hj
              obtain ⟨k, a1, a2⟩ := hvr
              rw [a2] at p1
              obtain ⟨b1, b2, b3⟩ := p1.isS
              exact ⟨k, b3, b2, b1, by rw [k1]; simp [a2]⟩
          · have := hL1.1.2.1 i p3 j (Or.inr hj)
            omega
          · rw [he, aVars_C, if_pos (@decide_eq_true _ (Classical.propDecidable _) hvr)]
            cases aVars H (m + 1) (H i).2 with
            | none => rfl
            | some r => simp
          · rcases List.mem_cons.mp hc with rfl | hc
            · exact ⟨q3, fun j hj => by rw [hi]; exact hL1.1.2.1 i p3 j (Or.inr hj)⟩
            · refine ⟨(hcs c hc).1, fun j hj => ?_⟩
              have h1 := (hcs c hc).2 i rfl
              have h2 := hL1.1.2.1 i p3 j (Or.inr hj)
              omega
        · have hD := failM_Dd (c := 5) hL1.2.2.2.2.1 (by decide)
          have hA := hL1.dead (c := 5) (by decide) (by decide)
          show Ev _ _ _ _ [] _
          repeat (refine ev_s rfl (?_ : Ev _ _ _ _ _ _))
          obtain ⟨vl2, hvl2⟩ := hA.2.2.2.2.2.2.2.1
          refine ev_cv rfl (as := [.ref 28, .long w1]) rfl rfl (Nat.le_of_ble_eq_true rfl) ?_
          refine row_addX r_var hvl2 (fun M2 l' g1 g1' g2 => ?_)
          have hD2 : Dd M2 := by unfold Dd; rw [(g2 27 (by decide)).1]; exact hD
          show Ev _ _ _ _ [] _
          repeat (refine ev_s rfl (?_ : Ev _ _ _ _ _ _))
          refine ev_cv rfl (as := [.ref 17, .long w]) rfl rfl (Nat.le_of_ble_eq_true rfl) ?_
          refine cell_tail hb ?_
          show Ev _ _ _ _ [.long (M2.2 20 (cix w))] _
          iterate 3 (refine ev_s rfl (?_ : Ev _ _ _ _ _ _))
          rw [nI_1]
          refine lookAt_dl 2001 (sn.length + 1) M2 _ _ _ (by omega) (by omega) hD2 (hA.vars g2 ⟨l', g1⟩) (fun n M' k1 k2 k3 => hN ?_ n M' k1 k2 ((((hs1.tr failM_same).tr g2).tr k3).sub (by decide)))
          rw [he, aVars_C, if_neg (by simpa using hvr)]
          rfl
      · exact atom (m + 1) M1 sn cs w b z1 z2 hL1 hV hs1 hw (hw.ncell hb) he hnd hcl hcs
  obtain ⟨vl, hvl⟩ := hL.2.2.2.2.2.2.2.2.2
  repeat (refine ev_s rfl (?_ : Ev _ _ _ _ _ _))
  refine ev_cv rfl (as := [.ref 28, .int (nI 0)]) rfl rfl (Nat.le_of_ble_eq_true rfl) ?_
  refine row_cut r_var hvl (Nat.zero_le _) (fun M1 g1 g2 => ?_)
  have g3 : Same [28, 29] M M1 := g2.sub (by decide)
  show Ev _ _ _ _ [] _
  iterate 4 (refine ev_s rfl (?_ : Ev _ _ _ _ _ _))
  exact loop nid M1 [] [] v a _ _ (hL.vars g3 ⟨_, g1⟩) ⟨_, g1, fun _ => ⟨rfl, fun j v hj => by simp at hj⟩⟩ g3 hv (fun i hi => by subst hi; exact (CoreA.part hL.1.1 hv).2.2) (by simp) List.nodup_nil rfl (fun c hc => by simp at hc)
end APPLY

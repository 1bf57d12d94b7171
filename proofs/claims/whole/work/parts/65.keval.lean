/-! The reference's machine: evaluates. -/
def mdc (md : Nat) : Nat := if md = 0 then 3 else md - 1
/-- the machine of the reference at work -/
def LiveM (fuel lim ns : Nat) (fns : List (Option AV)) (M : PM) (U : Nat → Bool) (ψ : Nat → Nat) (x e f : AV) (vs : List AV) (frs : List AF) (fl mo : Nat) (H : AHp) (n : Nat) : Prop :=
  CoreM M U ψ ns lim H n x e f fns [] vs frs ∧ M.1 0 43 = nI fuel ∧ M.1 0 44 = nI (fuel - fl) ∧ fl ≤ fuel ∧ fuel ≤ 20000 ∧ M.1 0 42 = nI mo ∧ mo ≤ 200
def DeadM (fuel lim ns : Nat) (fns : List (Option AV)) (M : PM) (c fl mo : Nat) (H : AHp) (n : Nat) : Prop :=
  (∃ U ψ, MemM M U ψ ns H n lim ∧ FnM M U ψ ns fns) ∧ Acy H n ∧ M.1 0 5 = nI ns ∧ 23 ≤ ns ∧ ns ≤ 300 ∧ M.1 0 8 = nI c ∧ 0 < c ∧ c < 14 ∧ M.1 0 44 = nI (fuel - fl) ∧ fl ≤ fuel ∧ M.1 0 42 = nI mo ∧ mo ≤ 200
abbrev IDK : List Nat := [6, 7, 8, 9, 14, 15, 16, 17, 18, 19, 20, 108, 113, 114, 115, 116, 118, 129, 130, 131, 132, 134, 141, 142, 144]
def PostMM (fuel lim ns : Nat) (fns : List (Option AV)) (M0 : PM) (r : MR) (o : Option (Option Value)) (M' : PM) : Prop := SameM IDK M0 M' ∧ match r with
  | .inl (md, x, e, f, v, vs, frs, fl, mo, H, n) => o = some (some (.int (nI (mdc md)))) ∧ ∃ U ψ f' vs', LiveM fuel lim ns fns M' U ψ x e f' vs' frs fl mo H n ∧ (md = 2 ∨ md = 0 → RTv U ψ ns (M'.2 0 32) v) ∧ (md = 3 → f' = f ∧ vs' = vs)
  | .inr (c, fl, mo, H, n) => o = none ∧ DeadM fuel lim ns fns M' c fl mo H n
section KE
variable {M M0 : PM} {U : Nat → Bool} {ψ : Nat → Nat} {ns lim : Nat} {H : AHp} {n : Nat} {x e f : AV} {fns : List (Option AV)} {vs : List AV} {frs : List AF} {v : Int64} {w : AV} {fuel fl mo : Nat}
/-- a fault -/
theorem LiveM.flt (h : LiveM fuel lim ns fns M U ψ x e f vs frs fl mo H n) {c : Nat} {M' : PM} (hs : SameM IDK M0 M) (hs' : SameM [108] M M') (h8 : M'.1 0 8 = nI c) (h0 : 0 < c) (h1 : c < 14) : PostMM fuel lim ns fns M0 (aFl c fl mo H n) none M' := by
  obtain ⟨h1', h2, h3, h4, h5, h6, h7⟩ := h
  exact ⟨hs.t2 hs' (by decide), rfl, ⟨U, ψ, h1'.1.same hs' (by decide), h1'.2.2.2.2.2.1.kept (RA := fun _ => True) (H := H) KeptM.rf (fun _ _ => trivial) hs' (by decide) (by decide)⟩, h1'.2.1, (hs'.2 5 (by decide)).1.trans h1'.2.2.2.2.2.2.2.2.2.1, h1'.2.2.2.2.2.2.2.2.2.2.1, h1'.2.2.2.2.2.2.2.2.2.2.2, h8, h0, h1, (hs'.2 44 (by decide)).1.trans h3, h4, (hs'.2 42 (by decide)).1.trans h6, h7⟩
theorem LiveM.f8 (h : LiveM fuel lim ns fns M U ψ x e f vs frs fl mo H n) {c : Nat} (hs : SameM IDK M0 M) (h0 : 0 < c) (h1 : c < 14) : PostMM fuel lim ns fns M0 (aFl c fl mo H n) none (mI M 0 8 (nI c)) := h.flt hs (SameM.I0 (j := 8)) mI_at h0 h1
/-- a value is given -/
theorem LiveM.ret (h : LiveM fuel lim ns fns M U ψ x e f vs frs fl mo H n) (hv : RTv U ψ ns v w) (hs : SameM IDK M0 M) : PostMM fuel lim ns fns M0 (aRet x e w frs fl mo H n) (some (some (.int 1))) (mJ M 0 32 v) := by
  obtain ⟨h1, h2, h3, h4, h5, h6, h7⟩ := h
  have s1 : SameM [132] M (mJ M 0 32 v) := SameM.J0 (j := 32)
  exact ⟨hs.t2 s1 (by decide), rfl, U, ψ, f, vs, ⟨h1.same s1 (by decide), h2, h3, h4, h5, h6, h7⟩, fun _ => by rw [mJ_at]; exact hv, fun h9 => by cases h9⟩
theorem CoreM.setX (h : CoreM M U ψ ns lim H n x e f fns [] vs frs) (hv : RTv U ψ ns v w) : CoreM (mJ M 0 29 v) U ψ ns lim H n w e f fns [] vs frs := by
  obtain ⟨c1, c2, c3, c4, c5, c6, c7, c8, c9, c10, c11⟩ := h
  have s1 : SameM [129] M (mJ M 0 29 v) := SameM.J0 (j := 29)
  exact ⟨c1.same s1 (by decide), c2, by rw [mJ_at]; exact hv, by rw [(s1.2 30 (by decide)).2]; exact c4, by rw [(s1.2 31 (by decide)).2]; exact c5, c6.kept (RA := fun _ => True) (H := H) KeptM.rf (fun _ _ => trivial) s1 (by decide) (by decide), c7.kept (RA := fun _ => True) (H := H) KeptM.rf (fun _ _ => trivial) s1 (by decide) (by decide) (by decide), c8.kept (RA := fun _ => True) (H := H) KeptM.rf (fun _ _ => trivial) s1 (by decide) (by decide) (by decide), c9.kept (RA := fun _ => True) (H := H) KeptM.rf (fun _ _ => trivial) s1 (by decide), c10, c11⟩
theorem CoreM.setE (h : CoreM M U ψ ns lim H n x e f fns [] vs frs) (hv : RTv U ψ ns v w) : CoreM (mJ M 0 30 v) U ψ ns lim H n x w f fns [] vs frs := by
  obtain ⟨c1, c2, c3, c4, c5, c6, c7, c8, c9, c10, c11⟩ := h
  have s1 : SameM [130] M (mJ M 0 30 v) := SameM.J0 (j := 30)
  exact ⟨c1.same s1 (by decide), c2, by rw [(s1.2 29 (by decide)).2]; exact c3, by rw [mJ_at]; exact hv, by rw [(s1.2 31 (by decide)).2]; exact c5, c6.kept (RA := fun _ => True) (H := H) KeptM.rf (fun _ _ => trivial) s1 (by decide) (by decide), c7.kept (RA := fun _ => True) (H := H) KeptM.rf (fun _ _ => trivial) s1 (by decide) (by decide) (by decide), c8.kept (RA := fun _ => True) (H := H) KeptM.rf (fun _ _ => trivial) s1 (by decide) (by decide) (by decide), c9.kept (RA := fun _ => True) (H := H) KeptM.rf (fun _ _ => trivial) s1 (by decide), c10, c11⟩
theorem CoreM.setF (h : CoreM M U ψ ns lim H n x e f fns [] vs frs) (hv : RTv U ψ ns v w) : CoreM (mJ M 0 31 v) U ψ ns lim H n x e w fns [] vs frs := by
  obtain ⟨c1, c2, c3, c4, c5, c6, c7, c8, c9, c10, c11⟩ := h
  have s1 : SameM [131] M (mJ M 0 31 v) := SameM.J0 (j := 31)
  exact ⟨c1.same s1 (by decide), c2, by rw [(s1.2 29 (by decide)).2]; exact c3, by rw [(s1.2 30 (by decide)).2]; exact c4, by rw [mJ_at]; exact hv, c6.kept (RA := fun _ => True) (H := H) KeptM.rf (fun _ _ => trivial) s1 (by decide) (by decide), c7.kept (RA := fun _ => True) (H := H) KeptM.rf (fun _ _ => trivial) s1 (by decide) (by decide) (by decide), c8.kept (RA := fun _ => True) (H := H) KeptM.rf (fun _ _ => trivial) s1 (by decide) (by decide) (by decide), c9.kept (RA := fun _ => True) (H := H) KeptM.rf (fun _ _ => trivial) s1 (by decide), c10, c11⟩
/-- the values go -/
theorem CoreM.noV (h : CoreM M U ψ ns lim H n x e f fns [] vs frs) : CoreM (mI M 0 34 0) U ψ ns lim H n x e f fns [] [] frs := by
  obtain ⟨c1, c2, c3, c4, c5, c6, c7, c8, c9, c10, c11⟩ := h
  have s1 : SameM [134] M (mI M 0 34 0) := SameM.I0 (j := 34)
  exact ⟨c1.same s1 (by decide), c2, c3, c4, c5, c6.kept (RA := fun _ => True) (H := H) KeptM.rf (fun _ _ => trivial) s1 (by decide) (by decide), c7.kept (RA := fun _ => True) (H := H) KeptM.rf (fun _ _ => trivial) s1 (by decide) (by decide) (by decide), ⟨by rw [mI_at]; rfl, Nat.zero_le _, fun i a hi => by simp at hi⟩, c9.kept (RA := fun _ => True) (H := H) KeptM.rf (fun _ _ => trivial) s1 (by decide), (s1.2 5 (by decide)).1.trans c10, c11⟩
theorem LiveM.core (h : LiveM fuel lim ns fns M U ψ x e f vs frs fl mo H n) {M' : PM} {U' : Nat → Bool} {ψ' : Nat → Nat} {x' e' f' : AV} {vs' : List AV} {frs' : List AF} {H' : AHp} {n' : Nat} {ids : List Nat} (hs : SameM ids M M') (hd : ∀ k ∈ [142, 143, 144], k ∉ ids) (hC : CoreM M' U' ψ' ns lim H' n' x' e' f' fns [] vs' frs') : LiveM fuel lim ns fns M' U' ψ' x' e' f' vs' frs' fl mo H' n' := by
  obtain ⟨h1, h2, h3, h4, h5, h6, h7⟩ := h
  exact ⟨hC, (hs.2 43 (hd 143 (by decide))).1.trans h2, (hs.2 44 (hd 144 (by decide))).1.trans h3, h4, h5, (hs.2 42 (hd 142 (by decide))).1.trans h6, h7⟩
/-- x is next -/
theorem LiveM.ev (h : LiveM fuel lim ns fns M U ψ x e f vs frs fl mo H n) (hv : RTv U ψ ns v w) (hs : SameM IDK M0 M) : PostMM fuel lim ns fns M0 (aEv w e frs fl mo H n) (some (some (.int 0))) (mJ M 0 29 v) := by
  have s1 : SameM [129] M (mJ M 0 29 v) := SameM.J0 (j := 29)
  exact ⟨hs.t2 s1 (by decide), rfl, U, ψ, f, vs, h.core s1 (by decide) (h.1.setX hv), fun h9 => absurd h9 (by decide), fun h9 => by cases h9⟩
theorem rm_eq {pe : List AV} {a b : AV} (i : Nat) : AR H (ARt fns (rts x e f pe vs (flatA frs)) a b) i ↔ AR H (RM fns x e f pe vs frs a b (aS 0)) i := by
  refine ⟨fun hi => hi.mono (fun v hv => Or.inl hv), fun hi S h1 h2 => hi S (fun i h9 => ?_) h2⟩
  rcases h9 with h9 | h9
  · exact h1 i h9
  · cases h9
/-- a cell more, at work -/
theorem k_consL {d : Nat} {va vb : Int64} {a b : AV} (h : LiveM fuel lim ns fns M U ψ x e f vs frs fl mo H n) (ha : RTv U ψ ns va a) (hb : RTv U ψ ns vb b) (hs : SameM IDK M0 M) {Q : Option (Option Value) → PM → Prop} {r1 : AV → AHp → Nat → MR} {P : MR → Prop}
    (hP : P (aCons lim fns (rts x e f [] vs (flatA frs)) a b H n r1 (aFl 8 fl mo)))
    (hok : ∀ M' U' ψ' v, P (r1 (aC n) (ahUp H n a b) (n + 1)) → LiveM fuel lim ns fns M' U' ψ' x e f vs frs fl mo (ahUp H n a b) (n + 1) → RTv U' ψ' ns v (aC n) → KeptM U ψ ns H (ARt fns (rts x e f [] vs (flatA frs)) a b) U' ψ' → SameM IDK M0 M' → Q (some (some (.long v))) M')
    (hno : ∀ M', P (aFl 8 fl mo H n) → PostMM fuel lim ns fns M0 (aFl 8 fl mo H n) none M' → Q none M') : SM (d + 6) 121 [.ref 0, .long va, .long vb, .long (-1)] M Q := by
  have h0 : 0 < ns := by have := h.1.2.2.2.2.2.2.2.2.2.2.1; omega
  refine k_cons h.1 ha hb (RTv.nil h0) (fun i => rm_eq i) (fun hlt M' U' ψ' v g1 g2 g3 g4 => ?_) (fun hge M' U' g1 g2 g3 => ?_)
  · rw [aCons_ok hlt] at hP
    exact hok M' U' ψ' v hP (h.core g4 (by decide) g1) g2 g3 (hs.t2 g4 (by decide))
  · rw [aCons_no (by omega)] at hP
    exact hno M' hP ((h.core g3 (by decide) g1).flt (hs.t2 g3 (by decide)) SameM.rf g2 (by decide) (by decide))
theorem k_evaluates {d : Nat} (h : LiveM fuel lim ns fns M U ψ x e (aS 0) [] frs fl mo H n) {Q : Option (Option Value) → PM → Prop} (hq : ∀ o M', PostMM fuel lim ns fns M (aEval lim fns x e frs fl mo H n) o M' → Q o M') : SM (d + 7) 142 [.ref 0] M Q := by
  refine ⟨qX10_evaluates, rfl, ⟨Nat.le_of_ble_eq_true rfl, rfl, 0, _, _, rfl, rfl⟩, ?_⟩
  show Ev (BM (d + 6) qX10_evaluates) Q 0 [some (.ref 0), none, none, none, none, none, none, none, none] [] M
  obtain ⟨hC, g43, g44, gfl, gfu, g42, gmo⟩ := id h
  obtain ⟨c1, c2, c3, c4, c5, c6, c7, c8, c9, c10, c11, c12⟩ := id hC
  have hH := c1.2.2.2.2.2.2
  have n0 := c3.eqS (k := 0) (by decide)
  have n1 := c3.eqS (k := 1) (by decide)
  -- itself
  have self : aEval lim fns x e frs fl mo H n = aRet x e x frs fl mo H n → Ev (BM (d + 6) qX10_evaluates) Q 32 [some (.ref 0), none, none, none, none, none, none, none, none] [] M := fun h9 => by
    rw [h9] at hq
    repeat (refine ev_s rfl (?_ : Ev _ _ _ _ _ _))
    exact ev_reti rfl rfl trivial rfl (hq _ _ (h.ret c3 SameM.rf))
  repeat (refine ev_s rfl (?_ : Ev _ _ _ _ _ _))
  refine ev_cs rfl (by decide) (by decide) (as := [.long (M.2 0 29)]) rfl rfl (Nat.le_of_ble_eq_true rfl) ?_
  refine k_isNumber c3 ?_
  rcases c3.int with ⟨k, rfl, k2, k3, k4, k5⟩ | ⟨m, rfl, k4, k5⟩ | ⟨c, rfl, k1, k2, k4, k5⟩
  · show Ev _ _ _ _ [.int 0] _
    refine ev_ifF rfl (show ¬ ¬ (0 : Int32) = 0 by decide) ?_
    have eE : aEval lim fns (aS k) e frs fl mo H n = if k < 2 then aRet (aS k) e (aS k) frs fl mo H n else match aLook H (aS k) fl e with
      | (.inl c, fl') => aFl c fl' mo H n
      | (.inr none, fl') => aFl 6 fl' mo H n
      | (.inr (some v), fl') => aRet (aS k) e v frs fl' mo H n := rfl
    repeat (refine ev_s rfl (?_ : Ev _ _ _ _ _ _))
    refine ev_lif rfl (fun hc => self ?_) (fun hc => ?_)
    · have h9 : aS k = aS 0 := n0.mp hc
      cases h9
      rfl
    have k0 : ¬ k = 0 := fun h9 => hc (n0.mpr (by rw [h9]))
    repeat (refine ev_s rfl (?_ : Ev _ _ _ _ _ _))
    refine ev_lif rfl (fun hc2 => ?_) (fun hc2 => self ?_)
    · have k1' : ¬ k = 1 := fun h9 => hc2 (n1.mpr (by rw [h9]))
      rw [if_neg (by omega)] at eE
      rw [eE] at hq
      repeat (refine ev_s rfl (?_ : Ev _ _ _ _ _ _))
      refine ev_cs rfl (by decide) (by decide) (as := [.long (M.2 0 29)]) rfl rfl (Nat.le_of_ble_eq_true rfl) ?_
      refine k_isSymbol c3 ?_
      show Ev _ _ _ _ [.int 1] _
      refine ev_ifF rfl (show ¬ (1 : Int32) = 0 by decide) ?_
      repeat (refine ev_s rfl (?_ : Ev _ _ _ _ _ _))
      rw [k4]
      refine ev_cv rfl (as := [.ref 0, .long (rS k)]) rfl rfl (Nat.le_of_ble_eq_true rfl) ?_
      refine k_pairOf hH c4 k3 g43 g44 gfl gfu (fun c fl' M1 e1 a1 a2 a3 a4 a5 a6 => ?_) (fun fl' M1 e1 a1 a2 a3 => ?_) (fun fl' M1 p i e1 a1 a2 a3 a4 => ?_)
      · rw [e1] at hq
        refine hq none M1 ?_
        refine ⟨a6.sub (by decide), rfl, ⟨U, ψ, c1.same a6 (by decide), c6.kept (RA := fun _ => True) (H := H) KeptM.rf (fun _ _ => trivial) a6 (by decide) (by decide)⟩, c2, (a6.2 5 (by decide)).1.trans c10, c11, c12, a1, a2, a3, a4, a5, (a6.2 42 (by decide)).1.trans g42, gmo⟩
      · rw [e1] at hq
        have hL : LiveM fuel lim ns fns M1 U ψ (aS k) e (aS 0) [] frs fl' mo H n := ⟨hC.same a3 (by decide), (a3.2 43 (by decide)).1.trans g43, a1, a2, gfu, (a3.2 42 (by decide)).1.trans g42, gmo⟩
        show Ev _ _ _ _ [.long (-1)] _
        repeat (refine ev_s rfl (?_ : Ev _ _ _ _ _ _))
        refine ev_lifF rfl (show ¬ ¬ (-1 : Int64) = -1 from fun h9 => h9 rfl) ?_
        repeat (refine ev_s rfl (?_ : Ev _ _ _ _ _ _))
        refine ev_cv rfl (as := [.ref 0, .int 6]) rfl rfl (Nat.le_of_ble_eq_true rfl) ?_
        refine k_fails ?_
        show Ev _ _ _ _ [.ref 5] _
        exact ev_s rfl (hq _ _ (hL.f8 (c := 6) (a3.sub (by decide)) (by decide) (by decide)))
      · rw [e1] at hq
        have hL : LiveM fuel lim ns fns M1 U ψ (aS k) e (aS 0) [] frs fl' mo H n := ⟨hC.same a3 (by decide), (a3.2 43 (by decide)).1.trans g43, a1, a2, gfu, (a3.2 42 (by decide)).1.trans g42, gmo⟩
        have np := a4.eqS (k := 0) (by decide)
        show Ev _ _ _ _ [.long p] _
        repeat (refine ev_s rfl (?_ : Ev _ _ _ _ _ _))
        refine ev_lifT rfl (show ¬ p = -1 from fun h9 => by have := np.mp h9; cases this) ?_
        repeat (refine ev_s rfl (?_ : Ev _ _ _ _ _ _))
        refine ev_cv rfl (as := [.ref 0, .long p]) rfl rfl (Nat.le_of_ble_eq_true rfl) ?_
        refine k_tailOf hL.1.1.2.2.2.2.2.2 a4 (fun u b b1 b2 => ?_) (fun b1 => by cases b1)
        cases b1
        show Ev _ _ _ _ [.long u, .ref 0] _
        repeat (refine ev_s rfl (?_ : Ev _ _ _ _ _ _))
        exact ev_reti rfl rfl trivial rfl (hq _ _ (hL.ret b2 (a3.sub (by decide))))
    · have h9 := n1.mp (Decidable.not_not.mp hc2)
      cases h9
      rfl
  · show Ev _ _ _ _ [.int 1] _
    refine ev_ifT rfl (show ¬ (1 : Int32) = 0 by decide) ?_
    exact self rfl
  · generalize hi : ψ c = i at *
    obtain ⟨hh1, hh2, hh3⟩ := hH.1 c k1 k2
    rw [hi] at hh1 hh2 hh3
    show Ev _ _ _ _ [.int 0] _
    refine ev_ifF rfl (show ¬ ¬ (0 : Int32) = 0 by decide) ?_
    repeat (refine ev_s rfl (?_ : Ev _ _ _ _ _ _))
    refine ev_lifF rfl (show ¬ M.2 0 29 = -1 from fun h9 => by have := n0.mp h9; cases this) ?_
    repeat (refine ev_s rfl (?_ : Ev _ _ _ _ _ _))
    refine ev_lifT rfl (show ¬ M.2 0 29 = -2 from fun h9 => by have := n1.mp h9; cases this) ?_
    repeat (refine ev_s rfl (?_ : Ev _ _ _ _ _ _))
    refine ev_cs rfl (by decide) (by decide) (as := [.long (M.2 0 29)]) rfl rfl (Nat.le_of_ble_eq_true rfl) ?_
    refine k_isSymbol c3 ?_
    show Ev _ _ _ _ [.int 0] _
    refine ev_ifT rfl (show (0 : Int32) = 0 from rfl) ?_
    repeat (refine ev_s rfl (?_ : Ev _ _ _ _ _ _))
    refine ev_cv rfl (as := [.ref 0, .long (M.2 0 29)]) rfl rfl (Nat.le_of_ble_eq_true rfl) ?_
    refine k_headOf hH c3 (fun u b b1 b2 => ?_) (fun b1 => by cases b1)
    cases b1
    have eE : aEval lim fns (aC i) e frs fl mo H n = if (H i).1 = aS 2 then (match a2 H (aC i) with
      | some v => aRet (aC i) e v frs fl mo H n
      | none => aFl 5 fl mo H n)
    else if (H i).1 = aS 3 then (match aHd H (H i).2 with
      | none => aFl 9 fl mo H n
      | some p => aPush (aS 3, (H i).2, e, []) frs fl mo H n fun frs' mo' => match aHd H p with
        | none => aFl 5 fl mo' H n
        | some x' => aEv x' e frs' fl mo' H n)
    else if (H i).1 = aS 4 then (match a2 H (aC i) with
      | none => aFl 5 fl mo H n
      | some fn => aCons lim fns (rts (aC i) e (aS 0) [] [] (flatA frs)) e (aS 0) H n (fun c H n => aCons lim fns (rts (aC i) e (aS 0) [] [] (flatA frs)) fn c H n (fun c H n => aCons lim fns (rts (aC i) e (aS 0) [] [] (flatA frs)) (aS 7) c H n (fun c H n => aRet (aC i) e c frs fl mo H n) (aFl 8 fl mo)) (aFl 8 fl mo)) (aFl 8 fl mo))
    else match aHd H (H i).2 with
      | some x' => aPush ((H i).1, (H i).2, e, []) frs fl mo H n fun frs' mo' => aEv x' e frs' fl mo' H n
      | none => if (H i).2 = aS 0 then aAp (aC i) e (H i).1 [] frs fl mo H n else aFl 5 fl mo H n := rfl
    rw [eE] at hq
    have m2 := b2.eqS (k := 2) (by decide)
    have m3 := b2.eqS (k := 3) (by decide)
    have m4 := b2.eqS (k := 4) (by decide)
    show Ev _ _ _ _ [.long u] _
    repeat (refine ev_s rfl (?_ : Ev _ _ _ _ _ _))
    refine ev_lif rfl (fun hc => ?_) (fun hc => ?_)
    · have q2 : ¬ (H i).1 = aS 2 := fun h9 => hc (m2.mpr h9)
      rw [if_neg q2] at hq
      repeat (refine ev_s rfl (?_ : Ev _ _ _ _ _ _))
      refine ev_cv rfl (as := [.ref 0, .long (M.2 0 29)]) rfl rfl (Nat.le_of_ble_eq_true rfl) ?_
      refine k_tailOf hH c3 (fun t b3 b4 b5 => ?_) (fun b4 => by cases b4)
      cases b4
      show Ev _ _ _ _ [.long t] _
      repeat (refine ev_s rfl (?_ : Ev _ _ _ _ _ _))
      refine ev_lif rfl (fun hc3 => ?_) (fun hc3 => ?_)
      · have q3 : ¬ (H i).1 = aS 3 := fun h9 => hc3 (m3.mpr h9)
        rw [if_neg q3] at hq
        repeat (refine ev_s rfl (?_ : Ev _ _ _ _ _ _))
        refine ev_lif rfl (fun hc4 => ?_) (fun hc4 => ?_)
        · have q4 : ¬ (H i).1 = aS 4 := fun h9 => hc4 (m4.mpr h9)
          rw [if_neg q4] at hq
          repeat (refine ev_s rfl (?_ : Ev _ _ _ _ _ _))
          refine ev_cs rfl (by decide) (by decide) (as := [.long t]) rfl rfl (Nat.le_of_ble_eq_true rfl) ?_
          refine k_isCell b5 ?_
          have atom : aHd H (H i).2 = none → Ev (BM (d + 6) qX10_evaluates) Q 245 [some (.ref 0), some (.long u), none, some (.long t), none, none, none, none, none] [] M := fun h9 => by
            rw [h9] at hq
            dsimp only at hq
            have t0 := b5.eqS (k := 0) (by decide)
            repeat (refine ev_s rfl (?_ : Ev _ _ _ _ _ _))
            refine ev_lif rfl (fun hc5 => ?_) (fun hc5 => ?_)
            · rw [if_pos (t0.mp hc5)] at hq
              repeat (refine ev_s rfl (?_ : Ev _ _ _ _ _ _))
              have s1 : SameM [131, 134] M (mI (mJ M 0 31 u) 0 34 0) := (SameM.J0 (j := 31)).t2 (SameM.I0 (j := 34)) (by decide)
              exact ev_reti rfl rfl trivial rfl (hq _ _ ⟨s1.sub (by decide), rfl, U, ψ, _, _, h.core s1 (by decide) ((hC.setF b2).noV), fun h9 => absurd h9 (by decide), fun _ => ⟨rfl, rfl⟩⟩)
            · rw [if_neg (fun h9 => hc5 (t0.mpr h9))] at hq
              repeat (refine ev_s rfl (?_ : Ev _ _ _ _ _ _))
              refine ev_cv rfl (as := [.ref 0, .int 5]) rfl rfl (Nat.le_of_ble_eq_true rfl) ?_
              refine k_fails ?_
              show Ev _ _ _ _ [.ref 5] _
              exact ev_s rfl (hq _ _ (h.f8 (c := 5) SameM.rf (by decide) (by decide)))
          rcases b5.int with ⟨m', w1, _, w3, w4, w5⟩ | ⟨m', w1, w4, w5⟩ | ⟨c', w1, w2, w3, w4, w5⟩
          · rw [w1]
            show Ev _ _ _ _ [.int 0] _
            refine ev_ifF rfl (show ¬ ¬ (0 : Int32) = 0 by decide) ?_
            exact atom (by rw [w1]; rfl)
          · rw [w1]
            show Ev _ _ _ _ [.int 0] _
            refine ev_ifF rfl (show ¬ ¬ (0 : Int32) = 0 by decide) ?_
            exact atom (by rw [w1]; rfl)
          · rw [w1]
            show Ev _ _ _ _ [.int 1] _
            refine ev_ifT rfl (show ¬ (1 : Int32) = 0 by decide) ?_
            have eh : aHd H (H i).2 = some (H (ψ c')).1 := by rw [w1]; rfl
            rw [eh] at hq
            dsimp only at hq
            unfold aPush at hq
            repeat (refine ev_s rfl (?_ : Ev _ _ _ _ _ _))
            refine ev_cv rfl (as := [.ref 0, .int (if false then 1 else 0), .long t, .long u]) rfl rfl (Nat.le_of_ble_eq_true rfl) ?_
            refine k_frame hC b5 (b := false) (fn := (H i).1) (by simp [q3]) (fun h9 => (q3 h9).elim) (fun _ => b2) g42 gmo (fun hlt M1 a1 a2 a3 => ?_) (fun hge => ?_)
            · rw [if_pos hlt] at hq
              have hL : LiveM fuel lim ns fns M1 U ψ (aC i) e (aS 0) [] (((H i).1, (H i).2, e, []) :: frs) fl (aMx mo (frs.length + 1)) H n := ⟨a1, (a3.2 43 (by decide)).1.trans g43, (a3.2 44 (by decide)).1.trans g44, gfl, gfu, a2, by unfold aMx; split <;> omega⟩
              show Ev _ _ _ _ [] _
              repeat (refine ev_s rfl (?_ : Ev _ _ _ _ _ _))
              refine ev_cv rfl (as := [.ref 0, .long t]) rfl rfl (Nat.le_of_ble_eq_true rfl) ?_
              refine k_headOf a1.1.2.2.2.2.2.2 b5 (fun y b6 b7 b8 => ?_) (fun b7 => by rw [eh] at b7; cases b7)
              rw [eh] at b7
              cases b7
              show Ev _ _ _ _ [.long y, .ref 0] _
              repeat (refine ev_s rfl (?_ : Ev _ _ _ _ _ _))
              exact ev_reti rfl rfl trivial rfl (hq _ _ (hL.ev b8 (a3.sub (by decide))))
            · rw [if_neg hge] at hq
              exact hq _ _ (h.f8 (c := 12) SameM.rf (by decide) (by decide))
        · have q4 : (H i).1 = aS 4 := m4.mp (Decidable.not_not.mp hc4)
          rw [if_pos q4] at hq
          repeat (refine ev_s rfl (?_ : Ev _ _ _ _ _ _))
          refine ev_cv rfl (as := [.ref 0, .long (M.2 0 29)]) rfl rfl (Nat.le_of_ble_eq_true rfl) ?_
          refine k_second hH c3 (fun y fn b6 b7 => ?_) (fun b6 => ?_)
          · rw [b6] at hq
            dsimp only at hq
            have hns : 0 < ns := by omega
            have kfn : ∀ j, fn = aC j → AR H (ARt fns (rts (aC i) e (aS 0) [] [] (flatA frs)) e (aS 0)) j := a2_AR b6 (Or.inr (Or.inl (by simp)))
            show Ev _ _ _ _ [.long y] _
            repeat (refine ev_s rfl (?_ : Ev _ _ _ _ _ _))
            refine ev_cv rfl (as := [.ref 0, .long (M.2 0 30), .long (-1), .long (-1)]) rfl rfl (Nat.le_of_ble_eq_true rfl) ?_
            refine k_consL (d := d) h c4 (RTv.nil hns) SameM.rf (P := fun r => ∀ o M', PostMM fuel lim ns fns M r o M' → Q o M') hq (fun M1 U1 ψ1 v1 p1 L1 r1 kp1 s1 => ?_) (fun M1 p1 p2 => p1 _ _ p2)
            have ry := kp1 _ _ b7 kfn
            show Ev _ _ _ _ [.long v1] _
            repeat (refine ev_s rfl (?_ : Ev _ _ _ _ _ _))
            refine ev_cv rfl (as := [.ref 0, .long y, .long v1, .long (-1)]) rfl rfl (Nat.le_of_ble_eq_true rfl) ?_
            refine k_consL (d := d) L1 ry r1 s1 (P := fun r => ∀ o M', PostMM fuel lim ns fns M r o M' → Q o M') p1 (fun M2 U2 ψ2 v2 p2 L2 r2 kp2 s2 => ?_) (fun M2 p1 p2 => p1 _ _ p2)
            show Ev _ _ _ _ [.long v2] _
            repeat (refine ev_s rfl (?_ : Ev _ _ _ _ _ _))
            refine ev_cv rfl (as := [.ref 0, .long (rS 7), .long v2, .long (-1)]) rfl rfl (Nat.le_of_ble_eq_true rfl) ?_
            refine k_consL (d := d) L2 (RTv.sym (k := 7) (by omega) (by decide)) r2 s2 (P := fun r => ∀ o M', PostMM fuel lim ns fns M r o M' → Q o M') p2 (fun M3 U3 ψ3 v3 p3 L3 r3 kp3 s3 => ?_) (fun M3 p1 p2 => p1 _ _ p2)
            show Ev _ _ _ _ [.long v3, .ref 0] _
            repeat (refine ev_s rfl (?_ : Ev _ _ _ _ _ _))
            exact ev_reti rfl rfl trivial rfl (p3 _ _ (L3.ret r3 s3))
          · rw [b6] at hq
            exact hq _ _ (h.f8 (c := 5) SameM.rf (by decide) (by decide))
      · have q3 : (H i).1 = aS 3 := m3.mp (Decidable.not_not.mp hc3)
        rw [if_pos q3] at hq
        repeat (refine ev_s rfl (?_ : Ev _ _ _ _ _ _))
        refine ev_cs rfl (by decide) (by decide) (as := [.long t]) rfl rfl (Nat.le_of_ble_eq_true rfl) ?_
        refine k_isCell b5 ?_
        have atom : aHd H (H i).2 = none → Ev (BM (d + 6) qX10_evaluates) Q 142 [some (.ref 0), some (.long u), none, some (.long t), none, none, none, none, none] [] M := fun h9 => by
          rw [h9] at hq
          repeat (refine ev_s rfl (?_ : Ev _ _ _ _ _ _))
          refine ev_cv rfl (as := [.ref 0, .int 9]) rfl rfl (Nat.le_of_ble_eq_true rfl) ?_
          refine k_fails ?_
          show Ev _ _ _ _ [.ref 5] _
          exact ev_s rfl (hq _ _ (h.f8 (c := 9) SameM.rf (by decide) (by decide)))
        rcases b5.int with ⟨m', w1, _, w3, w4, w5⟩ | ⟨m', w1, w4, w5⟩ | ⟨c', w1, w2, w3, w4, w5⟩
        · rw [w1]
          show Ev _ _ _ _ [.int 0] _
          refine ev_ifF rfl (show ¬ ¬ (0 : Int32) = 0 by decide) ?_
          exact atom (by rw [w1]; rfl)
        · rw [w1]
          show Ev _ _ _ _ [.int 0] _
          refine ev_ifF rfl (show ¬ ¬ (0 : Int32) = 0 by decide) ?_
          exact atom (by rw [w1]; rfl)
        · rw [w1]
          show Ev _ _ _ _ [.int 1] _
          refine ev_ifT rfl (show ¬ (1 : Int32) = 0 by decide) ?_
          have eh : aHd H (H i).2 = some (H (ψ c')).1 := by rw [w1]; rfl
          rw [eh] at hq
          dsimp only at hq
          unfold aPush at hq
          repeat (refine ev_s rfl (?_ : Ev _ _ _ _ _ _))
          refine ev_cv rfl (as := [.ref 0, .int (if true then 1 else 0), .long t, .long (-1)]) rfl rfl (Nat.le_of_ble_eq_true rfl) ?_
          refine k_frame hC b5 (b := true) (fn := aS 3) (by simp) (fun _ => rfl) (fun h9 => (h9 rfl).elim) g42 gmo (fun hlt M1 a1 a2 a3 => ?_) (fun hge => ?_)
          · rw [if_pos hlt] at hq
            have hL : LiveM fuel lim ns fns M1 U ψ (aC i) e (aS 0) [] ((aS 3, (H i).2, e, []) :: frs) fl (aMx mo (frs.length + 1)) H n := ⟨a1, (a3.2 43 (by decide)).1.trans g43, (a3.2 44 (by decide)).1.trans g44, gfl, gfu, a2, by unfold aMx; split <;> omega⟩
            show Ev _ _ _ _ [] _
            repeat (refine ev_s rfl (?_ : Ev _ _ _ _ _ _))
            refine ev_cv rfl (as := [.ref 0, .long t]) rfl rfl (Nat.le_of_ble_eq_true rfl) ?_
            refine k_headOf a1.1.2.2.2.2.2.2 b5 (fun y b6 b7 b8 => ?_) (fun b7 => by rw [eh] at b7; cases b7)
            rw [eh] at b7
            cases b7
            show Ev _ _ _ _ [.long y, .ref 0, .ref 0] _
            refine ev_cv rfl (as := [.ref 0, .long y]) rfl rfl (Nat.le_of_ble_eq_true rfl) ?_
            refine k_headOf a1.1.2.2.2.2.2.2 b8 (fun z b9 b10 b11 => ?_) (fun b10 => ?_)
            · rw [b10] at hq
              show Ev _ _ _ _ [.long z, .ref 0] _
              repeat (refine ev_s rfl (?_ : Ev _ _ _ _ _ _))
              exact ev_reti rfl rfl trivial rfl (hq _ _ (hL.ev b11 (a3.sub (by decide))))
            · rw [b10] at hq
              exact hq _ _ (hL.f8 (c := 5) (a3.sub (by decide)) (by decide) (by decide))
          · rw [if_neg hge] at hq
            exact hq _ _ (h.f8 (c := 12) SameM.rf (by decide) (by decide))
    · have q2 : (H i).1 = aS 2 := m2.mp (Decidable.not_not.mp hc)
      rw [if_pos q2] at hq
      repeat (refine ev_s rfl (?_ : Ev _ _ _ _ _ _))
      refine ev_cv rfl (as := [.ref 0, .long (M.2 0 29)]) rfl rfl (Nat.le_of_ble_eq_true rfl) ?_
      refine k_second hH c3 (fun y fn b6 b7 => ?_) (fun b6 => ?_)
      · rw [b6] at hq
        show Ev _ _ _ _ [.long y, .ref 0] _
        repeat (refine ev_s rfl (?_ : Ev _ _ _ _ _ _))
        exact ev_reti rfl rfl trivial rfl (hq _ _ (h.ret b7 SameM.rf))
      · rw [b6] at hq
        exact hq _ _ (h.f8 (c := 5) SameM.rf (by decide) (by decide))
end KE

/-! The reference's machine: small methods. -/
section KB
variable {M : PM} {U : Nat → Bool} {ψ : Nat → Nat} {ns lim : Nat} {H : AHp} {nid : Nat} {x e f : AV} {fns : List (Option AV)} {pe vs : List AV} {frs : List AF} {v : Int64} {w : AV} {fuel fl mo : Nat}
theorem k_headOf {d : Nat} (hH : HeapM M U ψ ns H nid) (hv : RTv U ψ ns v w) {Q : Option (Option Value) → PM → Prop} (h1 : ∀ u a, aHd H w = some a → RTv U ψ ns u a → Q (some (some (.long u))) M) (h0 : aHd H w = none → Q none (mI M 0 8 5)) : SM (d + 2) 122 [.ref 0, .long v] M Q := by
  refine ⟨qX10_headOf, rfl, ⟨Nat.le_of_ble_eq_true rfl, rfl, 0, _, _, rfl, rfl⟩, ?_⟩
  show Ev (BM (d + 1) qX10_headOf) Q 0 [some (.ref 0), some (.long v), none] [] M
  have bad : aHd H w = none → Ev (BM (d + 1) qX10_headOf) Q 7 [some (.ref 0), some (.long v), none] [] M := fun h9 => by
    repeat (refine ev_s rfl (?_ : Ev _ _ _ _ _ _))
    refine ev_cv rfl (as := [.ref 0, .int 5]) rfl rfl (Nat.le_of_ble_eq_true rfl) ?_
    refine k_fails ?_
    show Ev _ _ _ _ [.ref 5] _
    exact ev_s rfl (h0 h9)
  repeat (refine ev_s rfl (?_ : Ev _ _ _ _ _ _))
  refine ev_cs rfl (by decide) (by decide) (as := [.long v]) rfl rfl (Nat.le_of_ble_eq_true rfl) ?_
  refine k_isCell hv ?_
  rcases hv.int with ⟨m, rfl, _, m3, m4, m5⟩ | ⟨n, rfl, n4, n5⟩ | ⟨c, rfl, c1, c2, c4, c5⟩
  · show Ev _ _ _ _ [.int 0] _
    refine ev_ifF rfl (show ¬ ¬ (0 : Int32) = 0 by decide) ?_
    exact bad rfl
  · show Ev _ _ _ _ [.int 0] _
    refine ev_ifF rfl (show ¬ ¬ (0 : Int32) = 0 by decide) ?_
    exact bad rfl
  · subst c4
    show Ev _ _ _ _ [.int 1] _
    refine ev_ifT rfl (show ¬ (1 : Int32) = 0 by decide) ?_
    repeat (refine ev_s rfl (?_ : Ev _ _ _ _ _ _))
    rw [lN_i32]
    refine ev_lald rfl rfl (vp_in_nI c1 (by decide)) ?_
    rw [nI_clamp (by omega)]
    exact ev_retl rfl rfl (h1 _ _ rfl (hH.1 c c1 c2).2.1)
theorem k_tailOf {d : Nat} (hH : HeapM M U ψ ns H nid) (hv : RTv U ψ ns v w) {Q : Option (Option Value) → PM → Prop} (h1 : ∀ u a, aTl H w = some a → RTv U ψ ns u a → Q (some (some (.long u))) M) (h0 : aTl H w = none → Q none (mI M 0 8 5)) : SM (d + 2) 123 [.ref 0, .long v] M Q := by
  refine ⟨qX10_tailOf, rfl, ⟨Nat.le_of_ble_eq_true rfl, rfl, 0, _, _, rfl, rfl⟩, ?_⟩
  show Ev (BM (d + 1) qX10_tailOf) Q 0 [some (.ref 0), some (.long v), none] [] M
  have bad : aTl H w = none → Ev (BM (d + 1) qX10_tailOf) Q 7 [some (.ref 0), some (.long v), none] [] M := fun h9 => by
    repeat (refine ev_s rfl (?_ : Ev _ _ _ _ _ _))
    refine ev_cv rfl (as := [.ref 0, .int 5]) rfl rfl (Nat.le_of_ble_eq_true rfl) ?_
    refine k_fails ?_
    show Ev _ _ _ _ [.ref 5] _
    exact ev_s rfl (h0 h9)
  repeat (refine ev_s rfl (?_ : Ev _ _ _ _ _ _))
  refine ev_cs rfl (by decide) (by decide) (as := [.long v]) rfl rfl (Nat.le_of_ble_eq_true rfl) ?_
  refine k_isCell hv ?_
  rcases hv.int with ⟨m, rfl, _, m3, m4, m5⟩ | ⟨n, rfl, n4, n5⟩ | ⟨c, rfl, c1, c2, c4, c5⟩
  · show Ev _ _ _ _ [.int 0] _
    refine ev_ifF rfl (show ¬ ¬ (0 : Int32) = 0 by decide) ?_
    exact bad rfl
  · show Ev _ _ _ _ [.int 0] _
    refine ev_ifF rfl (show ¬ ¬ (0 : Int32) = 0 by decide) ?_
    exact bad rfl
  · subst c4
    show Ev _ _ _ _ [.int 1] _
    refine ev_ifT rfl (show ¬ (1 : Int32) = 0 by decide) ?_
    repeat (refine ev_s rfl (?_ : Ev _ _ _ _ _ _))
    rw [lN_i32]
    refine ev_lald rfl rfl (vp_in_nI c1 (by decide)) ?_
    rw [nI_clamp (by omega)]
    exact ev_retl rfl rfl (h1 _ _ rfl (hH.1 c c1 c2).2.2)
theorem k_second {d : Nat} (hH : HeapM M U ψ ns H nid) (hv : RTv U ψ ns v w) {Q : Option (Option Value) → PM → Prop} (h1 : ∀ u a, a2 H w = some a → RTv U ψ ns u a → Q (some (some (.long u))) M) (h0 : a2 H w = none → Q none (mI M 0 8 5)) : SM (d + 3) 124 [.ref 0, .long v] M Q := by
  refine ⟨qX10_second, rfl, ⟨Nat.le_of_ble_eq_true rfl, rfl, 0, _, _, rfl, rfl⟩, ?_⟩
  show Ev (BM (d + 2) qX10_second) Q 0 [some (.ref 0), some (.long v), none] [] M
  unfold a2 at h1 h0
  repeat (refine ev_s rfl (?_ : Ev _ _ _ _ _ _))
  refine ev_cv rfl (as := [.ref 0, .long v]) rfl rfl (Nat.le_of_ble_eq_true rfl) ?_
  refine k_tailOf hH hv (fun u a e1 hu => ?_) (fun e1 => ?_)
  · rw [e1] at h1 h0
    show Ev _ _ _ _ [.long u, .ref 0] _
    refine ev_cv rfl (as := [.ref 0, .long u]) rfl rfl (Nat.le_of_ble_eq_true rfl) ?_
    refine k_headOf hH hu (fun u2 a2 e2 hu2 => ?_) (fun e2 => ?_)
    · show Ev _ _ _ _ [.long u2] _
      exact ev_retl rfl rfl (h1 u2 a2 e2 hu2)
    · exact h0 e2
  · rw [e1] at h0
    exact h0 rfl
theorem k_third {d : Nat} (hH : HeapM M U ψ ns H nid) (hv : RTv U ψ ns v w) {Q : Option (Option Value) → PM → Prop} (h1 : ∀ u a, a3 H w = some a → RTv U ψ ns u a → Q (some (some (.long u))) M) (h0 : a3 H w = none → Q none (mI M 0 8 5)) : SM (d + 3) 125 [.ref 0, .long v] M Q := by
  refine ⟨qX10_third, rfl, ⟨Nat.le_of_ble_eq_true rfl, rfl, 0, _, _, rfl, rfl⟩, ?_⟩
  show Ev (BM (d + 2) qX10_third) Q 0 [some (.ref 0), some (.long v), none] [] M
  unfold a3 at h1 h0
  repeat (refine ev_s rfl (?_ : Ev _ _ _ _ _ _))
  refine ev_cv rfl (as := [.ref 0, .long v]) rfl rfl (Nat.le_of_ble_eq_true rfl) ?_
  refine k_tailOf hH hv (fun u a e1 hu => ?_) (fun e1 => ?_)
  · rw [e1] at h1 h0
    show Ev _ _ _ _ [.long u, .ref 0, .ref 0] _
    refine ev_cv rfl (as := [.ref 0, .long u]) rfl rfl (Nat.le_of_ble_eq_true rfl) ?_
    refine k_tailOf hH hu (fun u2 a2 e2 hu2 => ?_) (fun e2 => ?_)
    · have e2' : (some a).bind (aTl H) = some a2 := e2
      rw [e2'] at h1 h0
      show Ev _ _ _ _ [.long u2, .ref 0] _
      refine ev_cv rfl (as := [.ref 0, .long u2]) rfl rfl (Nat.le_of_ble_eq_true rfl) ?_
      refine k_headOf hH hu2 (fun u3 a3 e3 hu3 => ?_) (fun e3 => ?_)
      · show Ev _ _ _ _ [.long u3] _
        exact ev_retl rfl rfl (h1 u3 a3 e3 hu3)
      · exact h0 e3
    · have e2' : (some a).bind (aTl H) = none := e2
      rw [e2'] at h0
      exact h0 rfl
  · rw [e1] at h0
    exact h0 rfl
theorem k_burn {d : Nat} (h43 : M.1 0 43 = nI fuel) (h44 : M.1 0 44 = nI (fuel - fl)) (hfl : fl ≤ fuel) (hfu : fuel ≤ 20000) {Q : Option (Option Value) → PM → Prop} (h0 : fl = 0 → Q none (mI M 0 8 7)) (h1 : ∀ k, fl = k + 1 → Q (some none) (mI M 0 44 (nI (fuel - k)))) : SM (d + 2) 139 [.ref 0] M Q := by
  refine ⟨qX10_burn, rfl, ⟨Nat.le_of_ble_eq_true rfl, rfl, 0, _, _, rfl, rfl⟩, ?_⟩
  show Ev (BM (d + 1) qX10_burn) Q 0 [some (.ref 0)] [] M
  repeat (refine ev_s rfl (?_ : Ev _ _ _ _ _ _))
  rw [h43, h44]
  cases fl with
  | zero =>
    refine ev_icF rfl (show ¬ ¬ nI (fuel - 0) = nI fuel from fun h9 => h9 rfl) ?_
    repeat (refine ev_s rfl (?_ : Ev _ _ _ _ _ _))
    refine ev_cv rfl (as := [.ref 0, .int 7]) rfl rfl (Nat.le_of_ble_eq_true rfl) ?_
    refine k_fails ?_
    show Ev _ _ _ _ [.ref 5] _
    exact ev_s rfl (h0 rfl)
  | succ k =>
    refine ev_icT rfl (show ¬ nI (fuel - (k + 1)) = nI fuel from fun h9 => by have := (nI_eq (by omega) (by omega)).mp h9; omega) ?_
    repeat (refine ev_s rfl (?_ : Ev _ _ _ _ _ _))
    rw [h44, nI_1, show fuel - (k + 1) + 1 = fuel - k by omega]
    exact ev_retv rfl rfl (h1 k rfl)
theorem k_pairOf {d k : Nat} (hH : HeapM M U ψ ns H nid) (he : RTv U ψ ns (M.2 0 30) e) (hk : k < 300) (h43 : M.1 0 43 = nI fuel) (h44 : M.1 0 44 = nI (fuel - fl)) (hfl : fl ≤ fuel) (hfu : fuel ≤ 20000) {Q : Option (Option Value) → PM → Prop}
    (hF : ∀ c fl' M', aLook H (aS k) fl e = (.inl c, fl') → M'.1 0 8 = nI c → 0 < c → c < 14 → M'.1 0 44 = nI (fuel - fl') → fl' ≤ fuel → SameM [108, 144] M M' → Q none M')
    (hN : ∀ fl' M', aLook H (aS k) fl e = (.inr none, fl') → M'.1 0 44 = nI (fuel - fl') → fl' ≤ fuel → SameM [144] M M' → Q (some (some (.long (-1)))) M')
    (hY : ∀ fl' M' p i, aLook H (aS k) fl e = (.inr (some (H i).2), fl') → M'.1 0 44 = nI (fuel - fl') → fl' ≤ fuel → SameM [144] M M' → RTv U ψ ns p (aC i) → Q (some (some (.long p))) M') : SM (d + 3) 140 [.ref 0, .long (rS k)] M Q := by
  refine ⟨qX10_pairOf, rfl, ⟨Nat.le_of_ble_eq_true rfl, rfl, 0, _, _, rfl, rfl⟩, ?_⟩
  show Ev (BM (d + 2) qX10_pairOf) Q 0 [some (.ref 0), some (.long (rS k)), none, none, none, none, none] [] M
  have loop : ∀ (fl : Nat) (M1 : PM) (u : Int64) (e1 : AV) (z : Option Value), RTv U ψ ns u e1 → fl ≤ fuel → M1.1 0 44 = nI (fuel - fl) → SameM [144] M M1 →
      (∀ c fl' M', aLook H (aS k) fl e1 = (.inl c, fl') → M'.1 0 8 = nI c → 0 < c → c < 14 → M'.1 0 44 = nI (fuel - fl') → fl' ≤ fuel → SameM [108, 144] M M' → Q none M') →
      (∀ fl' M', aLook H (aS k) fl e1 = (.inr none, fl') → M'.1 0 44 = nI (fuel - fl') → fl' ≤ fuel → SameM [144] M M' → Q (some (some (.long (-1)))) M') →
      (∀ fl' M' p i, aLook H (aS k) fl e1 = (.inr (some (H i).2), fl') → M'.1 0 44 = nI (fuel - fl') → fl' ≤ fuel → SameM [144] M M' → RTv U ψ ns p (aC i) → Q (some (some (.long p))) M') → Ev (BM (d + 2) qX10_pairOf) Q 5 [some (.ref 0), some (.long (rS k)), none, some (.long u), none, z, none] [] M1 := by
    intro fl
    induction fl with
    | zero =>
      intro M1 u e1 z hu hfl h44 hs hF hN hY
      repeat (refine ev_s rfl (?_ : Ev _ _ _ _ _ _))
      refine ev_cs rfl (by decide) (by decide) (as := [.long u]) rfl rfl (Nat.le_of_ble_eq_true rfl) ?_
      refine k_isCell hu ?_
      have atom : ¬ aIsC e1 = true → Ev (BM (d + 2) qX10_pairOf) Q 46 [some (.ref 0), some (.long (rS k)), none, some (.long u), none, z, none] [] M1 := fun h9 => by
        have c0 := hu.eqS (k := 0) (by decide)
        repeat (refine ev_s rfl (?_ : Ev _ _ _ _ _ _))
        refine ev_lif rfl (fun hc => ?_) (fun hc => ?_)
        · have e0 : e1 = aS 0 := c0.mp hc
          subst e0
          repeat (refine ev_s rfl (?_ : Ev _ _ _ _ _ _))
          exact ev_retl rfl rfl (hN 0 M1 rfl h44 hfl hs)
        · have e0 : ¬ e1 = aS 0 := fun h8 => hc (c0.mpr h8)
          repeat (refine ev_s rfl (?_ : Ev _ _ _ _ _ _))
          refine ev_cv rfl (as := [.ref 0, .int 5]) rfl rfl (Nat.le_of_ble_eq_true rfl) ?_
          refine k_fails ?_
          show Ev _ _ _ _ [.ref 5] _
          refine ev_s rfl (hF 5 0 _ ?_ mI_at (by decide) (by decide) (by rw [mI_ne (Or.inr (by decide))]; exact h44) hfl (hs.t2 SameM.I0 (by decide)))
          unfold aLook
          split
          · exact (e0 rfl).elim
          · exact (h9 rfl).elim
          · rfl
      rcases hu.int with ⟨m, rfl, _, m3, m4, m5⟩ | ⟨n, rfl, n4, n5⟩ | ⟨c, rfl, c1, c2, c4, c5⟩
      · show Ev _ _ _ _ [.int 0] _
        refine ev_ifT rfl (show (0 : Int32) = 0 from rfl) ?_
        exact atom (by simp [aIsC])
      · show Ev _ _ _ _ [.int 0] _
        refine ev_ifT rfl (show (0 : Int32) = 0 from rfl) ?_
        exact atom (by simp [aIsC])
      · show Ev _ _ _ _ [.int 1] _
        refine ev_ifF rfl (show ¬ (1 : Int32) = 0 by decide) ?_
        repeat (refine ev_s rfl (?_ : Ev _ _ _ _ _ _))
        refine ev_cv rfl (as := [.ref 0]) rfl rfl (Nat.le_of_ble_eq_true rfl) ?_
        refine k_burn ((hs.2 43 (by decide)).1.trans h43) h44 hfl hfu (fun _ => ?_) (fun k h9 => by omega)
        exact hF 7 0 _ rfl mI_at (by decide) (by decide) (by rw [mI_ne (Or.inr (by decide))]; exact h44) hfl (hs.t2 SameM.I0 (by decide))
    | succ fl ih =>
      intro M1 u e1 z hu hfl h44 hs hF hN hY
      repeat (refine ev_s rfl (?_ : Ev _ _ _ _ _ _))
      refine ev_cs rfl (by decide) (by decide) (as := [.long u]) rfl rfl (Nat.le_of_ble_eq_true rfl) ?_
      refine k_isCell hu ?_
      have atom : ¬ aIsC e1 = true → Ev (BM (d + 2) qX10_pairOf) Q 46 [some (.ref 0), some (.long (rS k)), none, some (.long u), none, z, none] [] M1 := fun h9 => by
        have c0 := hu.eqS (k := 0) (by decide)
        repeat (refine ev_s rfl (?_ : Ev _ _ _ _ _ _))
        refine ev_lif rfl (fun hc => ?_) (fun hc => ?_)
        · have e0 : e1 = aS 0 := c0.mp hc
          subst e0
          repeat (refine ev_s rfl (?_ : Ev _ _ _ _ _ _))
          exact ev_retl rfl rfl (hN (fl + 1) M1 rfl h44 hfl hs)
        · have e0 : ¬ e1 = aS 0 := fun h8 => hc (c0.mpr h8)
          repeat (refine ev_s rfl (?_ : Ev _ _ _ _ _ _))
          refine ev_cv rfl (as := [.ref 0, .int 5]) rfl rfl (Nat.le_of_ble_eq_true rfl) ?_
          refine k_fails ?_
          show Ev _ _ _ _ [.ref 5] _
          refine ev_s rfl (hF 5 (fl + 1) _ ?_ mI_at (by decide) (by decide) (by rw [mI_ne (Or.inr (by decide))]; exact h44) hfl (hs.t2 SameM.I0 (by decide)))
          unfold aLook
          split
          · exact (e0 rfl).elim
          · exact (h9 rfl).elim
          · rfl
      rcases hu.int with ⟨m, rfl, _, m3, m4, m5⟩ | ⟨n, rfl, n4, n5⟩ | ⟨c, rfl, c1, c2, c4, c5⟩
      · show Ev _ _ _ _ [.int 0] _
        refine ev_ifT rfl (show (0 : Int32) = 0 from rfl) ?_
        exact atom (by simp [aIsC])
      · show Ev _ _ _ _ [.int 0] _
        refine ev_ifT rfl (show (0 : Int32) = 0 from rfl) ?_
        exact atom (by simp [aIsC])
      · have eL : aLook H (aS k) (fl + 1) (aC (ψ c)) = (match aHd H (H (ψ c)).1 with
          | none => (.inl 5, fl)
          | some nm => if nm = aS k then (.inr (aTl H (H (ψ c)).1), fl) else aLook H (aS k) fl (H (ψ c)).2) := rfl
        rw [eL] at hF hN hY
        show Ev _ _ _ _ [.int 1] _
        refine ev_ifF rfl (show ¬ (1 : Int32) = 0 by decide) ?_
        repeat (refine ev_s rfl (?_ : Ev _ _ _ _ _ _))
        refine ev_cv rfl (as := [.ref 0]) rfl rfl (Nat.le_of_ble_eq_true rfl) ?_
        refine k_burn ((hs.2 43 (by decide)).1.trans h43) h44 hfl hfu (fun h9 => by omega) (fun k' h9 => ?_)
        have ek : k' = fl := by omega
        subst ek
        have s2 : SameM [144] M (mI M1 0 44 (nI (fuel - k'))) := hs.t2 SameM.I0 (by decide)
        generalize hM2 : mI M1 0 44 (nI (fuel - k')) = M2 at s2
        have h442 : M2.1 0 44 = nI (fuel - k') := by rw [← hM2, mI_at]
        have hH2 : HeapM M2 U ψ ns H nid := by
          unfold HeapM
          rw [(s2.1 6 (by decide) (by decide)).2, (s2.1 7 (by decide) (by decide)).2]
          exact hH
        show Ev _ _ _ _ [] _
        repeat (refine ev_s rfl (?_ : Ev _ _ _ _ _ _))
        refine ev_cv rfl (as := [.ref 0, .long u]) rfl rfl (Nat.le_of_ble_eq_true rfl) ?_
        refine k_headOf hH2 hu (fun p a p1 p2 => ?_) (fun p1 => by cases p1)
        cases p1
        show Ev _ _ _ _ [.long p] _
        repeat (refine ev_s rfl (?_ : Ev _ _ _ _ _ _))
        refine ev_cv rfl (as := [.ref 0, .long p]) rfl rfl (Nat.le_of_ble_eq_true rfl) ?_
        refine k_headOf hH2 p2 (fun q b q1 q2 => ?_) (fun q1 => ?_)
        · rw [q1] at hF hN hY
          dsimp only at hF hN hY
          show Ev _ _ _ _ [.long q] _
          repeat (refine ev_s rfl (?_ : Ev _ _ _ _ _ _))
          have cs := q2.eqS hk
          refine ev_lif rfl (fun hc => ?_) (fun hc => ?_)
          · have nb : ¬ b = aS k := fun h9 => hc (cs.mpr h9)
            rw [if_neg nb] at hF hN hY
            repeat (refine ev_s rfl (?_ : Ev _ _ _ _ _ _))
            refine ev_cv rfl (as := [.ref 0, .long u]) rfl rfl (Nat.le_of_ble_eq_true rfl) ?_
            refine k_tailOf hH2 hu (fun r a r1 r2 => ?_) (fun r1 => by cases r1)
            cases r1
            show Ev _ _ _ _ [.long r] _
            iterate 2 (refine ev_s rfl (?_ : Ev _ _ _ _ _ _))
            exact ih M2 r _ _ r2 (by omega) h442 s2 hF hN hY
          · have yb : b = aS k := cs.mp (Decidable.not_not.mp hc)
            rw [if_pos yb] at hF hN hY
            repeat (refine ev_s rfl (?_ : Ev _ _ _ _ _ _))
            obtain ⟨j, hj⟩ : ∃ j, (H (ψ c)).1 = aC j := by
              revert q1
              match (H (ψ c)).1 with
              | .inl _ => exact fun h9 => by cases h9
              | .inr (.inl _) => exact fun h9 => by cases h9
              | .inr (.inr j) => exact fun _ => ⟨j, rfl⟩
            rw [hj] at hY p2
            exact ev_retl rfl rfl (hY k' M2 p j rfl h442 (by omega) s2 p2)
        · rw [q1] at hF
          dsimp only at hF
          exact hF 5 k' _ rfl mI_at (by decide) (by decide) (by rw [mI_ne (Or.inr (by decide))]; exact h442) (by omega) (s2.t2 SameM.I0 (by decide))
  iterate 3 (refine ev_s rfl (?_ : Ev _ _ _ _ _ _))
  exact loop fl M (M.2 0 30) e _ he hfl h44 SameM.rf hF hN hY
theorem k_variable {d : Nat} (hv : RTv U ψ ns v w) {Q : Option (Option Value) → PM → Prop} (h1 : aVar w → Q (some none) M) (h0 : ¬ aVar w → Q none (mI M 0 8 5)) : SM (d + 2) 145 [.ref 0, .long v] M Q := by
  refine ⟨qX10_variable, rfl, ⟨Nat.le_of_ble_eq_true rfl, rfl, 0, _, _, rfl, rfl⟩, ?_⟩
  show Ev (BM (d + 1) qX10_variable) Q 0 [some (.ref 0), some (.long v), none] [] M
  have bad : ¬ aVar w → Ev (BM (d + 1) qX10_variable) Q 23 [some (.ref 0), some (.long v), none] [] M := fun h9 => by
    repeat (refine ev_s rfl (?_ : Ev _ _ _ _ _ _))
    refine ev_cv rfl (as := [.ref 0, .int 5]) rfl rfl (Nat.le_of_ble_eq_true rfl) ?_
    refine k_fails ?_
    show Ev _ _ _ _ [.ref 5] _
    exact ev_s rfl (h0 h9)
  have c0 := hv.eqS (k := 0) (by decide)
  have c1 := hv.eqS (k := 1) (by decide)
  repeat (refine ev_s rfl (?_ : Ev _ _ _ _ _ _))
  refine ev_cs rfl (by decide) (by decide) (as := [.long v]) rfl rfl (Nat.le_of_ble_eq_true rfl) ?_
  refine k_isSymbol hv ?_
  rcases hv.int with ⟨m, rfl, _, m3, m4, m5⟩ | ⟨n, rfl, n4, n5⟩ | ⟨c, rfl, c1, c2, c4, c5⟩
  · show Ev _ _ _ _ [.int 1] _
    refine ev_ifF rfl (show ¬ (1 : Int32) = 0 by decide) ?_
    repeat (refine ev_s rfl (?_ : Ev _ _ _ _ _ _))
    refine ev_lif rfl (fun hc => bad ?_) (fun hc => ?_)
    · have h9 := c0.mp hc
      rintro ⟨k, k1, k2⟩
      rw [h9] at k2
      cases k2
      omega
    repeat (refine ev_s rfl (?_ : Ev _ _ _ _ _ _))
    refine ev_lif rfl (fun hc2 => ?_) (fun hc2 => bad ?_)
    · refine ev_retv rfl rfl (h1 ⟨m, ?_, rfl⟩)
      have n0 : ¬ m = 0 := fun h9 => hc (c0.mpr (by rw [h9]))
      have n1 : ¬ m = 1 := fun h9 => hc2 (c1.mpr (by rw [h9]))
      omega
    · have h9 := c1.mp (Decidable.not_not.mp hc2)
      rintro ⟨k, k1, k2⟩
      rw [h9] at k2
      cases k2
      omega
  · show Ev _ _ _ _ [.int 0] _
    refine ev_ifT rfl (show (0 : Int32) = 0 from rfl) ?_
    refine bad ?_
    rintro ⟨k, k1, k2⟩
    cases k2
  · show Ev _ _ _ _ [.int 0] _
    refine ev_ifT rfl (show (0 : Int32) = 0 from rfl) ?_
    refine bad ?_
    rintro ⟨k, k1, k2⟩
    cases k2
theorem k_gives {d : Nat} {Q : Option (Option Value) → PM → Prop} (h : Q (some (some (.int 1))) (mJ M 0 32 v)) : SM (d + 1) 147 [.ref 0, .long v] M Q := by
  refine ⟨qX10_gives, rfl, ⟨Nat.le_of_ble_eq_true rfl, rfl, 0, _, _, rfl, rfl⟩, ?_⟩
  show Ev (BM (d) qX10_gives) Q 0 [some (.ref 0), some (.long v), none] [] M
  repeat (refine ev_s rfl (?_ : Ev _ _ _ _ _ _))
  exact ev_reti rfl rfl trivial rfl h
theorem k_says {d : Nat} {b : Bool} {Q : Option (Option Value) → PM → Prop} (h : ∀ u, RTv U ψ ns u (aTr b) → Q (some (some (.int 1))) (mJ M 0 32 u)) (hns : 23 ≤ ns) : SM (d + 2) 148 [.ref 0, .int (if b then 1 else 0)] M Q := by
  refine ⟨qX10_says, rfl, ⟨Nat.le_of_ble_eq_true rfl, rfl, 0, _, _, rfl, rfl⟩, ?_⟩
  show Ev (BM (d + 1) qX10_says) Q 0 [some (.ref 0), some (.int (if b then 1 else 0))] [] M
  cases b with
  | true =>
    repeat (refine ev_s rfl (?_ : Ev _ _ _ _ _ _))
    refine ev_ifF rfl (show ¬ (1 : Int32) = 0 by decide) ?_
    repeat (refine ev_s rfl (?_ : Ev _ _ _ _ _ _))
    refine ev_cv rfl (as := [.ref 0, .long (rS 1)]) rfl rfl (Nat.le_of_ble_eq_true rfl) ?_
    refine k_gives ?_
    show Ev _ _ _ _ [.int 1] _
    exact ev_reti rfl rfl trivial rfl (h _ (RTv.sym (k := 1) (by omega) (by decide)))
  | false =>
    repeat (refine ev_s rfl (?_ : Ev _ _ _ _ _ _))
    refine ev_ifT rfl (show (0 : Int32) = 0 from rfl) ?_
    repeat (refine ev_s rfl (?_ : Ev _ _ _ _ _ _))
    refine ev_cv rfl (as := [.ref 0, .long (rS 0)]) rfl rfl (Nat.le_of_ble_eq_true rfl) ?_
    refine k_gives ?_
    show Ev _ _ _ _ [.int 1] _
    exact ev_reti rfl rfl trivial rfl (h _ (RTv.sym (k := 0) (by omega) (by decide)))
theorem FrAt.congr {M' : PM} {k : Nat} {F : AF} (h : FrAt M U ψ ns k F) (e15 : M'.1 15 k = M.1 15 k) (e16 : M'.2 16 k = M.2 16 k) (e17 : M'.2 17 k = M.2 17 k) (e18 : M'.2 18 k = M.2 18 k) (e20 : M'.1 20 k = M.1 20 k) (e19 : ∀ i, i < 10 → M'.2 19 (10 * k + i) = M.2 19 (10 * k + i)) : FrAt M' U ψ ns k F := by
  obtain ⟨a1, a2, a3, a4, a5, a6, a7, a8⟩ := h
  refine ⟨e15.trans a1, by rw [e16]; exact a2, by rw [e17]; exact a3, fun h9 => e18.trans (a4 h9), fun h9 => by rw [e18]; exact a5 h9, e20.trans a6, a7, fun i a hi => ?_⟩
  rw [e19 i (by have := (List.getElem?_eq_some_iff.mp hi).1; omega)]
  exact a8 i a hi
theorem k_frame {d : Nat} {vl vf : Int64} {l fn : AV} {b : Bool} (hC : CoreM M U ψ ns lim H nid x e f fns pe vs frs) (hl : RTv U ψ ns vl l) (hb : b = decide (fn = aS 3)) (hf1 : fn = aS 3 → vf = -1) (hf2 : fn ≠ aS 3 → RTv U ψ ns vf fn) (h42 : M.1 0 42 = nI mo) (hmo : mo ≤ 200) {Q : Option (Option Value) → PM → Prop}
    (h1 : frs.length < 200 → ∀ M', CoreM M' U ψ ns lim H nid x e f fns pe vs ((fn, l, e, []) :: frs) → M'.1 0 42 = nI (aMx mo (frs.length + 1)) → SameM [15, 16, 17, 18, 20, 141, 142] M M' → Q (some none) M')
    (h0 : ¬ frs.length < 200 → Q none (mI M 0 8 12)) : SM (d + 2) 141 [.ref 0, .int (if b then 1 else 0), .long vl, .long vf] M Q := by
  refine ⟨qX10_frame, rfl, ⟨Nat.le_of_ble_eq_true rfl, rfl, 0, _, _, rfl, rfl⟩, ?_⟩
  show Ev (BM (d + 1) qX10_frame) Q 0 [some (.ref 0), some (.int (if b then 1 else 0)), some (.long vl), none, some (.long vf), none] [] M
  obtain ⟨c1, c2, c3, c4, c5, c6, c7, c8, c9, c10, c11⟩ := id hC
  have h200 := c9.2.1
  repeat (refine ev_s rfl (?_ : Ev _ _ _ _ _ _))
  rw [c9.1]
  refine ev_ic rfl (fun hc => ?_) (fun hc => ?_)
  · have hlt : frs.length < 200 := by
      have : ¬ frs.length = 200 := fun h9 => hc (by rw [h9]; rfl)
      omega
    repeat (refine ev_s rfl (?_ : Ev _ _ _ _ _ _))
    rw [c9.1]
    repeat (refine ev_s rfl (?_ : Ev _ _ _ _ _ _))
    refine ev_zast rfl rfl (vp_in_nI hlt (by decide)) ?_
    have enb : vp_nar .boolean (if b then 1 else 0) = (if b then 1 else 0 : Int32) := by cases b <;> decide
    rw [nI_clamp (by omega), enb]
    have f1 : (mI M 15 frs.length (if b then 1 else 0)).1 0 41 = nI frs.length := by rw [mI_ne (Or.inl (by decide))]; exact c9.1
    repeat (refine ev_s rfl (?_ : Ev _ _ _ _ _ _))
    rw [f1]
    repeat (refine ev_s rfl (?_ : Ev _ _ _ _ _ _))
    refine ev_last rfl rfl (vp_in_nI hlt (by decide)) ?_
    rw [nI_clamp (by omega)]
    repeat (refine ev_s rfl (?_ : Ev _ _ _ _ _ _))
    rw [mJ_1, f1]
    repeat (refine ev_s rfl (?_ : Ev _ _ _ _ _ _))
    refine ev_last rfl rfl (vp_in_nI hlt (by decide)) ?_
    rw [nI_clamp (by omega)]
    repeat (refine ev_s rfl (?_ : Ev _ _ _ _ _ _))
    rw [mJ_1, mJ_1, f1]
    repeat (refine ev_s rfl (?_ : Ev _ _ _ _ _ _))
    refine ev_last rfl rfl (vp_in_nI hlt (by decide)) ?_
    rw [nI_clamp (by omega)]
    repeat (refine ev_s rfl (?_ : Ev _ _ _ _ _ _))
    rw [mJ_1, mJ_1, mJ_1, f1]
    repeat (refine ev_s rfl (?_ : Ev _ _ _ _ _ _))
    refine ev_iast rfl rfl (vp_in_nI hlt (by decide)) ?_
    rw [nI_clamp (by omega)]
    have eenv : (mJ (mI M 15 frs.length (if b then 1 else 0)) 16 frs.length vl).2 0 30 = M.2 0 30 := by rw [mJ_ne (Or.inl (by decide))]; rfl
    rw [eenv]
    generalize hM2 : mI (mJ (mJ (mJ (mI M 15 frs.length (if b then 1 else 0)) 16 frs.length vl) 17 frs.length (M.2 0 30)) 18 frs.length vf) 20 frs.length 0 = M2
    have s2 : SameM [15, 16, 17, 18, 20] M M2 := by
      rw [← hM2]
      exact (((SameM.Ik (by decide)).tr (SameM.Jk (by decide))).tr (((SameM.Jk (by decide)).tr (SameM.Jk (by decide))).tr (SameM.Ik (by decide)))).sub (by decide)
    repeat (refine ev_s rfl (?_ : Ev _ _ _ _ _ _))
    rw [(s2.2 41 (by decide)).1, c9.1, nI_1]
    have s3 : SameM [15, 16, 17, 18, 20, 141] M (mI M2 0 41 (nI (frs.length + 1))) := s2.t2 SameM.I0 (by decide)
    have f42 : (mI M2 0 41 (nI (frs.length + 1))).1 0 42 = nI mo := (s3.2 42 (by decide)).1.trans h42
    have f41 : (mI M2 0 41 (nI (frs.length + 1))).1 0 41 = nI (frs.length + 1) := mI_at
    -- the end
    have fin : ∀ y, y = nI (aMx mo (frs.length + 1)) → Q (some none) (mI (mI M2 0 41 (nI (frs.length + 1))) 0 42 y) := fun y hy => by
      have s4 : SameM [15, 16, 17, 18, 20, 141, 142] M (mI (mI M2 0 41 (nI (frs.length + 1))) 0 42 y) := s3.t2 SameM.I0 (by decide)
      refine h1 hlt _ ⟨c1.same s4 (by decide), c2, by rw [(s4.2 29 (by decide)).2]; exact c3, by rw [(s4.2 30 (by decide)).2]; exact c4, by rw [(s4.2 31 (by decide)).2]; exact c5, c6.kept (RA := fun _ => True) (H := H) KeptM.rf (fun _ _ => trivial) s4 (by decide) (by decide), c7.kept (RA := fun _ => True) (H := H) KeptM.rf (fun _ _ => trivial) s4 (by decide) (by decide) (by decide), c8.kept (RA := fun _ => True) (H := H) KeptM.rf (fun _ _ => trivial) s4 (by decide) (by decide) (by decide), ⟨?_, by simp; omega, fun k F hF => ?_⟩, (s4.2 5 (by decide)).1.trans c10, c11⟩ (by rw [mI_at, hy]) s4
      · rw [mI_ne (Or.inr (by decide)), mI_at]; rfl
      · rw [List.reverse_cons] at hF
        by_cases hk : k < frs.length
        · rw [List.getElem?_append_left (by rw [List.length_reverse]; exact hk)] at hF
          have hne : k ≠ frs.length := by omega
          refine (c9.2.2 k F hF).congr ?_ ?_ ?_ ?_ ?_ (fun i hi => ?_)
          · rw [mI_ne (Or.inl (by decide)), mI_ne (Or.inl (by decide)), ← hM2, mI_ne (Or.inl (by decide)), mJ_1, mJ_1, mJ_1, mI_ne (Or.inr hne)]
          · rw [mI_2, mI_2, ← hM2, mI_2, mJ_ne (Or.inl (by decide)), mJ_ne (Or.inl (by decide)), mJ_ne (Or.inr hne)]; rfl
          · rw [mI_2, mI_2, ← hM2, mI_2, mJ_ne (Or.inl (by decide)), mJ_ne (Or.inr hne), mJ_ne (Or.inl (by decide))]; rfl
          · rw [mI_2, mI_2, ← hM2, mI_2, mJ_ne (Or.inr hne), mJ_ne (Or.inl (by decide)), mJ_ne (Or.inl (by decide))]; rfl
          · rw [mI_ne (Or.inl (by decide)), mI_ne (Or.inl (by decide)), ← hM2, mI_ne (Or.inr hne), mJ_1, mJ_1, mJ_1, mI_ne (Or.inl (by decide))]
          · rw [(s4.1 19 (by decide) (by decide)).2]
        · have hk2 := (List.getElem?_eq_some_iff.mp hF).1
          simp at hk2
          have ek : k = frs.length := by omega
          subst ek
          rw [List.getElem?_append_right (by simp), List.length_reverse, Nat.sub_self] at hF
          have eF : (fn, l, e, ([] : List AV)) = F := by simpa using hF
          subst eF
          refine ⟨?_, ?_, ?_, fun h9 => ?_, fun h9 => ?_, ?_, Nat.zero_le _, fun i a hi => by simp at hi⟩
          · rw [mI_ne (Or.inl (by decide)), mI_ne (Or.inl (by decide)), ← hM2, mI_ne (Or.inl (by decide)), mJ_1, mJ_1, mJ_1, mI_at, hb]
            by_cases h3 : fn = aS 3 <;> simp [h3]
          · rw [mI_2, mI_2, ← hM2, mI_2, mJ_ne (Or.inl (by decide)), mJ_ne (Or.inl (by decide)), mJ_at]; exact hl
          · rw [mI_2, mI_2, ← hM2, mI_2, mJ_ne (Or.inl (by decide)), mJ_at]; exact c4
          · rw [mI_2, mI_2, ← hM2, mI_2, mJ_at]; exact hf1 h9
          · rw [mI_2, mI_2, ← hM2, mI_2, mJ_at]; exact hf2 h9
          · rw [mI_ne (Or.inl (by decide)), mI_ne (Or.inl (by decide)), ← hM2, mI_at]; rfl
    rw [f41, f42]
    refine ev_ic rfl (fun hc2 => ?_) (fun hc2 => ?_)
    · have hle : frs.length + 1 ≤ mo := (nI_leI (by omega) (by omega)).mp hc2
      repeat (refine ev_s rfl (?_ : Ev _ _ _ _ _ _))
      rw [f42]
      refine ev_retv rfl rfl (fin _ ?_)
      unfold aMx
      rw [if_neg (by omega)]
    · have hle : ¬ frs.length + 1 ≤ mo := fun h9 => hc2 (nI_le h9 (by omega))
      repeat (refine ev_s rfl (?_ : Ev _ _ _ _ _ _))
      rw [f41]
      refine ev_retv rfl rfl (fin _ ?_)
      unfold aMx
      rw [if_pos (by omega)]
  · have he : frs.length = 200 := (nI_eq (b := 200) (by omega) (by decide)).mp (Decidable.not_not.mp hc)
    repeat (refine ev_s rfl (?_ : Ev _ _ _ _ _ _))
    refine ev_cv rfl (as := [.ref 0, .int 12]) rfl rfl (Nat.le_of_ble_eq_true rfl) ?_
    refine k_fails ?_
    show Ev _ _ _ _ [.ref 5] _
    exact ev_s rfl (h0 (by omega))
end KB

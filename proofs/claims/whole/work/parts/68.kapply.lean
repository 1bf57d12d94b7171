/-! The reference's machine: applies. -/
/-- w is reached wherever v is -/
def Cov (H : AHp) (v w : AV) : Prop := ∀ R : AV → Prop, R v → ∀ i, w = aC i → AR H R i
theorem AR.sub {H : AHp} {R R' : AV → Prop} (h : ∀ j, R (aC j) → AR H R' j) {i : Nat} (hi : AR H R i) : AR H R' i := fun S h1 h2 => hi S (fun j hj => h j hj S h1 h2) h2
theorem Cov.rf {H : AHp} {v : AV} : Cov H v v := fun _ hR _ h9 => AR.root (h9 ▸ hR)
theorem Cov.up {H : AHp} {n : Nat} {a b v w : AV} (h : Cov H v w) (hac : Acy H n) (hv : ∀ i, v = aC i → i < n) : Cov (ahUp H n a b) v w := fun R hR i hi => by
  have h1 := h (fun u => u = v) rfl i hi
  refine (h1 (fun j => j < n ∧ AR (ahUp H n a b) R j) (fun j hj => ⟨hv j hj.symm, AR.root (hj ▸ hR)⟩) (fun j hj => ⟨fun k hk => ?_, fun k hk => ?_⟩)).2
  · have := hac j hj.1 k (Or.inl hk)
    exact ⟨by omega, hj.2.hd (by rw [ahUp_old hj.1]; exact hk)⟩
  · have := hac j hj.1 k (Or.inr hk)
    exact ⟨by omega, hj.2.tl (by rw [ahUp_old hj.1]; exact hk)⟩
theorem Cov.tl {H : AHp} {i : Nat} {w : AV} (h : Cov H (H i).2 w) : Cov H (aC i) w := fun R hR j hj => (h (fun u => u = (H i).2) rfl j hj).sub (fun k hk => (AR.root hR).tl hk.symm)
theorem Cov.hd {H : AHp} {i : Nat} {w : AV} (h : Cov H (H i).1 w) : Cov H (aC i) w := fun R hR j hj => (h (fun u => u = (H i).1) rfl j hj).sub (fun k hk => (AR.root hR).hd hk.symm)
/-- the variables in a list -/
def VL (H : AHp) : AV → List AV → Prop
  | v, [] => v = aS 0
  | v, a :: r => ∃ i, v = aC i ∧ (H i).1 = a ∧ VL H (H i).2 r
theorem VL.up {H : AHp} {n : Nat} {a b : AV} (hac : Acy H n) : ∀ {vars : List AV} {v : AV}, VL H v vars → (∀ i, v = aC i → i < n) → VL (ahUp H n a b) v vars
  | [], _, h, _ => h
  | x :: r, v, h, hv => by
    obtain ⟨i, i1, i2, i3⟩ := h
    have hi := hv i i1
    refine ⟨i, i1, by rw [ahUp_old hi]; exact i2, ?_⟩
    rw [ahUp_old hi]
    exact VL.up hac i3 (fun j hj => by have := hac i hi j (Or.inr hj); omega)
theorem aVars_VL {H : AHp} : ∀ (m : Nat) {v : AV} {vars : List AV}, aVars H m v = some vars → VL H v vars ∧ ∀ a ∈ vars, aVar a
  | 0, _, _, h => by cases h
  | m + 1, v, vars, h => by
    rcases v with k | q | i
    · by_cases h0 : (aS k) = aS 0
      · have e : aVars H (m + 1) (aS k) = some [] := if_pos h0
        rw [e] at h
        cases h
        exact ⟨h0, fun a ha => by simp at ha⟩
      · have e : aVars H (m + 1) (aS k) = none := if_neg h0
        rw [e] at h
        cases h
    · cases h
    · rw [aVars_C] at h
      split at h
      · rename_i hd
        obtain ⟨r, r1, r2⟩ := Option.map_eq_some_iff.mp h
        obtain ⟨g1, g2⟩ := aVars_VL m r1
        subst r2
        refine ⟨⟨i, rfl, rfl, g1⟩, fun a ha => ?_⟩
        rcases List.mem_cons.mp ha with h9 | h9
        · rw [h9]; exact @of_decide_eq_true _ (Classical.propDecidable _) hd
        · exact g2 a h9
      · cases h
section KA
variable {M M0 : PM} {U : Nat → Bool} {ψ : Nat → Nat} {ns lim : Nat} {H : AHp} {n : Nat} {x e f : AV} {fns : List (Option AV)} {vs : List AV} {frs : List AF} {v : Int64} {w : AV} {fuel fl mo : Nat}
/-- a cell more, with another env at hand -/
theorem k_consB {d : Nat} {va vb vm : Int64} {a b m ea : AV} (h : LiveM fuel lim ns fns M U ψ x e f vs frs fl mo H n) (ha : RTv U ψ ns va a) (hb : RTv U ψ ns vb b) (hm : RTv U ψ ns vm m) (hme : m = ea ∨ (b = ea ∧ m = aS 0)) (hcov : Cov H ea e) (hs : SameM IDK M0 M) {Q : Option (Option Value) → PM → Prop} {r1 : AV → AHp → Nat → MR} {P : MR → Prop}
    (hP : P (aCons lim fns (rts x ea f [] vs (flatA frs)) a b H n r1 (aFl 8 fl mo)))
    (hok : ∀ M' U' ψ' v, P (r1 (aC n) (ahUp H n a b) (n + 1)) → LiveM fuel lim ns fns M' U' ψ' x e f vs frs fl mo (ahUp H n a b) (n + 1) → RTv U' ψ' ns v (aC n) → KeptM U ψ ns H (ARt fns (rts x ea f [] vs (flatA frs)) a b) U' ψ' → SameM IDK M0 M' → Q (some (some (.long v))) M')
    (hno : ∀ M', P (aFl 8 fl mo H n) → PostMM fuel lim ns fns M0 (aFl 8 fl mo H n) none M' → Q none M') : SM (d + 6) 121 [.ref 0, .long va, .long vb, .long vm] M Q := by
  have hE : ∀ i, AR H (ARt fns (rts x ea f [] vs (flatA frs)) a b) i ↔ AR H (RM fns x e f [] vs frs a b m) i := by
    intro i
    constructor
    · intro hi
      refine hi.sub (fun j hj => AR.root ?_)
      simp only [RM, ARt, rts, List.mem_cons, List.mem_append] at hj ⊢
      rcases hj with h9 | (h9 | h9 | h9 | h9) | h9 | h9
      · simp [h9]
      · simp [h9]
      · rcases hme with h8 | ⟨h8, _⟩
        · right; rw [h8]; exact h9
        · left; right; right; right; rw [h8]; exact h9
      · simp [h9]
      · simp only [h9, true_or, or_true]
      · simp [h9]
      · simp [h9]
    · intro hi
      refine hi.sub (fun j hj => ?_)
      have rea : ARt fns (rts x ea f [] vs (flatA frs)) a b ea := Or.inr (Or.inl (by simp))
      simp only [RM, ARt, rts, List.mem_cons, List.mem_append] at hj
      rcases hj with (h9 | (h9 | h9 | h9 | h9) | h9 | h9) | h9
      · exact AR.root (Or.inl h9)
      · exact AR.root (Or.inr (Or.inl (by simp [h9])))
      · exact hcov _ rea j h9.symm
      · exact AR.root (Or.inr (Or.inl (by simp [h9])))
      · refine AR.root (Or.inr (Or.inl ?_))
        simp only [rts, List.mem_cons, List.mem_append]
        simp only [h9, or_true]
      · exact AR.root (Or.inr (Or.inr (Or.inl h9)))
      · exact AR.root (Or.inr (Or.inr (Or.inr h9)))
      · rcases hme with h8 | ⟨_, h8⟩
        · exact AR.root (by rw [h9, h8]; exact rea)
        · rw [h8] at h9; cases h9
  refine k_cons h.1 ha hb hm hE (fun hlt M' U' ψ' v g1 g2 g3 g4 => ?_) (fun hge M' U' g1 g2 g3 => ?_)
  · rw [aCons_ok hlt] at hP
    exact hok M' U' ψ' v hP (h.core g4 (by decide) g1) g2 g3 (hs.t2 g4 (by decide))
  · rw [aCons_no (by omega)] at hP
    exact hno M' hP ((h.core g3 (by decide) g1).flt (hs.t2 g3 (by decide)) SameM.rf g2 (by decide) (by decide))
theorem RTv.ltn (h : LiveM fuel lim ns fns M U ψ x e f vs frs fl mo H n) (hv : RTv U ψ ns v w) : ∀ i, w = aC i → i < n := fun i h9 => RTv.lt h.1.1.2.2.2.2.2.2 (h9 ▸ hv)
theorem k_binds {d : Nat} (h : LiveM fuel lim ns fns M U ψ x e f vs frs fl mo H n) {Q : Option (Option Value) → PM → Prop} (hq : ∀ o M', PostMM fuel lim ns fns M (aLambda lim fns x e f vs frs fl mo H n) o M' → Q o M') : SM (d + 7) 146 [.ref 0] M Q := by
  refine ⟨qX10_binds, rfl, ⟨Nat.le_of_ble_eq_true rfl, rfl, 0, _, _, rfl, rfl⟩, ?_⟩
  show Ev (BM (d + 6) qX10_binds) Q 0 [some (.ref 0), none, none, none, none, none, none, none, none, none, none, none, none] [] M
  have hns : 23 ≤ ns := h.1.2.2.2.2.2.2.2.2.2.2.1
  have hV := h.1.2.2.2.2.2.2.2.1
  have hH := h.1.1.2.2.2.2.2.2
  have hF := h.1.2.2.2.2.1
  have h10 := hV.2.1
  have hac := h.1.2.1
  unfold aLambda at hq
  have five : (∀ o M', PostMM fuel lim ns fns M (aFl 5 fl mo H n) o M' → Q o M') → Q none (mI M 0 8 5) := fun hq => hq _ _ (h.f8 (c := 5) SameM.rf (by decide) (by decide))
  repeat (refine ev_s rfl (?_ : Ev _ _ _ _ _ _))
  refine ev_cv rfl (as := [.ref 0, .long (M.2 0 31)]) rfl rfl (Nat.le_of_ble_eq_true rfl) ?_
  refine k_second hH hF (fun ul li e2 r2 => ?_) (fun e2 => ?_)
  · rw [e2] at hq
    show Ev _ _ _ _ [.long ul] _
    repeat (refine ev_s rfl (?_ : Ev _ _ _ _ _ _))
    refine ev_cv rfl (as := [.ref 0, .long (M.2 0 31)]) rfl rfl (Nat.le_of_ble_eq_true rfl) ?_
    refine k_third hH hF (fun ub body e3 r3 => ?_) (fun e3 => ?_)
    · rw [e3] at hq
      have ltl := RTv.ltn h r2
      -- the binding
      have bind : ∀ vars, aVars H (n + 1) li = some vars → vars.length = vs.length → (∀ o M', PostMM fuel lim ns fns M (aBind lim fns x f vs (flatA frs) (vars.zip vs).reverse e H n (fun e H n => aEv body e frs fl mo H n) (aFl 8 fl mo)) o M' → Q o M') → ∀ u6 : Int64, Ev (BM (d + 6) qX10_binds) Q 87 [some (.ref 0), some (.long ul), none, some (.long ub), none, some (.int (nI vars.length)), some (.long u6), none, none, none, none, none, none] [] M := by
        intro vars hva hle hq u6
        obtain ⟨vl0, vvar⟩ := aVars_VL _ hva
        have loop : ∀ (k : Nat) (M1 : PM) (U1 : Nat → Bool) (ψ1 : Nat → Nat) (H1 : AHp) (n1 : Nat) (ve : Int64) (ea : AV) (u6 : Int64) (z11 : Option Value), (z11 = none ∨ ∃ y : Int64, z11 = some (.long y)) → k ≤ vars.length → LiveM fuel lim ns fns M1 U1 ψ1 x e f vs frs fl mo H1 n1 → n ≤ n1 → RTv U1 ψ1 ns ve ea → RTv U1 ψ1 ns ul li → RTv U1 ψ1 ns ub body → VL H1 li vars → Cov H1 f li → Cov H1 f body → Cov H1 ea e → SameM IDK M M1 → (∀ o M', PostMM fuel lim ns fns M (aBind lim fns x f vs (flatA frs) ((vars.zip vs).take k).reverse ea H1 n1 (fun e H n => aEv body e frs fl mo H n) (aFl 8 fl mo)) o M' → Q o M') → Ev (BM (d + 6) qX10_binds) Q 99 [some (.ref 0), some (.long ul), none, some (.long ub), none, some (.int (nI vars.length)), some (.long u6), none, some (.long ve), none, some (.int (nI k - 1)), z11, none] [] M1 := by
          intro k
          induction k with
          | zero =>
            intro M1 U1 ψ1 H1 n1 ve ea u6 z11 hz11 hk hL hn he hul hub hvl hcl hcb hce hs hq
            repeat (refine ev_s rfl (?_ : Ev _ _ _ _ _ _))
            refine ev_ifT rfl (show nI 0 - 1 < 0 by decide) ?_
            repeat (refine ev_s rfl (?_ : Ev _ _ _ _ _ _))
            have hp : PostMM fuel lim ns fns M (aEv body ea frs fl mo H1 n1) (some (some (.int 0))) (mJ (mJ M1 0 30 ve) 0 29 ub) := by
              have s1 : SameM [129, 130] M1 (mJ (mJ M1 0 30 ve) 0 29 ub) := (SameM.J0 (j := 30)).t2 (SameM.J0 (j := 29)) (by decide)
              exact ⟨hs.t2 s1 (by decide), rfl, U1, ψ1, f, vs, hL.core s1 (by decide) ((hL.1.setE he).setX hub), fun h9 => absurd h9 (by decide), fun h9 => by cases h9⟩
            exact ev_reti rfl rfl trivial rfl (hq _ _ hp)
          | succ k ih =>
            intro M1 U1 ψ1 H1 n1 ve ea u6 z11 hz11 hk hL hn he hul hub hvl hcl hcb hce hs hq
            have hkv : k < vs.length := by omega
            have ek : vs[k]? = some vs[k] := List.getElem?_eq_getElem hkv
            have ek2 : vars[k]? = some vars[k] := List.getElem?_eq_getElem (by omega)
            have et : ((vars.zip vs).take (k + 1)).reverse = (vars[k], vs[k]) :: ((vars.zip vs).take k).reverse := by
              have ez : (vars.zip vs)[k]? = some (vars[k], vs[k]) := by
                rw [List.getElem?_zip_eq_some]
                exact ⟨ek2, ek⟩
              rw [List.take_succ, ez]
              simp
            rw [et] at hq
            generalize vs[k] = bk at *
            generalize vars[k] = ak at *
            unfold aBind at hq
            have hH1 := hL.1.1.2.2.2.2.2.2
            have rb := hL.1.2.2.2.2.2.2.2.1.2.2 k bk ek
            have hac1 := hL.1.2.1
            -- at the variable
            have there : ∀ (u : Int64) (li' : AV) (rest : List AV), RTv U1 ψ1 ns u li' → VL H1 li' (ak :: rest) → Ev (BM (d + 6) qX10_binds) Q 131 [some (.ref 0), some (.long ul), none, some (.long ub), none, some (.int (nI vars.length)), some (.long u), none, some (.long ve), none, some (.int (nI k)), some (.int (nI k)), none] [] M1 := by
              intro u li' rest hu hvl'
              obtain ⟨i, i1, i2, i3⟩ := hvl'
              subst i1
              repeat (refine ev_s rfl (?_ : Ev _ _ _ _ _ _))
              refine ev_cv rfl (as := [.ref 0, .long u]) rfl rfl (Nat.le_of_ble_eq_true rfl) ?_
              refine k_headOf hH1 hu (fun y a b1 b2 => ?_) (fun b1 => by cases b1)
              have ea' : a = ak := (Option.some.inj b1).symm.trans i2
              subst ea'
              show Ev _ _ _ _ [.long y, .ref 0] _
              repeat (refine ev_s rfl (?_ : Ev _ _ _ _ _ _))
              refine ev_lald rfl rfl (vp_in_nI (show k < 10 by omega) (by decide)) ?_
              rw [nI_clamp (by omega)]
              repeat (refine ev_s rfl (?_ : Ev _ _ _ _ _ _))
              refine ev_cv rfl (as := [.ref 0, .long y, .long (M1.2 14 k), .long ve]) rfl rfl (Nat.le_of_ble_eq_true rfl) ?_
              refine k_consB (d := d) hL b2 rb he (Or.inl rfl) hce hs (P := fun r => ∀ o M', PostMM fuel lim ns fns M r o M' → Q o M') hq (fun M2 U2 ψ2 p q2 L2 rp kp2 s2 => ?_) (fun M2 p1 p2 => p1 _ _ p2)
              have rts_ea : ARt fns (rts x ea f [] vs (flatA frs)) a bk ea := Or.inr (Or.inl (by simp))
              have rts_f : ARt fns (rts x ea f [] vs (flatA frs)) a bk f := Or.inr (Or.inl (by simp))
              have he2 := kp2 _ _ he (fun i h9 => AR.root (h9 ▸ rts_ea))
              have hul2 := kp2 _ _ hul (fun i h9 => hcl _ rts_f i h9)
              have hub2 := kp2 _ _ hub (fun i h9 => hcb _ rts_f i h9)
              have ltf := RTv.ltn hL hL.1.2.2.2.2.1
              have lte := RTv.ltn hL he
              have ltl1 := RTv.ltn hL hul
              have hce2 := hce.up (a := a) (b := bk) hac1 lte
              have hcl2 := hcl.up (a := a) (b := bk) hac1 ltf
              have hcb2 := hcb.up (a := a) (b := bk) hac1 ltf
              have hvl2 := VL.up (a := a) (b := bk) hac1 hvl ltl1
              show Ev _ _ _ _ [.long p] _
              repeat (refine ev_s rfl (?_ : Ev _ _ _ _ _ _))
              refine ev_cv rfl (as := [.ref 0, .long p, .long ve, .long (-1)]) rfl rfl (Nat.le_of_ble_eq_true rfl) ?_
              refine k_consB (d := d) L2 rp he2 (RTv.nil (by omega)) (Or.inr ⟨rfl, rfl⟩) hce2 s2 (P := fun r => ∀ o M', PostMM fuel lim ns fns M r o M' → Q o M') q2 (fun M3 U3 ψ3 p3 q3 L3 rp3 kp3 s3 => ?_) (fun M3 p1 p2 => p1 _ _ p2)
              have rts_f2 : ARt fns (rts x ea f [] vs (flatA frs)) (aC n1) ea f := Or.inr (Or.inl (by simp))
              have hac2 := L2.1.2.1
              have ltf2 := RTv.ltn L2 L2.1.2.2.2.2.1
              have lte2 := RTv.ltn L2 he2
              have ltl2 := RTv.ltn L2 hul2
              have hul3 := kp3 _ _ hul2 (fun i h9 => hcl2 _ rts_f2 i h9)
              have hub3 := kp3 _ _ hub2 (fun i h9 => hcb2 _ rts_f2 i h9)
              have hce3 : Cov (ahUp (ahUp H1 n1 a bk) (n1 + 1) (aC n1) ea) (aC (n1 + 1)) e := by
                refine Cov.tl ?_
                rw [ahUp_new]
                exact hce2.up hac2 lte2
              show Ev _ _ _ _ [.long p3] _
              iterate 3 (refine ev_s rfl (?_ : Ev _ _ _ _ _ _))
              rw [← Int32.sub_eq_add_neg]
              exact ih M3 U3 ψ3 _ _ p3 _ u _ (Or.inr ⟨_, rfl⟩) (by omega) L3 (by omega) rp3 hul3 hub3 (VL.up hac2 hvl2 ltl2) (hcl2.up hac2 ltf2) (hcb2.up hac2 ltf2) hce3 s3 q3
            -- to the variable
            have walk : ∀ (q j : Nat) (u : Int64) (li' : AV), j + q = k → RTv U1 ψ1 ns u li' → VL H1 li' (vars.drop j) → Ev (BM (d + 6) qX10_binds) Q 110 [some (.ref 0), some (.long ul), none, some (.long ub), none, some (.int (nI vars.length)), some (.long u), none, some (.long ve), none, some (.int (nI k)), some (.int (nI j)), none] [] M1 := by
              intro q
              induction q with
              | zero =>
                intro j u li' hj hu hvl'
                have ejk : j = k := by omega
                subst ejk
                repeat (refine ev_s rfl (?_ : Ev _ _ _ _ _ _))
                refine ev_icT rfl (show nI j ≤ nI j from Int32.le_refl _) ?_
                refine there u li' (vars.drop (j + 1)) hu ?_
                have := List.drop_eq_getElem_cons (l := vars) (i := j) (by omega)
                rw [this, (List.getElem?_eq_some_iff.mp ek2).2] at hvl'
                exact hvl'
              | succ q ih2 =>
                intro j u li' hj hu hvl'
                have hjl : j < vars.length := by omega
                rw [List.drop_eq_getElem_cons hjl] at hvl'
                obtain ⟨i, i1, i2, i3⟩ := hvl'
                subst i1
                repeat (refine ev_s rfl (?_ : Ev _ _ _ _ _ _))
                refine ev_icF rfl (show ¬ nI k ≤ nI j from fun h9 => by have := (nI_leI (by omega) (by omega)).mp h9; omega) ?_
                repeat (refine ev_s rfl (?_ : Ev _ _ _ _ _ _))
                refine ev_cv rfl (as := [.ref 0, .long u]) rfl rfl (Nat.le_of_ble_eq_true rfl) ?_
                refine k_tailOf hH1 hu (fun y a b1 b2 => ?_) (fun b1 => by cases b1)
                have e9 : (H1 i).2 = a := Option.some.inj b1
                subst e9
                show Ev _ _ _ _ [.long y] _
                iterate 3 (refine ev_s rfl (?_ : Ev _ _ _ _ _ _))
                rw [nI_1]
                exact ih2 (j + 1) y _ (by omega) b2 i3
            rw [nI_pred]
            rcases hz11 with rfl | ⟨y11, rfl⟩
            · repeat (refine ev_s rfl (?_ : Ev _ _ _ _ _ _))
              refine ev_ifF rfl (show ¬ nI k < 0 from Int32.not_lt.mpr (nI_pos' (by omega))) ?_
              iterate 4 (refine ev_s rfl (?_ : Ev _ _ _ _ _ _))
              exact walk k 0 ul li (by omega) hul hvl
            · repeat (refine ev_s rfl (?_ : Ev _ _ _ _ _ _))
              refine ev_ifF rfl (show ¬ nI k < 0 from Int32.not_lt.mpr (nI_pos' (by omega))) ?_
              iterate 4 (refine ev_s rfl (?_ : Ev _ _ _ _ _ _))
              exact walk k 0 ul li (by omega) hul hvl
        iterate 7 (refine ev_s rfl (?_ : Ev _ _ _ _ _ _))
        refine loop vars.length M U ψ H n _ e u6 none (Or.inl rfl) (Nat.le_refl _) h (Nat.le_refl _) h.1.2.2.2.1 r2 r3 vl0 (fun R hR i hi => a2_AR e2 hR i hi) (fun R hR i hi => a3_AR e3 hR i hi) Cov.rf SameM.rf ?_
        rw [List.take_of_length_le (by rw [List.length_zip]; omega)]
        exact hq
      -- the list is looked at
      have look : ∀ (m : Nat) (u : Int64) (li' : AV) (pre : List AV) (z : Option Value), 1 ≤ m → (∀ i, li' = aC i → i + 1 < m) → RTv U ψ ns u li' → aVars H (n + 1) li = (aVars H m li').map (pre ++ ·) → pre.length ≤ 2400 → (∃ cs : List Nat, cs.length = pre.length ∧ cs.Nodup ∧ (∀ c ∈ cs, c < 2400) ∧ ∀ c ∈ cs, ∀ i, li' = aC i → i < ψ c) → Ev (BM (d + 6) qX10_binds) Q 24 [some (.ref 0), some (.long ul), none, some (.long ub), none, some (.int (nI pre.length)), some (.long u), none, none, none, none, none, none] [] M := by
        intro m
        induction m with
        | zero => intro u li' pre z h9; omega
        | succ m ih =>
          intro u li' pre z hm1 hm hu hva hpl hcs
          repeat (refine ev_s rfl (?_ : Ev _ _ _ _ _ _))
          refine ev_cs rfl (by decide) (by decide) (as := [.long u]) rfl rfl (Nat.le_of_ble_eq_true rfl) ?_
          refine k_isCell hu ?_
          have atom : aIsC li' = false → Ev (BM (d + 6) qX10_binds) Q 56 [some (.ref 0), some (.long ul), none, some (.long ub), none, some (.int (nI pre.length)), some (.long u), none, none, none, none, none, none] [] M := fun hna => by
            have l0 := hu.eqS (k := 0) (by decide)
            repeat (refine ev_s rfl (?_ : Ev _ _ _ _ _ _))
            refine ev_lif rfl (fun hc => ?_) (fun hc => ?_)
            · have e0 : li' = aS 0 := l0.mp hc
              subst e0
              rw [aVars_nil] at hva
              have hva' : aVars H (n + 1) li = some pre := by rw [hva]; simp
              have eb : (some li).bind (aVars H (n + 1)) = some pre := hva'
              rw [eb] at hq
              dsimp only at hq
              repeat (refine ev_s rfl (?_ : Ev _ _ _ _ _ _))
              rw [hV.1]
              refine ev_ic rfl (fun hc2 => ?_) (fun hc2 => ?_)
              · have hle : pre.length = vs.length := (nI_eq (by omega) (by omega)).mp hc2
                rw [if_pos hle] at hq
                exact bind pre hva' hle hq u
              · have hle : ¬ pre.length = vs.length := fun h9 => hc2 (by rw [h9]; rfl)
                rw [if_neg hle] at hq
                repeat (refine ev_s rfl (?_ : Ev _ _ _ _ _ _))
                refine ev_cv rfl (as := [.ref 0, .int 11]) rfl rfl (Nat.le_of_ble_eq_true rfl) ?_
                refine k_fails ?_
                show Ev _ _ _ _ [.ref 5] _
                exact ev_s rfl (hq _ _ (h.f8 (c := 11) SameM.rf (by decide) (by decide)))
            · have n0 : ¬ li' = aS 0 := fun h9 => hc (l0.mpr h9)
              rw [aVars_bad (fun i h9 => by rw [h9] at hna; cases hna) n0] at hva
              have eb : (some li).bind (aVars H (n + 1)) = none := hva
              rw [eb] at hq
              repeat (refine ev_s rfl (?_ : Ev _ _ _ _ _ _))
              refine ev_cv rfl (as := [.ref 0, .int 5]) rfl rfl (Nat.le_of_ble_eq_true rfl) ?_
              refine k_fails ?_
              show Ev _ _ _ _ [.ref 5] _
              exact ev_s rfl (five hq)
          rcases hu.int with ⟨m', w1, _, w3, w4, w5⟩ | ⟨m', w1, w4, w5⟩ | ⟨c', w1, w2, w3, w4, w5⟩
          · subst w1
            show Ev _ _ _ _ [.int 0] _
            refine ev_ifT rfl (show (0 : Int32) = 0 from rfl) ?_
            exact atom rfl
          · subst w1
            show Ev _ _ _ _ [.int 0] _
            refine ev_ifT rfl (show (0 : Int32) = 0 from rfl) ?_
            exact atom rfl
          · have hcell : aIsC li' = true := by rw [w1]; rfl
            rw [hcell]
            have hn1 := (hH.1 c' w2 w3).1
            rw [w1, aVars_C] at hva
            show Ev _ _ _ _ [.int 1] _
            refine ev_ifF rfl (show ¬ (1 : Int32) = 0 by decide) ?_
            repeat (refine ev_s rfl (?_ : Ev _ _ _ _ _ _))
            refine ev_cv rfl (as := [.ref 0, .long u]) rfl rfl (Nat.le_of_ble_eq_true rfl) ?_
            refine k_headOf hH hu (fun y a b1 b2 => ?_) (fun b1 => by rw [w1] at b1; cases b1)
            rw [w1] at b1
            have e9 : (H (ψ c')).1 = a := Option.some.inj b1
            subst e9
            show Ev _ _ _ _ [.long y, .ref 0] _
            refine ev_cv rfl (as := [.ref 0, .long y]) rfl rfl (Nat.le_of_ble_eq_true rfl) ?_
            refine k_variable b2 (fun hva2 => ?_) (fun hva2 => ?_)
            · rw [if_pos (@decide_eq_true _ (Classical.propDecidable _) hva2)] at hva
              show Ev _ _ _ _ [] _
              repeat (refine ev_s rfl (?_ : Ev _ _ _ _ _ _))
              refine ev_cv rfl (as := [.ref 0, .long u]) rfl rfl (Nat.le_of_ble_eq_true rfl) ?_
              refine k_tailOf hH hu (fun t a b3 b4 => ?_) (fun b3 => by rw [w1] at b3; cases b3)
              rw [w1] at b3
              have e9 : (H (ψ c')).2 = a := Option.some.inj b3
              subst e9
              show Ev _ _ _ _ [.long t] _
              iterate 2 (refine ev_s rfl (?_ : Ev _ _ _ _ _ _))
              rw [nI_1]
              obtain ⟨cs, cs1, cs2, cs3, cs4⟩ := hcs
              have hnc : c' ∉ cs := fun h9 => by have := cs4 c' h9 _ w1; omega
              have hlen2 := nodup_le (l := c' :: cs) (n := 2400) (List.nodup_cons.mpr ⟨hnc, cs2⟩) (fun k hk => by
                rcases List.mem_cons.mp hk with h9 | h9
                · rw [h9]; exact w2
                · exact cs3 k h9)
              simp at hlen2
              have elp : nI (pre.length + 1) = nI (pre ++ [(H (ψ c')).1]).length := by simp
              rw [elp]
              have hci := hm _ w1
              refine ih t _ (pre ++ [(H (ψ c')).1]) none (by omega) (fun i hi => by have := hac _ hn1 i (Or.inr hi); omega) b4 ?_ (by simp; omega) ⟨c' :: cs, by simp [cs1], List.nodup_cons.mpr ⟨hnc, cs2⟩, fun k hk => ?_, fun k hk i hi => ?_⟩
              · rw [hva]
                cases aVars H m (H (ψ c')).2 with
                | none => rfl
                | some r => simp
              · rcases List.mem_cons.mp hk with h9 | h9
                · rw [h9]; exact w2
                · exact cs3 k h9
              · have h8 := hac _ hn1 i (Or.inr hi)
                rcases List.mem_cons.mp hk with h9 | h9
                · rw [h9]; exact h8
                · have := cs4 k h9 _ w1; omega
            · rw [if_neg (fun h9 => hva2 (@of_decide_eq_true _ (Classical.propDecidable _) h9))] at hva
              have eb : (some li).bind (aVars H (n + 1)) = none := hva
              rw [eb] at hq
              exact five hq
      show Ev _ _ _ _ [.long ub] _
      iterate 5 (refine ev_s rfl (?_ : Ev _ _ _ _ _ _))
      exact look (n + 1) ul li [] none (by omega) (fun i hi => by
        have h1 := ltl i hi
        rcases f with k | q | j
        · cases e2
        · cases e2
        · obtain ⟨t, h2, h3⟩ := Option.bind_eq_some_iff.mp e2
          obtain ⟨i1, g1, g2⟩ := aTl_C h2
          obtain ⟨i2, g3, g4⟩ := aHd_C h3
          have a1 := RTv.ltn h hF i1 g1
          have a2' := hac i1 a1 i2 (Or.inr (g2.trans g3))
          have a3' := hac i2 (by omega) i (Or.inl (g4.trans hi))
          omega) r2 (by cases aVars H (n + 1) li <;> simp) (by simp) ⟨[], rfl, List.nodup_nil, fun c hc => by simp at hc, fun c hc => by simp at hc⟩
    · rw [e3] at hq
      have : Q none (mI M 0 8 5) := five (by
        cases hb : (some li).bind (aVars H (n + 1)) with
        | none => rw [hb] at hq; exact hq
        | some r => rw [hb] at hq; exact hq)
      exact this
  · rw [e2] at hq
    exact five hq
theorem k_applies {d : Nat} (h : LiveM fuel lim ns fns M U ψ x e f vs frs fl mo H n) {Q : Option (Option Value) → PM → Prop} (hq : ∀ o M', PostMM fuel lim ns fns M (aApply lim fns x e f vs frs fl mo H n) o M' → Q o M') : SM (d + 8) 144 [.ref 0] M Q := by
  refine ⟨qX10_applies, rfl, ⟨Nat.le_of_ble_eq_true rfl, rfl, 0, _, _, rfl, rfl⟩, ?_⟩
  show Ev (BM (d + 7) qX10_applies) Q 0 [some (.ref 0), none, none, none, none, none, none, none, none] [] M
  have hns : 23 ≤ ns := h.1.2.2.2.2.2.2.2.2.2.2.1
  have h300 : ns ≤ 300 := h.1.2.2.2.2.2.2.2.2.2.2.2
  have hH := h.1.1.2.2.2.2.2.2
  have hF := h.1.2.2.2.2.1
  have hE := h.1.2.2.2.1
  have hFn := h.1.2.2.2.2.2.1
  have hac := h.1.2.1
  -- an answer of another
  have pass : ∀ (r : MR) (o : Option (Option Value)) (M' : PM), PostMM fuel lim ns fns M r o M' → Q o M' → (∀ y : Int32, o = some (some (.int y)) → Q o M' → Ev (BM (d + 7) qX10_applies) Q 59 [some (.ref 0), none, none, none, none, none, none, none, none] [.int y] M' → True) → True := fun _ _ _ _ _ _ => trivial
  have isI : ∀ (r : MR) (o : Option Value) (M' : PM), PostMM fuel lim ns fns M r (some o) M' → ∃ y : Int32, o = some (.int y) := by
    intro r o M' g
    obtain ⟨_, g3⟩ := g
    revert g3
    split
    · rintro ⟨g4, _⟩; exact ⟨_, Option.some.inj g4⟩
    · rintro ⟨g4, _⟩; cases g4
  -- applied again
  have again : ∀ (M1 : PM) (e1 f1 : AV) (fl1 : Nat) (H1 : AHp) (n1 : Nat) (U1 : Nat → Bool) (ψ1 : Nat → Nat), LiveM fuel lim ns fns M1 U1 ψ1 x e1 f1 vs frs fl1 mo H1 n1 → SameM IDK M M1 → PostMM fuel lim ns fns M (aAp x e1 f1 vs frs fl1 mo H1 n1) (some (some (.int 2))) M1 := fun M1 e1 f1 fl1 H1 n1 U1 ψ1 hL hs => ⟨hs, rfl, U1, ψ1, f1, vs, hL, fun h9 => absurd h9 (by decide), fun _ => ⟨rfl, rfl⟩⟩
  repeat (refine ev_s rfl (?_ : Ev _ _ _ _ _ _))
  refine ev_cs rfl (by decide) (by decide) (as := [.long (M.2 0 31)]) rfl rfl (Nat.le_of_ble_eq_true rfl) ?_
  refine k_isSymbol hF ?_
  rcases hF.int with ⟨k, rfl, k2, k3, k4, k5⟩ | ⟨m, rfl, k4, k5⟩ | ⟨c, hfc, k1, k2, k4, k5⟩
  · -- a symbol
    have hkl : k < fns.length := by rw [hFn.1]; exact k3
    have ek : fns[k]? = some fns[k] := List.getElem?_eq_getElem hkl
    show Ev _ _ _ _ [.int 1] _
    refine ev_ifF rfl (show ¬ (1 : Int32) = 0 by decide) ?_
    repeat (refine ev_s rfl (?_ : Ev _ _ _ _ _ _))
    rw [k4]
    refine ev_cs rfl (by decide) (by decide) (as := [.long (rS k)]) rfl rfl (Nat.le_of_ble_eq_true rfl) ?_
    refine k_symbolOf k3 ?_
    show Ev _ _ _ _ [.int (nI k)] _
    repeat (refine ev_s rfl (?_ : Ev _ _ _ _ _ _))
    refine ev_zald rfl rfl (vp_in_nI k3 (by decide)) ?_
    rw [nI_clamp (by omega)]
    unfold aApply at hq
    dsimp only at hq
    cases hf : fns[k] with
    | some b =>
      rw [hf] at ek
      obtain ⟨a1, a2, a3⟩ := hFn.2.1 k b ek
      rw [ek] at hq
      dsimp only [Option.getD] at hq
      rw [a1]
      refine ev_ifF rfl (show ¬ (1 : Int32) = 0 by decide) ?_
      repeat (refine ev_s rfl (?_ : Ev _ _ _ _ _ _))
      refine ev_lald rfl rfl (vp_in_nI k3 (by decide)) ?_
      rw [nI_clamp (by omega)]
      repeat (refine ev_s rfl (?_ : Ev _ _ _ _ _ _))
      have s1 : SameM [131] M (mJ M 0 31 (M.2 4 k)) := SameM.J0 (j := 31)
      exact ev_reti rfl rfl trivial rfl (hq _ _ (again _ e b fl H n U ψ (h.core s1 (by decide) (h.1.setF a2)) (s1.sub (by decide))))
    | none =>
      rw [hf] at ek
      rw [ek] at hq
      dsimp only [Option.getD] at hq
      rw [hFn.2.2 k ek]
      refine ev_ifT rfl (show (0 : Int32) = 0 from rfl) ?_
      -- looked up
      have lk : ¬ (8 ≤ k ∧ k ≤ 22) → Ev (BM (d + 7) qX10_applies) Q 60 [some (.ref 0), some (.int (nI k)), none, none, none, none, none, none, none] [] M := fun hk => by
        rw [if_neg hk] at hq
        repeat (refine ev_s rfl (?_ : Ev _ _ _ _ _ _))
        rw [k4]
        refine ev_cv rfl (as := [.ref 0, .long (rS k)]) rfl rfl (Nat.le_of_ble_eq_true rfl) ?_
        refine k_pairOf hH hE k3 h.2.1 h.2.2.1 h.2.2.2.1 h.2.2.2.2.1 (fun c fl' M1 e1 a1 a2 a3 a4 a5 a6 => ?_) (fun fl' M1 e1 a1 a2 a3 => ?_) (fun fl' M1 p i e1 a1 a2 a3 a4 => ?_)
        · rw [e1] at hq
          obtain ⟨c1, c2, c3, c4, c5, c6, c7, c8, c9, c10, c11, c12⟩ := id h.1
          refine hq none M1 ?_
          exact ⟨a6.sub (by decide), rfl, ⟨U, ψ, c1.same a6 (by decide), c6.kept (RA := fun _ => True) (H := H) KeptM.rf (fun _ _ => trivial) a6 (by decide) (by decide)⟩, c2, (a6.2 5 (by decide)).1.trans c10, c11, c12, a1, a2, a3, a4, a5, (a6.2 42 (by decide)).1.trans h.2.2.2.2.2.1, h.2.2.2.2.2.2⟩
        · rw [e1] at hq
          have hL : LiveM fuel lim ns fns M1 U ψ x e (aS k) vs frs fl' mo H n := ⟨h.1.same a3 (by decide), (a3.2 43 (by decide)).1.trans h.2.1, a1, a2, h.2.2.2.2.1, (a3.2 42 (by decide)).1.trans h.2.2.2.2.2.1, h.2.2.2.2.2.2⟩
          show Ev _ _ _ _ [.long (-1)] _
          repeat (refine ev_s rfl (?_ : Ev _ _ _ _ _ _))
          refine ev_lifF rfl (show ¬ ¬ (-1 : Int64) = -1 from fun h9 => h9 rfl) ?_
          repeat (refine ev_s rfl (?_ : Ev _ _ _ _ _ _))
          refine ev_cv rfl (as := [.ref 0, .int 10]) rfl rfl (Nat.le_of_ble_eq_true rfl) ?_
          refine k_fails ?_
          show Ev _ _ _ _ [.ref 5] _
          exact ev_s rfl (hq _ _ (hL.f8 (c := 10) (a3.sub (by decide)) (by decide) (by decide)))
        · rw [e1] at hq
          have hL : LiveM fuel lim ns fns M1 U ψ x e (aS k) vs frs fl' mo H n := ⟨h.1.same a3 (by decide), (a3.2 43 (by decide)).1.trans h.2.1, a1, a2, h.2.2.2.2.1, (a3.2 42 (by decide)).1.trans h.2.2.2.2.2.1, h.2.2.2.2.2.2⟩
          have np := a4.eqS (k := 0) (by decide)
          show Ev _ _ _ _ [.long p] _
          repeat (refine ev_s rfl (?_ : Ev _ _ _ _ _ _))
          refine ev_lifT rfl (show ¬ p = -1 from fun h9 => by have := np.mp h9; cases this) ?_
          repeat (refine ev_s rfl (?_ : Ev _ _ _ _ _ _))
          refine ev_cv rfl (as := [.ref 0, .long p]) rfl rfl (Nat.le_of_ble_eq_true rfl) ?_
          refine k_tailOf hL.1.1.2.2.2.2.2.2 a4 (fun u b b1 b2 => ?_) (fun b1 => by cases b1)
          cases b1
          show Ev _ _ _ _ [.long u, .ref 0] _
          repeat (refine ev_s rfl (?_ : Ev _ _ _ _ _ _))
          have s1 : SameM [131] M1 (mJ M1 0 31 u) := SameM.J0 (j := 31)
          exact ev_reti rfl rfl trivial rfl (hq _ _ (again _ e _ fl' H n U ψ (hL.core s1 (by decide) (hL.1.setF b2)) (a3.t2 s1 (by decide))))
      repeat (refine ev_s rfl (?_ : Ev _ _ _ _ _ _))
      refine ev_ic rfl (fun hc => lk (fun h9 => by have := (nI_ltI (b := 8) (by omega) (by decide)).mp hc; omega)) (fun hc => ?_)
      have h8 : 8 ≤ k := by
        have : ¬ k < 8 := fun h9 => hc (nI_lt (b := 8) h9 (by decide))
        omega
      repeat (refine ev_s rfl (?_ : Ev _ _ _ _ _ _))
      refine ev_ic rfl (fun hc2 => lk (fun h9 => by have := (nI_ltI (a := 22) (by decide) (by omega)).mp hc2; omega)) (fun hc2 => ?_)
      have h22 : k ≤ 22 := by
        have : ¬ 22 < k := fun h9 => hc2 (nI_lt (a := 22) h9 (by omega))
        omega
      rw [if_pos ⟨h8, h22⟩] at hq
      repeat (refine ev_s rfl (?_ : Ev _ _ _ _ _ _))
      rw [show (8 : Int32) = nI 8 from rfl, pk_sub h8]
      refine ev_cv rfl (as := [.ref 0, .int (nI (k - 8))]) rfl rfl (Nat.le_of_ble_eq_true rfl) ?_
      refine k_built h (kk := k - 8) (k := k) (by omega) h22 (fun o M' g => ?_)
      have g2 := hq o M' g
      cases o with
      | none => exact g2
      | some o =>
        obtain ⟨y, rfl⟩ := isI _ _ _ g
        show Ev _ _ _ _ [.int y] _
        exact ev_reti rfl rfl trivial rfl g2
  · -- a number
    show Ev _ _ _ _ [.int 0] _
    refine ev_ifT rfl (show (0 : Int32) = 0 from rfl) ?_
    repeat (refine ev_s rfl (?_ : Ev _ _ _ _ _ _))
    refine ev_cs rfl (by decide) (by decide) (as := [.long (M.2 0 31)]) rfl rfl (Nat.le_of_ble_eq_true rfl) ?_
    refine k_isNumber hF ?_
    show Ev _ _ _ _ [.int 1] _
    refine ev_ifF rfl (show ¬ (1 : Int32) = 0 by decide) ?_
    repeat (refine ev_s rfl (?_ : Ev _ _ _ _ _ _))
    refine ev_cv rfl (as := [.ref 0, .int 10]) rfl rfl (Nat.le_of_ble_eq_true rfl) ?_
    refine k_fails ?_
    show Ev _ _ _ _ [.ref 5] _
    exact ev_s rfl (hq _ _ (h.f8 (c := 10) SameM.rf (by decide) (by decide)))
  · -- a cell
    generalize hi : ψ c = i at hfc
    subst hfc
    show Ev _ _ _ _ [.int 0] _
    refine ev_ifT rfl (show (0 : Int32) = 0 from rfl) ?_
    repeat (refine ev_s rfl (?_ : Ev _ _ _ _ _ _))
    refine ev_cs rfl (by decide) (by decide) (as := [.long (M.2 0 31)]) rfl rfl (Nat.le_of_ble_eq_true rfl) ?_
    refine k_isNumber hF ?_
    show Ev _ _ _ _ [.int 0] _
    refine ev_ifT rfl (show (0 : Int32) = 0 from rfl) ?_
    repeat (refine ev_s rfl (?_ : Ev _ _ _ _ _ _))
    refine ev_cv rfl (as := [.ref 0, .long (M.2 0 31)]) rfl rfl (Nat.le_of_ble_eq_true rfl) ?_
    refine k_headOf hH hF (fun u b b1 b2 => ?_) (fun b1 => by cases b1)
    have e9 : (H i).1 = b := Option.some.inj b1
    subst e9
    have eA : aApply lim fns x e (aC i) vs frs fl mo H n = if (H i).1 = aS 5 then aLambda lim fns x e (aC i) vs frs fl mo H n
      else if (H i).1 = aS 6 then aLabel lim fns x e (aC i) vs frs fl mo H n
      else if (H i).1 = aS 7 then (match a2 H (aC i), a3 H (aC i) with
        | some g, some e' => aAp x e' g vs frs fl mo H n
        | _, _ => aFl 5 fl mo H n)
      else aFl 10 fl mo H n := rfl
    rw [eA] at hq
    have m5 := b2.eqS (k := 5) (by decide)
    have m6 := b2.eqS (k := 6) (by decide)
    have m7 := b2.eqS (k := 7) (by decide)
    have five : (∀ o M', PostMM fuel lim ns fns M (aFl 5 fl mo H n) o M' → Q o M') → Q none (mI M 0 8 5) := fun hq => hq _ _ (h.f8 (c := 5) SameM.rf (by decide) (by decide))
    show Ev _ _ _ _ [.long u] _
    repeat (refine ev_s rfl (?_ : Ev _ _ _ _ _ _))
    refine ev_lif rfl (fun hc => ?_) (fun hc => ?_)
    · rw [if_neg (fun h9 => hc (m5.mpr h9))] at hq
      repeat (refine ev_s rfl (?_ : Ev _ _ _ _ _ _))
      refine ev_lif rfl (fun hc6 => ?_) (fun hc6 => ?_)
      · rw [if_neg (fun h9 => hc6 (m6.mpr h9))] at hq
        repeat (refine ev_s rfl (?_ : Ev _ _ _ _ _ _))
        refine ev_lif rfl (fun hc7 => ?_) (fun hc7 => ?_)
        · rw [if_pos (m7.mp hc7)] at hq
          repeat (refine ev_s rfl (?_ : Ev _ _ _ _ _ _))
          refine ev_cv rfl (as := [.ref 0, .long (M.2 0 31)]) rfl rfl (Nat.le_of_ble_eq_true rfl) ?_
          refine k_second hH hF (fun y g e2 r2 => ?_) (fun e2 => ?_)
          · rw [e2] at hq
            show Ev _ _ _ _ [.long y] _
            repeat (refine ev_s rfl (?_ : Ev _ _ _ _ _ _))
            refine ev_cv rfl (as := [.ref 0, .long (M.2 0 31)]) rfl rfl (Nat.le_of_ble_eq_true rfl) ?_
            refine k_third hH hF (fun z e' e3 r3 => ?_) (fun e3 => ?_)
            · rw [e3] at hq
              show Ev _ _ _ _ [.long z, .ref 0] _
              repeat (refine ev_s rfl (?_ : Ev _ _ _ _ _ _))
              have s1 : SameM [130, 131] M (mJ (mJ M 0 30 z) 0 31 y) := (SameM.J0 (j := 30)).t2 (SameM.J0 (j := 31)) (by decide)
              exact ev_reti rfl rfl trivial rfl (hq _ _ (again _ e' g fl H n U ψ (h.core s1 (by decide) ((h.1.setE r3).setF r2)) (s1.sub (by decide))))
            · rw [e3] at hq
              exact five hq
          · rw [e2] at hq
            exact five hq
        · rw [if_neg (fun h9 => hc7 (m7.mpr h9))] at hq
          repeat (refine ev_s rfl (?_ : Ev _ _ _ _ _ _))
          refine ev_cv rfl (as := [.ref 0, .int 10]) rfl rfl (Nat.le_of_ble_eq_true rfl) ?_
          refine k_fails ?_
          show Ev _ _ _ _ [.ref 5] _
          exact ev_s rfl (hq _ _ (h.f8 (c := 10) SameM.rf (by decide) (by decide)))
      · rw [if_pos (m6.mp (Decidable.not_not.mp hc6))] at hq
        unfold aLabel at hq
        repeat (refine ev_s rfl (?_ : Ev _ _ _ _ _ _))
        refine ev_cv rfl (as := [.ref 0, .long (M.2 0 31)]) rfl rfl (Nat.le_of_ble_eq_true rfl) ?_
        refine k_second hH hF (fun y nm e2 r2 => ?_) (fun e2 => ?_)
        · rw [e2] at hq
          show Ev _ _ _ _ [.long y] _
          repeat (refine ev_s rfl (?_ : Ev _ _ _ _ _ _))
          refine ev_cv rfl (as := [.ref 0, .long (M.2 0 31)]) rfl rfl (Nat.le_of_ble_eq_true rfl) ?_
          refine k_third hH hF (fun z fn e3 r3 => ?_) (fun e3 => ?_)
          · rw [e3] at hq
            dsimp only at hq
            show Ev _ _ _ _ [.long z] _
            repeat (refine ev_s rfl (?_ : Ev _ _ _ _ _ _))
            refine ev_cv rfl (as := [.ref 0, .long y]) rfl rfl (Nat.le_of_ble_eq_true rfl) ?_
            refine k_variable r2 (fun hva2 => ?_) (fun hva2 => ?_)
            · rw [if_pos (@decide_eq_true _ (Classical.propDecidable _) hva2)] at hq
              show Ev _ _ _ _ [] _
              repeat (refine ev_s rfl (?_ : Ev _ _ _ _ _ _))
              refine ev_cv rfl (as := [.ref 0, .long y, .long z, .long (-1)]) rfl rfl (Nat.le_of_ble_eq_true rfl) ?_
              refine k_consL (d := d + 1) h r2 r3 SameM.rf (P := fun r => ∀ o M', PostMM fuel lim ns fns M r o M' → Q o M') hq (fun M2 U2 ψ2 p q2 L2 rp kp2 s2 => ?_) (fun M2 p1 p2 => p1 _ _ p2)
              have r3' := kp2 _ _ r3 (fun j h9 => AR.root (h9 ▸ Or.inr (Or.inr (Or.inr rfl))))
              show Ev _ _ _ _ [.long p] _
              repeat (refine ev_s rfl (?_ : Ev _ _ _ _ _ _))
              refine ev_cv rfl (as := [.ref 0, .long p, .long (M2.2 0 30), .long (-1)]) rfl rfl (Nat.le_of_ble_eq_true rfl) ?_
              have ltz := RTv.ltn L2 r3'
              refine k_consL (d := d + 1) L2 rp L2.1.2.2.2.1 s2 (P := fun r => ∀ o M', PostMM fuel lim ns fns M r o M' → Q o M') q2 (fun M3 U3 ψ3 p3 q3 L3 rp3 kp3 s3 => ?_) (fun M3 p1 p2 => p1 _ _ p2)
              have rz : RTv U3 ψ3 ns z fn := by
                refine kp3 _ _ r3' (fun j h9 => ?_)
                have ht : (ahUp H n nm fn n).2 = aC j := by rw [ahUp_new]; exact h9
                exact (AR.root (Or.inr (Or.inr (Or.inl rfl)))).tl ht
              show Ev _ _ _ _ [.long p3, .ref 0] _
              repeat (refine ev_s rfl (?_ : Ev _ _ _ _ _ _))
              have s4 : SameM [130, 131] M3 (mJ (mJ M3 0 30 p3) 0 31 z) := (SameM.J0 (j := 30)).t2 (SameM.J0 (j := 31)) (by decide)
              exact ev_reti rfl rfl trivial rfl (q3 _ _ (again _ _ fn fl _ _ U3 ψ3 (L3.core s4 (by decide) ((L3.1.setE rp3).setF rz)) (s3.t2 s4 (by decide))))
            · rw [if_neg (fun h9 => hva2 (@of_decide_eq_true _ (Classical.propDecidable _) h9))] at hq
              exact five hq
          · rw [e3] at hq
            exact five hq
        · rw [e2] at hq
          exact five hq
    · rw [if_pos (m5.mp (Decidable.not_not.mp hc))] at hq
      repeat (refine ev_s rfl (?_ : Ev _ _ _ _ _ _))
      refine ev_cv rfl (as := [.ref 0]) rfl rfl (Nat.le_of_ble_eq_true rfl) ?_
      refine k_binds h (fun o M' g => ?_)
      have g2 := hq o M' g
      cases o with
      | none => exact g2
      | some o =>
        obtain ⟨y, rfl⟩ := isI _ _ _ g
        show Ev _ _ _ _ [.int y] _
        exact ev_reti rfl rfl trivial rfl g2
end KA

/-! A run of the machine. -/
section RUN
variable {M : PM} {fr : List Nat} {ψ : Nat → Nat} {ns lim : Nat} {H : AHp} {nid : Nat} {x e f : AV} {fns : List (Option AV)} {ha pe sk vs : List AV} {frs : List AF} {fl mo : Nat}
/-- what holds of a step's outcome -/
def Good (f0 : Nat) (r : MR) : Prop := match r with
  | .inl (m, _, _, f, _, vs, _, fl, _, _, _) => m ≤ 3 ∧ (m ≠ 3 → f = aS 0 ∧ vs = []) ∧ fl ≤ f0
  | .inr (_, fl, _, _, _) => fl ≤ f0
theorem Good.ret {x e v : AV} {frs : List AF} {fl mo : Nat} {H : AHp} {n f0 : Nat} (h : fl ≤ f0) : Good f0 (aRet x e v frs fl mo H n) := ⟨by decide, fun _ => ⟨rfl, rfl⟩, h⟩
theorem Good.ev {x e : AV} {frs : List AF} {fl mo : Nat} {H : AHp} {n f0 : Nat} (h : fl ≤ f0) : Good f0 (aEv x e frs fl mo H n) := ⟨by decide, fun _ => ⟨rfl, rfl⟩, h⟩
theorem Good.ap {x e f : AV} {vs : List AV} {frs : List AF} {fl mo : Nat} {H : AHp} {n f0 : Nat} (h : fl ≤ f0) : Good f0 (aAp x e f vs frs fl mo H n) := ⟨by decide, fun h9 => (h9 rfl).elim, h⟩
theorem Good.flt {c fl mo : Nat} {H : AHp} {n f0 : Nat} (h : fl ≤ f0) : Good f0 (aFl c fl mo H n) := h
theorem Good.cons {f0 : Nat} {rt : List AV} {a b : AV} {n : Nat} {ok : AV → AHp → Nat → MR} {no : AHp → Nat → MR} (h1 : ∀ v H n, Good f0 (ok v H n)) (h2 : ∀ H n, Good f0 (no H n)) : Good f0 (aCons lim fns rt a b H n ok no) := by
  unfold aCons
  split
  · exact h1 _ _ _
  · exact h2 _ _
theorem aLook_fuel {s : AV} : ∀ (fl : Nat) (e : AV), (aLook H s fl e).2 ≤ fl
  | 0, e => by
    unfold aLook
    split <;> exact Nat.le_refl _
  | fl + 1, e => by
    unfold aLook
    split
    · exact Nat.le_refl _
    · split
      · exact Nat.le_succ _
      · split
        · exact Nat.le_succ _
        · exact Nat.le_trans (aLook_fuel fl _) (Nat.le_succ _)
    · exact Nat.le_refl _
theorem Good.eval : Good fl (aEval lim fns x e frs fl mo H nid) := by
  unfold aEval
  split
  · exact Good.ret (Nat.le_refl _)
  · split
    · exact Good.ret (Nat.le_refl _)
    · rename_i k _
      have := aLook_fuel (H := H) (s := aS k) fl e
      split <;> rename_i h9 <;> rw [h9] at this
      · exact Good.flt this
      · exact Good.flt this
      · exact Good.ret this
  · split
    · split
      · exact Good.ret (Nat.le_refl _)
      · exact Good.flt (Nat.le_refl _)
    · split
      · split
        · exact Good.flt (Nat.le_refl _)
        · unfold aPush
          split
          · split
            · exact Good.flt (Nat.le_refl _)
            · exact Good.ev (Nat.le_refl _)
          · exact Good.flt (Nat.le_refl _)
      · split
        · split
          · exact Good.flt (Nat.le_refl _)
          · exact Good.cons (fun _ _ _ => Good.cons (fun _ _ _ => Good.cons (fun _ _ _ => Good.ret (Nat.le_refl _)) (fun _ _ => Good.flt (Nat.le_refl _))) (fun _ _ => Good.flt (Nat.le_refl _))) (fun _ _ => Good.flt (Nat.le_refl _))
        · split
          · unfold aPush
            split
            · exact Good.ev (Nat.le_refl _)
            · exact Good.flt (Nat.le_refl _)
          · split
            · exact Good.ap (Nat.le_refl _)
            · exact Good.flt (Nat.le_refl _)
theorem Good.take {v : AV} : Good fl (aTake x e v frs fl mo H nid) := by
  unfold aTake
  split
  · exact ⟨by decide, fun _ => ⟨rfl, rfl⟩, Nat.le_refl _⟩
  · repeat' split
    all_goals first | exact Good.flt (Nat.le_refl _) | exact Good.ev (Nat.le_refl _) | exact Good.ap (Nat.le_refl _)
theorem Good.bind {f0 : Nat} {sk : List AV} {ok : AV → AHp → Nat → MR} {no : AHp → Nat → MR} (h1 : ∀ v H n, Good f0 (ok v H n)) (h2 : ∀ H n, Good f0 (no H n)) : ∀ (l : List (AV × AV)) (e : AV) (H : AHp) (n : Nat), Good f0 (aBind lim fns x f vs sk l e H n ok no)
  | [], _, _, _ => h1 _ _ _
  | _ :: r, _, _, _ => Good.cons (fun _ _ _ => Good.cons (fun _ _ _ => Good.bind h1 h2 r _ _ _) h2) h2
theorem Good.list {f0 : Nat} {rt : List AV} {ok : AV → AHp → Nat → MR} {no : AHp → Nat → MR} (h1 : ∀ v H n, Good f0 (ok v H n)) (h2 : ∀ H n, Good f0 (no H n)) : ∀ (l : List AV) (e : AV) (H : AHp) (n : Nat), Good f0 (aList lim fns rt l e H n ok no)
  | [], _, _, _ => h1 _ _ _
  | _ :: r, _, _, _ => Good.cons (fun _ _ _ => Good.list h1 h2 r _ _ _) h2
theorem Good.built {k : Nat} : Good fl (aBuilt lim fns x e f k vs frs fl mo H nid) := by
  unfold aBuilt
  split
  · exact Good.list (fun _ _ _ => Good.ret (Nat.le_refl _)) (fun _ _ => Good.flt (Nat.le_refl _)) _ _ _ _
  · repeat' split
    all_goals first | exact Good.flt (Nat.le_refl _) | exact Good.ev (Nat.le_refl _) | exact Good.ap (Nat.le_refl _) | exact Good.ret (Nat.le_refl _) | exact Good.cons (fun _ _ _ => Good.ret (Nat.le_refl _)) (fun _ _ => Good.flt (Nat.le_refl _))
theorem Good.apply : Good fl (aApply lim fns x e f vs frs fl mo H nid) := by
  unfold aApply
  split
  · split
    · exact Good.ap (Nat.le_refl _)
    · split
      · exact Good.built
      · rename_i k _ _ _
        have := aLook_fuel (H := H) (s := aS k) fl e
        split <;> rename_i h9 <;> rw [h9] at this
        · exact Good.flt this
        · exact Good.flt this
        · exact Good.ap this
  · exact Good.flt (Nat.le_refl _)
  · split
    · unfold aLambda
      split
      · split
        · exact Good.bind (fun _ _ _ => Good.ev (Nat.le_refl _)) (fun _ _ => Good.flt (Nat.le_refl _)) _ _ _ _
        · exact Good.flt (Nat.le_refl _)
      · exact Good.flt (Nat.le_refl _)
    · split
      · unfold aLabel
        split
        · split
          · exact Good.cons (fun _ _ _ => Good.cons (fun _ _ _ => Good.ap (Nat.le_refl _)) (fun _ _ => Good.flt (Nat.le_refl _))) (fun _ _ => Good.flt (Nat.le_refl _))
          · exact Good.flt (Nat.le_refl _)
        · exact Good.flt (Nat.le_refl _)
      · split
        · split
          · exact Good.ap (Nat.le_refl _)
          · exact Good.flt (Nat.le_refl _)
        · exact Good.flt (Nat.le_refl _)
theorem Good.step {m : Nat} {v : AV} : Good fl (aStep lim fns (m, x, e, f, v, vs, frs, fl, mo, H, nid)) := by
  unfold aStep
  dsimp only
  split
  · exact Good.eval
  · split
    · exact Good.take
    · exact Good.apply
/-- the class's memory between runs -/
def IdleA (M : PM) (fr : List Nat) (ψ : Nat → Nat) (ns lim : Nat) (H : AHp) (nid : Nat) (fns : List (Option AV)) : Prop := CoreA M fr ψ ns lim H nid (aS 0) (aS 0) (aS 0) fns [] [] [] ∧ M.1 27 6 = 0 ∧ (∃ vl, RowIs M 28 29 10 vl) ∧ 23 ≤ ns ∧ ns ≤ 300
theorem m_letGo {d : Nat} {ha sk : List Int64} (hm : MemC M fr ns ψ H nid lim) (hac : Acy H nid) (hF : RowF M fr ψ ns fns) (hP : RowA M fr ψ ns 11 12 2000 []) (hH : RowIs M 13 14 10 ha) (hS : RowIs M 15 16 2600 sk) (hn : 23 ≤ ns) {Q : Option (Option Value) → PM → Prop}
    (h : ∀ M', CoreA M' fr ψ ns lim H nid (aS 0) (aS 0) (aS 0) fns [] [] [] → M'.1 27 6 = 0 → (∀ j, j ≠ 6 → M'.1 27 j = M.1 27 j) → M'.2 27 = M.2 27 → Same [1, 13, 15, 27] M M' → Q (some none) M') : SC (d + 3) 22 [.ref 27] M Q := by
  refine ⟨qX2_letGo, rfl, ⟨Nat.le_of_ble_eq_true rfl, rfl, 27, _, _, rfl, rfl⟩, ?_⟩
  show Ev (BC (d + 2) qX2_letGo) Q 0 [some (.ref 27)] [] M
  repeat (refine ev_s rfl (?_ : Ev _ _ _ _ _ _))
  have s0 : Same [1] M (mJ (mJ M 1 4 0) 1 5 0) := (Same.J.tr Same.J).sub (by decide)
  refine ev_cv rfl (as := [.ref 15, .int (nI 0)]) rfl rfl (Nat.le_of_ble_eq_true rfl) ?_
  refine row_cut r_stk (hS.same s0 (by decide) (by decide)) (Nat.zero_le _) (fun M1 g1 g2 => ?_)
  show Ev _ _ _ _ [] _
  repeat (refine ev_s rfl (?_ : Ev _ _ _ _ _ _))
  refine ev_cv rfl (as := [.ref 27]) rfl rfl (Nat.le_of_ble_eq_true rfl) ?_
  have s1 : Same [1, 15, 27] M (mI M1 27 6 0) := ((s0.tr g2).tr Same.I).sub (by decide)
  refine ⟨qX2_emptyHand, rfl, ⟨Nat.le_of_ble_eq_true rfl, rfl, 27, _, _, rfl, rfl⟩, ?_⟩
  show Ev (BC (d + 1) qX2_emptyHand) _ 0 [some (.ref 27)] [] _
  repeat (refine ev_s rfl (?_ : Ev _ _ _ _ _ _))
  refine ev_cv rfl (as := [.ref 13, .int (nI 0)]) rfl rfl (Nat.le_of_ble_eq_true rfl) ?_
  refine row_cut r_hand ((hH.same s1 (by decide) (by decide)).same (Same.J (k := 1)) (by decide) (by decide)) (Nat.zero_le _) (fun M2 g3 g4 => ?_)
  show Ev _ _ _ _ [] _
  refine ev_retv rfl rfl ?_
  show Ev _ _ _ _ [] _
  have s2 : Same [1, 13, 15, 27] M M2 := ((s1.tr Same.J).tr g4).sub (by decide)
  have e1 : M2.2 1 = up2 (M1.2) 1 6 0 1 := by rw [(g4 1 (by decide)).2]; rfl
  have e0 : M1.2 1 = up2 (up2 M.2 1 4 0) 1 5 0 1 := by rw [(g2 1 (by decide)).2]; rfl
  have z : Tv fr ψ ns 0 (aS 0) := Tv.lN (k := 0) (by omega) (by decide)
  refine ev_retv rfl rfl (h M2 ⟨hm.same s2 (by decide), hac, ?_, ?_, ?_, hF.same s2 (by decide) (by decide), hP.same s2 (by decide) (by decide), ⟨_, g3, by simp, by simp⟩, ⟨_, (g1.same (M' := mI M1 27 6 0) Same.I (by decide) (by decide)).same (M' := M2) ((Same.J.tr g4).sub (ids' := [1, 13]) (by decide)) (by decide) (by decide), by simp, by simp⟩⟩ ?_ ?_ ?_ s2)
  · have : M2.2 1 4 = 0 := by rw [e1]; simp [up2, e0]
    rw [this]; exact z
  · have : M2.2 1 5 = 0 := by rw [e1]; simp [up2, e0]
    rw [this]; exact z
  · have : M2.2 1 6 = 0 := by rw [e1]; simp [up2]
    rw [this]; exact z
  · rw [(g4 27 (by decide)).1, mJ_1]; exact mI_at
  · intro j hj
    rw [(g4 27 (by decide)).1, mJ_1, mI_ne (Or.inr hj), (g2 27 (by decide)).1]
    rfl
  · rw [(g4 27 (by decide)).2]
    show up2 M1.2 1 6 0 27 = _
    rw [up2_ne (by decide), (g2 27 (by decide)).2]
    show up2 (up2 M.2 1 4 0) 1 5 0 27 = _
    rw [up2_ne (by decide), up2_ne (by decide)]
theorem m_forget {d : Nat} {Q : Option (Option Value) → PM → Prop} (h : Q (some none) (mI (mI (mI M 27 10 0) 27 9 0) 27 7 0)) : SC (d + 1) 20 [.ref 27] M Q := by
  refine ⟨qX2_forget, rfl, ⟨Nat.le_of_ble_eq_true rfl, rfl, 27, _, _, rfl, rfl⟩, ?_⟩
  show Ev (BC (d) qX2_forget) Q 0 [some (.ref 27)] [] M
  repeat (refine ev_s rfl (?_ : Ev _ _ _ _ _ _))
  exact ev_retv rfl rfl h
theorem m_run {d fuel : Nat} {s : Int64} {a : AV} (hI : IdleA M fr ψ ns lim H nid fns) (hf : M.1 27 10 = 0) (hm : M.1 27 7 = 0) (hs : Tv fr ψ ns s a) (hfu : fuel ≤ 20000) {Q : Option (Option Value) → PM → Prop}
    (h : ∀ M' fr' ψ' c fl' mo' H' n' v, aRun lim fns 20001 (1, a, aS 0, aS 0, aS 0, [], [], fuel, 0, H, nid) = ((c, fl', mo', H', n'), v) → IdleA M' fr' ψ' ns lim H' n' fns → M'.1 27 10 = nI c → M'.1 27 7 = nI mo' → M'.1 27 9 = nI (fuel - fl') → (c = 0 → Tv fr' ψ' ns (M'.2 27 12) v) → c < 14 → fl' ≤ fuel → mo' ≤ 200 → Same IDM M M' → Q (some none) M') : SC (d + 7) 21 [.ref 27, .long s, .int (nI fuel)] M Q := by
  refine ⟨qX2_run, rfl, ⟨Nat.le_of_ble_eq_true rfl, rfl, 27, _, _, rfl, rfl⟩, ?_⟩
  show Ev (BC (d + 6) qX2_run) Q 0 [some (.ref 27), some (.long s), none, some (.int (nI fuel)), none] [] M
  -- the end
  have fin : ∀ (M1 : PM) (fr1 : List Nat) (ψ1 : Nat → Nat) (H1 : AHp) (n1 c fl1 mo1 : Nat) (v : AV) (ha sk : List Int64) (z : Option Value), MemC M1 fr1 ns ψ1 H1 n1 lim → Acy H1 n1 → RowF M1 fr1 ψ1 ns fns → RowA M1 fr1 ψ1 ns 11 12 2000 [] → RowIs M1 13 14 10 ha → RowIs M1 15 16 2600 sk → M1.1 27 10 = nI c → M1.1 27 8 = nI fl1 → M1.1 27 7 = nI mo1 → (∃ vl, RowIs M1 28 29 10 vl) → c < 14 → fl1 ≤ fuel → mo1 ≤ 200 → (c = 0 → Tv fr1 ψ1 ns (M1.2 27 12) v) → Same IDM M M1 → aRun lim fns 20001 (1, a, aS 0, aS 0, aS 0, [], [], fuel, 0, H, nid) = ((c, fl1, mo1, H1, n1), v) →
      Ev (BC (d + 6) qX2_run) Q 104 [some (.ref 27), some (.long s), none, some (.int (nI fuel)), z] [] M1 := by
    intro M1 fr1 ψ1 H1 n1 c fl1 mo1 v ha sk z k1 k2 k3 k4 k5 k6 k7 k8 k9 ⟨vl, kv⟩ kc kfl kmo kt ks kr
    repeat (refine ev_s rfl (?_ : Ev _ _ _ _ _ _))
    rw [k8, pk_sub kfl]
    have sI : Same [27] M1 (mI M1 27 9 (nI (fuel - fl1))) := Same.I
    refine ev_cv rfl (as := [.ref 27]) rfl rfl (Nat.le_of_ble_eq_true rfl) ?_
    refine m_letGo (k1.same sI (by decide)) k2 (k3.same sI (by decide) (by decide)) (k4.same sI (by decide) (by decide)) (k5.same sI (by decide) (by decide)) (k6.same sI (by decide) (by decide)) hI.2.2.2.1 (fun M2 g1 g2 g3 g4 g5 => ?_)
    show Ev _ _ _ _ [] _
    refine ev_retv rfl rfl (h M2 fr1 ψ1 c fl1 mo1 H1 n1 v kr ⟨g1, g2, ⟨vl, (kv.same sI (by decide) (by decide)).same g5 (by decide) (by decide)⟩, hI.2.2.2⟩ ?_ ?_ ?_ (fun hc => ?_) kc kfl kmo (((ks.tr sI).tr g5).sub (by decide)))
    · rw [g3 10 (by decide), mI_ne (Or.inr (by decide))]; exact k7
    · rw [g3 7 (by decide), mI_ne (Or.inr (by decide))]; exact k9
    · rw [g3 9 (by decide)]; exact mI_at
    · rw [g4]; exact kt hc
  have dead : ∀ (M1 : PM) (c fl1 mo1 : Nat) (H1 : AHp) (n1 : Nat) (v : AV) (z : Option Value), DeadA M1 ns lim fns c fl1 mo1 H1 n1 → fl1 ≤ fuel → Same IDM M M1 → aRun lim fns 20001 (1, a, aS 0, aS 0, aS 0, [], [], fuel, 0, H, nid) = ((c, fl1, mo1, H1, n1), v) →
      Ev (BC (d + 6) qX2_run) Q 104 [some (.ref 27), some (.long s), none, some (.int (nI fuel)), z] [] M1 := by
    rintro M1 c fl1 mo1 H1 n1 v z ⟨⟨fr1, ψ1, k1, k2, k3, k4⟩, ⟨ha, k5⟩, ⟨sk, k6⟩, k7, k7', k8, k9, kv, kc⟩ kfl ks kr
    exact fin M1 fr1 ψ1 H1 n1 c fl1 mo1 v ha sk z k1 k2 k3 k4 k5 k6 k7 k8 k9 kv (by omega) kfl (by omega) (fun h9 => by omega) ks kr
  have loop : ∀ (m j : Nat) (M1 : PM) (fr1 : List Nat) (ψ1 : Nat → Nat) (md : Nat) (x e f v : AV) (vs : List AV) (frs : List AF) (fl mo : Nat) (H1 : AHp) (n1 : Nat), fl < m → j + fl ≤ 20000 → fl ≤ fuel → 1 ≤ md → md ≤ 3 → (md ≠ 3 → f = aS 0 ∧ vs = []) → LiveA M1 fr1 ψ1 ns lim H1 n1 x e f fns vs frs fl mo → M1.1 27 11 = nI md → (md = 2 → Tv fr1 ψ1 ns (M1.2 27 12) v) → Same IDM M M1 → aRun lim fns 20001 (1, a, aS 0, aS 0, aS 0, [], [], fuel, 0, H, nid) = aRun lim fns m (md, x, e, f, v, vs, frs, fl, mo, H1, n1) →
      Ev (BC (d + 6) qX2_run) Q 21 [some (.ref 27), some (.long s), none, some (.int (nI fuel)), some (.int (nI j))] [] M1 := by
    intro m
    induction m with
    | zero => intro j M1 fr1 ψ1 md x e f v vs frs fl mo H1 n1 h9; omega
    | succ m ih =>
      intro j M1 fr1 ψ1 md x e f v vs frs fl mo H1 n1 hfm hj hff h1 h3 hfv hL hn ht hs1 hr
      repeat (refine ev_s rfl (?_ : Ev _ _ _ _ _ _))
      refine ev_icF rfl (nI_nlt (a := 20000) (b := j) (by omega) (by decide)) ?_
      repeat (refine ev_s rfl (?_ : Ev _ _ _ _ _ _))
      rw [hn]
      refine ev_ifF rfl (nI_ne0 (by omega) (by omega)) ?_
      repeat (refine ev_s rfl (?_ : Ev _ _ _ _ _ _))
      refine ev_cv rfl (as := [.ref 27]) rfl rfl (Nat.le_of_ble_eq_true rfl) ?_
      refine m_burn hL.2.2.2.1 (by omega) (fun h0 => ?_) (fun k hk => ?_)
      · subst h0
        show Ev _ _ _ _ [.int 0] _
        refine ev_ifT rfl (show (0 : Int32) = 0 from rfl) ?_
        exact dead _ 7 0 mo H1 n1 (aS 0) _ (hL.dead (c := 7) (by decide) (by decide)) (by omega) ((hs1.tr failM_same).sub (by decide)) (hr.trans rfl)
      · subst hk
        have hL2 := hL.fuel (k := k) (by omega)
        have sI : Same [27] M1 (mI M1 27 8 (nI k)) := Same.I
        have hn2 : (mI M1 27 8 (nI k)).1 27 11 = nI md := by rw [mI_ne (Or.inr (by decide))]; exact hn
        have ht2 : md = 2 → Tv fr1 ψ1 ns ((mI M1 27 8 (nI k)).2 27 12) v := ht
        have hs2 : Same IDM M (mI M1 27 8 (nI k)) := (hs1.tr sI).sub (by decide)
        generalize mI M1 27 8 (nI k) = M2 at *
        have hr2 : aRun lim fns (m + 1) (md, x, e, f, v, vs, frs, k + 1, mo, H1, n1) = (match aStep lim fns (md, x, e, f, v, vs, frs, k, mo, H1, n1) with
            | .inr F => (F, aS 0)
            | .inl (0, _, _, _, v', _, _, fl', mo', H', n') => ((0, fl', mo', H', n'), v')
            | .inl s => aRun lim fns m s) := rfl
        rw [hr2] at hr
        have hg : Good k (aStep lim fns (md, x, e, f, v, vs, frs, k, mo, H1, n1)) := Good.step
        -- behind the step
        have post : ∀ M3, PostM ns lim fns M2 (aStep lim fns (md, x, e, f, v, vs, frs, k, mo, H1, n1)) M3 → Ev (BC (d + 6) qX2_run) Q 98 [some (.ref 27), some (.long s), none, some (.int (nI fuel)), some (.int (nI j))] [] M3 := by
          intro M3 hp
          iterate 2 (refine ev_s rfl (?_ : Ev _ _ _ _ _ _))
          rw [nI_1]
          -- stopped
          have stop : M3.1 27 11 = 0 → (∀ z, Ev (BC (d + 6) qX2_run) Q 104 [some (.ref 27), some (.long s), none, some (.int (nI fuel)), z] [] M3) → Ev (BC (d + 6) qX2_run) Q 21 [some (.ref 27), some (.long s), none, some (.int (nI fuel)), some (.int (nI (j + 1)))] [] M3 := fun h0 hk => by
            repeat (refine ev_s rfl (?_ : Ev _ _ _ _ _ _))
            refine ev_icF rfl (nI_nlt (a := 20000) (b := j + 1) (by omega) (by decide)) ?_
            repeat (refine ev_s rfl (?_ : Ev _ _ _ _ _ _))
            rw [h0]
            refine ev_ifT rfl (show (0 : Int32) = 0 from rfl) ?_
            exact hk _
          cases hst : aStep lim fns (md, x, e, f, v, vs, frs, k, mo, H1, n1) with
          | inr F =>
            obtain ⟨c, fl', mo', H', n'⟩ := F
            rw [hst] at hp hr hg
            have hA : DeadA M3 ns lim fns c fl' mo' H' n' := hp.2
            exact stop hA.2.2.2.2.1 (fun z => dead M3 c fl' mo' H' n' (aS 0) z hA (by have : fl' ≤ k := hg; omega) (hs2.m hp.1) hr)
          | inl s' =>
            obtain ⟨md', x', e', f', v', vs', frs', fl', mo', H', n'⟩ := s'
            rw [hst] at hp hr hg
            obtain ⟨hsm, fr3, ψ3, hL3, hn3, ht3⟩ := hp
            obtain ⟨q1, q2, q3⟩ : md' ≤ 3 ∧ (md' ≠ 3 → f' = aS 0 ∧ vs' = []) ∧ fl' ≤ k := hg
            cases md' with
            | zero =>
              obtain ⟨⟨c1, c2, c3, c4, c5, c6, c7, ⟨lh, w1, w2, w3⟩, ⟨ls, s1, s2, s3⟩⟩, k6, k7, k8, k10, kb, kf, k200, kn, kv⟩ := hL3
              exact stop hn3 (fun z => fin M3 fr3 ψ3 H' n' 0 fl' mo' v' lh ls z c1 c2 c6 c7 w1 s1 k10 k8 k7 kv (by decide) (by omega) (by omega) (fun _ => ht3 (Or.inr rfl)) (hs2.m hsm) hr)
            | succ md' => exact ih (j + 1) M3 fr3 ψ3 (md' + 1) x' e' f' v' vs' frs' fl' mo' H' n' (by omega) (by omega) (by omega) (by omega) q1 q2 hL3 hn3 (fun h9 => ht3 (Or.inl h9)) (hs2.m hsm) hr
        show Ev _ _ _ _ [.int 1] _
        refine ev_ifF rfl (show ¬ (1 : Int32) = 0 by decide) ?_
        repeat (refine ev_s rfl (?_ : Ev _ _ _ _ _ _))
        rw [hn2]
        have c1 : (nI md = 1) ↔ md = 1 := nI_eq (b := 1) (by omega) (by decide)
        have c2 : (nI md = 2) ↔ md = 2 := nI_eq (b := 2) (by omega) (by decide)
        refine ev_ic rfl (fun n1' => ?_) (fun n1' => ?_)
        · have n1' : ¬ md = 1 := fun h9 => n1' (c1.mpr h9)
          repeat (refine ev_s rfl (?_ : Ev _ _ _ _ _ _))
          rw [hn2]
          refine ev_ic rfl (fun n2' => ?_) (fun n2' => ?_)
          · have n2' : ¬ md = 2 := fun h9 => n2' (c2.mpr h9)
            have e3 : md = 3 := by omega
            subst e3
            repeat (refine ev_s rfl (?_ : Ev _ _ _ _ _ _))
            refine ev_cv rfl (as := [.ref 27, .long (M2.2 1 6)]) rfl rfl (Nat.le_of_ble_eq_true rfl) ?_
            refine m_isBuiltIn hL2.1.2.2.2.2.2.1 hL2.1.2.2.2.2.1 (fun hb => ?_) (fun hb => ?_)
            · show Ev _ _ _ _ [.int 1] _
              refine ev_ifF rfl (show ¬ (1 : Int32) = 0 by decide) ?_
              repeat (refine ev_s rfl (?_ : Ev _ _ _ _ _ _))
              obtain ⟨kk, rfl, k8, k22, kN⟩ := hb
              refine ev_cv rfl (as := [.ref 27]) rfl rfl (Nat.le_of_ble_eq_true rfl) ?_
              refine m_applyBuiltIn hL2 k8 k22 (fun M3 g => ?_)
              show Ev _ _ _ _ [] _
              iterate 1 (refine ev_s rfl (?_ : Ev _ _ _ _ _ _))
              refine post M3 ?_
              have : aStep lim fns (3, x, e, aS kk, v, vs, frs, k, mo, H1, n1) = aBuilt lim fns x e (aS kk) kk vs frs k mo H1 n1 := by
                show aApply lim fns x e (aS kk) vs frs k mo H1 n1 = _
                unfold aApply
                dsimp only
                rw [kN]
                exact if_pos ⟨k8, k22⟩
              rw [this]
              exact g
            · show Ev _ _ _ _ [.int 0] _
              refine ev_ifT rfl (show (0 : Int32) = 0 from rfl) ?_
              repeat (refine ev_s rfl (?_ : Ev _ _ _ _ _ _))
              refine ev_cv rfl (as := [.ref 27]) rfl rfl (Nat.le_of_ble_eq_true rfl) ?_
              refine m_apply hL2 hn2 hb (fun M3 g => ?_)
              show Ev _ _ _ _ [] _
              exact post M3 g
          · have y : md = 2 := c2.mp (Decidable.not_not.mp n2')
            subst y
            obtain ⟨rfl, rfl⟩ := hfv (by decide)
            repeat (refine ev_s rfl (?_ : Ev _ _ _ _ _ _))
            refine ev_cv rfl (as := [.ref 27]) rfl rfl (Nat.le_of_ble_eq_true rfl) ?_
            refine m_takeValue hL2 (ht2 rfl) (fun M3 g => ?_)
            show Ev _ _ _ _ [] _
            iterate 1 (refine ev_s rfl (?_ : Ev _ _ _ _ _ _))
            exact post M3 g
        · have y : md = 1 := c1.mp (Decidable.not_not.mp n1')
          subst y
          obtain ⟨rfl, rfl⟩ := hfv (by decide)
          repeat (refine ev_s rfl (?_ : Ev _ _ _ _ _ _))
          refine ev_cv rfl (as := [.ref 27]) rfl rfl (Nat.le_of_ble_eq_true rfl) ?_
          refine m_evaluate hL2 (fun M3 g => ?_)
          show Ev _ _ _ _ [] _
          iterate 1 (refine ev_s rfl (?_ : Ev _ _ _ _ _ _))
          exact post M3 g
  obtain ⟨hC, h6, ⟨vl, hvl⟩, hns⟩ := id hI
  iterate 12 (refine ev_s rfl (?_ : Ev _ _ _ _ _ _))
  have hC1 := hC.setX hs
  have s1 : Same [1, 27] M (mI (mI (mJ M 1 4 s) 27 8 (nI fuel)) 27 11 1) := ((Same.J.tr Same.I).tr Same.I).sub (by decide)
  have s27 : Same [27] (mJ M 1 4 s) (mI (mI (mJ M 1 4 s) 27 8 (nI fuel)) 27 11 1) := (Same.I.tr Same.I).sub (by decide)
  refine loop 20001 0 _ fr ψ 1 a (aS 0) (aS 0) (aS 0) [] [] fuel 0 H nid (by omega) (by omega) (by omega) (by decide) (by decide) (fun _ => ⟨rfl, rfl⟩) ⟨hC1.same s27 (by decide), ?_, ?_, ?_, ?_, trivial, fun F hF => by simp at hF, by simp, ⟨hfu, by omega, hns⟩, vl, hvl.same s1 (by decide) (by decide)⟩ mI_at (fun h9 => by omega) (s1.sub (by decide)) rfl
  · rw [mI_ne (Or.inr (by decide)), mI_ne (Or.inr (by decide)), mJ_1]; exact h6
  · rw [mI_ne (Or.inr (by decide)), mI_ne (Or.inr (by decide)), mJ_1]; exact hm
  · rw [mI_ne (Or.inr (by decide)), mI_at]
  · rw [mI_ne (Or.inr (by decide)), mI_ne (Or.inr (by decide)), mJ_1]; exact hf
end RUN

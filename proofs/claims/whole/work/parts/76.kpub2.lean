/-! The reference's public methods: define, echo, eval. -/
section NM
variable {t : List Nat} {lim : Nat} {fns : List (Option AV)}
/-- the names a step leaves -/
def NmOk (k : Nat) (r : RR) : Prop := match r with
  | .inl (_, _, _, _, nm, _, _) => k ≤ nm.length
  | .inr _ => True
theorem NmOk.cons {k : Nat} {rt : List AV} {a b : AV} {H : AHp} {n : Nat} {ok : AV → AHp → Nat → RR} {no : AHp → Nat → RR} (h1 : ∀ v H n, NmOk k (ok v H n)) (h2 : ∀ H n, NmOk k (no H n)) : NmOk k (aCons lim fns rt a b H n ok no) := by
  unfold aCons
  split
  · exact h1 _ _ _
  · exact h2 _ _
theorem NmOk.done {lt p : Nat} {pe : List AV} {wh : Option AV} {nm : List (List Nat)} {k : Nat} (hk : k ≤ nm.length) : ∀ (op : List (Nat × Nat)) (s : AV) (H : AHp) (n : Nat), NmOk k (rDone lim fns lt p pe wh nm op s H n)
  | [], _, _, _ => hk
  | (j, st) :: r, s, H, n => by
    unfold rDone
    split
    · exact NmOk.cons (fun _ _ _ => NmOk.cons (fun _ _ _ => NmOk.done hk r _ _ _) (fun _ _ => trivial)) (fun _ _ => trivial)
    · exact hk
theorem NmOk.list {k : Nat} {rt : List AV} {ok : AV → AHp → Nat → RR} {no : AHp → Nat → RR} (h1 : ∀ v H n, NmOk k (ok v H n)) (h2 : ∀ H n, NmOk k (no H n)) : ∀ (l : List AV) (v : AV) (H : AHp) (n : Nat), NmOk k (rList lim fns rt l v H n ok no)
  | [], _, _, _ => h1 _ _ _
  | _ :: r, _, _, _ => NmOk.cons (fun _ _ _ => NmOk.list h1 h2 r _ _ _) h2
theorem rSym_len {p k q : Nat} {nm nm' : List (List Nat)} (h : rSym t p nm = .inl (k, q, nm')) : nm.length ≤ nm'.length := by
  unfold rSym at h
  split at h
  · split at h
    · cases h; exact Nat.le_refl _
    · split at h
      · cases h; simp
      · cases h
  · cases h
theorem NmOk.tok {c p : Nat} {op : List (Nat × Nat)} {pe : List AV} {wh : Option AV} {nm : List (List Nat)} {H : AHp} {n : Nat} : NmOk nm.length (rTok lim fns t c (p, op, pe, wh, nm, H, n)) := by
  unfold rTok
  dsimp only
  split
  · exact Nat.le_refl _
  · split
    · unfold rOpen
      split
      · split
        · exact Nat.le_refl _
        · trivial
      · trivial
    · split
      · unfold rOpen
        split
        · split
          · exact Nat.le_refl _
          · trivial
        · trivial
      · split
        · unfold rClose
          split
          · trivial
          · split
            · refine NmOk.list (fun _ _ _ => NmOk.done (Nat.le_refl _) _ _ _ _) (fun _ _ => ?_) _ _ _ _; trivial
            · split
              · refine NmOk.list (fun _ _ _ => NmOk.done (Nat.le_refl _) _ _ _ _) (fun _ _ => ?_) _ _ _ _; trivial
              · trivial
        · split
          · unfold rDot
            split
            · exact Nat.le_refl _
            · trivial
          · unfold rAtom
            split
            · split
              · split
                · rename_i h9
                  exact NmOk.done (rSym_len h9) _ _ _ _
                · trivial
              · split
                · split
                  · exact NmOk.done (Nat.le_refl _) _ _ _ _
                  · trivial
                · trivial
            · trivial
theorem rAll_nm : ∀ (m p : Nat) (op : List (Nat × Nat)) (pe : List AV) (wh : Option AV) (nm : List (List Nat)) (H : AHp) (n : Nat) (a : AV) (nm' : List (List Nat)) (H' : AHp) (n' : Nat), rAll lim fns t m (p, op, pe, wh, nm, H, n) = .inl (a, nm', H', n') → nm.length ≤ nm'.length := by
  intro m
  have fin : ∀ (p : Nat) (wh : Option AV) (nm : List (List Nat)) (H : AHp) (n : Nat) (a : AV) (nm' : List (List Nat)) (H' : AHp) (n' : Nat), (match wh with
      | some a => (.inl (a, nm, H, n) : (AV × List (List Nat) × AHp × Nat) ⊕ RF)
      | none => .inr (1, t.length, nm, H, n)) = .inl (a, nm', H', n') → nm.length ≤ nm'.length := by
    intro p wh nm H n a nm' H' n' h
    cases wh with
    | none => cases h
    | some b => cases h; exact Nat.le_refl _
  induction m with
  | zero => intro p op pe wh nm H n a nm' H' n' h; exact fin p wh nm H n a nm' H' n' h
  | succ m ih =>
    intro p op pe wh nm H n a nm' H' n' h
    by_cases hp : p < t.length
    · rw [rAll_go (List.getElem?_eq_getElem hp)] at h
      have hk := NmOk.tok (t := t) (lim := lim) (fns := fns) (c := t[p]) (p := p) (op := op) (pe := pe) (wh := wh) (nm := nm) (H := H) (n := n)
      cases hr : rTok lim fns t t[p] (p, op, pe, wh, nm, H, n) with
      | inl s =>
        obtain ⟨p2, op2, pe2, wh2, nm2, H2, n2⟩ := s
        rw [hr] at h hk
        exact Nat.le_trans hk (ih p2 op2 pe2 wh2 nm2 H2 n2 a nm' H' n' h)
      | inr F =>
        rw [hr] at h
        cases h
    · rw [rAll_end (by omega)] at h
      exact fin p wh nm H n a nm' H' n' h
end NM
section KZ
variable {M : PM} {tp pa : List Nat} {nm : List (List Nat)} {fns : List (Option AV)} {H : AHp} {n lim : Nat} {pl : Int32} {tk mo : Nat}
abbrev IDN : List Nat := [129, 130, 131, 132, 134, 141]
theorem k_nothing {d : Nat} {Q : Option (Option Value) → PM → Prop} (hq : ∀ M', SameM IDN M M' → M'.2 0 29 = -1 → M'.2 0 30 = -1 → M'.2 0 31 = -1 → M'.1 0 34 = 0 → M'.1 0 41 = 0 → Q (some none) M') : SM (d + 1) 138 [.ref 0] M Q := by
  refine ⟨qX10_nothing, rfl, ⟨Nat.le_of_ble_eq_true rfl, rfl, 0, _, _, rfl, rfl⟩, ?_⟩
  show Ev (BM (d) qX10_nothing) Q 0 [some (.ref 0)] [] M
  repeat (refine ev_s rfl (?_ : Ev _ _ _ _ _ _))
  refine ev_retv rfl rfl (hq _ ?_ ?_ ?_ ?_ ?_ mI_at)
  · exact ((((SameM.J0 (j := 29)).tr (SameM.J0 (j := 30))).tr ((SameM.J0 (j := 31)).tr (SameM.J0 (j := 32)))).tr ((SameM.I0 (j := 34)).tr (SameM.I0 (j := 41)))).sub (by decide)
  · rw [mI_2, mI_2, mJ_ne (Or.inr (by decide)), mJ_ne (Or.inr (by decide)), mJ_ne (Or.inr (by decide)), mJ_at]
  · rw [mI_2, mI_2, mJ_ne (Or.inr (by decide)), mJ_ne (Or.inr (by decide)), mJ_at]
  · rw [mI_2, mI_2, mJ_ne (Or.inr (by decide)), mJ_at]
  · rw [mI_ne (Or.inr (by decide)), mI_at]
theorem CoreM.mk0 {U : Nat → Bool} {ψ : Nat → Nat} {ns : Nat} (hm : MemM M U ψ ns H n lim) (hac : Acy H n) (hf : FnM M U ψ ns fns) (h5 : M.1 0 5 = nI ns) (h23 : 23 ≤ ns) (h300 : ns ≤ 300) (e29 : M.2 0 29 = -1) (e30 : M.2 0 30 = -1) (e31 : M.2 0 31 = -1) (e34 : M.1 0 34 = 0) (e41 : M.1 0 41 = 0) (e25 : M.1 0 25 = 0) : CoreM M U ψ ns lim H n (aS 0) (aS 0) (aS 0) fns [] [] [] := by
  have h0 : 0 < ns := by omega
  exact ⟨hm, hac, by rw [e29]; exact RTv.nil h0, by rw [e30]; exact RTv.nil h0, by rw [e31]; exact RTv.nil h0, hf, ⟨e25, by decide, fun i a hi => by simp at hi⟩, ⟨e34, by decide, fun i a hi => by simp at hi⟩, ⟨e41, by decide, fun i a hi => by simp at hi⟩, h5, h23, h300⟩
theorem k_begins_bad {d : Nat} {x : Int32} {b : Bool} (h : YM M (tp, pa, nm, fns, H, n, lim, pl, tk, mo)) (hx : x < 0 ∨ nI tp.length < x ∨ b = true) {Q : Option (Option Value) → PM → Prop} (hq : Q (some (some (.int 0))) (mI M 0 0 1)) : SM (d + 1) 155 [.ref 0, .int x, .int (if b then 1 else 0)] M Q := by
  refine ⟨qX10_begins, rfl, ⟨Nat.le_of_ble_eq_true rfl, rfl, 0, _, _, rfl, rfl⟩, ?_⟩
  show Ev (BM (d) qX10_begins) Q 0 [some (.ref 0), some (.int x), some (.int (if b then 1 else 0))] [] M
  have hT := h.2.2.1
  have bad : Ev (BM d qX10_begins) Q 17 [some (.ref 0), some (.int x), some (.int (if b then 1 else 0))] [.ref 0] M := by
    repeat (refine ev_s rfl (?_ : Ev _ _ _ _ _ _))
    have e1 : (mI M 0 0 1).1 0 0 = 1 := mI_at
    rw [e1]
    refine ev_ifF rfl (show ¬ (1 : Int32) ≤ 0 by decide) ?_
    repeat (refine ev_s rfl (?_ : Ev _ _ _ _ _ _))
    exact ev_reti rfl rfl trivial rfl hq
  repeat (refine ev_s rfl (?_ : Ev _ _ _ _ _ _))
  refine ev_if rfl (fun hc => bad) (fun hc => ?_)
  repeat (refine ev_s rfl (?_ : Ev _ _ _ _ _ _))
  rw [hT.1]
  refine ev_ic rfl (fun hc2 => bad) (fun hc2 => ?_)
  have hb : b = true := (hx.resolve_left hc).resolve_left hc2
  subst hb
  repeat (refine ev_s rfl (?_ : Ev _ _ _ _ _ _))
  refine ev_ifF rfl (show ¬ (1 : Int32) = 0 by decide) ?_
  exact bad
theorem k_begins {d N : Nat} (h : YM M (tp, pa, nm, fns, H, n, lim, pl, tk, mo)) (hN : N ≤ tp.length) {Q : Option (Option Value) → PM → Prop} (hq : ∀ M' U ψ, RdM (tp.take N) lim fns M' U ψ H n 0 [] [] nm → M'.1 0 0 = 0 → M'.1 0 20 = 0 → M'.1 0 23 = -1 → SameM [100, 120, 121, 122, 123, 129, 130, 131, 132, 134, 141] M M' → Q (some (some (.int 1))) M') : SM (d + 2) 155 [.ref 0, .int (nI N), .int (if false then 1 else 0)] M Q := by
  refine ⟨qX10_begins, rfl, ⟨Nat.le_of_ble_eq_true rfl, rfl, 0, _, _, rfl, rfl⟩, ?_⟩
  show Ev (BM (d + 1) qX10_begins) Q 0 [some (.ref 0), some (.int (nI N)), some (.int (if false then 1 else 0))] [] M
  obtain ⟨⟨U, ψ, hC⟩, h2, h3, h4, h5, h6, h7, h8, h9⟩ := h
  have h2000 := h3.2.1
  repeat (refine ev_s rfl (?_ : Ev _ _ _ _ _ _))
  refine ev_ifF rfl (show ¬ nI N < 0 from Int32.not_lt.mpr (nI_pos' (by omega))) ?_
  repeat (refine ev_s rfl (?_ : Ev _ _ _ _ _ _))
  rw [h3.1]
  refine ev_icF rfl (show ¬ nI tp.length < nI N from fun h9 => by have := (nI_ltI (by omega) (by omega)).mp h9; omega) ?_
  repeat (refine ev_s rfl (?_ : Ev _ _ _ _ _ _))
  refine ev_ifT rfl (show (0 : Int32) = 0 from rfl) ?_
  repeat (refine ev_s rfl (?_ : Ev _ _ _ _ _ _))
  have e1 : (mI M 0 0 0).1 0 0 = 0 := mI_at
  rw [e1]
  refine ev_ifT rfl (show (0 : Int32) ≤ 0 by decide) ?_
  repeat (refine ev_s rfl (?_ : Ev _ _ _ _ _ _))
  generalize hM2 : mI (mI (mI (mI (mI M 0 0 0) 0 21 (nI N)) 0 20 0) 0 22 0) 0 23 (-1) = M2
  have s2 : SameM [100, 120, 121, 122, 123] M M2 := by
    rw [← hM2]
    exact (((SameM.I0 (j := 0)).tr (SameM.I0 (j := 21))).tr (((SameM.I0 (j := 20)).tr (SameM.I0 (j := 22))).tr (SameM.I0 (j := 23)))).sub (by decide)
  have f0 : M2.1 0 0 = 0 := by rw [← hM2, mI_ne (Or.inr (by decide)), mI_ne (Or.inr (by decide)), mI_ne (Or.inr (by decide)), mI_ne (Or.inr (by decide)), mI_at]
  have f21 : M2.1 0 21 = nI N := by rw [← hM2, mI_ne (Or.inr (by decide)), mI_ne (Or.inr (by decide)), mI_ne (Or.inr (by decide)), mI_at]
  have f20 : M2.1 0 20 = 0 := by rw [← hM2, mI_ne (Or.inr (by decide)), mI_ne (Or.inr (by decide)), mI_at]
  have f22 : M2.1 0 22 = 0 := by rw [← hM2, mI_ne (Or.inr (by decide)), mI_at]
  have f23 : M2.1 0 23 = -1 := by rw [← hM2, mI_at]
  refine ev_cv rfl (as := [.ref 0]) rfl rfl (Nat.le_of_ble_eq_true rfl) ?_
  refine k_nothing (fun M3 s3 e29 e30 e31 e34 e41 => ?_)
  have s13 := s2.t2 s3 (ids'' := [100, 120, 121, 122, 123, 129, 130, 131, 132, 134, 141]) (by decide)
  obtain ⟨c1, c2, c3, c4, c5, c6, c7, c8, c9, c10, c11, c12⟩ := hC
  have elt : (tp.take N).length = N := by rw [List.length_take]; omega
  show Ev _ _ _ _ [] _
  repeat (refine ev_s rfl (?_ : Ev _ _ _ _ _ _))
  refine ev_reti rfl rfl trivial rfl (hq M3 U ψ ⟨CoreM.mk0 (c1.same s13 (by decide)) c2 (c6.kept (RA := fun _ => True) (H := H) KeptM.rf (fun _ _ => trivial) s13 (by decide) (by decide)) ((s13.2 5 (by decide)).1.trans c10) c11 c12 e29 e30 e31 e34 e41 ((s13.2 25 (by decide)).1.trans c7.1), h2.same s13 (by decide) (by decide), ⟨?_, by omega, fun i c hi => ?_⟩, (s3.2 22 (by decide)).1.trans f22, by omega, (s13.2 28 (by decide)).1.trans h5, fun k s st hk => by simp at hk, by decide, trivial, by decide⟩ ((s3.2 0 (by decide)).1.trans f0) ((s3.2 20 (by decide)).1.trans f20) ((s3.2 23 (by decide)).1.trans f23) s13)
  · rw [(s3.2 21 (by decide)).1, f21, elt]
  · rw [(s13.1 10 (by decide) (by decide)).1]
    rw [List.getElem?_take] at hi
    split at hi
    · exact h3.2.2 i c hi
    · cases hi
theorem RdX.dx {c p : Nat} (h : RdX lim fns M nm H n c p) : DX lim fns M nm H n := ⟨h.1, h.2.1, h.2.2.1, h.2.2.2.1, h.2.2.2.2.1, h.2.2.2.2.2.1⟩
theorem k_failed {d : Nat} {b : Bool} (h : DX lim fns M nm H n) {Q : Option (Option Value) → PM → Prop} (hq : ∀ M', (∃ U ψ, CoreM M' U ψ nm.length lim H n (aS 0) (aS 0) (aS 0) fns [] [] []) → SymM M' nm → M'.1 0 28 = nI 0 → M'.1 0 46 = (if b then M.1 0 46 else 0) → SameM (125 :: 128 :: 146 :: IDN) M M' → Q (some (some (.int (M.1 0 8)))) M') : SM (d + 2) 157 [.ref 0, .int (if b then 1 else 0)] M Q := by
  refine ⟨qX10_failed, rfl, ⟨Nat.le_of_ble_eq_true rfl, rfl, 0, _, _, rfl, rfl⟩, ?_⟩
  show Ev (BM (d + 1) qX10_failed) Q 0 [some (.ref 0), some (.int (if b then 1 else 0))] [] M
  obtain ⟨⟨U, ψ, k1, k2⟩, k3, k4, k5, k6, k7⟩ := h
  have s1 : SameM [125, 128] M (mI (mI M 0 25 0) 0 28 0) := (SameM.I0 (j := 25)).t2 (SameM.I0 (j := 28)) (by decide)
  have f25 : (mI (mI M 0 25 0) 0 28 0).1 0 25 = 0 := by rw [mI_ne (Or.inr (by decide)), mI_at]
  have f28 : (mI (mI M 0 25 0) 0 28 0).1 0 28 = 0 := mI_at
  repeat (refine ev_s rfl (?_ : Ev _ _ _ _ _ _))
  refine ev_cv rfl (as := [.ref 0]) rfl rfl (Nat.le_of_ble_eq_true rfl) ?_
  refine k_nothing (fun M3 s3 e29 e30 e31 e34 e41 => ?_)
  have s13 := s1.t2 s3 (ids'' := 125 :: 128 :: IDN) (by decide)
  show Ev _ _ _ _ [] _
  have fin : ∀ y, y = (if b then M.1 0 46 else 0) → Ev (BM (d + 1) qX10_failed) Q 27 [some (.ref 0), some (.int (if b then 1 else 0))] [.int y, .ref 0] M3 := fun y hy => by
    repeat (refine ev_s rfl (?_ : Ev _ _ _ _ _ _))
    have s4 : SameM [146] M3 (mI M3 0 46 y) := SameM.I0 (j := 46)
    have s14 := s13.t2 s4 (ids'' := 125 :: 128 :: 146 :: IDN) (by decide)
    rw [(s14.2 8 (by decide)).1]
    exact ev_reti rfl rfl trivial rfl (hq _ ⟨U, ψ, CoreM.mk0 (k1.same s14 (by decide)) k3 (k2.kept (RA := fun _ => True) (H := H) KeptM.rf (fun _ _ => trivial) s14 (by decide) (by decide)) ((s14.2 5 (by decide)).1.trans k4) k5 k6 ((s4.2 29 (by decide)).2.trans e29) ((s4.2 30 (by decide)).2.trans e30) ((s4.2 31 (by decide)).2.trans e31) ((s4.2 34 (by decide)).1.trans e34) ((s4.2 41 (by decide)).1.trans e41) ((s4.2 25 (by decide)).1.trans ((s3.2 25 (by decide)).1.trans f25))⟩ (k7.same s14 (by decide) (by decide)) ((s4.2 28 (by decide)).1.trans ((s3.2 28 (by decide)).1.trans f28)) (by rw [mI_at, hy]) s14)
  repeat (refine ev_s rfl (?_ : Ev _ _ _ _ _ _))
  cases b with
  | true =>
    refine ev_ifF rfl (show ¬ (1 : Int32) = 0 by decide) ?_
    iterate 3 (refine ev_s rfl (?_ : Ev _ _ _ _ _ _))
    exact fin _ (s13.2 46 (by decide)).1
  | false =>
    refine ev_ifT rfl (show (0 : Int32) = 0 from rfl) ?_
    iterate 1 (refine ev_s rfl (?_ : Ev _ _ _ _ _ _))
    exact fin _ rfl
theorem pres_set {a : AV} : ∀ (fns : List (Option AV)) (k : Nat), k < fns.length → ((fns.set k (some a)).filter Option.isSome).length = (fns.filter Option.isSome).length + (if ((fns[k]?).getD none).isSome then 0 else 1)
  | [], k, h => by simp at h
  | o :: r, 0, _ => by
    cases o with
    | none => simp
    | some b => simp
  | o :: r, k + 1, h => by
    have := pres_set (a := a) r k (by simpa using h)
    cases o with
    | none => simpa using this
    | some b =>
      simp only [List.set_cons_succ, List.getElem?_cons_succ]
      rw [List.filter_cons_of_pos rfl, List.filter_cons_of_pos rfl, List.length_cons, List.length_cons, this]
      omega
theorem q_define_bad {d : Nat} {x : Int32} (h : YM M (tp, pa, nm, fns, H, n, lim, pl, tk, mo)) (hx : x < 0 ∨ nI tp.length < x) {Q : Option (Option Value) → PM → Prop} (hq : ∀ M', YM M' (tp, pa, nm, fns, H, n, lim, pl, tk, mo) → M'.1 0 0 = 1 → Q (some (some (.int 0))) M') : SM (d + 2) 158 [.ref 0, .int x] M Q := by
  refine ⟨qX10_define, rfl, ⟨Nat.le_of_ble_eq_true rfl, rfl, 0, _, _, rfl, rfl⟩, ?_⟩
  show Ev (BM (d + 1) qX10_define) Q 0 [some (.ref 0), some (.int x), none, none, none, none, none, none] [] M
  repeat (refine ev_s rfl (?_ : Ev _ _ _ _ _ _))
  refine ev_cv rfl (as := [.ref 0, .int x, .int (if false then 1 else 0)]) rfl rfl (Nat.le_of_ble_eq_true rfl) ?_
  refine k_begins_bad h (hx.elim Or.inl (fun h9 => Or.inr (Or.inl h9))) ?_
  show Ev _ _ _ _ [.int 0] _
  refine ev_ifF rfl (show ¬ ¬ (0 : Int32) = 0 by decide) ?_
  repeat (refine ev_s rfl (?_ : Ev _ _ _ _ _ _))
  exact ev_reti rfl rfl trivial rfl (hq _ h.thr mI_at)
theorem q_echo_bad {d : Nat} {x : Int32} (h : YM M (tp, pa, nm, fns, H, n, lim, pl, tk, mo)) (hx : x < 0 ∨ nI tp.length < x) {Q : Option (Option Value) → PM → Prop} (hq : ∀ M', YM M' (tp, pa, nm, fns, H, n, lim, pl, tk, mo) → M'.1 0 0 = 1 → Q (some (some (.int 0))) M') : SM (d + 2) 159 [.ref 0, .int x] M Q := by
  refine ⟨qX10_echo, rfl, ⟨Nat.le_of_ble_eq_true rfl, rfl, 0, _, _, rfl, rfl⟩, ?_⟩
  show Ev (BM (d + 1) qX10_echo) Q 0 [some (.ref 0), some (.int x), none, none] [] M
  repeat (refine ev_s rfl (?_ : Ev _ _ _ _ _ _))
  refine ev_cv rfl (as := [.ref 0, .int x, .int (if false then 1 else 0)]) rfl rfl (Nat.le_of_ble_eq_true rfl) ?_
  refine k_begins_bad h (hx.elim Or.inl (fun h9 => Or.inr (Or.inl h9))) ?_
  show Ev _ _ _ _ [.int 0] _
  refine ev_ifF rfl (show ¬ ¬ (0 : Int32) = 0 by decide) ?_
  repeat (refine ev_s rfl (?_ : Ev _ _ _ _ _ _))
  exact ev_reti rfl rfl trivial rfl (hq _ h.thr mI_at)
theorem q_eval_bad {d : Nat} {x y : Int32} (h : YM M (tp, pa, nm, fns, H, n, lim, pl, tk, mo)) (hx : x < 0 ∨ nI tp.length < x ∨ y < 0 ∨ 20000 < y) {Q : Option (Option Value) → PM → Prop} (hq : ∀ M', YM M' (tp, pa, nm, fns, H, n, lim, pl, tk, mo) → M'.1 0 0 = 1 → Q (some (some (.int 0))) M') : SM (d + 2) 160 [.ref 0, .int x, .int y] M Q := by
  refine ⟨qX10_eval, rfl, ⟨Nat.le_of_ble_eq_true rfl, rfl, 0, _, _, rfl, rfl⟩, ?_⟩
  show Ev (BM (d + 1) qX10_eval) Q 0 [some (.ref 0), some (.int x), some (.int y), none] [] M
  have go : ∀ b : Bool, (b = true ↔ (y < 0 ∨ 20000 < y)) → Ev (BM (d + 1) qX10_eval) Q 18 [some (.ref 0), some (.int x), some (.int y), none] [.int (if b then 1 else 0), .int x, .ref 0] M := fun b hb => by
    refine ev_cv rfl (as := [.ref 0, .int x, .int (if b then 1 else 0)]) rfl rfl (Nat.le_of_ble_eq_true rfl) ?_
    refine k_begins_bad h (hx.elim Or.inl (fun h9 => h9.elim (fun h8 => Or.inr (Or.inl h8)) (fun h8 => Or.inr (Or.inr (hb.mpr h8))))) ?_
    show Ev _ _ _ _ [.int 0] _
    refine ev_ifF rfl (show ¬ ¬ (0 : Int32) = 0 by decide) ?_
    repeat (refine ev_s rfl (?_ : Ev _ _ _ _ _ _))
    exact ev_reti rfl rfl trivial rfl (hq _ h.thr mI_at)
  repeat (refine ev_s rfl (?_ : Ev _ _ _ _ _ _))
  refine ev_if rfl (fun hc => ?_) (fun hc => ?_)
  · iterate 2 (refine ev_s rfl (?_ : Ev _ _ _ _ _ _))
    exact go true ⟨fun _ => Or.inl hc, fun _ => rfl⟩
  · repeat (refine ev_s rfl (?_ : Ev _ _ _ _ _ _))
    refine ev_ic rfl (fun hc2 => ?_) (fun hc2 => ?_)
    · iterate 1 (refine ev_s rfl (?_ : Ev _ _ _ _ _ _))
      refine go false ⟨fun h9 => (by cases h9), fun h9 => ?_⟩
      rcases h9 with h9 | h9
      · exact (hc h9).elim
      · exact absurd hc2 (Int32.not_le.mpr h9)
    · iterate 2 (refine ev_s rfl (?_ : Ev _ _ _ _ _ _))
      exact go true ⟨fun _ => Or.inr (Int32.not_le.mp hc2), fun _ => rfl⟩
theorem q_define {d N : Nat} (h : YM M (tp, pa, nm, fns, H, n, lim, pl, tk, mo)) (hN : N ≤ tp.length) {Q : Option (Option Value) → PM → Prop} (hq : ∀ M', YM M' (yDefine (tp, pa, nm, fns, H, n, lim, pl, tk, mo) N).2 → M'.1 0 0 = 0 → Q (some (some (.int (yDefine (tp, pa, nm, fns, H, n, lim, pl, tk, mo) N).1))) M') : SM (d + 10) 158 [.ref 0, .int (nI N)] M Q := by
  refine ⟨qX10_define, rfl, ⟨Nat.le_of_ble_eq_true rfl, rfl, 0, _, _, rfl, rfl⟩, ?_⟩
  show Ev (BM (d + 9) qX10_define) Q 0 [some (.ref 0), some (.int (nI N)), none, none, none, none, none, none] [] M
  have h0 := h
  obtain ⟨⟨U0, ψ0, hC0⟩, h2, h3, h4, h5, h6, h7, h8, h9⟩ := h
  have h2000 := h3.2.1
  have elt : (tp.take N).length = N := by rw [List.length_take]; omega
  unfold yDefine at hq
  dsimp only at hq
  repeat (refine ev_s rfl (?_ : Ev _ _ _ _ _ _))
  refine ev_cv rfl (as := [.ref 0, .int (nI N), .int (if false then 1 else 0)]) rfl rfl (Nat.le_of_ble_eq_true rfl) ?_
  refine k_begins h0 hN (fun M1 U ψ hR a0 a20 a23 s1 => ?_)
  generalize htt : tp.take N = t at *
  -- a fault
  have bad : ∀ (M2 : PM) (c p n2 : Nat) (nm2 : List (List Nat)) (H2 : AHp) (L : List (Option Value)), L[0]? = some (some (.ref 0)) → RdX lim fns M2 nm2 H2 n2 c p → SameM IDX M1 M2 → (∀ M', YM M' ([], pa, nm2, fns, H2, n2, lim, nI p, tk, mo) → M'.1 0 0 = 0 → Q (some (some (.int (nI c)))) M') → Ev (BM (d + 9) qX10_define) Q 119 L [] M2 := by
    intro M2 c p n2 nm2 H2 L hL hX s12 hq
    refine ev_s rfl (?_ : p_ld _ _ _)
    unfold p_ld
    rw [hL]
    show Ev _ _ _ _ [.ref 0] _
    repeat (refine ev_s rfl (?_ : Ev _ _ _ _ _ _))
    refine ev_cv rfl (as := [.ref 0, .int (if true then 1 else 0)]) rfl rfl (Nat.le_of_ble_eq_true rfl) ?_
    refine k_failed (b := true) hX.dx (fun M3 e1 e2 e3 e4 s23 => ?_)
    have s13 := s12.t2 s23 (ids'' := 146 :: (IDX ++ IDN)) (by decide)
    have s03 := s1.t2 s13 (ids'' := [100, 120, 121, 122, 123, 129, 130, 131, 132, 134, 141] ++ (146 :: (IDX ++ IDN))) (by decide)
    have s02 := s1.t2 s12 (ids'' := [100, 120, 121, 122, 123, 129, 130, 131, 132, 134, 141] ++ IDX) (by decide)
    rw [hX.2.2.2.2.2.2.1]
    show Ev _ _ _ _ [.int (nI c)] _
    refine ev_reti rfl rfl trivial rfl (hq M3 ⟨e1, e2, ⟨(s13.2 20 (by decide)).1.trans a20, by decide, fun i c hi => by simp at hi⟩, ⟨?_, h4.2.1, fun i c hi => ?_⟩, e3, (s23.2 23 (by decide)).1.trans hX.2.2.2.2.2.2.2.1, (s03.2 44 (by decide)).1.trans h7, (s03.2 42 (by decide)).1.trans h8, (s03.2 6 (by decide)).1.trans h9⟩ ((s13.2 0 (by decide)).1.trans a0))
    · rw [e4]
      exact (s02.2 46 (by decide)).1.trans h4.1
    · rw [(s03.1 21 (by decide) (by decide)).1]; exact h4.2.2 i c hi
  show Ev _ _ _ _ [.int 1] _
  refine ev_ifT rfl (show ¬ (1 : Int32) = 0 by decide) ?_
  repeat (refine ev_s rfl (?_ : Ev _ _ _ _ _ _))
  refine ev_cv rfl (as := [.ref 0]) rfl rfl (Nat.le_of_ble_eq_true rfl) ?_
  refine k_blanks hR (fun M2 hR2 s12 => ?_)
  have hs2 : SameM IDXs M1 M2 := s12.sub (by decide)
  unfold rName at hq
  generalize spanE isBl t 0 = q at *
  obtain ⟨k1, k2, k3, k4, k5, k6, k7, k8, k9, k10⟩ := id hR2
  have hb := k3.bt q
  show Ev _ _ _ _ [] _
  repeat (refine ev_s rfl (?_ : Ev _ _ _ _ _ _))
  rw [k4]
  refine ev_cv rfl (as := [.ref 0, .int (nI q)]) rfl rfl (Nat.le_of_ble_eq_true rfl) ?_
  refine k_byteAt k3 (by omega) ?_
  show Ev _ _ _ _ [.int (nI (bt t q))] _
  refine ev_cs rfl (by decide) (by decide) (as := [.int (nI (bt t q))]) rfl rfl (Nat.le_of_ble_eq_true rfl) ?_
  refine k_isCapital hb ?_
  cases hl : isLt (bt t q) with
  | false =>
    have hP : ∀ M', YM M' ([], pa, nm, fns, H, n, lim, nI q, tk, mo) → M'.1 0 0 = 0 → Q (some (some (.int (nI 1)))) M' := by
      by_cases hqt : q < t.length
      · have e : t[q]? = some t[q] := List.getElem?_eq_getElem hqt
        rw [bt_at e] at hl
        rw [e] at hq
        dsimp only at hq
        rw [hl] at hq
        exact hq
      · rw [List.getElem?_eq_none (by omega)] at hq
        exact hq
    show Ev _ _ _ _ [.int 0] _
    refine ev_ifF rfl (show ¬ ¬ (0 : Int32) = 0 by decide) ?_
    repeat (refine ev_s rfl (?_ : Ev _ _ _ _ _ _))
    rw [k4]
    refine ev_cv rfl (as := [.ref 0, .int 1, .int (nI q)]) rfl rfl (Nat.le_of_ble_eq_true rfl) ?_
    refine k_failsAt ?_
    show Ev _ _ _ _ [.ref 5] _
    exact ev_s rfl (bad _ 1 q n nm H _ rfl (hR2.flt (c := 1) (by decide) (by decide) (by omega)) (hs2.t2 RdM.fs (by decide)) hP)
  | true =>
    have hqt : q < t.length := by
      refine Decidable.byContradiction (fun h9 => ?_)
      rw [bt_end (by omega)] at hl
      exact absurd hl (by decide)
    have e : t[q]? = some t[q] := List.getElem?_eq_getElem hqt
    have hl2 := hl
    rw [bt_at e] at hl2
    rw [e] at hq
    dsimp only at hq
    rw [hl2] at hq
    simp only [if_true] at hq
    show Ev _ _ _ _ [.int 1] _
    refine ev_ifT rfl (show ¬ (1 : Int32) = 0 by decide) ?_
    repeat (refine ev_s rfl (?_ : Ev _ _ _ _ _ _))
    refine ev_cv rfl (as := [.ref 0]) rfl rfl (Nat.le_of_ble_eq_true rfl) ?_
    refine k_symbol hR2 e hl2 (fun k q' nm' M3 eS hR3 b1 b2 s3 => ?_) (fun f M3 eS hX s3 => ?_)
    · rw [eS] at hq
      dsimp only at hq
      have hs3 := hs2.t2 s3 (ids'' := IDXs) (by decide)
      have hpq := rSym_q eS e hl2
      show Ev _ _ _ _ [.long (rS k)] _
      repeat (refine ev_s rfl (?_ : Ev _ _ _ _ _ _))
      refine ev_cs rfl (by decide) (by decide) (as := [.long (rS k)]) rfl rfl (Nat.le_of_ble_eq_true rfl) ?_
      refine k_symbolOf (by omega) ?_
      show Ev _ _ _ _ [.int (nI k)] _
      repeat (refine ev_s rfl (?_ : Ev _ _ _ _ _ _))
      refine ev_ic rfl (fun hc7 => ?_) (fun hc7 => ?_)
      · have h7' : ¬ k ≤ 7 := by have := (nI_ltI (a := 7) (by decide) (by omega)).mp hc7; omega
        rw [if_neg h7'] at hq
        dsimp only at hq
        repeat (refine ev_s rfl (?_ : Ev _ _ _ _ _ _))
        refine ev_cv rfl (as := [.ref 0]) rfl rfl (Nat.le_of_ble_eq_true rfl) ?_
        have hlt3 : t.length - q' ≤ 2000 := by omega
        refine k_whole hR3 rfl hlt3 (fun M4 U4 ψ4 v a nm4 H4 n4 eW hC4 hS4 rv4 e28 s4 => ?_) (fun M4 c p nm4 H4 n4 eW hX4 s4 => ?_)
        · rw [eW] at hq
          dsimp only at hq
          have hs4 := hs3.t2 s4 (ids'' := IDXs) (by decide)
          have s04 := s1.t2 hs4 (ids'' := [100, 120, 121, 122, 123, 129, 130, 131, 132, 134, 141] ++ IDXs) (by decide)
          have hFn := hC4.2.2.2.2.2.1
          have hkn : k < 300 := by omega
          have hkl : k < fns.length := by rw [hFn.1]; exact hkn
          have ek : fns[k]? = some fns[k] := List.getElem?_eq_getElem hkl
          have hnm4 : k < nm4.length := Nat.lt_of_lt_of_le b1 (rAll_nm _ _ _ _ _ _ _ _ _ _ _ _ eW)
          show Ev _ _ _ _ [.long v] _
          repeat (refine ev_s rfl (?_ : Ev _ _ _ _ _ _))
          refine ev_zald rfl rfl (vp_in_nI hkn (by decide)) ?_
          rw [nI_clamp (by omega)]
          have e6 : M4.1 0 6 = nI (fns.filter Option.isSome).length := (s04.2 6 (by decide)).1.trans h9
          -- the end
          have fin : ∀ y : Nat, (fns.filter Option.isSome).length + y = ((fns.set k (some a)).filter Option.isSome).length → Ev (BM (d + 9) qX10_define) Q 95 [some (.ref 0), some (.int (nI N)), some (.int (nI q)), some (.long (rS k)), none, some (.int (nI k)), some (.long v), none] [.int (nI y), .int (M4.1 0 6), .ref 0] M4 := fun y hy => by
            repeat (refine ev_s rfl (?_ : Ev _ _ _ _ _ _))
            rw [e6, nI_add, hy]
            refine ev_zast rfl rfl (vp_in_nI hkn (by decide)) ?_
            rw [nI_clamp (by omega), show vp_nar .boolean 1 = 1 by decide]
            repeat (refine ev_s rfl (?_ : Ev _ _ _ _ _ _))
            refine ev_last rfl rfl (vp_in_nI hkn (by decide)) ?_
            rw [nI_clamp (by omega)]
            repeat (refine ev_s rfl (?_ : Ev _ _ _ _ _ _))
            generalize hM5 : mJ (mI (mI M4 0 6 (nI ((fns.set k (some a)).filter Option.isSome).length)) 3 k 1) 4 k v = M5
            have s5 : SameM [3, 4, 106] M4 M5 := by
              rw [← hM5]
              exact (((SameM.I0 (j := 6)).tr (SameM.Ik (k := 3) (by decide))).tr (SameM.Jk (k := 4) (by decide))).sub (by decide)
            have f6 : M5.1 0 6 = nI ((fns.set k (some a)).filter Option.isSome).length := by rw [← hM5, mJ_1, mI_ne (Or.inl (by decide)), mI_at]
            have hFn5 : FnM M5 U4 ψ4 nm4.length (fns.set k (some a)) := by
              refine ⟨by rw [List.length_set]; exact hFn.1, fun j b hj => ?_, fun j hj => ?_⟩
              · by_cases hjk : j = k
                · subst hjk
                  rw [List.getElem?_set_self (by exact hkl)] at hj
                  cases hj
                  rw [← hM5]
                  refine ⟨?_, ?_, hnm4⟩
                  · rw [mJ_1, mI_at]
                  · rw [mJ_at]; exact rv4
                · rw [List.getElem?_set_ne (by omega)] at hj
                  obtain ⟨x1, x2, x3⟩ := hFn.2.1 j b hj
                  rw [← hM5]
                  refine ⟨?_, ?_, x3⟩
                  · rw [mJ_1, mI_ne (Or.inr hjk), mI_ne (Or.inl (by decide))]; exact x1
                  · rw [mJ_ne (Or.inr hjk)]; exact x2
              · by_cases hjk : j = k
                · subst hjk
                  rw [List.getElem?_set_self (by exact hkl)] at hj
                  cases hj
                · rw [List.getElem?_set_ne (by omega)] at hj
                  rw [← hM5, mJ_1, mI_ne (Or.inr hjk), mI_ne (Or.inl (by decide))]
                  exact hFn.2.2 j hj
            obtain ⟨c1, c2, c3, c4, c5, c6, c7, c8, c9, c10, c11, c12⟩ := hC4
            have s05 := s04.t2 s5 (ids'' := 3 :: 4 :: 106 :: ([100, 120, 121, 122, 123, 129, 130, 131, 132, 134, 141] ++ IDXs)) (by decide)
            have s15 := hs4.t2 s5 (ids'' := 3 :: 4 :: 106 :: IDXs) (by decide)
            refine ev_reti rfl rfl trivial rfl (hq M5 ⟨⟨U4, ψ4, c1.same s5 (by decide), c2, by rw [(s5.2 29 (by decide)).2]; exact c3, by rw [(s5.2 30 (by decide)).2]; exact c4, by rw [(s5.2 31 (by decide)).2]; exact c5, hFn5, c7.kept (RA := fun _ => True) (H := H4) KeptM.rf (fun _ _ => trivial) s5 (by decide) (by decide) (by decide), c8.kept (RA := fun _ => True) (H := H4) KeptM.rf (fun _ _ => trivial) s5 (by decide) (by decide) (by decide), c9.kept (RA := fun _ => True) (H := H4) KeptM.rf (fun _ _ => trivial) s5 (by decide), (s5.2 5 (by decide)).1.trans c10, c11, c12⟩, hS4.same s5 (by decide) (by decide), ⟨(s15.2 20 (by decide)).1.trans a20, by decide, fun i c hi => by simp at hi⟩, h4.same s05 (by decide) (by decide) (by decide), (s5.2 28 (by decide)).1.trans e28, (s15.2 23 (by decide)).1.trans a23, (s05.2 44 (by decide)).1.trans h7, (s05.2 42 (by decide)).1.trans h8, f6⟩ ((s15.2 0 (by decide)).1.trans a0))
          have hps := pres_set (a := a) fns k hkl
          cases hf : fns[k] with
          | none =>
            rw [hf] at ek
            rw [ek] at hps
            rw [hFn.2.2 k ek]
            refine ev_ifT rfl (show (0 : Int32) = 0 from rfl) ?_
            iterate 1 (refine ev_s rfl (?_ : Ev _ _ _ _ _ _))
            exact fin 1 hps.symm
          | some b =>
            rw [hf] at ek
            rw [ek] at hps
            rw [(hFn.2.1 k b ek).1]
            refine ev_ifF rfl (show ¬ (1 : Int32) = 0 by decide) ?_
            iterate 2 (refine ev_s rfl (?_ : Ev _ _ _ _ _ _))
            exact fin 0 hps.symm
        · rw [eW] at hq
          exact bad M4 c p n4 nm4 H4 _ rfl hX4 (hs3.t2 s4 (by decide)) hq
      · have h7' : k ≤ 7 := by
          have : ¬ 7 < k := fun h9 => hc7 (nI_lt (a := 7) h9 (by omega))
          omega
        rw [if_pos h7'] at hq
        have enm := rSym_old eS h7' k1.2.2.2.2.2.2.2.2.2.2.1
        subst enm
        repeat (refine ev_s rfl (?_ : Ev _ _ _ _ _ _))
        refine ev_cv rfl (as := [.ref 0, .int 1, .int (nI q)]) rfl rfl (Nat.le_of_ble_eq_true rfl) ?_
        refine k_failsAt ?_
        show Ev _ _ _ _ [.ref 5] _
        exact ev_s rfl (bad _ 1 q n nm' H _ rfl (hR3.flt (c := 1) (by decide) (by decide) (by omega)) (hs3.t2 RdM.fs (by decide)) hq)
    · rw [eS] at hq
      exact bad M3 f q n nm H _ rfl hX (hs2.t2 s3 (by decide)) hq
theorem q_echo {d N : Nat} (h : YM M (tp, pa, nm, fns, H, n, lim, pl, tk, mo)) (hN : N ≤ tp.length) {Q : Option (Option Value) → PM → Prop} (hq : ∀ M', YM M' (yEcho (tp, pa, nm, fns, H, n, lim, pl, tk, mo) N).2 → M'.1 0 0 = 0 → Q (some (some (.int (yEcho (tp, pa, nm, fns, H, n, lim, pl, tk, mo) N).1))) M') : SM (d + 10) 159 [.ref 0, .int (nI N)] M Q := by
  refine ⟨qX10_echo, rfl, ⟨Nat.le_of_ble_eq_true rfl, rfl, 0, _, _, rfl, rfl⟩, ?_⟩
  show Ev (BM (d + 9) qX10_echo) Q 0 [some (.ref 0), some (.int (nI N)), none, none] [] M
  have h0 := h
  obtain ⟨⟨U0, ψ0, hC0⟩, h2, h3, h4, h5, h6, h7, h8, h9⟩ := h
  have h2000 := h3.2.1
  have elt : (tp.take N).length = N := by rw [List.length_take]; omega
  unfold yEcho at hq
  dsimp only at hq
  repeat (refine ev_s rfl (?_ : Ev _ _ _ _ _ _))
  refine ev_cv rfl (as := [.ref 0, .int (nI N), .int (if false then 1 else 0)]) rfl rfl (Nat.le_of_ble_eq_true rfl) ?_
  refine k_begins h0 hN (fun M1 U ψ hR a0 a20 a23 s1 => ?_)
  show Ev _ _ _ _ [.int 1] _
  refine ev_ifT rfl (show ¬ (1 : Int32) = 0 by decide) ?_
  repeat (refine ev_s rfl (?_ : Ev _ _ _ _ _ _))
  refine ev_cv rfl (as := [.ref 0]) rfl rfl (Nat.le_of_ble_eq_true rfl) ?_
  refine k_whole (m := 2000) hR rfl (by omega) (fun M4 U4 ψ4 v a nm4 H4 n4 eW hC4 hS4 rv4 e28 s4 => ?_) (fun M4 c p nm4 H4 n4 eW hX4 s4 => ?_)
  · rw [eW] at hq
    dsimp only at hq
    have s5 : SameM [146] M4 (mI M4 0 46 0) := SameM.I0 (j := 46)
    show Ev _ _ _ _ [.long v] _
    repeat (refine ev_s rfl (?_ : Ev _ _ _ _ _ _))
    refine ev_cv rfl (as := [.ref 0, .long v]) rfl rfl (Nat.le_of_ble_eq_true rfl) ?_
    refine k_prints (hC4.same s5 (by decide)) (hS4.same s5 (by decide) (by decide)) ⟨mI_at, by decide, fun i c hi => by simp at hi⟩ rv4 (fun M6 g1 g2 => ?_)
    have s46 := s5.t2 g2 (ids'' := [21, 22, 146]) (by decide)
    have s16 := s4.t2 s46 (ids'' := 21 :: 22 :: 146 :: IDXs) (by decide)
    have s06 := s1.t2 s16 (ids'' := 21 :: 22 :: 146 :: ([100, 120, 121, 122, 123, 129, 130, 131, 132, 134, 141] ++ IDXs)) (by decide)
    show Ev _ _ _ _ [] _
    repeat (refine ev_s rfl (?_ : Ev _ _ _ _ _ _))
    exact ev_reti rfl rfl trivial rfl (hq M6 ⟨⟨U4, ψ4, hC4.same s46 (by decide)⟩, hS4.same s46 (by decide) (by decide), ⟨(s16.2 20 (by decide)).1.trans a20, by decide, fun i c hi => by simp at hi⟩, g1, (s46.2 28 (by decide)).1.trans e28, (s16.2 23 (by decide)).1.trans a23, (s06.2 44 (by decide)).1.trans h7, (s06.2 42 (by decide)).1.trans h8, (s06.2 6 (by decide)).1.trans h9⟩ ((s16.2 0 (by decide)).1.trans a0))
  · rw [eW] at hq
    dsimp only at hq
    show Ev _ _ 29 _ [] _
    repeat (refine ev_s rfl (?_ : Ev _ _ _ _ _ _))
    refine ev_cv rfl (as := [.ref 0, .int (if false then 1 else 0)]) rfl rfl (Nat.le_of_ble_eq_true rfl) ?_
    refine k_failed (b := false) hX4.dx (fun M3 e1 e2 e3 e4 s23 => ?_)
    have s13 := s4.t2 s23 (ids'' := 146 :: (IDX ++ IDN)) (by decide)
    have s03 := s1.t2 s13 (ids'' := [100, 120, 121, 122, 123, 129, 130, 131, 132, 134, 141] ++ (146 :: (IDX ++ IDN))) (by decide)
    rw [hX4.2.2.2.2.2.2.1]
    show Ev _ _ _ _ [.int (nI c)] _
    exact ev_reti rfl rfl trivial rfl (hq M3 ⟨e1, e2, ⟨(s13.2 20 (by decide)).1.trans a20, by decide, fun i c hi => by simp at hi⟩, ⟨e4, by decide, fun i c hi => by simp at hi⟩, e3, (s23.2 23 (by decide)).1.trans hX4.2.2.2.2.2.2.2.1, (s03.2 44 (by decide)).1.trans h7, (s03.2 42 (by decide)).1.trans h8, (s03.2 6 (by decide)).1.trans h9⟩ ((s13.2 0 (by decide)).1.trans a0))
theorem q_eval {d N fuel : Nat} (h : YM M (tp, pa, nm, fns, H, n, lim, pl, tk, mo)) (hN : N ≤ tp.length) (hfu : fuel ≤ 20000) {Q : Option (Option Value) → PM → Prop} (hq : ∀ M', YM M' (yEval (tp, pa, nm, fns, H, n, lim, pl, tk, mo) N fuel).2 → M'.1 0 0 = 0 → Q (some (some (.int (yEval (tp, pa, nm, fns, H, n, lim, pl, tk, mo) N fuel).1))) M') : SM (d + 10) 160 [.ref 0, .int (nI N), .int (nI fuel)] M Q := by
  refine ⟨qX10_eval, rfl, ⟨Nat.le_of_ble_eq_true rfl, rfl, 0, _, _, rfl, rfl⟩, ?_⟩
  show Ev (BM (d + 9) qX10_eval) Q 0 [some (.ref 0), some (.int (nI N)), some (.int (nI fuel)), none] [] M
  have h0 := h
  obtain ⟨⟨U0, ψ0, hC0⟩, h2, h3, h4, h5, h6, h7, h8, h9⟩ := h
  have h2000 := h3.2.1
  have elt : (tp.take N).length = N := by rw [List.length_take]; omega
  unfold yEval at hq
  dsimp only at hq
  repeat (refine ev_s rfl (?_ : Ev _ _ _ _ _ _))
  refine ev_ifF rfl (show ¬ nI fuel < 0 from Int32.not_lt.mpr (nI_pos' (by omega))) ?_
  repeat (refine ev_s rfl (?_ : Ev _ _ _ _ _ _))
  refine ev_icT rfl (show nI fuel ≤ 20000 from nI_le (b := 20000) hfu (by decide)) ?_
  repeat (refine ev_s rfl (?_ : Ev _ _ _ _ _ _))
  refine ev_cv rfl (as := [.ref 0, .int (nI N), .int (if false then 1 else 0)]) rfl rfl (Nat.le_of_ble_eq_true rfl) ?_
  refine k_begins h0 hN (fun M1 U ψ hR a0 a20 a23 s1 => ?_)
  show Ev _ _ _ _ [.int 1] _
  refine ev_ifT rfl (show ¬ (1 : Int32) = 0 by decide) ?_
  repeat (refine ev_s rfl (?_ : Ev _ _ _ _ _ _))
  generalize hM2 : mI (mI (mI M1 0 44 0) 0 42 0) 0 43 (nI fuel) = M2
  have s12 : SameM [142, 143, 144] M1 M2 := by
    rw [← hM2]
    exact (((SameM.I0 (j := 44)).tr (SameM.I0 (j := 42))).tr (SameM.I0 (j := 43))).sub (by decide)
  have f44 : M2.1 0 44 = 0 := by rw [← hM2, mI_ne (Or.inr (by decide)), mI_ne (Or.inr (by decide)), mI_at]
  have f42 : M2.1 0 42 = 0 := by rw [← hM2, mI_ne (Or.inr (by decide)), mI_at]
  have f43 : M2.1 0 43 = nI fuel := by rw [← hM2, mI_at]
  have hR2 : RdM (tp.take N) lim fns M2 U ψ H n 0 [] [] nm := hR.core s12 (by decide) (hR.1.same s12 (by decide)) trivial (by decide)
  have s02 := s1.t2 s12 (ids'' := [100, 120, 121, 122, 123, 129, 130, 131, 132, 134, 141, 142, 143, 144]) (by decide)
  -- behind a fault
  have bad : ∀ (M3 : PM) (c n3 : Nat) (nm3 : List (List Nat)) (H3 : AHp) (tk3 mo3 : Nat) (p3 : Int32) (L : List (Option Value)), L[0]? = some (some (.ref 0)) → DX lim fns M3 nm3 H3 n3 → M3.1 0 8 = nI c → M3.1 0 23 = p3 → M3.1 0 44 = nI tk3 → M3.1 0 42 = nI mo3 → M3.1 0 20 = 0 → M3.1 0 0 = 0 → M3.1 0 6 = nI (fns.filter Option.isSome).length → (∀ M', YM M' ([], [], nm3, fns, H3, n3, lim, p3, tk3, mo3) → M'.1 0 0 = 0 → Q (some (some (.int (nI c)))) M') → Ev (BM (d + 9) qX10_eval) Q 131 L [] M3 := by
    intro M3 c n3 nm3 H3 tk3 mo3 p3 L hL hX e8 e23 e44 e42 e20 e0 e6 hq
    refine ev_s rfl (?_ : p_ld _ _ _)
    unfold p_ld
    rw [hL]
    show Ev _ _ _ _ [.ref 0] _
    repeat (refine ev_s rfl (?_ : Ev _ _ _ _ _ _))
    refine ev_cv rfl (as := [.ref 0, .int (if false then 1 else 0)]) rfl rfl (Nat.le_of_ble_eq_true rfl) ?_
    refine k_failed (b := false) hX (fun M4 e1 e2 e3 e4 s34 => ?_)
    rw [e8]
    show Ev _ _ _ _ [.int (nI c)] _
    exact ev_reti rfl rfl trivial rfl (hq M4 ⟨e1, e2, ⟨(s34.2 20 (by decide)).1.trans e20, by decide, fun i c hi => by simp at hi⟩, ⟨e4, by decide, fun i c hi => by simp at hi⟩, e3, (s34.2 23 (by decide)).1.trans e23, (s34.2 44 (by decide)).1.trans e44, (s34.2 42 (by decide)).1.trans e42, (s34.2 6 (by decide)).1.trans e6⟩ ((s34.2 0 (by decide)).1.trans e0))
  refine ev_cv rfl (as := [.ref 0]) rfl rfl (Nat.le_of_ble_eq_true rfl) ?_
  refine k_whole (m := 2000) hR2 rfl (by omega) (fun M4 U4 ψ4 v a nm4 H4 n4 eW hC4 hS4 rv4 e28 s4 => ?_) (fun M4 c p nm4 H4 n4 eW hX4 s4 => ?_)
  · rw [eW] at hq
    dsimp only at hq
    have s04 := s02.t2 s4 (ids'' := [100, 120, 121, 122, 123, 129, 130, 131, 132, 134, 141, 142, 143, 144] ++ IDXs) (by decide)
    have b0 : M4.1 0 0 = 0 := (s4.2 0 (by decide)).1.trans ((s12.2 0 (by decide)).1.trans a0)
    have b20 : M4.1 0 20 = 0 := (s4.2 20 (by decide)).1.trans ((s12.2 20 (by decide)).1.trans a20)
    have b23 : M4.1 0 23 = -1 := (s4.2 23 (by decide)).1.trans ((s12.2 23 (by decide)).1.trans a23)
    have b6 : M4.1 0 6 = nI (fns.filter Option.isSome).length := (s04.2 6 (by decide)).1.trans h9
    have hL0 : LiveM fuel lim nm4.length fns (mJ M4 0 29 v) U4 ψ4 a (aS 0) (aS 0) [] [] fuel 0 H4 n4 := by
      have s5 : SameM [129] M4 (mJ M4 0 29 v) := SameM.J0 (j := 29)
      refine ⟨hC4.setX rv4, (s5.2 43 (by decide)).1.trans ((s4.2 43 (by decide)).1.trans f43), ?_, Nat.le_refl _, hfu, ?_, by decide⟩
      · rw [Nat.sub_self]; exact (s5.2 44 (by decide)).1.trans ((s4.2 44 (by decide)).1.trans f44)
      · exact (s5.2 42 (by decide)).1.trans ((s4.2 42 (by decide)).1.trans f42)
    -- the run
    have loop : ∀ (m md : Nat) (x e f w : AV) (vs : List AV) (frs : List AF) (fl mo1 : Nat) (H1 : AHp) (n1 : Nat) (M5 : PM) (U5 : Nat → Bool) (ψ5 : Nat → Nat), fl < m → 1 ≤ md → md ≤ 3 → (md ≠ 3 → f = aS 0 ∧ vs = []) → LiveM fuel lim nm4.length fns M5 U5 ψ5 x e f vs frs fl mo1 H1 n1 → (md = 2 → RTv U5 ψ5 nm4.length (M5.2 0 32) w) → SameM IDK M4 M5 → (∀ c fl' mo' H' n' v', aRun lim fns m (md, x, e, f, w, vs, frs, fl, mo1, H1, n1) = ((c, fl', mo', H', n'), v') → ∀ M', YM M' ([], if c = 0 then pg (pTxt nm4 H' 2000 v' []) else [], nm4, fns, H', n', lim, -1, fuel - fl', mo') → M'.1 0 0 = 0 → Q (some (some (.int (nI c)))) M') → Ev (BM (d + 9) qX10_eval) Q 51 [some (.ref 0), some (.int (nI N)), some (.int (nI fuel)), some (.int (nI (mdc md)))] [] M5 := by
      intro m
      induction m with
      | zero => intro md x e f w vs frs fl mo1 H1 n1 M5 U5 ψ5 h9; omega
      | succ m ih =>
        intro md x e f w vs frs fl mo1 H1 n1 M5 U5 ψ5 hfm h1 h3' hfv hL hw hs hr
        have hmd : mdc md = md - 1 := by unfold mdc; rw [if_neg (by omega)]
        rw [hmd]
        have c3 : ¬ nI (md - 1) = 3 := fun h9 => by have := (nI_eq (b := 3) (by omega) (by decide)).mp h9; omega
        have c0 : (nI (md - 1) = 0) ↔ md = 1 := (nI_eq (b := 0) (by omega) (by decide)).trans (by omega)
        have c1 : (nI (md - 1) = 1) ↔ md = 2 := (nI_eq (b := 1) (by omega) (by decide)).trans (by omega)
        -- a fault of the machine
        have dead : ∀ (M6 : PM) (c fl6 mo6 : Nat) (H6 : AHp) (n6 : Nat) (L : List (Option Value)), L[0]? = some (some (.ref 0)) → DeadM fuel lim nm4.length fns M6 c fl6 mo6 H6 n6 → SameM IDK M4 M6 → aRun lim fns (m + 1) (md, x, e, f, w, vs, frs, fl, mo1, H1, n1) = ((c, fl6, mo6, H6, n6), aS 0) → Ev (BM (d + 9) qX10_eval) Q 131 L [] M6 := by
          intro M6 c fl6 mo6 H6 n6 L hL0 hD hs6 hrun
          obtain ⟨d1, d2, d3, d4, d5, d6, d7, d8, d9, d10, d11, d12⟩ := hD
          refine bad M6 c n6 nm4 H6 (fuel - fl6) mo6 (-1) L hL0 ⟨d1, d2, d3, d4, d5, hS4.same hs6 (by decide) (by decide)⟩ d6 ((hs6.2 23 (by decide)).1.trans b23) d9 d11 ((hs6.2 20 (by decide)).1.trans b20) ((hs6.2 0 (by decide)).1.trans b0) ((hs6.2 6 (by decide)).1.trans b6) ?_
          have := hr c fl6 mo6 H6 n6 (aS 0) hrun
          rw [if_neg (by omega)] at this
          exact this
        repeat (refine ev_s rfl (?_ : Ev _ _ _ _ _ _))
        refine ev_icF rfl c3 ?_
        repeat (refine ev_s rfl (?_ : Ev _ _ _ _ _ _))
        refine ev_cv rfl (as := [.ref 0]) rfl rfl (Nat.le_of_ble_eq_true rfl) ?_
        refine k_burn hL.2.1 hL.2.2.1 hL.2.2.2.1 hfu (fun h0' => ?_) (fun k hk => ?_)
        · subst h0'
          have hD := hL.f8 (c := 7) (M0 := M5) SameM.rf (by decide) (by decide)
          exact dead _ 7 0 mo1 H1 n1 _ rfl hD.2.2 (hs.t2 hD.1 (by decide)) rfl
        · subst hk
          have s6 : SameM [144] M5 (mI M5 0 44 (nI (fuel - k))) := SameM.I0 (j := 44)
          have hL2 : LiveM fuel lim nm4.length fns (mI M5 0 44 (nI (fuel - k))) U5 ψ5 x e f vs frs k mo1 H1 n1 := ⟨hL.1.same s6 (by decide), (s6.2 43 (by decide)).1.trans hL.2.1, mI_at, by have := hL.2.2.2.1; omega, hfu, (s6.2 42 (by decide)).1.trans hL.2.2.2.2.2.1, hL.2.2.2.2.2.2⟩
          have hw2 : md = 2 → RTv U5 ψ5 nm4.length ((mI M5 0 44 (nI (fuel - k))).2 0 32) w := hw
          have hs2 : SameM IDK M4 (mI M5 0 44 (nI (fuel - k))) := hs.t2 s6 (by decide)
          generalize mI M5 0 44 (nI (fuel - k)) = M6 at hL2 hw2 hs2
          have hr2 : aRun lim fns (m + 1) (md, x, e, f, w, vs, frs, k + 1, mo1, H1, n1) = (match aStep lim fns (md, x, e, f, w, vs, frs, k, mo1, H1, n1) with
            | .inr F => (F, aS 0)
            | .inl (0, _, _, _, v', _, _, fl', mo', H', n') => ((0, fl', mo', H', n'), v')
            | .inl s => aRun lim fns m s) := rfl
          have hg : Good k (aStep lim fns (md, x, e, f, w, vs, frs, k, mo1, H1, n1)) := Good.step
          -- behind the step
          have post : ∀ (o : Option (Option Value)) (M7 : PM), PostMM fuel lim nm4.length fns M6 (aStep lim fns (md, x, e, f, w, vs, frs, k, mo1, H1, n1)) o M7 → (o = none → Ev (BM (d + 9) qX10_eval) Q 131 [some (.ref 0), some (.int (nI N)), some (.int (nI fuel)), none] [] M7) ∧ (∀ y, o = some (some (.int y)) → Ev (BM (d + 9) qX10_eval) Q 87 [some (.ref 0), some (.int (nI N)), some (.int (nI fuel)), some (.int (nI (md - 1)))] [.int y] M7) := by
            intro o M7 hp
            cases hst : aStep lim fns (md, x, e, f, w, vs, frs, k, mo1, H1, n1) with
            | inr F =>
              obtain ⟨c, fl', mo', H', n'⟩ := F
              rw [hst] at hp hr2
              obtain ⟨hsm, ho, hD⟩ := hp
              subst ho
              exact ⟨fun _ => dead M7 c fl' mo' H' n' _ rfl hD (hs2.t2 hsm (by decide)) hr2, fun y h9 => by cases h9⟩
            | inl s' =>
              obtain ⟨md', x', e', f', v', vs', frs', fl', mo', H', n'⟩ := s'
              rw [hst] at hp hr2 hg
              obtain ⟨hsm, ho, U7, ψ7, f7, vs7, hL7, hv7, hm7⟩ := hp
              obtain ⟨q1, q2, q3⟩ : md' ≤ 3 ∧ (md' ≠ 3 → f' = aS 0 ∧ vs' = []) ∧ fl' ≤ k := hg
              subst ho
              refine ⟨fun h9 => (by cases h9), fun y h9 => ?_⟩
              cases h9
              have hs7 := hs2.t2 hsm (ids'' := IDK) (by decide)
              have d3 : mdc md' ≤ 3 := by unfold mdc; split <;> omega
              have d2 : (nI (mdc md') = 2) ↔ md' = 3 := (nI_eq (b := 2) (by omega) (by decide)).trans (by unfold mdc; split <;> omega)
              repeat (refine ev_s rfl (?_ : Ev _ _ _ _ _ _))
              refine ev_ic rfl (fun hc2 => ?_) (fun hc2 => ?_)
              · have n3 : ¬ md' = 3 := fun h9 => hc2 (d2.mpr h9)
                obtain ⟨ef, ev⟩ := q2 n3
                subst ef ev
                iterate 7 (refine ev_s rfl (?_ : Ev _ _ _ _ _ _))
                have hns4 : 0 < nm4.length := by have := hL7.1.2.2.2.2.2.2.2.2.2.2.1; omega
                have s8 : SameM [131, 134] M7 (mJ (mI M7 0 34 0) 0 31 (-1)) := (SameM.I0 (j := 34)).t2 (SameM.J0 (j := 31)) (by decide)
                have hL8 : LiveM fuel lim nm4.length fns (mJ (mI M7 0 34 0) 0 31 (-1)) U7 ψ7 x' e' (aS 0) [] frs' fl' mo' H' n' := hL7.core s8 (by decide) (hL7.1.noV.setF (RTv.nil hns4))
                have hs8 := hs7.t2 s8 (ids'' := IDK) (by decide)
                have hv8 : md' = 2 ∨ md' = 0 → RTv U7 ψ7 nm4.length ((mJ (mI M7 0 34 0) 0 31 (-1)).2 0 32) v' := fun h9 => by rw [(s8.2 32 (by decide)).2]; exact hv7 h9
                generalize mJ (mI M7 0 34 0) 0 31 (-1) = M8 at hL8 hs8 hv8
                cases md' with
                | zero =>
                  -- done
                  repeat (refine ev_s rfl (?_ : Ev _ _ _ _ _ _))
                  refine ev_icT rfl (show nI (mdc 0) = 3 from rfl) ?_
                  repeat (refine ev_s rfl (?_ : Ev _ _ _ _ _ _))
                  have s9 : SameM [146] M8 (mI M8 0 46 0) := SameM.I0 (j := 46)
                  rw [mI_2]
                  refine ev_cv rfl (as := [.ref 0, .long (M8.2 0 32)]) rfl rfl (Nat.le_of_ble_eq_true rfl) ?_
                  refine k_prints (hL8.1.same s9 (by decide)) ((hS4.same hs8 (by decide) (by decide)).same s9 (by decide) (by decide)) ⟨mI_at, by decide, fun i c hi => by simp at hi⟩ (hv8 (Or.inr rfl)) (fun M9 g1 g2 => ?_)
                  have s89 := s9.t2 g2 (ids'' := [21, 22, 146]) (by decide)
                  show Ev _ _ _ _ [] _
                  repeat (refine ev_s rfl (?_ : Ev _ _ _ _ _ _))
                  refine ev_cv rfl (as := [.ref 0]) rfl rfl (Nat.le_of_ble_eq_true rfl) ?_
                  refine k_nothing (fun M10 s10 e29 e30 e31 e34 e41 => ?_)
                  have s810 := s89.t2 s10 (ids'' := 21 :: 22 :: 146 :: IDN) (by decide)
                  have s410 := hs8.t2 s810 (ids'' := 21 :: 22 :: 146 :: (IDN ++ IDK)) (by decide)
                  obtain ⟨x1, x2, x3, x4, x5, x6, x7, x8, x9, x10, x11, x12⟩ := hL8.1
                  show Ev _ _ _ _ [] _
                  repeat (refine ev_s rfl (?_ : Ev _ _ _ _ _ _))
                  refine ev_reti rfl rfl trivial rfl (hr 0 fl' mo' H' n' v' hr2 M10 ⟨⟨U7, ψ7, CoreM.mk0 (x1.same s810 (by decide)) x2 (x6.kept (RA := fun _ => True) (H := H') KeptM.rf (fun _ _ => trivial) s810 (by decide) (by decide)) ((s810.2 5 (by decide)).1.trans x10) x11 x12 e29 e30 e31 e34 e41 ((s810.2 25 (by decide)).1.trans x7.1)⟩, (hS4.same hs8 (by decide) (by decide)).same s810 (by decide) (by decide), ⟨(s410.2 20 (by decide)).1.trans b20, by decide, fun i c hi => by simp at hi⟩, g1.same s10 (by decide) (by decide) (by decide), (s410.2 28 (by decide)).1.trans e28, (s410.2 23 (by decide)).1.trans b23, (s810.2 44 (by decide)).1.trans hL8.2.2.1, (s810.2 42 (by decide)).1.trans hL8.2.2.2.2.2.1, (s410.2 6 (by decide)).1.trans b6⟩ ((s410.2 0 (by decide)).1.trans b0))
                | succ md'' =>
                  refine ih (md'' + 1) x' e' (aS 0) v' [] frs' fl' mo' H' n' M8 U7 ψ7 (by omega) (by omega) q1 (fun _ => ⟨rfl, rfl⟩) hL8 (fun h9 => hv8 (Or.inl h9)) hs8 (fun c fl9 mo9 H9 n9 v9 hrun => hr c fl9 mo9 H9 n9 v9 (hr2.trans hrun))
              · have y3 : md' = 3 := d2.mp (Decidable.not_not.mp hc2)
                subst y3
                obtain ⟨ef, ev⟩ := hm7 rfl
                subst ef ev
                iterate 1 (refine ev_s rfl (?_ : Ev _ _ _ _ _ _))
                refine ih 3 x' e' f7 v' vs7 frs' fl' mo' H' n' M7 U7 ψ7 (by omega) (by decide) (by decide) (fun h9 => (h9 rfl).elim) hL7 (fun h9 => by cases h9) hs7 (fun c fl9 mo9 H9 n9 v9 hrun => hr c fl9 mo9 H9 n9 v9 (hr2.trans hrun))
          have isI : ∀ (r : MR) (o : Option Value) (M' : PM), PostMM fuel lim nm4.length fns M6 r (some o) M' → ∃ y : Int32, o = some (.int y) := by
            intro r o M' g
            obtain ⟨_, g3⟩ := g
            revert g3
            split
            · rintro ⟨g4, _⟩; exact ⟨_, Option.some.inj g4⟩
            · rintro ⟨g4, _⟩; cases g4
          show Ev _ _ _ _ [] _
          repeat (refine ev_s rfl (?_ : Ev _ _ _ _ _ _))
          refine ev_if rfl (fun hc0 => ?_) (fun hc0 => ?_)
          · have nm1 : ¬ md = 1 := fun h9 => hc0 (c0.mpr h9)
            repeat (refine ev_s rfl (?_ : Ev _ _ _ _ _ _))
            refine ev_ic rfl (fun hc1 => ?_) (fun hc1 => ?_)
            · have nm2 : ¬ md = 2 := fun h9 => hc1 (c1.mpr h9)
              have e9 : aStep lim fns (md, x, e, f, w, vs, frs, k, mo1, H1, n1) = aApply lim fns x e f vs frs k mo1 H1 n1 := by
                unfold aStep
                dsimp only
                rw [if_neg nm1, if_neg nm2]
              rw [e9] at post
              repeat (refine ev_s rfl (?_ : Ev _ _ _ _ _ _))
              refine ev_cv rfl (as := [.ref 0]) rfl rfl (Nat.le_of_ble_eq_true rfl) ?_
              refine k_applies (d := d + 1) hL2 (fun o M7 g => ?_)
              cases o with
              | none => exact (post none M7 g).1 rfl
              | some o =>
                obtain ⟨y, rfl⟩ := isI _ _ _ g
                show Ev _ _ _ _ [.int y] _
                exact (post _ M7 g).2 y rfl
            · have y2 : md = 2 := c1.mp (Decidable.not_not.mp hc1)
              have e9 : aStep lim fns (md, x, e, f, w, vs, frs, k, mo1, H1, n1) = aTake x e w frs k mo1 H1 n1 := by
                unfold aStep
                dsimp only
                rw [if_neg nm1, if_pos y2]
              rw [e9] at post
              obtain ⟨ef, ev⟩ := hfv (by omega)
              subst ef ev
              repeat (refine ev_s rfl (?_ : Ev _ _ _ _ _ _))
              refine ev_cv rfl (as := [.ref 0]) rfl rfl (Nat.le_of_ble_eq_true rfl) ?_
              refine k_returns (d := d + 5) hL2 (hw2 y2) (fun o M7 g => ?_)
              cases o with
              | none => exact (post none M7 g).1 rfl
              | some o =>
                obtain ⟨y, rfl⟩ := isI _ _ _ g
                show Ev _ _ _ _ [.int y] _
                iterate 1 (refine ev_s rfl (?_ : Ev _ _ _ _ _ _))
                exact (post _ M7 g).2 y rfl
          · have y1 : md = 1 := c0.mp (Decidable.not_not.mp hc0)
            have e9 : aStep lim fns (md, x, e, f, w, vs, frs, k, mo1, H1, n1) = aEval lim fns x e frs k mo1 H1 n1 := by
              unfold aStep
              dsimp only
              rw [if_pos y1]
            rw [e9] at post
            obtain ⟨ef, ev⟩ := hfv (by omega)
            subst ef ev
            repeat (refine ev_s rfl (?_ : Ev _ _ _ _ _ _))
            refine ev_cv rfl (as := [.ref 0]) rfl rfl (Nat.le_of_ble_eq_true rfl) ?_
            refine k_evaluates (d := d + 2) hL2 (fun o M7 g => ?_)
            cases o with
            | none => exact (post none M7 g).1 rfl
            | some o =>
              obtain ⟨y, rfl⟩ := isI _ _ _ g
              show Ev _ _ _ _ [.int y] _
              iterate 1 (refine ev_s rfl (?_ : Ev _ _ _ _ _ _))
              exact (post _ M7 g).2 y rfl
    show Ev _ _ _ _ [.long v, .ref 0] _
    iterate 3 (refine ev_s rfl (?_ : Ev _ _ _ _ _ _))
    have s5 : SameM [129] M4 (mJ M4 0 29 v) := SameM.J0 (j := 29)
    refine loop 20001 1 a (aS 0) (aS 0) (aS 0) [] [] fuel 0 H4 n4 _ U4 ψ4 (by omega) (by decide) (by decide) (fun _ => ⟨rfl, rfl⟩) hL0 (fun h9 => by cases h9) (s5.sub (by decide)) (fun c fl' mo' H' n' v' hrun => ?_)
    rw [hrun] at hq
    exact hq
  · rw [eW] at hq
    dsimp only at hq
    have s04 := s02.t2 s4 (ids'' := [100, 120, 121, 122, 123, 129, 130, 131, 132, 134, 141, 142, 143, 144] ++ IDX) (by decide)
    exact bad M4 c n4 nm4 H4 0 0 (nI p) _ rfl hX4.dx hX4.2.2.2.2.2.2.1 hX4.2.2.2.2.2.2.2.1 ((s4.2 44 (by decide)).1.trans f44) ((s4.2 42 (by decide)).1.trans f42) ((s4.2 20 (by decide)).1.trans ((s12.2 20 (by decide)).1.trans a20)) ((s4.2 0 (by decide)).1.trans ((s12.2 0 (by decide)).1.trans a0)) ((s04.2 6 (by decide)).1.trans h9) hq
end KZ

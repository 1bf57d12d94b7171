/-! The machine's small methods. -/
/-- where the frames begin -/
def BasesOk (M : PM) : List AF → Prop
  | [] => True
  | _ :: r => M.1 30 r.length = nI (flatA r).length ∧ BasesOk M r
theorem BasesOk.congr {M M' : PM} : ∀ {frs : List AF}, BasesOk M frs → (∀ i, i < frs.length → M'.1 30 i = M.1 30 i) → BasesOk M' frs
  | [], _, _ => trivial
  | _ :: r, h, e => ⟨by rw [e _ (by simp)]; exact h.1, BasesOk.congr h.2 (fun i hi => e i (by simp; omega))⟩
def FrOk (frs : List AF) : Prop := ∀ F ∈ frs, (∃ i, F.2.1 = aC i) ∧ F.2.2.2.length ≤ 10
/-- the machine at work, without a fault -/
def LiveA (M : PM) (fr : List Nat) (ψ : Nat → Nat) (ns lim : Nat) (H : AHp) (nid : Nat) (x e f : AV) (fns : List (Option AV)) (ha : List AV) (frs : List AF) (fl mo : Nat) : Prop :=
  CoreA M fr ψ ns lim H nid x e f fns [] ha (flatA frs) ∧ M.1 27 6 = nI frs.length ∧ M.1 27 7 = nI mo ∧ M.1 27 8 = nI fl ∧ M.1 27 10 = 0 ∧ BasesOk M frs ∧ FrOk frs ∧ frs.length ≤ 200 ∧ (fl ≤ 20000 ∧ mo ≤ 200 ∧ 23 ≤ ns ∧ ns ≤ 300) ∧ ∃ vl, RowIs M 28 29 10 vl
/-- the machine with a fault -/
def DeadA (M : PM) (ns lim : Nat) (fns : List (Option AV)) (c fl mo : Nat) (H : AHp) (nid : Nat) : Prop :=
  (∃ fr ψ, MemC M fr ns ψ H nid lim ∧ Acy H nid ∧ RowF M fr ψ ns fns ∧ RowA M fr ψ ns 11 12 2000 []) ∧ (∃ ha, RowIs M 13 14 10 ha) ∧ (∃ sk, RowIs M 15 16 2600 sk) ∧ M.1 27 10 = nI c ∧ M.1 27 11 = 0 ∧ M.1 27 8 = nI fl ∧ M.1 27 7 = nI mo ∧ (∃ vl, RowIs M 28 29 10 vl) ∧ (0 < c ∧ c < 14 ∧ fl ≤ 20000 ∧ mo ≤ 200)
abbrev IDM : List Nat := [1, 13, 14, 15, 16, 17, 19, 20, 21, 22, 23, 27, 28, 29, 30]
theorem Same.m {M M' M'' : PM} (h : Same IDM M M') (h' : Same IDM M' M'') : Same IDM M M'' := (h.tr h').sub (fun k hk => by rw [List.mem_append] at hk; exact hk.elim id id)
/-- behind a step -/
def PostM (ns lim : Nat) (fns : List (Option AV)) (M0 : PM) (r : MR) (M' : PM) : Prop := Same IDM M0 M' ∧ match r with
  | .inl (m, x, e, f, v, vs, frs, fl, mo, H, n) => ∃ fr ψ, LiveA M' fr ψ ns lim H n x e f fns vs frs fl mo ∧ M'.1 27 11 = nI m ∧ (m = 2 ∨ m = 0 → Tv fr ψ ns (M'.2 27 12) v)
  | .inr (c, fl, mo, H, n) => DeadA M' ns lim fns c fl mo H n
theorem PostM.from {ns lim : Nat} {fns : List (Option AV)} {M0 M1 M' : PM} {r : MR} (h : PostM ns lim fns M1 r M') (hs : Same IDM M0 M1) : PostM ns lim fns M0 r M' := ⟨hs.m h.1, h.2⟩
def failM (c : Int32) (M : PM) : PM := mI (if M.1 27 10 = 0 then mI M 27 10 c else M) 27 11 0
def Dd (M : PM) : Prop := M.1 27 10 ≠ 0 ∧ M.1 27 11 = 0
theorem up2_id {α : Type} {g : Nat → Nat → α} {k j : Nat} {v : α} (h : g k j = v) : up2 g k j v = g := by
  funext a b
  unfold up2
  split
  · rename_i h1
    split
    · rename_i h2; rw [h1, h2, h]
    · rfl
  · rfl
theorem failM_dead {c : Int32} {M : PM} (h : Dd M) : failM c M = M := by
  unfold failM
  rw [if_neg h.1]
  show (up2 M.1 27 11 0, M.2) = M
  rw [up2_id h.2]
theorem failM_eq {c : Int32} {M : PM} (h : M.1 27 10 = 0) : failM c M = mI (mI M 27 10 c) 27 11 0 := by
  unfold failM
  rw [if_pos h]
theorem failM_Dd {c : Int32} {M : PM} (h : M.1 27 10 = 0) (hc : c ≠ 0) : Dd (failM c M) := by
  rw [failM_eq h]
  refine ⟨?_, mI_at⟩
  rw [mI_ne (Or.inr (by decide)), mI_at]
  exact hc
theorem failM_same {c : Int32} {M : PM} : Same [27] M (failM c M) := by
  unfold failM
  split
  · exact (Same.I.tr Same.I).sub (fun k hk => by simp at hk ⊢; omega)
  · exact Same.I
section LIVE
variable {M : PM} {fr : List Nat} {ψ : Nat → Nat} {ns lim : Nat} {H : AHp} {nid : Nat} {x e f : AV} {fns : List (Option AV)} {ha : List AV} {frs : List AF} {fl mo : Nat}
theorem LiveA.dead (h : LiveA M fr ψ ns lim H nid x e f fns ha frs fl mo) {c : Nat} (h0 : 0 < c) (h1 : c < 14) : DeadA (failM (nI c) M) ns lim fns c fl mo H nid := by
  obtain ⟨hC, k6, k7, k8, k10, kb, kf, k200, ⟨kfl, kmo, kns⟩, vl, kv⟩ := h
  have hC2 := hC.same failM_same (by decide) (M' := failM (nI c) M)
  obtain ⟨c1, c2, c3, c4, c5, c6, c7, ⟨lh, q1, q2, q3⟩, ⟨ls, s1, s2, s3⟩⟩ := hC2
  refine ⟨⟨fr, ψ, c1, c2, c6, c7⟩, ⟨lh, q1⟩, ⟨ls, s1⟩, ?_, ?_, ?_, ?_, ⟨vl, kv.same failM_same (by decide) (by decide)⟩, h0, h1, kfl, kmo⟩
  · rw [failM_eq k10, mI_ne (Or.inr (by decide)), mI_at]
  · rw [failM_eq k10, mI_at]
  · rw [failM_eq k10, mI_ne (Or.inr (by decide)), mI_ne (Or.inr (by decide))]; exact k8
  · rw [failM_eq k10, mI_ne (Or.inr (by decide)), mI_ne (Or.inr (by decide))]; exact k7
/-- a fault at once -/
theorem LiveA.flt (h : LiveA M fr ψ ns lim H nid x e f fns ha frs fl mo) {c : Nat} (h0 : 0 < c) (h1 : c < 14) : PostM ns lim fns M (aFl c fl mo H nid) (failM (nI c) M) :=
  ⟨failM_same.sub (by decide), h.dead h0 h1⟩
/-- the parts of 27 that a change must keep -/
theorem LiveA.same (h : LiveA M fr ψ ns lim H nid x e f fns ha frs fl mo) {M' : PM} {ids : List Nat} (hs : Same ids M M') (hd : ∀ k ∈ [1, 9, 10, 11, 12, 13, 14, 15, 16, 17, 19, 20, 21, 22, 28, 29, 30], k ∉ ids) (e6 : M'.1 27 6 = M.1 27 6) (e7 : M'.1 27 7 = M.1 27 7) (e8 : M'.1 27 8 = M.1 27 8) (e10 : M'.1 27 10 = M.1 27 10) : LiveA M' fr ψ ns lim H nid x e f fns ha frs fl mo := by
  obtain ⟨hC, k6, k7, k8, k10, kb, kf, k200, kn, vl, kv⟩ := h
  exact ⟨hC.same hs (fun k hk => hd k (by simp at hk ⊢; omega)), e6.trans k6, e7.trans k7, e8.trans k8, e10.trans k10, kb.congr (fun i _ => by rw [(hs 30 (hd 30 (by decide))).1]), kf, k200, kn, vl, kv.same hs (hd 28 (by decide)) (hd 29 (by decide))⟩
theorem LiveA.core (h : LiveA M fr ψ ns lim H nid x e f fns ha frs fl mo) {M' : PM} {fr' : List Nat} {ψ' : Nat → Nat} {H' : AHp} {nid' : Nat} {x' e' f' : AV} {ha' : List AV} {ids : List Nat} (hC : CoreA M' fr' ψ' ns lim H' nid' x' e' f' fns [] ha' (flatA frs)) (hs : Same ids M M') (hd : ∀ k ∈ [27, 28, 29, 30], k ∉ ids) : LiveA M' fr' ψ' ns lim H' nid' x' e' f' fns ha' frs fl mo := by
  obtain ⟨-, k6, k7, k8, k10, kb, kf, k200, kn, vl, kv⟩ := h
  have e27 := (hs 27 (hd 27 (by decide))).1
  exact ⟨hC, by rw [e27]; exact k6, by rw [e27]; exact k7, by rw [e27]; exact k8, by rw [e27]; exact k10, kb.congr (fun i _ => by rw [(hs 30 (hd 30 (by decide))).1]), kf, k200, kn, vl, kv.same hs (hd 28 (by decide)) (hd 29 (by decide))⟩
theorem LiveA.nil (h : LiveA M fr ψ ns lim H nid x e f fns ha frs fl mo) {k : Nat} (hk : k < 23) : Tv fr ψ ns (lN k) (aS k) := Tv.lN (by have := h.2.2.2.2.2.2.2.2.1; omega) (by omega)
end LIVE
theorem m_fail {d : Nat} {c : Int32} {M : PM} {Q : Option (Option Value) → PM → Prop} (h : Q (some none) (failM c M)) : SC (d + 1) 24 [.ref 27, .int c] M Q := by
  refine ⟨qX2_fail, rfl, ⟨Nat.le_of_ble_eq_true rfl, rfl, 27, _, _, rfl, rfl⟩, ?_⟩
  show Ev (BC (d) qX2_fail) Q 0 [some (.ref 27), some (.int c)] [] M
  repeat (refine ev_s rfl (?_ : Ev _ _ _ _ _ _))
  unfold failM at h
  refine ev_if rfl (fun hc => ?_) (fun hc => ?_)
  · repeat (refine ev_s rfl (?_ : Ev _ _ _ _ _ _))
    rw [if_neg (show ¬ M.1 27 10 = 0 from hc)] at h
    exact ev_retv rfl rfl h
  · repeat (refine ev_s rfl (?_ : Ev _ _ _ _ _ _))
    rw [if_pos (show M.1 27 10 = 0 from Decidable.not_not.mp hc)] at h
    exact ev_retv rfl rfl h
theorem m_burn {d : Nat} {M : PM} {fl : Nat} (hf : M.1 27 8 = nI fl) (hl : fl ≤ 20000) {Q : Option (Option Value) → PM → Prop} (h0 : fl = 0 → Q (some (some (.int 0))) (failM 7 M)) (h1 : ∀ k, fl = k + 1 → Q (some (some (.int 1))) (mI M 27 8 (nI k))) : SC (d + 2) 25 [.ref 27] M Q := by
  refine ⟨qX2_burn, rfl, ⟨Nat.le_of_ble_eq_true rfl, rfl, 27, _, _, rfl, rfl⟩, ?_⟩
  show Ev (BC (d + 1) qX2_burn) Q 0 [some (.ref 27)] [] M
  repeat (refine ev_s rfl (?_ : Ev _ _ _ _ _ _))
  rw [hf]
  cases fl with
  | zero =>
    refine ev_ifF rfl (show ¬ 0 < nI 0 by decide) ?_
    repeat (refine ev_s rfl (?_ : Ev _ _ _ _ _ _))
    refine ev_cv rfl (as := [.ref 27, .int 7]) rfl rfl (Nat.le_of_ble_eq_true rfl) ?_
    refine m_fail ?_
    show Ev _ _ _ _ [] _
    repeat (refine ev_s rfl (?_ : Ev _ _ _ _ _ _))
    exact ev_reti rfl rfl trivial rfl (h0 rfl)
  | succ k =>
    refine ev_ifT rfl (show (0 : Int32) < nI (k + 1) from nI_lt (a := 0) (by omega) (by omega)) ?_
    repeat (refine ev_s rfl (?_ : Ev _ _ _ _ _ _))
    rw [hf, nI_pred]
    exact ev_reti rfl rfl trivial rfl (h1 k rfl)
section ASK
variable {M : PM} {fr : List Nat} {ψ : Nat → Nat} {ns lim : Nat} {H : AHp} {nid : Nat}
theorem aHd_C {v : AV} {b : AV} (h : aHd H v = some b) : ∃ i, v = aC i ∧ (H i).1 = b := by
  rcases v with k | n | i
  · cases h
  · cases h
  · exact ⟨i, rfl, Option.some.inj h⟩
theorem aTl_C {v : AV} {b : AV} (h : aTl H v = some b) : ∃ i, v = aC i ∧ (H i).2 = b := by
  rcases v with k | n | i
  · cases h
  · cases h
  · exact ⟨i, rfl, Option.some.inj h⟩
theorem aHd_none {v : AV} : aHd H v = none ↔ ∀ i, v ≠ aC i := by
  rcases v with k | n | i
  · exact ⟨fun _ i e => (by cases e), fun _ => rfl⟩
  · exact ⟨fun _ i e => (by cases e), fun _ => rfl⟩
  · exact ⟨fun h => (by cases h), fun h => (h i rfl).elim⟩
theorem aTl_none {v : AV} : aTl H v = none ↔ ∀ i, v ≠ aC i := by
  rcases v with k | n | i
  · exact ⟨fun _ i e => (by cases e), fun _ => rfl⟩
  · exact ⟨fun _ i e => (by cases e), fun _ => rfl⟩
  · exact ⟨fun h => (by cases h), fun h => (h i rfl).elim⟩
theorem m_askHead {d : Nat} {v : Int64} {Q : Option (Option Value) → PM → Prop} (h1 : isC v → Q (some (some (.long (M.2 19 (cix v))))) M) (h0 : ¬ isC v → Q (some (some (.long 0))) (failM 5 M)) : SC (d + 2) 28 [.ref 27, .long v] M Q := by
  refine ⟨qX2_askHead, rfl, ⟨Nat.le_of_ble_eq_true rfl, rfl, 27, _, _, rfl, rfl⟩, ?_⟩
  show Ev (BC (d + 1) qX2_askHead) Q 0 [some (.ref 27), some (.long v), none] [] M
  repeat (refine ev_s rfl (?_ : Ev _ _ _ _ _ _))
  refine ev_cs rfl (by decide) (by decide) (as := [.long v]) rfl rfl (Nat.le_of_ble_eq_true rfl) ?_
  refine v_isCell (fun hc => ?_) (fun hc => ?_)
  · show Ev _ _ _ _ [.int 1] _
    refine ev_ifT rfl (show ¬ (1 : Int32) = 0 by decide) ?_
    repeat (refine ev_s rfl (?_ : Ev _ _ _ _ _ _))
    refine ev_cv rfl (as := [.ref 17, .long v]) rfl rfl (Nat.le_of_ble_eq_true rfl) ?_
    refine cell_head hc ?_
    show Ev _ _ _ _ [.long (M.2 19 (cix v))] _
    exact ev_retl rfl rfl (h1 hc)
  · show Ev _ _ _ _ [.int 0] _
    refine ev_ifF rfl (show ¬ ¬ (0 : Int32) = 0 by decide) ?_
    repeat (refine ev_s rfl (?_ : Ev _ _ _ _ _ _))
    refine ev_cv rfl (as := [.ref 27, .int 5]) rfl rfl (Nat.le_of_ble_eq_true rfl) ?_
    refine m_fail ?_
    show Ev _ _ _ _ [] _
    repeat (refine ev_s rfl (?_ : Ev _ _ _ _ _ _))
    exact ev_retl rfl rfl (h0 hc)
theorem m_askTail {d : Nat} {v : Int64} {Q : Option (Option Value) → PM → Prop} (h1 : isC v → Q (some (some (.long (M.2 20 (cix v))))) M) (h0 : ¬ isC v → Q (some (some (.long 0))) (failM 5 M)) : SC (d + 2) 29 [.ref 27, .long v] M Q := by
  refine ⟨qX2_askTail, rfl, ⟨Nat.le_of_ble_eq_true rfl, rfl, 27, _, _, rfl, rfl⟩, ?_⟩
  show Ev (BC (d + 1) qX2_askTail) Q 0 [some (.ref 27), some (.long v), none] [] M
  repeat (refine ev_s rfl (?_ : Ev _ _ _ _ _ _))
  refine ev_cs rfl (by decide) (by decide) (as := [.long v]) rfl rfl (Nat.le_of_ble_eq_true rfl) ?_
  refine v_isCell (fun hc => ?_) (fun hc => ?_)
  · show Ev _ _ _ _ [.int 1] _
    refine ev_ifT rfl (show ¬ (1 : Int32) = 0 by decide) ?_
    repeat (refine ev_s rfl (?_ : Ev _ _ _ _ _ _))
    refine ev_cv rfl (as := [.ref 17, .long v]) rfl rfl (Nat.le_of_ble_eq_true rfl) ?_
    refine cell_tail hc ?_
    show Ev _ _ _ _ [.long (M.2 20 (cix v))] _
    exact ev_retl rfl rfl (h1 hc)
  · show Ev _ _ _ _ [.int 0] _
    refine ev_ifF rfl (show ¬ ¬ (0 : Int32) = 0 by decide) ?_
    repeat (refine ev_s rfl (?_ : Ev _ _ _ _ _ _))
    refine ev_cv rfl (as := [.ref 27, .int 5]) rfl rfl (Nat.le_of_ble_eq_true rfl) ?_
    refine m_fail ?_
    show Ev _ _ _ _ [] _
    repeat (refine ev_s rfl (?_ : Ev _ _ _ _ _ _))
    exact ev_retl rfl rfl (h0 hc)
/-- with a fault nothing changes -/
theorem m_askHead_d {d : Nat} {v : Int64} {Q : Option (Option Value) → PM → Prop} (hD : Dd M) (h : ∀ w, Q (some (some (.long w))) M) : SC (d + 2) 28 [.ref 27, .long v] M Q := m_askHead (fun _ => h _) (fun _ => by rw [failM_dead hD]; exact h _)
theorem m_askTail_d {d : Nat} {v : Int64} {Q : Option (Option Value) → PM → Prop} (hD : Dd M) (h : ∀ w, Q (some (some (.long w))) M) : SC (d + 2) 29 [.ref 27, .long v] M Q := m_askTail (fun _ => h _) (fun _ => by rw [failM_dead hD]; exact h _)
theorem m_askHead_a {d : Nat} {v : Int64} {a : AV} (hm : MemC M fr ns ψ H nid lim) (hv : Tv fr ψ ns v a) {Q : Option (Option Value) → PM → Prop} (h1 : ∀ b w, aHd H a = some b → Tv fr ψ ns w b → Q (some (some (.long w))) M) (h0 : aHd H a = none → Q (some (some (.long 0))) (failM 5 M)) : SC (d + 2) 28 [.ref 27, .long v] M Q := by
  refine m_askHead (fun hc => ?_) (fun hc => h0 (aHd_none.mpr (hv.ncell hc)))
  have e := hv.cell hc
  subst e
  exact h1 _ _ rfl (CoreA.part hm hv).1
theorem m_askTail_a {d : Nat} {v : Int64} {a : AV} (hm : MemC M fr ns ψ H nid lim) (hv : Tv fr ψ ns v a) {Q : Option (Option Value) → PM → Prop} (h1 : ∀ b w, aTl H a = some b → Tv fr ψ ns w b → Q (some (some (.long w))) M) (h0 : aTl H a = none → Q (some (some (.long 0))) (failM 5 M)) : SC (d + 2) 29 [.ref 27, .long v] M Q := by
  refine m_askTail (fun hc => ?_) (fun hc => h0 (aTl_none.mpr (hv.ncell hc)))
  have e := hv.cell hc
  subst e
  exact h1 _ _ rfl (CoreA.part hm hv).2.1
theorem m_askSecond {d : Nat} {v : Int64} {a : AV} (hm : MemC M fr ns ψ H nid lim) (hf : M.1 27 10 = 0) (hv : Tv fr ψ ns v a) {Q : Option (Option Value) → PM → Prop} (h1 : ∀ b w, a2 H a = some b → Tv fr ψ ns w b → Q (some (some (.long w))) M) (h0 : a2 H a = none → ∀ w, Q (some (some (.long w))) (failM 5 M)) : SC (d + 3) 30 [.ref 27, .long v] M Q := by
  refine ⟨qX2_askSecond, rfl, ⟨Nat.le_of_ble_eq_true rfl, rfl, 27, _, _, rfl, rfl⟩, ?_⟩
  show Ev (BC (d + 2) qX2_askSecond) Q 0 [some (.ref 27), some (.long v), none] [] M
  repeat (refine ev_s rfl (?_ : Ev _ _ _ _ _ _))
  refine ev_cv rfl (as := [.ref 27, .long v]) rfl rfl (Nat.le_of_ble_eq_true rfl) ?_
  refine m_askTail_a hm hv (fun b w hb hw => ?_) (fun hb => ?_)
  · show Ev _ _ _ _ [.long w, .ref 27] _
    refine ev_cv rfl (as := [.ref 27, .long w]) rfl rfl (Nat.le_of_ble_eq_true rfl) ?_
    refine m_askHead_a hm hw (fun b2 w2 hb2 hw2 => ?_) (fun hb2 => ?_)
    · show Ev _ _ _ _ [.long w2] _
      exact ev_retl rfl rfl (h1 b2 w2 (by unfold a2; rw [hb]; exact hb2) hw2)
    · show Ev _ _ _ _ [.long 0] _
      exact ev_retl rfl rfl (h0 (by unfold a2; rw [hb]; exact hb2) _)
  · show Ev _ _ _ _ [.long 0, .ref 27] _
    refine ev_cv rfl (as := [.ref 27, .long 0]) rfl rfl (Nat.le_of_ble_eq_true rfl) ?_
    refine m_askHead_d (failM_Dd hf (by decide)) (fun w => ?_)
    show Ev _ _ _ _ [.long w] _
    exact ev_retl rfl rfl (h0 (by unfold a2; rw [hb]; rfl) _)
theorem m_askSecond_d {d : Nat} {v : Int64} (hD : Dd M) {Q : Option (Option Value) → PM → Prop} (h : ∀ w, Q (some (some (.long w))) M) : SC (d + 3) 30 [.ref 27, .long v] M Q := by
  refine ⟨qX2_askSecond, rfl, ⟨Nat.le_of_ble_eq_true rfl, rfl, 27, _, _, rfl, rfl⟩, ?_⟩
  show Ev (BC (d + 2) qX2_askSecond) Q 0 [some (.ref 27), some (.long v), none] [] M
  repeat (refine ev_s rfl (?_ : Ev _ _ _ _ _ _))
  refine ev_cv rfl (as := [.ref 27, .long v]) rfl rfl (Nat.le_of_ble_eq_true rfl) ?_
  refine m_askTail_d hD (fun w => ?_)
  show Ev _ _ _ _ [.long w, .ref 27] _
  refine ev_cv rfl (as := [.ref 27, .long w]) rfl rfl (Nat.le_of_ble_eq_true rfl) ?_
  refine m_askHead_d hD (fun w => ?_)
  show Ev _ _ _ _ [.long w] _
  exact ev_retl rfl rfl (h _)
theorem m_askThird_d {d : Nat} {v : Int64} (hD : Dd M) {Q : Option (Option Value) → PM → Prop} (h : ∀ w, Q (some (some (.long w))) M) : SC (d + 3) 31 [.ref 27, .long v] M Q := by
  refine ⟨qX2_askThird, rfl, ⟨Nat.le_of_ble_eq_true rfl, rfl, 27, _, _, rfl, rfl⟩, ?_⟩
  show Ev (BC (d + 2) qX2_askThird) Q 0 [some (.ref 27), some (.long v), none] [] M
  repeat (refine ev_s rfl (?_ : Ev _ _ _ _ _ _))
  refine ev_cv rfl (as := [.ref 27, .long v]) rfl rfl (Nat.le_of_ble_eq_true rfl) ?_
  refine m_askTail_d hD (fun w => ?_)
  show Ev _ _ _ _ [.long w, .ref 27, .ref 27] _
  refine ev_cv rfl (as := [.ref 27, .long w]) rfl rfl (Nat.le_of_ble_eq_true rfl) ?_
  refine m_askTail_d hD (fun w => ?_)
  show Ev _ _ _ _ [.long w, .ref 27] _
  refine ev_cv rfl (as := [.ref 27, .long w]) rfl rfl (Nat.le_of_ble_eq_true rfl) ?_
  refine m_askHead_d hD (fun w => ?_)
  show Ev _ _ _ _ [.long w] _
  exact ev_retl rfl rfl (h _)
theorem m_askThird {d : Nat} {v : Int64} {a : AV} (hm : MemC M fr ns ψ H nid lim) (hf : M.1 27 10 = 0) (hv : Tv fr ψ ns v a) {Q : Option (Option Value) → PM → Prop} (h1 : ∀ b w, a3 H a = some b → Tv fr ψ ns w b → Q (some (some (.long w))) M) (h0 : a3 H a = none → ∀ w, Q (some (some (.long w))) (failM 5 M)) : SC (d + 3) 31 [.ref 27, .long v] M Q := by
  refine ⟨qX2_askThird, rfl, ⟨Nat.le_of_ble_eq_true rfl, rfl, 27, _, _, rfl, rfl⟩, ?_⟩
  show Ev (BC (d + 2) qX2_askThird) Q 0 [some (.ref 27), some (.long v), none] [] M
  repeat (refine ev_s rfl (?_ : Ev _ _ _ _ _ _))
  refine ev_cv rfl (as := [.ref 27, .long v]) rfl rfl (Nat.le_of_ble_eq_true rfl) ?_
  refine m_askTail_a hm hv (fun b w hb hw => ?_) (fun hb => ?_)
  · show Ev _ _ _ _ [.long w, .ref 27, .ref 27] _
    refine ev_cv rfl (as := [.ref 27, .long w]) rfl rfl (Nat.le_of_ble_eq_true rfl) ?_
    refine m_askTail_a hm hw (fun b2 w2 hb2 hw2 => ?_) (fun hb2 => ?_)
    · show Ev _ _ _ _ [.long w2, .ref 27] _
      refine ev_cv rfl (as := [.ref 27, .long w2]) rfl rfl (Nat.le_of_ble_eq_true rfl) ?_
      refine m_askHead_a hm hw2 (fun b3 w3 hb3 hw3 => ?_) (fun hb3 => ?_)
      · show Ev _ _ _ _ [.long w3] _
        exact ev_retl rfl rfl (h1 b3 w3 (by unfold a3; rw [hb]; show (aTl H b).bind (aHd H) = some b3; rw [hb2]; exact hb3) hw3)
      · show Ev _ _ _ _ [.long 0] _
        exact ev_retl rfl rfl (h0 (by unfold a3; rw [hb]; show (aTl H b).bind (aHd H) = none; rw [hb2]; exact hb3) _)
    · show Ev _ _ _ _ [.long 0, .ref 27] _
      refine ev_cv rfl (as := [.ref 27, .long 0]) rfl rfl (Nat.le_of_ble_eq_true rfl) ?_
      refine m_askHead_d (failM_Dd hf (by decide)) (fun w => ?_)
      show Ev _ _ _ _ [.long w] _
      exact ev_retl rfl rfl (h0 (by unfold a3; rw [hb]; show (aTl H b).bind (aHd H) = none; rw [hb2]; rfl) _)
  · show Ev _ _ _ _ [.long 0, .ref 27, .ref 27] _
    refine ev_cv rfl (as := [.ref 27, .long 0]) rfl rfl (Nat.le_of_ble_eq_true rfl) ?_
    refine m_askTail_d (failM_Dd hf (by decide)) (fun w => ?_)
    show Ev _ _ _ _ [.long w, .ref 27] _
    refine ev_cv rfl (as := [.ref 27, .long w]) rfl rfl (Nat.le_of_ble_eq_true rfl) ?_
    refine m_askHead_d (failM_Dd hf (by decide)) (fun w => ?_)
    show Ev _ _ _ _ [.long w] _
    exact ev_retl rfl rfl (h0 (by unfold a3; rw [hb]; rfl) _)
end ASK

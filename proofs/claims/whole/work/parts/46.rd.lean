/-! The class's reader: small methods. -/
theorem nI_bool {c b : Nat} (hc : c < 2147483648) (hb : b < 2147483648) : (nI c = nI b) ↔ c = b := nI_eq hc hb
theorem r_isBlank {d c : Nat} {M : PM} (hc : c < 256) {Q : Option (Option Value) → PM → Prop} (h : Q (some (some (.int (if isBl c then 1 else 0)))) M) : SC (d + 1) 80 [.int (nI c)] M Q := by
  refine ⟨qX4_isBlank, rfl, ⟨Nat.le_of_ble_eq_true rfl, rfl⟩, ?_⟩
  show Ev (BC (d) qX4_isBlank) Q 0 [some (.int (nI c))] [] M
  have c1 : (nI c = 32) ↔ c = 32 := nI_eq (b := 32) (by omega) (by decide)
  have c2 : (nI c = 10) ↔ c = 10 := nI_eq (b := 10) (by omega) (by decide)
  have yes : isBl c = true → Ev (BC d qX4_isBlank) Q 12 [some (.int (nI c))] [] M := fun h9 => by
    rw [h9] at h
    repeat (refine ev_s rfl (?_ : Ev _ _ _ _ _ _))
    exact ev_reti rfl rfl trivial rfl h
  repeat (refine ev_s rfl (?_ : Ev _ _ _ _ _ _))
  refine ev_ic rfl (fun hc1 => yes (by simp [isBl, c1.mp hc1])) (fun hc1 => ?_)
  repeat (refine ev_s rfl (?_ : Ev _ _ _ _ _ _))
  refine ev_ic rfl (fun hc2 => ?_) (fun hc2 => yes (by simp [isBl, c2.mp (Decidable.not_not.mp hc2)]))
  have e : isBl c = false := by
    have n1 : ¬ c = 32 := fun h9 => hc1 (c1.mpr h9)
    have n2 : ¬ c = 10 := fun h9 => hc2 (c2.mpr h9)
    simp [isBl, n1, n2]
  rw [e] at h
  repeat (refine ev_s rfl (?_ : Ev _ _ _ _ _ _))
  exact ev_reti rfl rfl trivial rfl h
theorem r_isLetter {d c : Nat} {M : PM} (hc : c < 256) {Q : Option (Option Value) → PM → Prop} (h : Q (some (some (.int (if isLt c then 1 else 0)))) M) : SC (d + 1) 81 [.int (nI c)] M Q := by
  refine ⟨qX4_isLetter, rfl, ⟨Nat.le_of_ble_eq_true rfl, rfl⟩, ?_⟩
  show Ev (BC (d) qX4_isLetter) Q 0 [some (.int (nI c))] [] M
  have no : isLt c = false → Ev (BC d qX4_isLetter) Q 16 [some (.int (nI c))] [] M := fun h9 => by
    rw [h9] at h
    repeat (refine ev_s rfl (?_ : Ev _ _ _ _ _ _))
    exact ev_reti rfl rfl trivial rfl h
  repeat (refine ev_s rfl (?_ : Ev _ _ _ _ _ _))
  refine ev_ic rfl (fun hc1 => no ?_) (fun hc1 => ?_)
  · have := (nI_ltI (b := 65) (by omega) (by decide)).mp hc1
    simp [isLt]; omega
  repeat (refine ev_s rfl (?_ : Ev _ _ _ _ _ _))
  refine ev_ic rfl (fun hc2 => no ?_) (fun hc2 => ?_)
  · have := (nI_ltI (a := 90) (by decide) (by omega)).mp hc2
    have e : Nat.ble c 90 = false := by rw [Bool.eq_false_iff]; intro h9; have := Nat.le_of_ble_eq_true h9; omega
    unfold isLt
    rw [e, Bool.and_false]
  have e : isLt c = true := by
    have n1 : ¬ c < 65 := fun h9 => hc1 (nI_lt (b := 65) h9 (by decide))
    have n2 : ¬ 90 < c := fun h9 => hc2 (nI_lt (a := 90) h9 (by omega))
    simp [isLt]; omega
  rw [e] at h
  repeat (refine ev_s rfl (?_ : Ev _ _ _ _ _ _))
  exact ev_reti rfl rfl trivial rfl h
theorem r_isDigit {d c : Nat} {M : PM} (hc : c < 256) {Q : Option (Option Value) → PM → Prop} (h : Q (some (some (.int (if isDg c then 1 else 0)))) M) : SC (d + 1) 82 [.int (nI c)] M Q := by
  refine ⟨qX4_isDigit, rfl, ⟨Nat.le_of_ble_eq_true rfl, rfl⟩, ?_⟩
  show Ev (BC (d) qX4_isDigit) Q 0 [some (.int (nI c))] [] M
  have no : isDg c = false → Ev (BC d qX4_isDigit) Q 16 [some (.int (nI c))] [] M := fun h9 => by
    rw [h9] at h
    repeat (refine ev_s rfl (?_ : Ev _ _ _ _ _ _))
    exact ev_reti rfl rfl trivial rfl h
  repeat (refine ev_s rfl (?_ : Ev _ _ _ _ _ _))
  refine ev_ic rfl (fun hc1 => no ?_) (fun hc1 => ?_)
  · have := (nI_ltI (b := 48) (by omega) (by decide)).mp hc1
    simp [isDg]; omega
  repeat (refine ev_s rfl (?_ : Ev _ _ _ _ _ _))
  refine ev_ic rfl (fun hc2 => no ?_) (fun hc2 => ?_)
  · have := (nI_ltI (a := 57) (by decide) (by omega)).mp hc2
    have e : Nat.ble c 57 = false := by rw [Bool.eq_false_iff]; intro h9; have := Nat.le_of_ble_eq_true h9; omega
    unfold isDg
    rw [e, Bool.and_false]
  have e : isDg c = true := by
    have n1 : ¬ c < 48 := fun h9 => hc1 (nI_lt (b := 48) h9 (by decide))
    have n2 : ¬ 57 < c := fun h9 => hc2 (nI_lt (a := 57) h9 (by omega))
    simp [isDg]; omega
  rw [e] at h
  repeat (refine ev_s rfl (?_ : Ev _ _ _ _ _ _))
  exact ev_reti rfl rfl trivial rfl h
/-- what is open -/
def OpsIs (M : PM) : List (Nat × Nat) → Prop
  | [] => True
  | (s, st) :: r => M.1 25 r.length = nI s ∧ M.1 26 r.length = nI st ∧ OpsIs M r
theorem OpsIs.congr {M M' : PM} : ∀ {op : List (Nat × Nat)}, OpsIs M op → (∀ i, i < op.length → M'.1 25 i = M.1 25 i ∧ M'.1 26 i = M.1 26 i) → OpsIs M' op
  | [], _, _ => trivial
  | (s, st) :: r, h, e => ⟨by rw [(e _ (by simp)).1]; exact h.1, by rw [(e _ (by simp)).2]; exact h.2.1, OpsIs.congr h.2.2 (fun i hi => e i (by simp; omega))⟩
def OpOk : List (Nat × Nat) → Nat → Prop
  | [], _ => True
  | (s, st) :: r, m => (2 ≤ s ∧ s ≤ 6 ∧ st ≤ m ∧ (s = 6 → st < m)) ∧ OpOk r st
theorem OpOk.mono {m m' : Nat} (hm : m ≤ m') : ∀ {op : List (Nat × Nat)}, OpOk op m → OpOk op m'
  | [], _ => trivial
  | (s, st) :: r, h => ⟨⟨h.1.1, h.1.2.1, Nat.le_trans h.1.2.2.1 hm, fun h9 => Nat.lt_of_lt_of_le (h.1.2.2.2 h9) hm⟩, h.2⟩
/-- the whole, if it was read -/
def WhIs (M : PM) (fr : List Nat) (ψ : Nat → Nat) (ns : Nat) (op : List (Nat × Nat)) (wh : Option AV) : Prop := match wh with
  | none => M.1 24 11 = 0
  | some a => M.1 24 11 = 1 ∧ Tv fr ψ ns (M.2 24 12) a ∧ op = []
/-- the reader at work: the tape l, its first N bytes the text -/
def RdC (l : List Nat) (N lim : Nat) (fns : List (Option AV)) (M : PM) (fr : List Nat) (ψ : Nat → Nat) (H : AHp) (n p : Nat) (op : List (Nat × Nat)) (pe : List AV) (wh : Option AV) (nm : List (List Nat)) : Prop :=
  CoreA M fr ψ nm.length lim H n (aS 0) (aS 0) (aS 0) fns pe [] [] ∧ SymIs M nm ∧ BytesIs M 2 3 l ∧ N ≤ l.length ∧ M.1 24 6 = nI op.length ∧ M.1 24 7 = nI p ∧ M.1 24 8 = nI N ∧ M.1 24 9 = 0 ∧ M.1 24 10 = -1 ∧ OpsIs M op ∧ op.length ≤ 60 ∧ OpOk op pe.length ∧ p ≤ N ∧ pe.length ≤ p ∧ 23 ≤ nm.length ∧ WhIs M fr ψ nm.length op wh
def RdD (lim : Nat) (fns : List (Option AV)) (M : PM) (nm : List (List Nat)) (H : AHp) (n c pl : Nat) : Prop :=
  (∃ fr ψ pe, CoreA M fr ψ nm.length lim H n (aS 0) (aS 0) (aS 0) fns pe [] []) ∧ SymIs M nm ∧ M.1 24 9 = nI c ∧ M.1 24 10 = nI pl ∧ 0 < c ∧ c < 14 ∧ pl ≤ 2000 ∧ 23 ≤ nm.length
abbrev IDR : List Nat := [6, 7, 8, 11, 12, 17, 19, 20, 21, 22, 23, 24, 25, 26]
theorem Same.r {M M' M'' : PM} (h : Same IDR M M') (h' : Same IDR M' M'') : Same IDR M M'' := (h.tr h').sub (fun k hk => by rw [List.mem_append] at hk; exact hk.elim id id)
def PostR (l : List Nat) (N lim : Nat) (fns : List (Option AV)) (M0 : PM) (r : RR) (M' : PM) : Prop := Same IDR M0 M' ∧ match r with
  | .inl (p, op, pe, wh, nm, H, n) => ∃ fr ψ, RdC l N lim fns M' fr ψ H n p op pe wh nm
  | .inr (c, pl, nm, H, n) => RdD lim fns M' nm H n c pl
theorem PostR.from {l : List Nat} {N lim : Nat} {fns : List (Option AV)} {M0 M1 M' : PM} {r : RR} {ids : List Nat} (h : PostR l N lim fns M1 r M') (hs : Same ids M0 M1) (hd : ∀ k ∈ ids, k ∈ IDR) : PostR l N lim fns M0 r M' := ⟨(hs.sub hd).r h.1, h.2⟩
def rfl9 (c pl : Int32) (M : PM) : PM := if M.1 24 9 = 0 then mI (mI M 24 9 c) 24 10 pl else M
theorem r_fail {d : Nat} {c pl : Int32} {M : PM} {Q : Option (Option Value) → PM → Prop} (h : Q (some none) (rfl9 c pl M)) : SC (d + 1) 68 [.ref 24, .int c, .int pl] M Q := by
  refine ⟨qX4_fail, rfl, ⟨Nat.le_of_ble_eq_true rfl, rfl, 24, _, _, rfl, rfl⟩, ?_⟩
  show Ev (BC (d) qX4_fail) Q 0 [some (.ref 24), some (.int c), some (.int pl)] [] M
  repeat (refine ev_s rfl (?_ : Ev _ _ _ _ _ _))
  unfold rfl9 at h
  refine ev_if rfl (fun hc => ?_) (fun hc => ?_)
  · rw [if_neg (show ¬ M.1 24 9 = 0 from hc)] at h
    exact ev_retv rfl rfl h
  · repeat (refine ev_s rfl (?_ : Ev _ _ _ _ _ _))
    rw [if_pos (show M.1 24 9 = 0 from Decidable.not_not.mp hc)] at h
    exact ev_retv rfl rfl h
section RD
variable {l : List Nat} {N lim : Nat} {fns : List (Option AV)} {M : PM} {fr : List Nat} {ψ : Nat → Nat} {H : AHp} {n p : Nat} {op : List (Nat × Nat)} {pe : List AV} {wh : Option AV} {nm : List (List Nat)}
theorem RdC.flt (h : RdC l N lim fns M fr ψ H n p op pe wh nm) {c pl : Nat} (h0 : 0 < c) (h1 : c < 14) (h2 : pl ≤ 2000) : PostR l N lim fns M (.inr (c, pl, nm, H, n)) (rfl9 (nI c) (nI pl) M) := by
  obtain ⟨k1, k2, k3, k4, k5, k6, k7, k8, k9, k10, k11, k12, k13, k14, k15, k16⟩ := h
  have e : rfl9 (nI c) (nI pl) M = mI (mI M 24 9 (nI c)) 24 10 (nI pl) := if_pos k8
  have hs : Same [24] M (mI (mI M 24 9 (nI c)) 24 10 (nI pl)) := (Same.I.tr Same.I).sub (by decide)
  rw [e]
  refine ⟨hs.sub (by decide), ⟨fr, ψ, pe, k1.same hs (by decide)⟩, k2.same hs (by decide) (by decide) (by decide), ?_, mI_at, h0, h1, h2, k15⟩
  rw [mI_ne (Or.inr (by decide)), mI_at]
theorem RdC.mv (h : RdC l N lim fns M fr ψ H n p op pe wh nm) {M' : PM} {p' : Nat} {op' : List (Nat × Nat)} (hs : Same [24, 25, 26] M M') (e6 : M'.1 24 6 = nI op'.length) (e7 : M'.1 24 7 = nI p') (e8 : M'.1 24 8 = M.1 24 8) (e9 : M'.1 24 9 = M.1 24 9) (e10 : M'.1 24 10 = M.1 24 10) (e11 : M'.1 24 11 = M.1 24 11) (e12 : M'.2 24 = M.2 24) (ho : OpsIs M' op') (h60 : op'.length ≤ 60) (hk : OpOk op' pe.length) (hp : p' ≤ N) (hpe : p ≤ p') (hw : op = [] → wh.isSome → op' = []) : RdC l N lim fns M' fr ψ H n p' op' pe wh nm := by
  obtain ⟨k1, k2, k3, k4, k5, k6, k7, k8, k9, k10, k11, k12, k13, k14, k15, k16⟩ := h
  refine ⟨k1.same hs (by decide), k2.same hs (by decide) (by decide) (by decide), k3.same hs (by decide) (by decide), k4, e6, e7, e8.trans k7, e9.trans k8, e10.trans k9, ho, h60, hk, hp, by omega, k15, ?_⟩
  cases wh with
  | none => exact e11.trans k16
  | some a => exact ⟨e11.trans k16.1, by rw [e12]; exact k16.2.1, hw k16.2.2 rfl⟩
theorem r_state {d : Nat} (h : RdC l N lim fns M fr ψ H n p op pe wh nm) {Q : Option (Option Value) → PM → Prop} (hq : Q (some (some (.int (nI (rSt op wh))))) M) : SC (d + 1) 70 [.ref 24] M Q := by
  refine ⟨qX4_state, rfl, ⟨Nat.le_of_ble_eq_true rfl, rfl, 24, _, _, rfl, rfl⟩, ?_⟩
  show Ev (BC (d) qX4_state) Q 0 [some (.ref 24)] [] M
  obtain ⟨k1, k2, k3, k4, k5, k6, k7, k8, k9, k10, k11, k12, k13, k14, k15, k16⟩ := h
  repeat (refine ev_s rfl (?_ : Ev _ _ _ _ _ _))
  rw [k5]
  cases op with
  | nil =>
    refine ev_ifT rfl (show nI ([] : List (Nat × Nat)).length ≤ 0 by decide) ?_
    repeat (refine ev_s rfl (?_ : Ev _ _ _ _ _ _))
    cases wh with
    | none =>
      rw [show M.1 24 11 = 0 from k16]
      refine ev_ifT rfl (show (0 : Int32) = 0 from rfl) ?_
      repeat (refine ev_s rfl (?_ : Ev _ _ _ _ _ _))
      exact ev_reti rfl rfl trivial rfl hq
    | some a =>
      rw [k16.1]
      refine ev_ifF rfl (show ¬ (1 : Int32) = 0 by decide) ?_
      repeat (refine ev_s rfl (?_ : Ev _ _ _ _ _ _))
      exact ev_reti rfl rfl trivial rfl hq
  | cons o r =>
    obtain ⟨s, st⟩ := o
    have el : ((s, st) :: r).length = r.length + 1 := rfl
    rw [el] at k5 k11 ⊢
    refine ev_ifF rfl (nI_nle (by omega) (by omega)) ?_
    repeat (refine ev_s rfl (?_ : Ev _ _ _ _ _ _))
    rw [k5]
    refine ev_icF rfl (nI_nlt (a := 60) (b := r.length + 1) (by omega) (by decide)) ?_
    repeat (refine ev_s rfl (?_ : Ev _ _ _ _ _ _))
    rw [k5]
    repeat (refine ev_s rfl (?_ : Ev _ _ _ _ _ _))
    rw [nI_pred]
    refine ev_iald rfl rfl (vp_in_nI (show r.length < 60 by omega) (by decide)) ?_
    rw [nI_clamp (by omega), k10.1]
    exact ev_reti rfl rfl trivial rfl hq
theorem r_setState {d s st k : Nat} {r : List (Nat × Nat)} (h : RdC l N lim fns M fr ψ H n p ((s, st) :: r) pe wh nm) (hk : 2 ≤ k ∧ k ≤ 6 ∧ (k = 6 → st < pe.length)) {Q : Option (Option Value) → PM → Prop} (hq : ∀ M', RdC l N lim fns M' fr ψ H n p ((k, st) :: r) pe wh nm → Same [25] M M' → Q (some none) M') : SC (d + 1) 71 [.ref 24, .int (nI k)] M Q := by
  refine ⟨qX4_setState, rfl, ⟨Nat.le_of_ble_eq_true rfl, rfl, 24, _, _, rfl, rfl⟩, ?_⟩
  show Ev (BC (d) qX4_setState) Q 0 [some (.ref 24), some (.int (nI k))] [] M
  obtain ⟨k1, k2, k3, k4, k5, k6, k7, k8, k9, k10, k11, k12, k13, k14, k15, k16⟩ := id h
  have el : ((s, st) :: r).length = r.length + 1 := rfl
  rw [el] at k5 k11
  repeat (refine ev_s rfl (?_ : Ev _ _ _ _ _ _))
  rw [k5]
  refine ev_ifF rfl (nI_nle (by omega) (by omega)) ?_
  repeat (refine ev_s rfl (?_ : Ev _ _ _ _ _ _))
  rw [k5]
  refine ev_icF rfl (nI_nlt (a := 60) (b := r.length + 1) (by omega) (by decide)) ?_
  repeat (refine ev_s rfl (?_ : Ev _ _ _ _ _ _))
  rw [k5]
  repeat (refine ev_s rfl (?_ : Ev _ _ _ _ _ _))
  rw [nI_pred]
  refine ev_iast rfl rfl (vp_in_nI (show r.length < 60 by omega) (by decide)) ?_
  rw [nI_clamp (by omega)]
  have hs : Same [25] M (mI M 25 r.length (nI k)) := Same.I
  have e24 := hs 24 (by decide)
  refine ev_retv rfl rfl (hq _ (h.mv (op' := (k, st) :: r) (hs.sub (by decide)) ?_ ?_ ?_ ?_ ?_ ?_ e24.2 ⟨mI_at, ?_, ?_⟩ k11 ⟨⟨hk.1, hk.2.1, k12.1.2.2.1, hk.2.2⟩, k12.2⟩ k13 (Nat.le_refl _) (fun h9 => by cases h9)) hs)
  · rw [e24.1]; exact k5
  · rw [e24.1]; exact k6
  · rw [e24.1]
  · rw [e24.1]
  · rw [e24.1]
  · rw [e24.1]
  · rw [mI_ne (Or.inl (by decide))]; exact k10.2.1
  · exact k10.2.2.congr (fun i hi => ⟨by rw [mI_ne (Or.inr (by omega))], by rw [mI_ne (Or.inl (by decide))]⟩)
theorem r_mayBegin {d : Nat} (h : RdC l N lim fns M fr ψ H n p op pe wh nm) {Q : Option (Option Value) → PM → Prop} (hq : Q (some (some (.int (if rMay op wh then 1 else 0)))) M) : SC (d + 2) 72 [.ref 24] M Q := by
  refine ⟨qX4_mayBegin, rfl, ⟨Nat.le_of_ble_eq_true rfl, rfl, 24, _, _, rfl, rfl⟩, ?_⟩
  show Ev (BC (d + 1) qX4_mayBegin) Q 0 [some (.ref 24), none] [] M
  have hb : rSt op wh ≤ 6 := by
    unfold rSt
    cases op with
    | nil => dsimp only; split <;> omega
    | cons o r => exact h.2.2.2.2.2.2.2.2.2.2.2.1.1.2.1
  have c1 : (nI (rSt op wh) = 1) ↔ rSt op wh = 1 := nI_eq (b := 1) (by omega) (by decide)
  have c6 : (nI (rSt op wh) = 6) ↔ rSt op wh = 6 := nI_eq (b := 6) (by omega) (by decide)
  have no : rMay op wh = false → Ev (BC (d + 1) qX4_mayBegin) Q 20 [some (.ref 24), some (.int (nI (rSt op wh)))] [] M := fun h9 => by
    rw [h9] at hq
    repeat (refine ev_s rfl (?_ : Ev _ _ _ _ _ _))
    exact ev_reti rfl rfl trivial rfl hq
  repeat (refine ev_s rfl (?_ : Ev _ _ _ _ _ _))
  refine ev_cv rfl (as := [.ref 24]) rfl rfl (Nat.le_of_ble_eq_true rfl) ?_
  refine r_state h ?_
  show Ev _ _ _ _ [.int (nI (rSt op wh))] _
  repeat (refine ev_s rfl (?_ : Ev _ _ _ _ _ _))
  refine ev_ic rfl (fun hc => no (by simp [rMay, c1.mp hc])) (fun hc => ?_)
  repeat (refine ev_s rfl (?_ : Ev _ _ _ _ _ _))
  refine ev_ic rfl (fun hc2 => no (by simp [rMay, c6.mp hc2])) (fun hc2 => ?_)
  have e : rMay op wh = true := by
    have n1 : ¬ rSt op wh = 1 := fun h9 => hc (c1.mpr h9)
    have n2 : ¬ rSt op wh = 6 := fun h9 => hc2 (c6.mpr h9)
    simp [rMay, n1, n2]
  rw [e] at hq
  repeat (refine ev_s rfl (?_ : Ev _ _ _ _ _ _))
  exact ev_reti rfl rfl trivial rfl hq
/-- the place goes on -/
theorem RdC.at (h : RdC l N lim fns M fr ψ H n p op pe wh nm) {p' : Nat} (h1 : p ≤ p') (h2 : p' ≤ N) : RdC l N lim fns (mI M 24 7 (nI p')) fr ψ H n p' op pe wh nm := by
  have hs : Same [24] M (mI M 24 7 (nI p')) := Same.I
  obtain ⟨k1, k2, k3, k4, k5, k6, k7, k8, k9, k10, k11, k12, k13, k14, k15, k16⟩ := id h
  refine h.mv (hs.sub (by decide)) ?_ mI_at ?_ ?_ ?_ ?_ rfl (k10.congr (fun i _ => ⟨by rw [mI_ne (Or.inl (by decide))], by rw [mI_ne (Or.inl (by decide))]⟩)) k11 k12 h2 h1 (fun h9 _ => h9)
  · rw [mI_ne (Or.inr (by decide))]; exact k5
  · rw [mI_ne (Or.inr (by decide))]
  · rw [mI_ne (Or.inr (by decide))]
  · rw [mI_ne (Or.inr (by decide))]
  · rw [mI_ne (Or.inr (by decide))]
theorem r_openOne {d k : Nat} (h : RdC l N lim fns M fr ψ H n p op pe wh nm) (hk : 2 ≤ k ∧ k ≤ 3) (hp : p < N) {Q : Option (Option Value) → PM → Prop} (hq : ∀ M', PostR l N lim fns M (rOpen k p op pe wh nm H n) M' → Q (some none) M') : SC (d + 3) 73 [.ref 24, .int (nI k)] M Q := by
  refine ⟨qX4_openOne, rfl, ⟨Nat.le_of_ble_eq_true rfl, rfl, 24, _, _, rfl, rfl⟩, ?_⟩
  show Ev (BC (d + 2) qX4_openOne) Q 0 [some (.ref 24), some (.int (nI k))] [] M
  obtain ⟨k1, k2, k3, k4, k5, k6, k7, k8, k9, k10, k11, k12, k13, k14, k15, k16⟩ := id h
  have h2000 := k3.2.1
  unfold rOpen at hq
  repeat (refine ev_s rfl (?_ : Ev _ _ _ _ _ _))
  refine ev_cv rfl (as := [.ref 24]) rfl rfl (Nat.le_of_ble_eq_true rfl) ?_
  refine r_mayBegin h ?_
  cases hm : rMay op wh with
  | false =>
    rw [hm] at hq
    show Ev _ _ _ _ [.int 0] _
    refine ev_ifF rfl (show ¬ ¬ (0 : Int32) = 0 by decide) ?_
    repeat (refine ev_s rfl (?_ : Ev _ _ _ _ _ _))
    rw [k6]
    refine ev_cv rfl (as := [.ref 24, .int 1, .int (nI p)]) rfl rfl (Nat.le_of_ble_eq_true rfl) ?_
    refine r_fail ?_
    show Ev _ _ _ _ [] _
    repeat (refine ev_s rfl (?_ : Ev _ _ _ _ _ _))
    exact ev_retv rfl rfl (hq _ (h.flt (c := 1) (by decide) (by decide) (by omega)))
  | true =>
    rw [hm] at hq
    simp only [if_true] at hq
    show Ev _ _ _ _ [.int 1] _
    refine ev_ifT rfl (show ¬ (1 : Int32) = 0 by decide) ?_
    repeat (refine ev_s rfl (?_ : Ev _ _ _ _ _ _))
    rw [k5]
    refine ev_ic rfl (fun hc => ?_) (fun hc => ?_)
    · have hlt : op.length < 60 := (nI_ltI (b := 60) (by omega) (by decide)).mp hc
      rw [if_pos hlt] at hq
      repeat (refine ev_s rfl (?_ : Ev _ _ _ _ _ _))
      rw [k5]
      repeat (refine ev_s rfl (?_ : Ev _ _ _ _ _ _))
      refine ev_iast rfl rfl (vp_in_nI hlt (by decide)) ?_
      rw [nI_clamp (by omega)]
      repeat (refine ev_s rfl (?_ : Ev _ _ _ _ _ _))
      have q5 : (mI M 25 op.length (nI k)).1 24 6 = nI op.length := by rw [mI_ne (Or.inl (by decide))]; exact k5
      rw [q5]
      have s1 : Same [25] M (mI M 25 op.length (nI k)) := Same.I
      refine ev_cv rfl (as := [.ref 11]) rfl rfl (Nat.le_of_ble_eq_true rfl) ?_
      refine rowA_size r_pend (k1.2.2.2.2.2.2.1.same s1 (by decide) (by decide)) ?_
      show Ev _ _ _ _ [.int (nI pe.length), .int (nI op.length), .ref 26] _
      refine ev_iast rfl rfl (vp_in_nI hlt (by decide)) ?_
      rw [nI_clamp (by omega)]
      repeat (refine ev_s rfl (?_ : Ev _ _ _ _ _ _))
      have q6 : (mI (mI M 25 op.length (nI k)) 26 op.length (nI pe.length)).1 24 6 = nI op.length := by rw [mI_ne (Or.inl (by decide))]; exact q5
      have q7 : (mI (mI (mI M 25 op.length (nI k)) 26 op.length (nI pe.length)) 24 6 (nI (op.length + 1))).1 24 7 = nI p := by rw [mI_ne (Or.inr (by decide)), mI_ne (Or.inl (by decide)), mI_ne (Or.inl (by decide))]; exact k6
      rw [q6, nI_1, q7, nI_1]
      have hs : Same [24, 25, 26] M (mI (mI (mI (mI M 25 op.length (nI k)) 26 op.length (nI pe.length)) 24 6 (nI (op.length + 1))) 24 7 (nI (p + 1))) := (((Same.I.tr Same.I).tr Same.I).tr Same.I).sub (by decide)
      refine ev_retv rfl rfl (hq _ ⟨hs.sub (by decide), fr, ψ, h.mv (op' := (k, pe.length) :: op) hs ?_ mI_at ?_ ?_ ?_ ?_ rfl ⟨?_, ?_, ?_⟩ (by simp; omega) ⟨⟨hk.1, by omega, Nat.le_refl _, fun h9 => by omega⟩, k12⟩ (by omega) (by omega) (fun h9 h8 => ?_)⟩)
      · rw [mI_ne (Or.inr (by decide)), mI_at]; rfl
      · rw [mI_ne (Or.inr (by decide)), mI_ne (Or.inr (by decide)), mI_ne (Or.inl (by decide)), mI_ne (Or.inl (by decide))]
      · rw [mI_ne (Or.inr (by decide)), mI_ne (Or.inr (by decide)), mI_ne (Or.inl (by decide)), mI_ne (Or.inl (by decide))]
      · rw [mI_ne (Or.inr (by decide)), mI_ne (Or.inr (by decide)), mI_ne (Or.inl (by decide)), mI_ne (Or.inl (by decide))]
      · rw [mI_ne (Or.inr (by decide)), mI_ne (Or.inr (by decide)), mI_ne (Or.inl (by decide)), mI_ne (Or.inl (by decide))]
      · rw [mI_ne (Or.inl (by decide)), mI_ne (Or.inl (by decide)), mI_ne (Or.inl (by decide)), mI_at]
      · rw [mI_ne (Or.inl (by decide)), mI_ne (Or.inl (by decide)), mI_at]
      · refine k10.congr (fun i hi => ⟨?_, ?_⟩)
        · rw [mI_ne (Or.inl (by decide)), mI_ne (Or.inl (by decide)), mI_ne (Or.inl (by decide)), mI_ne (Or.inr (by omega))]
        · rw [mI_ne (Or.inl (by decide)), mI_ne (Or.inl (by decide)), mI_ne (Or.inr (by omega)), mI_ne (Or.inl (by decide))]
      · subst h9
        cases wh with
        | none => cases h8
        | some a => cases hm
    · have hge : ¬ op.length < 60 := fun h9 => hc (nI_lt (b := 60) h9 (by decide))
      rw [if_neg hge] at hq
      repeat (refine ev_s rfl (?_ : Ev _ _ _ _ _ _))
      rw [k6]
      refine ev_cv rfl (as := [.ref 24, .int 4, .int (nI p)]) rfl rfl (Nat.le_of_ble_eq_true rfl) ?_
      refine r_fail ?_
      show Ev _ _ _ _ [] _
      repeat (refine ev_s rfl (?_ : Ev _ _ _ _ _ _))
      exact ev_retv rfl rfl (hq _ (h.flt (c := 4) (by decide) (by decide) (by omega)))
theorem r_readDot {d : Nat} (h : RdC l N lim fns M fr ψ H n p op pe wh nm) (hp : p < N) {Q : Option (Option Value) → PM → Prop} (hq : ∀ M', PostR l N lim fns M (rDot p op pe wh nm H n) M' → Q (some none) M') : SC (d + 2) 74 [.ref 24] M Q := by
  refine ⟨qX4_readDot, rfl, ⟨Nat.le_of_ble_eq_true rfl, rfl, 24, _, _, rfl, rfl⟩, ?_⟩
  show Ev (BC (d + 1) qX4_readDot) Q 0 [some (.ref 24)] [] M
  obtain ⟨k1, k2, k3, k4, k5, k6, k7, k8, k9, k10, k11, k12, k13, k14, k15, k16⟩ := id h
  have h2000 := k3.2.1
  have hb : rSt op wh ≤ 6 := by
    unfold rSt
    cases op with
    | nil => dsimp only; split <;> omega
    | cons o r => exact k12.1.2.1
  repeat (refine ev_s rfl (?_ : Ev _ _ _ _ _ _))
  refine ev_cv rfl (as := [.ref 24]) rfl rfl (Nat.le_of_ble_eq_true rfl) ?_
  refine r_state h ?_
  show Ev _ _ _ _ [.int (nI (rSt op wh))] _
  repeat (refine ev_s rfl (?_ : Ev _ _ _ _ _ _))
  refine ev_ic rfl (fun hc => ?_) (fun hc => ?_)
  · have h4 : rSt op wh = 4 := (nI_eq (b := 4) (by omega) (by decide)).mp hc
    cases op with
    | nil => unfold rSt at h4; dsimp only at h4; split at h4 <;> omega
    | cons o r =>
      obtain ⟨s, st⟩ := o
      have es : s = 4 := h4
      subst es
      repeat (refine ev_s rfl (?_ : Ev _ _ _ _ _ _))
      refine ev_cv rfl (as := [.ref 24, .int (nI 5)]) rfl rfl (Nat.le_of_ble_eq_true rfl) ?_
      refine r_setState h ⟨by decide, by decide, fun h9 => by omega⟩ (fun M1 g1 g2 => ?_)
      show Ev _ _ _ _ [] _
      repeat (refine ev_s rfl (?_ : Ev _ _ _ _ _ _))
      rw [g1.2.2.2.2.2.1, nI_1]
      exact ev_retv rfl rfl (hq _ ⟨(g2.tr Same.I).sub (by decide), fr, ψ, g1.at (by omega) (by omega)⟩)
  · have h4 : ¬ rSt op wh = 4 := fun h9 => hc (by rw [h9]; rfl)
    repeat (refine ev_s rfl (?_ : Ev _ _ _ _ _ _))
    rw [k6]
    refine ev_cv rfl (as := [.ref 24, .int 1, .int (nI p)]) rfl rfl (Nat.le_of_ble_eq_true rfl) ?_
    refine r_fail ?_
    show Ev _ _ _ _ [] _
    refine ev_retv rfl rfl (hq _ ?_)
    have e : rDot p op pe wh nm H n = .inr (1, p, nm, H, n) := by
      unfold rDot
      split
      · exact (h4 rfl).elim
      · rfl
    rw [e]
    exact h.flt (c := 1) (by decide) (by decide) (by omega)
end RD

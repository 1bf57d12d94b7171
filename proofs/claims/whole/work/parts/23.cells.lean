/-! Cells: counting, reaching, taking back. -/
def cntB (f : Nat → Bool) : Nat → Nat
  | 0 => 0
  | n + 1 => cntB f n + (if f n then 1 else 0)
theorem cntB_le (f : Nat → Bool) : ∀ n, cntB f n ≤ n
  | 0 => Nat.le_refl 0
  | n + 1 => by
    have := cntB_le f n
    unfold cntB
    split <;> omega
theorem cntB_congr {f g : Nat → Bool} : ∀ n, (∀ c, c < n → f c = g c) → cntB f n = cntB g n
  | 0, _ => rfl
  | n + 1, h => by
    unfold cntB
    rw [cntB_congr n (fun c hc => h c (by omega)), h n (by omega)]
def upB (f : Nat → Bool) (c : Nat) : Nat → Bool := fun k => if k = c then true else f k
theorem upB_self {f : Nat → Bool} {c : Nat} : upB f c c = true := if_pos rfl
theorem upB_ne {f : Nat → Bool} {c k : Nat} (h : k ≠ c) : upB f c k = f k := if_neg h
theorem upB_of {f : Nat → Bool} {c k : Nat} (h : f k = true) : upB f c k = true := by
  unfold upB
  split
  · rfl
  · exact h
theorem cntB_upB {f : Nat → Bool} {c : Nat} : ∀ n, c < n → f c = false → cntB (upB f c) n = cntB f n + 1
  | 0, h, _ => absurd h (Nat.not_lt_zero _)
  | n + 1, h, hf => by
    by_cases hc : c = n
    · subst hc
      unfold cntB
      rw [cntB_congr (f := upB f c) (g := f) c (fun k hk => upB_ne (by omega)), upB_self, hf]
      simp
    · have ih := cntB_upB n (by omega) hf
      unfold cntB
      rw [ih, upB_ne (fun h9 => hc h9.symm)]
      omega
theorem cntB_free {n : Nat} : ∀ (l : List Nat) (f : Nat → Bool), l.Nodup → (∀ c ∈ l, c < n ∧ f c = false) → cntB f n + l.length ≤ n
  | [], f, _, _ => by simpa using cntB_le f n
  | c :: l, f, hn, h => by
    obtain ⟨h1, h2⟩ := List.nodup_cons.mp hn
    have hc := h c List.mem_cons_self
    have ih := cntB_free l (upB f c) h2 (fun k hk => ⟨(h k (List.mem_cons_of_mem _ hk)).1, by rw [upB_ne (c := c) (k := k) (fun h9 => h1 (by rw [← h9]; exact hk))]; exact (h k (List.mem_cons_of_mem _ hk)).2⟩)
    rw [cntB_upB n hc.1 hc.2] at ih
    simp only [List.length_cons]
    omega
theorem cntB_lt {f : Nat → Bool} {n c : Nat} (hc : c < n) (hf : f c = false) : cntB f n + 1 ≤ n := by
  have := cntB_le (upB f c) n
  rw [cntB_upB n hc hf] at this
  exact this
/-- a code's cell -/
def cix (v : Int64) : Nat := (v - 8589934592).toInt.toNat
theorem isC_ix {v : Int64} (h : isC v) : cix v < 2000 ∧ v - 8589934592 = lN (cix v) ∧ v = 8589934592 + lN (cix v) := by
  have h1 := Int64.le_iff_toInt_le.mp h.1
  have h2 := Int64.lt_iff_toInt_lt.mp h.2
  have e1 : (8589934592 : Int64).toInt = 8589934592 := by decide
  have e2 : (8589936592 : Int64).toInt = 8589936592 := by decide
  rw [e1] at h1
  rw [e2] at h2
  have e3 : (v - 8589934592).toInt = v.toInt - 8589934592 := by
    rw [Int64.toInt_sub, e1]
    exact Int.bmod_eq_of_le (by omega) (by omega)
  have hlt : cix v < 2000 := by unfold cix; omega
  have e4 : v - 8589934592 = lN (cix v) := by
    apply Int64.toInt_inj.mp
    rw [lN_toInt (by omega), e3]
    unfold cix
    omega
  refine ⟨hlt, e4, ?_⟩
  rw [← e4]
  apply Int64.toBitVec_inj.mp
  show v.toBitVec = (8589934592 : Int64).toBitVec + (v.toBitVec - (8589934592 : Int64).toBitVec)
  rw [BitVec.add_comm, BitVec.sub_add_cancel]
theorem isC_iff {v : Int64} : isC v ↔ (0 ≤ v - 8589934592 ∧ v - 8589934592 < 2000) ∨ isC v := ⟨Or.inr, fun h => h.elim (fun h => by
  obtain ⟨h1, h2⟩ := h
  have g1 := Int64.le_iff_toInt_le.mp h1
  have g2 := Int64.lt_iff_toInt_lt.mp h2
  obtain ⟨j, hj, hj2⟩ := pk_lOf (x := v - 8589934592) (Int64.not_lt.mpr h1)
  rw [hj2] at g2
  rw [pk_lT hj] at g2
  have e9 : (2000 : Int64).toInt = 2000 := by decide
  rw [e9] at g2
  have hv : v = lN j + 8589934592 := by
    rw [← hj2]
    apply Int64.toBitVec_inj.mp
    show v.toBitVec = (v.toBitVec - (8589934592 : Int64).toBitVec) + (8589934592 : Int64).toBitVec
    rw [BitVec.sub_add_cancel]
  have e10 : (8589934592 : Int64) = lN 8589934592 := by decide
  rw [hv, e10, lN_add]
  refine ⟨?_, ?_⟩
  · rw [show (8589934592 : Int64) = lN 8589934592 by decide]; exact (pk_lLE (by omega) (by omega)).mpr (by omega)
  · rw [show (8589936592 : Int64) = lN 8589936592 by decide]; exact (pk_lLT (by omega) (by omega)).mpr (by omega)) id⟩
theorem isC_of {v : Int64} (h1 : 0 ≤ v - 8589934592) (h2 : v - 8589934592 < 2000) : isC v := isC_iff.mpr (Or.inl ⟨h1, h2⟩)
theorem isC_nonneg {v : Int64} (h : isC v) : 0 ≤ v - 8589934592 ∧ v - 8589934592 < 2000 := by
  obtain ⟨h1, h2, -⟩ := isC_ix h
  rw [h2]
  refine ⟨?_, ?_⟩
  · rw [show (0 : Int64) = lN 0 from rfl]; exact (pk_lLE (by omega) (by omega)).mpr (by omega)
  · rw [show (2000 : Int64) = lN 2000 from rfl]; exact (pk_lLT (by omega) (by omega)).mpr h1
theorem lN_i32 {n : Nat} : (lN n).toInt32 = nI n := lN_i n
/-- the code of a cell -/
def ofC (c : Nat) : Int64 := 8589934592 + lN c
theorem isC_ofC {c : Nat} (h : c < 2000) : isC (ofC c) ∧ cix (ofC c) = c := by
  have e1 : ofC c = lN (8589934592 + c) := by unfold ofC; rw [show (8589934592 : Int64) = lN 8589934592 by decide, lN_add]
  have hi : isC (ofC c) := by
    rw [e1]
    refine ⟨?_, ?_⟩
    · rw [show (8589934592 : Int64) = lN 8589934592 by decide]; exact (pk_lLE (by omega) (by omega)).mpr (by omega)
    · rw [show (8589936592 : Int64) = lN 8589936592 by decide]; exact (pk_lLT (by omega) (by omega)).mpr (by omega)
  refine ⟨hi, ?_⟩
  have h3 := (isC_ix hi).2.2
  have h4 : lN (8589934592 + c) = lN (8589934592 + cix (ofC c)) := by
    rw [← e1]
    conv => lhs; rw [h3]
    rw [show (8589934592 : Int64) = lN 8589934592 by decide, lN_add]
  have h5 := (isC_ix hi).1
  have := (pk_lEQ (by omega) (by omega)).mp h4
  omega
theorem cell_head {d : Nat} {v : Int64} {M : PM} (hv : isC v) {Q : Option (Option Value) → PM → Prop} (h : Q (some (some (.long (M.2 19 (cix v))))) M) : SC (d + 1) 8 [.ref 17, .long v] M Q := by
  refine ⟨qX1_head, rfl, ⟨Nat.le_of_ble_eq_true rfl, rfl, 17, _, _, rfl, rfl⟩, ?_⟩
  show Ev (BC d qX1_head) Q 0 [some (.ref 17), some (.long v), none, none, none] [] M
  obtain ⟨g1, g2⟩ := isC_nonneg hv
  obtain ⟨g3, g4, -⟩ := isC_ix hv
  repeat (refine ev_s rfl (?_ : Ev _ _ _ _ _ _))
  refine ev_lifF rfl (Int64.not_lt.mpr g1) ?_
  repeat (refine ev_s rfl (?_ : Ev _ _ _ _ _ _))
  refine ev_lifF rfl (Int64.not_le.mpr g2) ?_
  repeat (refine ev_s rfl (?_ : Ev _ _ _ _ _ _))
  rw [g4, lN_i32]
  refine ev_lald rfl rfl (vp_in_nI g3 (by decide)) ?_
  rw [nI_clamp (by omega)]
  repeat (refine ev_s rfl (?_ : Ev _ _ _ _ _ _))
  exact ev_retl rfl rfl h
theorem cell_tail {d : Nat} {v : Int64} {M : PM} (hv : isC v) {Q : Option (Option Value) → PM → Prop} (h : Q (some (some (.long (M.2 20 (cix v))))) M) : SC (d + 1) 9 [.ref 17, .long v] M Q := by
  refine ⟨qX1_tail, rfl, ⟨Nat.le_of_ble_eq_true rfl, rfl, 17, _, _, rfl, rfl⟩, ?_⟩
  show Ev (BC d qX1_tail) Q 0 [some (.ref 17), some (.long v), none, none, none] [] M
  obtain ⟨g1, g2⟩ := isC_nonneg hv
  obtain ⟨g3, g4, -⟩ := isC_ix hv
  repeat (refine ev_s rfl (?_ : Ev _ _ _ _ _ _))
  refine ev_lifF rfl (Int64.not_lt.mpr g1) ?_
  repeat (refine ev_s rfl (?_ : Ev _ _ _ _ _ _))
  refine ev_lifF rfl (Int64.not_le.mpr g2) ?_
  repeat (refine ev_s rfl (?_ : Ev _ _ _ _ _ _))
  rw [g4, lN_i32]
  refine ev_lald rfl rfl (vp_in_nI g3 (by decide)) ?_
  rw [nI_clamp (by omega)]
  repeat (refine ev_s rfl (?_ : Ev _ _ _ _ _ _))
  exact ev_retl rfl rfl h

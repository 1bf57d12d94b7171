/-! Abstract values and memory; the class's memory beside them. -/
/-- a symbol's number, a number, a cell's number (how many were made before it) -/
abbrev AV : Type := Nat ⊕ Int32 ⊕ Nat
abbrev aS (k : Nat) : AV := .inl k
abbrev aN (n : Int32) : AV := .inr (.inl n)
abbrev aC (i : Nat) : AV := .inr (.inr i)
abbrev AHp : Type := Nat → AV × AV
/-- reached from R -/
def AR (H : AHp) (R : AV → Prop) (i : Nat) : Prop := ∀ S : Nat → Prop, (∀ i, R (aC i) → S i) → (∀ i, S i → (∀ j, (H i).1 = aC j → S j) ∧ (∀ j, (H i).2 = aC j → S j)) → S i
noncomputable def acnt (H : AHp) (R : AV → Prop) (n : Nat) : Nat := cntB (fun i => @decide (AR H R i) (Classical.propDecidable _)) n
theorem AR.mono {H : AHp} {R R' : AV → Prop} (h : ∀ v, R v → R' v) {i : Nat} (hi : AR H R i) : AR H R' i := fun S h1 h2 => hi S (fun i hr => h1 i (h _ hr)) h2
theorem acnt_congr {H : AHp} {R R' : AV → Prop} {n : Nat} (h : ∀ i, R (aC i) ↔ R' (aC i)) : acnt H R n = acnt H R' n := by
  have e : ∀ i, AR H R i ↔ AR H R' i := fun i => ⟨fun hi S h1 h2 => hi S (fun i hr => h1 i ((h i).mp hr)) h2, fun hi S h1 h2 => hi S (fun i hr => h1 i ((h i).mpr hr)) h2⟩
  have e2 : AR H R = AR H R' := funext fun i => propext (e i)
  unfold acnt
  rw [e2]
/-- counts over a list -/
theorem cntB_succ (f : Nat → Bool) (n : Nat) : cntB f (n + 1) = cntB f n + (if f n then 1 else 0) := rfl
theorem cntB_filter (f : Nat → Bool) : ∀ n, cntB f n = ((List.range n).filter f).length
  | 0 => rfl
  | n + 1 => by
    rw [List.range_succ, List.filter_append, List.length_append, ← cntB_filter f n, cntB_succ]
    cases hf : f n <;> simp [hf, List.filter]
theorem cntB_inj {f g : Nat → Bool} {n m : Nat} (φ : Nat → Nat) (h1 : ∀ c, c < n → f c = true → φ c < m ∧ g (φ c) = true) (h2 : ∀ c c', c < n → f c = true → c' < n → f c' = true → φ c = φ c' → c = c') (h3 : ∀ i, i < m → g i = true → ∃ c, c < n ∧ f c = true ∧ φ c = i) : cntB f n = cntB g m := by
  rw [cntB_filter, cntB_filter]
  have hp : (((List.range n).filter f).map φ).Perm ((List.range m).filter g) := by
    refine (List.perm_ext_iff_of_nodup ?_ ?_).mpr (fun i => ?_)
    · rw [List.nodup_iff_pairwise_ne, List.pairwise_map]
      refine List.Pairwise.imp_of_mem ?_ (List.Pairwise.filter f List.nodup_range)
      intro a b ha hb hab h9
      rw [List.mem_filter, List.mem_range] at ha hb
      exact hab (h2 a b ha.1 ha.2 hb.1 hb.2 h9)
    · exact List.Pairwise.filter g List.nodup_range
    · rw [List.mem_map, List.mem_filter, List.mem_range]
      constructor
      · rintro ⟨c, hc, rfl⟩
        rw [List.mem_filter, List.mem_range] at hc
        exact h1 c hc.1 hc.2
      · rintro ⟨hi, hg⟩
        obtain ⟨c, k1, k2, k3⟩ := h3 i hi hg
        exact ⟨c, by rw [List.mem_filter, List.mem_range]; exact ⟨k1, k2⟩, k3⟩
  rw [← List.length_map (f := φ)]
  exact hp.length_eq
theorem cntB_mono {f g : Nat → Bool} : ∀ n, (∀ c, c < n → f c = true → g c = true) → cntB f n ≤ cntB g n
  | 0, _ => Nat.le_refl 0
  | n + 1, h => by
    have ih := cntB_mono n (fun c hc => h c (by omega))
    have hn := h n (by omega)
    rw [cntB_succ, cntB_succ]
    cases hf : f n <;> cases hg : g n <;> simp_all <;> omega
/-! the class's codes -/
theorem isC_lN {k : Nat} (h : k < 300) : ¬ isC (lN k) := fun h9 => by
  have := (pk_lLE (a := 8589934592) (b := k) (by decide) (by omega)).mp (by have := h9.1; rw [show (8589934592 : Int64) = lN 8589934592 by decide] at this; exact this)
  omega
theorem ofN_eq (n : Int32) : ofN n = lN (4294967296 + n.toBitVec.toNat) := by
  have hlt : n.toBitVec.toNat < 2 ^ 32 := n.toBitVec.isLt
  have e1 : n.toInt64 &&& 4294967295 = lN n.toBitVec.toNat := by
    apply Int64.toBitVec_inj.mp
    apply BitVec.eq_of_toNat_eq
    show (n.toBitVec.signExtend 64 &&& 4294967295#64).toNat = (BitVec.ofNat 64 n.toBitVec.toNat).toNat
    have e2 : n.toBitVec.signExtend 64 &&& 4294967295#64 = n.toBitVec.setWidth 64 := by
      apply BitVec.eq_of_getLsbD_eq
      intro i hi
      rw [BitVec.getLsbD_and, BitVec.getLsbD_signExtend, BitVec.getLsbD_setWidth]
      have e3 : (4294967295#64).getLsbD i = decide (i < 32) := by
        rw [show (4294967295#64) = BitVec.ofNat 64 (2 ^ 32 - 1) from rfl, BitVec.getLsbD_ofNat, Nat.testBit_two_pow_sub_one]
        simp [hi]
      rw [e3]
      by_cases h32 : i < 32
      · simp [h32, hi]
      · simp [h32]
        exact fun _ => BitVec.getLsbD_of_ge n.toBitVec i (by omega)
    rw [e2, BitVec.toNat_setWidth, BitVec.toNat_ofNat]
  unfold ofN
  rw [e1]
  apply Int64.toBitVec_inj.mp
  apply BitVec.eq_of_toNat_eq
  show (4294967296#64 ||| BitVec.ofNat 64 n.toBitVec.toNat).toNat = (BitVec.ofNat 64 (4294967296 + n.toBitVec.toNat)).toNat
  simp only [BitVec.toNat_or, BitVec.toNat_ofNat]
  rw [Nat.mod_eq_of_lt (show n.toBitVec.toNat < 2 ^ 64 by omega), Nat.mod_eq_of_lt (show 4294967296 + n.toBitVec.toNat < 2 ^ 64 by omega)]
  show 2 ^ 32 ||| n.toBitVec.toNat = 4294967296 + n.toBitVec.toNat
  have := Nat.two_pow_add_eq_or_of_lt (i := 32) (b := n.toBitVec.toNat) hlt 1
  rw [Nat.mul_one] at this
  exact this.symm
theorem isC_ofN (n : Int32) : ¬ isC (ofN n) := fun h9 => by
  have hlt : n.toBitVec.toNat < 2 ^ 32 := n.toBitVec.isLt
  have h1 := h9.1
  rw [ofN_eq, show (8589934592 : Int64) = lN 8589934592 by decide] at h1
  have := (pk_lLE (by decide) (by omega)).mp h1
  omega
theorem isN_ofN (n : Int32) : 4294967296 ≤ ofN n ∧ ofN n < 8589934592 := by
  have hlt : n.toBitVec.toNat < 2 ^ 32 := n.toBitVec.isLt
  rw [ofN_eq, show (4294967296 : Int64) = lN 4294967296 by decide, show (8589934592 : Int64) = lN 8589934592 by decide]
  exact ⟨(pk_lLE (by decide) (by omega)).mpr (by omega), (pk_lLT (by omega) (by decide)).mpr (by omega)⟩
theorem isN_lN {k : Nat} (h : k < 300) : ¬ (4294967296 ≤ lN k ∧ lN k < 8589934592) := fun h9 => by
  have h1 := h9.1
  rw [show (4294967296 : Int64) = lN 4294967296 by decide] at h1
  have := (pk_lLE (by decide) (by omega)).mp h1
  omega
theorem isN_ofC {c : Nat} (h : c < 2000) : ¬ (4294967296 ≤ ofC c ∧ ofC c < 8589934592) := fun h9 => Int64.not_lt.mpr (isC_ofC h).1.1 h9.2
theorem ofN_32 (n : Int32) : (ofN n).toInt32 = n := by
  have hlt : n.toBitVec.toNat < 2 ^ 32 := n.toBitVec.isLt
  rw [ofN_eq, lN_i32]
  apply Int32.toBitVec_inj.mp
  apply BitVec.eq_of_toNat_eq
  show (BitVec.ofNat 32 (4294967296 + n.toBitVec.toNat)).toNat = n.toBitVec.toNat
  rw [BitVec.toNat_ofNat]
  omega
/-- a code's abstract value -/
noncomputable def dv (ψ : Nat → Nat) (v : Int64) : AV := @ite _ (isC v) (Classical.propDecidable _) (aC (ψ (cix v))) (if 4294967296 ≤ v ∧ v < 8589934592 then aN v.toInt32 else aS v.toInt.toNat)
theorem dv_lN {ψ : Nat → Nat} {k : Nat} (h : k < 300) : dv ψ (lN k) = aS k := by
  unfold dv
  rw [if_neg (isC_lN h), if_neg (isN_lN h), lN_toInt (by omega)]
  rfl
theorem dv_ofN {ψ : Nat → Nat} (n : Int32) : dv ψ (ofN n) = aN n := by
  unfold dv
  rw [if_neg (isC_ofN n), if_pos (isN_ofN n), ofN_32]
theorem dv_ofC {ψ : Nat → Nat} {c : Nat} (h : c < 2000) : dv ψ (ofC c) = aC (ψ c) := by
  unfold dv
  rw [if_pos (isC_ofC h).1, (isC_ofC h).2]
/-- a code that stands for something: a symbol, a number, a cell in use -/
def Vd (fr : List Nat) (ns : Nat) (v : Int64) : Prop := (∃ k, k < ns ∧ k < 300 ∧ v = lN k) ∨ (∃ n : Int32, v = ofN n) ∨ ∃ c, c < 2000 ∧ c ∉ fr ∧ v = ofC c
theorem Vd.cell {fr : List Nat} {ns : Nat} {v : Int64} (h : Vd fr ns v) (hc : isC v) : cix v < 2000 ∧ cix v ∉ fr ∧ v = ofC (cix v) := by
  rcases h with ⟨k, -, hk, rfl⟩ | ⟨n, rfl⟩ | ⟨c, h1, h2, rfl⟩
  · exact (isC_lN hk hc).elim
  · exact (isC_ofN n hc).elim
  · rw [(isC_ofC h1).2]; exact ⟨h1, h2, rfl⟩
theorem Vd.ofRC {fr fr' : List Nat} {ns : Nat} {v : Int64} (h : Vd fr ns v) (hk : isC v → cix v ∉ fr') : Vd fr' ns v := by
  rcases h with h1 | h1 | ⟨c, h1, h2, rfl⟩
  · exact Or.inl h1
  · exact Or.inr (Or.inl h1)
  · have := hk (isC_ofC h1).1
    rw [(isC_ofC h1).2] at this
    exact Or.inr (Or.inr ⟨c, h1, this, rfl⟩)
theorem dv_same {fr : List Nat} {ns : Nat} {ψ ψ' : Nat → Nat} {v : Int64} (h : Vd fr ns v) (hk : isC v → ψ' (cix v) = ψ (cix v)) : dv ψ' v = dv ψ v := by
  rcases h with ⟨k, -, hk3, rfl⟩ | ⟨n, rfl⟩ | ⟨c, h1, h2, rfl⟩
  · rw [dv_lN hk3, dv_lN hk3]
  · rw [dv_ofN, dv_ofN]
  · have := hk (isC_ofC h1).1
    rw [(isC_ofC h1).2] at this
    rw [dv_ofC h1, dv_ofC h1, this]
theorem dv_cell {fr : List Nat} {ns : Nat} {ψ : Nat → Nat} {v : Int64} {i : Nat} (h : Vd fr ns v) (e : dv ψ v = aC i) : isC v ∧ ψ (cix v) = i := by
  rcases h with ⟨k, -, hk, rfl⟩ | ⟨n, rfl⟩ | ⟨c, h1, h2, rfl⟩
  · rw [dv_lN hk] at e; cases e
  · rw [dv_ofN] at e; cases e
  · rw [dv_ofC h1] at e; cases e; rw [(isC_ofC h1).2]; exact ⟨(isC_ofC h1).1, rfl⟩
theorem dv_isC {ψ : Nat → Nat} {v : Int64} (h : isC v) : dv ψ v = aC (ψ (cix v)) := by unfold dv; rw [if_pos h]
/-- the class's cells beside the abstract ones -/
def HeapC (M : PM) (fr : List Nat) (ns : Nat) (ψ : Nat → Nat) (H : AHp) (nid : Nat) : Prop :=
  (∀ c, c < 2000 → c ∉ fr → ψ c < nid ∧ Vd fr ns (M.2 19 c) ∧ Vd fr ns (M.2 20 c) ∧ H (ψ c) = (dv ψ (M.2 19 c), dv ψ (M.2 20 c))) ∧ ∀ c c', c < 2000 → c ∉ fr → c' < 2000 → c' ∉ fr → ψ c = ψ c' → c = c'
/-- what is reached there is reached here -/
theorem RC_AR {M : PM} {fr : List Nat} {ns nid : Nat} {ψ : Nat → Nat} {H : AHp} (hH : HeapC M fr ns ψ H nid) {R : Int64 → Prop} {RA : AV → Prop} (hR : ∀ v, R v → isC v → Vd fr ns v ∧ RA (dv ψ v)) {c : Nat} (h : RC (M.2 19) (M.2 20) R c) : c < 2000 ∧ c ∉ fr ∧ AR H RA (ψ c) := by
  refine h (fun c => c < 2000 ∧ c ∉ fr ∧ AR H RA (ψ c)) (fun v hv hc => ?_) (fun c hc => ?_)
  · obtain ⟨g1, g2⟩ := hR v hv hc
    obtain ⟨k1, k2, k3⟩ := g1.cell hc
    refine ⟨k1, k2, fun S h1 _ => h1 _ ?_⟩
    rw [← dv_isC hc]; exact g2
  · obtain ⟨h1, h2, h3⟩ := hc
    obtain ⟨g1, g2, g3, g4⟩ := hH.1 c h1 h2
    refine ⟨fun hcc => ?_, fun hcc => ?_⟩
    · obtain ⟨k1, k2, k3⟩ := g2.cell hcc
      exact ⟨k1, k2, fun S s1 s2 => (s2 _ (h3 S s1 s2)).1 _ (by rw [g4]; exact dv_isC hcc)⟩
    · obtain ⟨k1, k2, k3⟩ := g3.cell hcc
      exact ⟨k1, k2, fun S s1 s2 => (s2 _ (h3 S s1 s2)).2 _ (by rw [g4]; exact dv_isC hcc)⟩
theorem AR_RC {M : PM} {fr : List Nat} {ns nid : Nat} {ψ : Nat → Nat} {H : AHp} (hH : HeapC M fr ns ψ H nid) {R : Int64 → Prop} {RA : AV → Prop} (hR : ∀ i, RA (aC i) → ∃ v, R v ∧ Vd fr ns v ∧ dv ψ v = aC i) {i : Nat} (h : AR H RA i) : ∃ c, c < 2000 ∧ c ∉ fr ∧ ψ c = i ∧ RC (M.2 19) (M.2 20) R c := by
  refine h (fun i => ∃ c, c < 2000 ∧ c ∉ fr ∧ ψ c = i ∧ RC (M.2 19) (M.2 20) R c) (fun i hi => ?_) (fun i hi => ?_)
  · obtain ⟨v, v1, v2, v3⟩ := hR i hi
    obtain ⟨k1, k2⟩ := dv_cell v2 v3
    obtain ⟨k3, k4, -⟩ := v2.cell k1
    exact ⟨cix v, k3, k4, k2, RC.root v1 k1⟩
  · obtain ⟨c, h1, h2, rfl, h4⟩ := hi
    obtain ⟨g1, g2, g3, g4⟩ := hH.1 c h1 h2
    refine ⟨fun j hj => ?_, fun j hj => ?_⟩
    · rw [g4] at hj
      obtain ⟨k1, k2⟩ := dv_cell g2 hj
      obtain ⟨k3, k4, -⟩ := g2.cell k1
      exact ⟨_, k3, k4, k2, h4.hd k1⟩
    · rw [g4] at hj
      obtain ⟨k1, k2⟩ := dv_cell g3 hj
      obtain ⟨k3, k4, -⟩ := g3.cell k1
      exact ⟨_, k3, k4, k2, h4.tl k1⟩
/-- the roots here and there -/
def RootsA (fr : List Nat) (ns : Nat) (ψ : Nat → Nat) (R : Int64 → Prop) (RA : AV → Prop) : Prop := (∀ v, R v → isC v → Vd fr ns v ∧ RA (dv ψ v)) ∧ ∀ i, RA (aC i) → ∃ v, R v ∧ Vd fr ns v ∧ dv ψ v = aC i
theorem cnt_eq {M : PM} {fr : List Nat} {ns nid : Nat} {ψ : Nat → Nat} {H : AHp} (hH : HeapC M fr ns ψ H nid) {R : Int64 → Prop} {RA : AV → Prop} (hR : RootsA fr ns ψ R RA) {X : Nat → Bool} (hX : ∀ c, X c = true ↔ RC (M.2 19) (M.2 20) R c) : cntB X 2000 = acnt H RA nid := by
  unfold acnt
  refine cntB_inj ψ (fun c hc hx => ?_) (fun c c' hc hx hc' hx' e => ?_) (fun i hi hg => ?_)
  · obtain ⟨k1, k2, k3⟩ := RC_AR hH hR.1 ((hX c).mp hx)
    exact ⟨(hH.1 c k1 k2).1, @decide_eq_true _ (Classical.propDecidable _) k3⟩
  · obtain ⟨k1, k2, -⟩ := RC_AR hH hR.1 ((hX c).mp hx)
    obtain ⟨k3, k4, -⟩ := RC_AR hH hR.1 ((hX c').mp hx')
    exact hH.2 c c' k1 k2 k3 k4 e
  · obtain ⟨c, k1, k2, k3, k4⟩ := AR_RC hH hR.2 (@of_decide_eq_true _ (Classical.propDecidable _) hg)
    exact ⟨c, k1, (hX c).mpr k4, k3⟩
/-- never more are reached than are in use -/
theorem cnt_use {M : PM} {fr : List Nat} {ns nid : Nat} {ψ : Nat → Nat} {H : AHp} (hF : FreeIs M fr) (hH : HeapC M fr ns ψ H nid) {R : Int64 → Prop} {RA : AV → Prop} (hR : RootsA fr ns ψ R RA) : acnt H RA nid ≤ 2000 - fr.length := by
  have e1 := cnt_eq hH hR (X := fun c => @decide (RC (M.2 19) (M.2 20) R c) (Classical.propDecidable _)) (fun c => by simp)
  have e2 := cntB_free fr (fun c => @decide (RC (M.2 19) (M.2 20) R c) (Classical.propDecidable _)) hF.2.1 (n := 2000) (fun c hc => ⟨hF.2.2.1 c hc, by
    simp only [decide_eq_false_iff_not]
    exact fun h9 => (RC_AR hH hR.1 h9).2.1 hc⟩)
  omega

/-! Bytes: the tape and the page. -/
def isBytes (b a : Nat) : Prop := ShC[b]? = some (.inl (1, [.inl a, .inr .int])) ∧ ShC[a]? = some (.inr (0, 2000, .byte, [])) ∧ b ≠ a
def BytesIs (M : PM) (b a : Nat) (l : List Nat) : Prop := M.1 b 1 = nI l.length ∧ l.length ≤ 2000 ∧ ∀ i v, l[i]? = some v → v < 256 ∧ M.1 a i = sb_b v
theorem BytesIs.same {M M' : PM} {b a : Nat} {l : List Nat} {ids : List Nat} (h : BytesIs M b a l) (hs : Same ids M M') (h1 : b ∉ ids) (h2 : a ∉ ids) : BytesIs M' b a l :=
  ⟨by rw [(hs b h1).1]; exact h.1, h.2.1, fun i v hv => by rw [(hs a h2).1]; exact h.2.2 i v hv⟩
def bAt (l : List Nat) (k : Int32) : Int32 := if 0 ≤ k then ((l[k.toNatClampNeg]?).map nI).getD (-1) else -1
theorem bAt_nI {l : List Nat} {i : Nat} (hi : i < 2147483648) : bAt l (nI i) = ((l[i]?).map nI).getD (-1) := by
  unfold bAt
  rw [if_pos (nI_pos' hi), nI_clamp hi]
/-- the byte that is kept of a number -/
def oct (x : Int32) : Nat := x.toBitVec.toNat % 256
theorem oct_lt (x : Int32) : oct x < 256 := Nat.mod_lt _ (by decide)
theorem oct_b (x : Int32) : x.toInt8.toInt32 = sb_b (oct x) := by
  unfold sb_b oct
  have : x.toInt8 = (nI (x.toBitVec.toNat % 256)).toInt8 := by
    apply Int8.toBitVec_inj.mp
    apply BitVec.eq_of_toNat_eq
    show (x.toBitVec.signExtend 8).toNat = ((nI (x.toBitVec.toNat % 256)).toBitVec.signExtend 8).toNat
    rw [BitVec.signExtend_eq_setWidth_of_le _ (by decide), BitVec.signExtend_eq_setWidth_of_le _ (by decide), BitVec.toNat_setWidth, BitVec.toNat_setWidth, pk_tn (by omega)]
    omega
  rw [this]
theorem oct_ushr (x s : Int32) (k : Nat) (hs : ((s.toUInt32 &&& Int32.toUInt32 31).toBitVec % 32).toNat = k) : oct ((x.toUInt32 >>> (s.toUInt32 &&& Int32.toUInt32 31)).toInt32) = x.toBitVec.toNat / 2 ^ k % 256 := by
  unfold oct; rw [pk_ushr x s k hs]
theorem bytes_size {d b a : Nat} (hb : isBytes b a) {M : PM} {Q : Option (Option Value) → PM → Prop} (h : Q (some (some (.int (M.1 b 1)))) M) : SC (d + 1) 0 [.ref b] M Q := by
  refine ⟨qX0_size, rfl, ⟨Nat.le_of_ble_eq_true rfl, rfl, b, _, _, rfl, hb.1⟩, ?_⟩
  show Ev (BC d qX0_size) Q 0 [some (.ref b)] [] M
  refine ev_s rfl (?_ : Ev _ _ _ _ _ _)
  refine ev_getI rfl hb.1 rfl ?_
  exact ev_reti rfl rfl trivial rfl h
theorem bytes_at {d b a : Nat} (hb : isBytes b a) {k : Int32} {M : PM} {l : List Nat} (hR : BytesIs M b a l) {Q : Option (Option Value) → PM → Prop} (h : Q (some (some (.int (bAt l k)))) M) : SC (d + 1) 1 [.ref b, .int k] M Q := by
  refine ⟨qX0_at, rfl, ⟨Nat.le_of_ble_eq_true rfl, rfl, b, _, _, rfl, hb.1⟩, ?_⟩
  show Ev (BC d qX0_at) Q 0 [some (.ref b), some (.int k)] [] M
  have hl := hR.2.1
  have hm : bAt l k = -1 → Ev (BC d qX0_at) Q 25 [some (.ref b), some (.int k)] [] M := fun hn => by
    refine ev_s rfl (?_ : Ev _ _ _ _ _ _)
    rw [hn] at h
    exact ev_reti rfl rfl trivial rfl h
  refine ev_s rfl (?_ : Ev _ _ _ _ _ _)
  refine ev_if rfl (fun hc => hm (if_neg (Int32.not_le.mpr hc))) (fun hc => ?_)
  have hc0 : 0 ≤ k := Int32.not_lt.mp hc
  obtain ⟨j, hj, rfl⟩ := nI_of (x := k) hc
  refine ev_s rfl (?_ : Ev _ _ _ _ _ _)
  refine ev_s rfl (?_ : Ev _ _ _ _ _ _)
  refine ev_getI rfl hb.1 rfl ?_
  rw [hR.1]
  refine ev_ic rfl (fun hc2 => hm ?_) (fun hc2 => ?_)
  · have h2 := (nI_leI (by omega) hj).mp hc2
    rw [bAt_nI hj, List.getElem?_eq_none h2]; rfl
  · have h2 : j < l.length := (nI_ltI hj (by omega)).mp (Int32.not_le.mp hc2)
    refine ev_s rfl (?_ : Ev _ _ _ _ _ _)
    refine ev_getR rfl hb.1 rfl ?_
    refine ev_s rfl (?_ : Ev _ _ _ _ _ _)
    refine ev_bald rfl hb.2.1 (vp_in_nI (by omega) (by omega)) ?_
    rw [nI_clamp hj]
    have e1 : l[j]? = some l[j] := List.getElem?_eq_getElem h2
    obtain ⟨g1, g2⟩ := hR.2.2 j _ e1
    rw [g2]
    refine ev_s rfl (?_ : Ev _ _ _ _ _ _)
    refine ev_s rfl (?_ : Ev _ _ _ _ _ _)
    refine ev_s rfl (?_ : Ev _ _ _ _ _ _)
    rw [bAt_nI hj, e1] at h
    have e2 : sb_b l[j] &&& 255 = nI l[j] := (sb_byte _ g1).1
    refine ev_reti rfl rfl trivial rfl ?_
    show Q (some (some (.int (sb_b l[j] &&& 255)))) M
    rw [e2]; exact h
def addB (l : List Nat) (v : Nat) : List Nat := if l.length < 2000 then l ++ [v] else l
theorem bytes_add {d b a : Nat} (hb : isBytes b a) {x : Int32} {M : PM} {l : List Nat} (hR : BytesIs M b a l) {Q : Option (Option Value) → PM → Prop} (h : ∀ M', BytesIs M' b a (addB l (oct x)) → Same [b, a] M M' → Q (some none) M') : SC (d + 1) 2 [.ref b, .int x] M Q := by
  refine ⟨qX0_add, rfl, ⟨Nat.le_of_ble_eq_true rfl, rfl, b, _, _, rfl, hb.1⟩, ?_⟩
  show Ev (BC d qX0_add) Q 0 [some (.ref b), some (.int x)] [] M
  have hl := hR.2.1
  refine ev_s rfl (?_ : Ev _ _ _ _ _ _)
  refine ev_getI rfl hb.1 rfl ?_
  refine ev_s rfl (?_ : Ev _ _ _ _ _ _)
  refine ev_getR rfl hb.1 rfl ?_
  refine ev_alen rfl hb.2.1 ?_
  rw [hR.1]
  refine ev_ic rfl (fun hc => ?_) (fun hc => ?_)
  · have h2 : 2000 ≤ l.length := (nI_leI (a := 2000) (by omega) (by omega)).mp hc
    refine ev_retv rfl rfl (h M ?_ Same.rf)
    unfold addB; rw [if_neg (by omega)]; exact hR
  · have h2 : l.length < 2000 := (nI_ltI (b := 2000) (by omega) (by omega)).mp (Int32.not_le.mp hc)
    refine ev_s rfl (?_ : Ev _ _ _ _ _ _)
    refine ev_getR rfl hb.1 rfl ?_
    refine ev_s rfl (?_ : Ev _ _ _ _ _ _)
    refine ev_getI rfl hb.1 rfl ?_
    rw [hR.1]
    refine ev_s rfl (?_ : Ev _ _ _ _ _ _)
    refine ev_s rfl (?_ : Ev _ _ _ _ _ _)
    refine ev_bast rfl hb.2.1 (vp_in_nI h2 (by omega)) ?_
    rw [nI_clamp (by omega), pk_vb]
    refine ev_s rfl (?_ : Ev _ _ _ _ _ _)
    refine ev_s rfl (?_ : Ev _ _ _ _ _ _)
    refine ev_getI rfl hb.1 rfl ?_
    rw [mI_ne (Or.inl hb.2.2), hR.1]
    refine ev_s rfl (?_ : Ev _ _ _ _ _ _)
    refine ev_s rfl (?_ : Ev _ _ _ _ _ _)
    refine ev_putI rfl hb.1 rfl ?_
    have e1 : addB l (oct x) = l ++ [oct x] := if_pos h2
    rw [e1] at h
    refine ev_retv rfl rfl (h _ ⟨?_, by simp; omega, fun j w hw => ?_⟩ ?_)
    · rw [mI_at, nI_1]; simp
    · rw [mI_ne (Or.inl (Ne.symm hb.2.2))]
      by_cases hj : j = l.length
      · subst hj
        simp at hw
        subst hw
        exact ⟨oct_lt x, by rw [mI_at]; exact oct_b x⟩
      · have hj2 : j < l.length := by
          have := (List.getElem?_eq_some_iff.mp hw).1
          simp at this; omega
        rw [List.getElem?_append_left hj2] at hw
        rw [mI_ne (Or.inr hj)]
        exact hR.2.2 j w hw
    · exact (Same.I.tr Same.I).sub (fun k hk => by simp at hk ⊢; omega)
theorem bytes_clear {d b a : Nat} (hb : isBytes b a) {M : PM} {l : List Nat} (hR : BytesIs M b a l) {Q : Option (Option Value) → PM → Prop} (h : ∀ M', BytesIs M' b a [] → Same [b] M M' → Q (some none) M') : SC (d + 1) 4 [.ref b] M Q := by
  refine ⟨qX0_clear, rfl, ⟨Nat.le_of_ble_eq_true rfl, rfl, b, _, _, rfl, hb.1⟩, ?_⟩
  show Ev (BC d qX0_clear) Q 0 [some (.ref b)] [] M
  refine ev_s rfl (?_ : Ev _ _ _ _ _ _)
  refine ev_s rfl (?_ : Ev _ _ _ _ _ _)
  refine ev_putI rfl hb.1 rfl ?_
  exact ev_retv rfl rfl (h _ ⟨mI_at, by simp, fun j w hw => by simp at hw⟩ Same.I)
def b4 (x : Int32) : List Nat := [x.toBitVec.toNat / 2 ^ 24 % 256, x.toBitVec.toNat / 2 ^ 16 % 256, x.toBitVec.toNat / 2 ^ 8 % 256, x.toBitVec.toNat / 2 ^ 0 % 256]
theorem bytes_addNumber {d b a : Nat} (hb : isBytes b a) {x : Int32} {M : PM} {l : List Nat} (hR : BytesIs M b a l) (hl : l.length + 4 ≤ 2000) {Q : Option (Option Value) → PM → Prop} (h : ∀ M', BytesIs M' b a (l ++ b4 x) → Same [b, a] M M' → Q (some none) M') : SC (d + 2) 3 [.ref b, .int x] M Q := by
  refine ⟨qX0_addNumber, rfl, ⟨Nat.le_of_ble_eq_true rfl, rfl, b, _, _, rfl, hb.1⟩, ?_⟩
  show Ev (BC (d + 1) qX0_addNumber) Q 0 [some (.ref b), some (.int x), none] [] M
  have step : ∀ (s : Int32) (k : Nat) (M1 : PM) (l1 : List Nat), ((s.toUInt32 &&& Int32.toUInt32 31).toBitVec % 32).toNat = k → ¬ s < 0 → BytesIs M1 b a l1 → l1.length < 2000 → Same [b, a] M M1 →
      (∀ M2, BytesIs M2 b a (l1 ++ [x.toBitVec.toNat / 2 ^ k % 256]) → Same [b, a] M M2 → Ev (BC (d + 1) qX0_addNumber) Q 3 [some (.ref b), some (.int x), some (.int (s + -8))] [] M2) →
      Ev (BC (d + 1) qX0_addNumber) Q 3 [some (.ref b), some (.int x), some (.int s)] [] M1 := by
    intro s k M1 l1 hk hs h1 h2 h3 h4
    refine ev_s rfl (?_ : Ev _ _ _ _ _ _)
    refine ev_ifF rfl hs ?_
    repeat (refine ev_s rfl (?_ : Ev _ _ _ _ _ _))
    refine ev_cv rfl (as := [.ref b, .int ((x.toUInt32 >>> (s.toUInt32 &&& Int32.toUInt32 31)).toInt32)]) rfl rfl (Nat.le_of_ble_eq_true rfl) ?_
    refine bytes_add hb h1 (fun M2 g1 g2 => ?_)
    show Ev _ _ _ _ _ _
    refine ev_s rfl (?_ : Ev _ _ _ _ _ _)
    refine ev_s rfl (?_ : Ev _ _ _ _ _ _)
    rw [oct_ushr x s k hk, addB, if_pos h2] at g1
    exact h4 M2 g1 ((h3.tr g2).sub (fun k hk => by simp at hk ⊢; omega))
  refine ev_s rfl (?_ : Ev _ _ _ _ _ _)
  refine ev_s rfl (?_ : Ev _ _ _ _ _ _)
  refine step 24 24 M l (by decide) (by decide) hR (by omega) Same.rf (fun M1 g1 s1 => ?_)
  refine step (24 + -8) 16 M1 _ (by decide) (by decide) g1 (by simp; omega) s1 (fun M2 g2 s2 => ?_)
  refine step (24 + -8 + -8) 8 M2 _ (by decide) (by decide) g2 (by simp; omega) s2 (fun M3 g3 s3 => ?_)
  refine step (24 + -8 + -8 + -8) 0 M3 _ (by decide) (by decide) g3 (by simp; omega) s3 (fun M4 g4 s4 => ?_)
  refine ev_s rfl (?_ : Ev _ _ _ _ _ _)
  refine ev_ifT rfl (show (24 + -8 + -8 + -8 + -8 : Int32) < 0 by decide) ?_
  refine ev_retv rfl rfl (h M4 ?_ s4)
  simpa [b4] using g4

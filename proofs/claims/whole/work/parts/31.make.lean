/-! A new cell, abstractly. -/
def ahUp (H : AHp) (nid : Nat) (a b : AV) : AHp := fun i => if i = nid then (a, b) else H i
def upN (ψ : Nat → Nat) (c nid : Nat) : Nat → Nat := fun k => if k = c then nid else ψ k
theorem upN_self {ψ : Nat → Nat} {c nid : Nat} : upN ψ c nid c = nid := if_pos rfl
theorem upN_ne {ψ : Nat → Nat} {c nid k : Nat} (h : k ≠ c) : upN ψ c nid k = ψ k := if_neg h
def MemC (M : PM) (fr : List Nat) (ns : Nat) (ψ : Nat → Nat) (H : AHp) (nid lim : Nat) : Prop := FreeIs M fr ∧ ReArr M (fun _ => false) ∧ M.1 17 8 = nI lim ∧ lim ≤ 2000 ∧ M.1 17 9 = nI nid ∧ HeapC M fr ns ψ H nid
theorem HeapC.heads {M M' : PM} {fr : List Nat} {ns nid : Nat} {ψ : Nat → Nat} {H : AHp} (h : HeapC M fr ns ψ H nid) (e1 : M'.2 19 = M.2 19) (e2 : M'.2 20 = M.2 20) : HeapC M' fr ns ψ H nid := by
  unfold HeapC
  rw [e1, e2]
  exact h
/-- the cells that are kept -/
theorem HeapC.shrink {M : PM} {fr fr' : List Nat} {ns nid : Nat} {ψ : Nat → Nat} {H : AHp} (h : HeapC M fr ns ψ H nid) {R : Int64 → Prop} {RA : AV → Prop} (hR : RootsA fr ns ψ R RA) (h1 : ∀ k, k < 2000 → k ∉ fr' → RC (M.2 19) (M.2 20) R k) (h2 : ∀ k, RC (M.2 19) (M.2 20) R k → k ∉ fr') : HeapC M fr' ns ψ H nid := by
  have old : ∀ k, k < 2000 → k ∉ fr' → k ∉ fr := fun k hk hk2 => (RC_AR h hR.1 (h1 k hk hk2)).2.1
  refine ⟨fun c hc hcf => ?_, fun c c' hc hcf hc' hcf' => h.2 c c' hc (old c hc hcf) hc' (old c' hc' hcf')⟩
  obtain ⟨g1, g2, g3, g4⟩ := h.1 c hc (old c hc hcf)
  have hrc := h1 c hc hcf
  exact ⟨g1, g2.ofRC (fun h9 => h2 _ (hrc.hd h9)), g3.ofRC (fun h9 => h2 _ (hrc.tl h9)), g4⟩
theorem HeapC.push {M M' : PM} {fr : List Nat} {c ns nid : Nat} {ψ : Nat → Nat} {H : AHp} {hv tv : Int64} (h : HeapC M (fr ++ [c]) ns ψ H nid) (hc : c < 2000) (hcf : c ∉ fr) (hh : Vd (fr ++ [c]) ns hv) (ht : Vd (fr ++ [c]) ns tv) (e1 : M'.2 19 = vp_updL (M.2 19) c hv) (e2 : M'.2 20 = vp_updL (M.2 20) c tv) :
    HeapC M' fr ns (upN ψ c nid) (ahUp H nid (dv ψ hv) (dv ψ tv)) (nid + 1) := by
  have weak : ∀ v, Vd (fr ++ [c]) ns v → Vd fr ns v ∧ dv (upN ψ c nid) v = dv ψ v := fun v hv9 => by
    refine ⟨hv9.ofRC (fun h9 h8 => (hv9.cell h9).2.1 (by simp [h8])), dv_same hv9 (fun h9 => ?_)⟩
    have := (hv9.cell h9).2.1
    exact upN_ne (fun h8 => this (by simp [h8]))
  refine ⟨fun k hk hkf => ?_, fun k k' hk hkf hk' hkf' e => ?_⟩
  · rw [e1, e2]
    by_cases hkc : k = c
    · subst hkc
      rw [upN_self]
      have u1 : vp_updL (M.2 19) k hv k = hv := pk_uLs
      have u2 : vp_updL (M.2 20) k tv k = tv := pk_uLs
      rw [u1, u2]
      refine ⟨by omega, (weak hv hh).1, (weak tv ht).1, ?_⟩
      unfold ahUp
      rw [if_pos rfl, (weak hv hh).2, (weak tv ht).2]
    · have hkf2 : k ∉ fr ++ [c] := by simp [hkf, hkc]
      obtain ⟨g1, g2, g3, g4⟩ := h.1 k hk hkf2
      rw [upN_ne hkc, pk_uLn hkc, pk_uLn hkc]
      refine ⟨by omega, (weak _ g2).1, (weak _ g3).1, ?_⟩
      unfold ahUp
      rw [if_neg (by omega), (weak _ g2).2, (weak _ g3).2]
      exact g4
  · have lt : ∀ k, k < 2000 → k ∉ fr → k ≠ c → ψ k < nid := fun k hk hkf hkc => (h.1 k hk (by simp [hkf, hkc])).1
    by_cases h1 : k = c <;> by_cases h2 : k' = c
    · rw [h1, h2]
    · rw [h1, upN_self, upN_ne h2] at e
      have := lt k' hk' hkf' h2
      omega
    · rw [upN_ne h1, h2, upN_self] at e
      have := lt k hk hkf h1
      omega
    · rw [upN_ne h1, upN_ne h2] at e
      exact h.2 k k' hk (by simp [hkf, h1]) hk' (by simp [hkf', h2]) e
theorem make_abs {d : Nat} {M : PM} {fu pe ha sk : List Int64} {fr : List Nat} {ns nid lim : Nat} {ψ : Nat → Nat} {H : AHp} {hv tv : Int64} {RA : AV → Prop} (hm : MemC M fr ns ψ H nid lim) (hR : RowsIs M fu pe ha sk) (hh : Vd fr ns hv) (ht : Vd fr ns tv) (hRA : RootsA fr ns ψ (RootsC M fu pe ha sk hv tv) RA) {Q : Option (Option Value) → PM → Prop}
    (hok : acnt H RA nid < lim → ∀ M' fr' ψ' c, MemC M' fr' ns ψ' (ahUp H nid (dv ψ hv) (dv ψ tv)) (nid + 1) lim → Vd fr' ns (ofC c) → dv ψ' (ofC c) = aC nid → (∀ k, RC (M.2 19) (M.2 20) (RootsC M fu pe ha sk hv tv) k → k ∉ fr' ∧ ψ' k = ψ k) → Same [17, 19, 20, 21, 22, 23] M M' → Q (some (some (.long (ofC c)))) M')
    (hno : lim ≤ acnt H RA nid → ∀ M' fr', MemC M' fr' ns ψ H nid lim → (∀ k, RC (M.2 19) (M.2 20) (RootsC M fu pe ha sk hv tv) k → k ∉ fr') → Same [17, 21, 22, 23] M M' → Q (some (some (.long (-1)))) M') : SC (d + 3) 10 [.ref 17, .long hv, .long tv] M Q := by
  obtain ⟨m1, m2, m3, m4, m5, m6⟩ := hm
  have hrh : RootsC M fu pe ha sk hv tv hv := Or.inl rfl
  have hrt : RootsC M fu pe ha sk hv tv tv := Or.inr (Or.inl rfl)
  refine cell_make m2 hR m1 m3 m4 (fun M' fr' c f1 f2 f3 f4 f5 f6 f7 => ?_) (fun M' fr' X f1 f2 f3 f4 f5 f6 f7 f8 => ?_)
  · -- the heap with fr' and c free
    have key : acnt H RA nid < lim ∧ HeapC M (fr' ++ [c]) ns ψ H nid ∧ ∀ k, RC (M.2 19) (M.2 20) (RootsC M fu pe ha sk hv tv) k → k ∉ fr' ++ [c] := by
      rcases f2 with ⟨g1, rfl⟩ | ⟨g1, X, g2, g3, g4⟩
      · exact ⟨Nat.lt_of_le_of_lt (cnt_use m1 m6 hRA) g1, m6, fun k hk => (RC_AR m6 hRA.1 hk).2.1⟩
      · have g5 : ∀ k, RC (M.2 19) (M.2 20) (RootsC M fu pe ha sk hv tv) k → k ∉ fr' ++ [c] := fun k hk h9 => by
          have := ((g4 k).mp h9).2
          rw [(g2 k).mpr hk] at this
          cases this
        refine ⟨by rw [← cnt_eq m6 hRA g2]; exact g3, m6.shrink hRA (fun k hk hkf => (g2 k).mp ?_) g5, g5⟩
        cases hx : X k with
        | true => rfl
        | false => exact (hkf ((g4 k).mpr ⟨hk, hx⟩)).elim
    obtain ⟨k1, k2, k3⟩ := key
    have hh2 : Vd (fr' ++ [c]) ns hv := hh.ofRC (fun h9 => k3 _ (RC.root hrh h9))
    have ht2 : Vd (fr' ++ [c]) ns tv := ht.ofRC (fun h9 => k3 _ (RC.root hrt h9))
    refine hok k1 M' fr' (upN ψ c nid) c ⟨f1, f5, by rw [f7.2.2.1]; exact m3, m4, by rw [f7.2.2.2, m5, nI_1], k2.push f3 f4 hh2 ht2 f7.1 f7.2.1⟩ (Or.inr (Or.inr ⟨c, f3, f4, rfl⟩)) (by rw [dv_ofC f3, upN_self]) (fun k hk => ?_) f6
    have := k3 k hk
    exact ⟨fun h9 => this (by simp [h9]), upN_ne (fun h9 => this (by simp [h9]))⟩
  · have g5 : ∀ k, RC (M.2 19) (M.2 20) (RootsC M fu pe ha sk hv tv) k → k ∉ fr' := fun k hk h9 => by
      have := ((f5 k).mp h9).2
      rw [(f3 k).mpr hk] at this
      cases this
    refine hno (by rw [← cnt_eq m6 hRA f3]; exact f4) M' fr' ⟨f1, f6, by rw [f8.1]; exact m3, m4, by rw [f8.2]; exact m5, ?_⟩ g5 f7
    refine (m6.shrink hRA (fun k hk hkf => (f3 k).mp ?_) g5).heads (f7 19 (by decide)).2 (f7 20 (by decide)).2
    cases hx : X k with
    | true => rfl
    | false => exact (hkf ((f5 k).mpr ⟨hk, hx⟩)).elim

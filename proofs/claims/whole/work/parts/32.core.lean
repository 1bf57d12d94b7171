/-! The class's memory with its roots, beside abstract ones. -/
theorem ofN_lN {n : Int32} {k : Nat} (hk : k < 300) : ¬ ofN n = lN k := fun h => isN_lN hk (by rw [← h]; exact isN_ofN n)
theorem ofC_lN {c k : Nat} (hc : c < 2000) (hk : k < 300) : ¬ ofC c = lN k := fun h => isC_lN hk (by rw [← h]; exact (isC_ofC hc).1)
/-- a code and what it stands for -/
def Tv (fr : List Nat) (ψ : Nat → Nat) (ns : Nat) (v : Int64) (a : AV) : Prop := Vd fr ns v ∧ dv ψ v = a
section TV
variable {fr : List Nat} {ψ : Nat → Nat} {ns : Nat} {v w : Int64} {a b : AV}
theorem Tv.view (h : Tv fr ψ ns v a) : (∃ k, k < ns ∧ k < 300 ∧ v = lN k ∧ a = aS k) ∨ (∃ n : Int32, v = ofN n ∧ a = aN n) ∨ ∃ c, c < 2000 ∧ c ∉ fr ∧ v = ofC c ∧ a = aC (ψ c) := by
  obtain ⟨h1, h2⟩ := h
  rcases h1 with ⟨k, k1, k2, rfl⟩ | ⟨n, rfl⟩ | ⟨c, c1, c2, rfl⟩
  · exact Or.inl ⟨k, k1, k2, rfl, by rw [← h2, dv_lN k2]⟩
  · exact Or.inr (Or.inl ⟨n, rfl, by rw [← h2, dv_ofN]⟩)
  · exact Or.inr (Or.inr ⟨c, c1, c2, rfl, by rw [← h2, dv_ofC c1]⟩)
theorem Tv.isS {k : Nat} (h : Tv fr ψ ns v (aS k)) : v = lN k ∧ k < 300 ∧ k < ns := by
  rcases h.view with ⟨j, j1, j2, rfl, e⟩ | ⟨n, rfl, e⟩ | ⟨c, c1, c2, rfl, e⟩ <;> cases e
  exact ⟨rfl, j2, j1⟩
theorem Tv.isN {n : Int32} (h : Tv fr ψ ns v (aN n)) : v = ofN n := by
  rcases h.view with ⟨j, j1, j2, rfl, e⟩ | ⟨n, rfl, e⟩ | ⟨c, c1, c2, rfl, e⟩ <;> cases e
  rfl
theorem Tv.isCl {i : Nat} (h : Tv fr ψ ns v (aC i)) : isC v ∧ ψ (cix v) = i ∧ cix v < 2000 ∧ cix v ∉ fr := by
  rcases h.view with ⟨j, j1, j2, rfl, e⟩ | ⟨n, rfl, e⟩ | ⟨c, c1, c2, rfl, e⟩ <;> cases e
  rw [(isC_ofC c1).2]
  exact ⟨(isC_ofC c1).1, rfl, c1, c2⟩
theorem Tv.cell (h : Tv fr ψ ns v a) (hc : isC v) : a = aC (ψ (cix v)) := by rw [← h.2, dv_isC hc]
theorem Tv.ncell (h : Tv fr ψ ns v a) (hc : ¬ isC v) : ∀ i, a ≠ aC i := fun i e => hc (by subst e; exact h.isCl.1)
/-- the class asks whether it is symbol k -/
theorem Tv.eqS (h : Tv fr ψ ns v a) {k : Nat} (hk : k < 300) : v = lN k ↔ a = aS k := by
  constructor
  · rintro rfl; rw [← h.2, dv_lN hk]
  · rintro rfl; exact h.isS.1
theorem Tv.sym (h : Tv fr ψ ns v a) : (0 ≤ v ∧ v < 300) ↔ ∃ k, a = aS k := by
  rcases h.view with ⟨j, j1, j2, rfl, rfl⟩ | ⟨n, rfl, rfl⟩ | ⟨c, c1, c2, rfl, rfl⟩
  · refine ⟨fun _ => ⟨j, rfl⟩, fun _ => ⟨?_, ?_⟩⟩
    · rw [show (0 : Int64) = lN 0 from rfl]; exact (pk_lLE (by omega) (by omega)).mpr (by omega)
    · rw [show (300 : Int64) = lN 300 from rfl]; exact (pk_lLT (by omega) (by omega)).mpr (by omega)
  · refine ⟨fun h9 => ?_, fun ⟨k, e⟩ => by cases e⟩
    have := (isN_ofN n).1
    exact absurd (Int64.lt_of_lt_of_le h9.2 (Int64.le_trans (by decide) this)) (Int64.lt_irrefl)
  · refine ⟨fun h9 => ?_, fun ⟨k, e⟩ => by cases e⟩
    have := (isC_ofC c1).1.1
    exact absurd (Int64.lt_of_lt_of_le h9.2 (Int64.le_trans (by decide) this)) (Int64.lt_irrefl)
theorem Tv.num (h : Tv fr ψ ns v a) : (4294967296 ≤ v ∧ v < 8589934592) ↔ ∃ n, a = aN n := by
  rcases h.view with ⟨j, j1, j2, rfl, rfl⟩ | ⟨n, rfl, rfl⟩ | ⟨c, c1, c2, rfl, rfl⟩
  · exact ⟨fun h9 => (isN_lN j2 h9).elim, fun ⟨k, e⟩ => by cases e⟩
  · exact ⟨fun _ => ⟨n, rfl⟩, fun _ => isN_ofN n⟩
  · exact ⟨fun h9 => (isN_ofC c1 h9).elim, fun ⟨k, e⟩ => by cases e⟩
theorem Tv.miss (h : Tv fr ψ ns v a) : v ≠ -1 := by
  rcases h.view with ⟨j, j1, j2, rfl, rfl⟩ | ⟨n, rfl, rfl⟩ | ⟨c, c1, c2, rfl, rfl⟩
  · intro e
    have h9 : (0 : Int64) ≤ lN j := by rw [show (0 : Int64) = lN 0 from rfl]; exact (pk_lLE (by omega) (by omega)).mpr (by omega)
    rw [e] at h9
    exact absurd h9 (by decide)
  · intro e
    have h9 := (isN_ofN n).1
    rw [e] at h9
    exact absurd h9 (by decide)
  · intro e
    have h9 := (isC_ofC c1).1.1
    rw [e] at h9
    exact absurd h9 (by decide)
theorem Tv.lN {k : Nat} (h : k < ns) (h3 : k < 300) : Tv fr ψ ns (lN k) (aS k) := ⟨Or.inl ⟨k, h, h3, rfl⟩, dv_lN h3⟩
theorem Tv.ofN {n : Int32} : Tv fr ψ ns (ofN n) (aN n) := ⟨Or.inr (Or.inl ⟨n, rfl⟩), dv_ofN n⟩
theorem Tv.inj {M : PM} {H : AHp} {nid : Nat} (hH : HeapC M fr ns ψ H nid) (h : Tv fr ψ ns v a) (h' : Tv fr ψ ns w b) : v = w ↔ a = b := by
  constructor
  · rintro rfl; rw [← h.2, ← h'.2]
  · rintro rfl
    rcases h.view with ⟨j, j1, j2, rfl, rfl⟩ | ⟨n, rfl, rfl⟩ | ⟨c, c1, c2, rfl, rfl⟩
    · exact h'.isS.1.symm
    · exact h'.isN.symm
    · obtain ⟨g1, g2, g3, g4⟩ := h'.isCl
      have := hH.2 _ _ g3 g4 c1 c2 g2
      rw [(h'.1.cell g1).2.2, this]
end TV
/-- children have smaller numbers -/
def Acy (H : AHp) (nid : Nat) : Prop := ∀ i, i < nid → ∀ j, (H i).1 = aC j ∨ (H i).2 = aC j → j < i
theorem Acy.up {H : AHp} {nid : Nat} {a b : AV} (h : Acy H nid) (ha : ∀ i, a = aC i → i < nid) (hb : ∀ i, b = aC i → i < nid) : Acy (ahUp H nid a b) (nid + 1) := by
  intro i hi j hj
  unfold ahUp at hj
  by_cases e : i = nid
  · rw [if_pos e] at hj
    rcases hj with hj | hj
    · have := ha j hj; omega
    · have := hb j hj; omega
  · rw [if_neg e] at hj
    exact h i (by omega) j hj
theorem ahUp_old {H : AHp} {nid i : Nat} {a b : AV} (h : i < nid) : ahUp H nid a b i = H i := if_neg (by omega)
theorem ahUp_new {H : AHp} {nid : Nat} {a b : AV} : ahUp H nid a b nid = (a, b) := if_pos rfl
/-- a row of codes -/
def RowA (M : PM) (fr : List Nat) (ψ : Nat → Nat) (ns r a n : Nat) (as : List AV) : Prop := ∃ l, RowIs M r a n l ∧ as = l.map (dv ψ) ∧ ∀ v ∈ l, Vd fr ns v
noncomputable def fd (ψ : Nat → Nat) (v : Int64) : Option AV := if v = -1 then none else some (dv ψ v)
def RowF (M : PM) (fr : List Nat) (ψ : Nat → Nat) (ns : Nat) (fns : List (Option AV)) : Prop := ∃ l, RowIs M 9 10 300 l ∧ fns = l.map (fd ψ) ∧ ∀ v ∈ l, v = -1 ∨ Vd fr ns v
theorem RowA.same {M M' : PM} {fr : List Nat} {ψ : Nat → Nat} {ns r a n : Nat} {as : List AV} {ids : List Nat} (h : RowA M fr ψ ns r a n as) (hs : Same ids M M') (h1 : r ∉ ids) (h2 : a ∉ ids) : RowA M' fr ψ ns r a n as := by
  obtain ⟨l, k1, k2, k3⟩ := h
  exact ⟨l, k1.same hs h1 h2, k2, k3⟩
theorem RowF.same {M M' : PM} {fr : List Nat} {ψ : Nat → Nat} {ns : Nat} {fns : List (Option AV)} {ids : List Nat} (h : RowF M fr ψ ns fns) (hs : Same ids M M') (h1 : 9 ∉ ids) (h2 : 10 ∉ ids) : RowF M' fr ψ ns fns := by
  obtain ⟨l, k1, k2, k3⟩ := h
  exact ⟨l, k1.same hs h1 h2, k2, k3⟩
theorem MemC.same {M M' : PM} {fr : List Nat} {ns nid lim : Nat} {ψ : Nat → Nat} {H : AHp} {ids : List Nat} (h : MemC M fr ns ψ H nid lim) (hs : Same ids M M') (hd : ∀ k ∈ [17, 19, 20, 21, 22], k ∉ ids) : MemC M' fr ns ψ H nid lim := by
  obtain ⟨h1, h2, h3, h4, h5, h6⟩ := h
  have e17 := (hs 17 (hd 17 (by decide))).1
  have e21 := (hs 21 (hd 21 (by decide))).1
  have e22 := (hs 22 (hd 22 (by decide))).1
  refine ⟨⟨by rw [e17]; exact h1.1, h1.2.1, h1.2.2.1, fun i c hi => by rw [e22]; exact h1.2.2.2 i c hi⟩, fun c hc => by rw [e21]; exact h2 c hc, by rw [e17]; exact h3, h4, by rw [e17]; exact h5, h6.heads (hs 19 (hd 19 (by decide))).2 (hs 20 (hd 20 (by decide))).2⟩
/-- the class's memory, its roots and the functions -/
def CoreA (M : PM) (fr : List Nat) (ψ : Nat → Nat) (ns lim : Nat) (H : AHp) (nid : Nat) (x e f : AV) (fns : List (Option AV)) (pe ha sk : List AV) : Prop :=
  MemC M fr ns ψ H nid lim ∧ Acy H nid ∧ Tv fr ψ ns (M.2 1 4) x ∧ Tv fr ψ ns (M.2 1 5) e ∧ Tv fr ψ ns (M.2 1 6) f ∧ RowF M fr ψ ns fns ∧ RowA M fr ψ ns 11 12 2000 pe ∧ RowA M fr ψ ns 13 14 10 ha ∧ RowA M fr ψ ns 15 16 2600 sk
abbrev coreIds : List Nat := [1, 9, 10, 11, 12, 13, 14, 15, 16, 17, 19, 20, 21, 22]
theorem CoreA.same {M M' : PM} {fr : List Nat} {ψ : Nat → Nat} {ns lim : Nat} {H : AHp} {nid : Nat} {x e f : AV} {fns : List (Option AV)} {pe ha sk : List AV} {ids : List Nat} (h : CoreA M fr ψ ns lim H nid x e f fns pe ha sk) (hs : Same ids M M') (hd : ∀ k ∈ coreIds, k ∉ ids) : CoreA M' fr ψ ns lim H nid x e f fns pe ha sk := by
  obtain ⟨h1, h2, h3, h4, h5, h6, h7, h8, h9⟩ := h
  have e1 := (hs 1 (hd 1 (by decide))).2
  refine ⟨h1.same hs (fun k hk => hd k (by simp at hk ⊢; omega)), h2, by rw [e1]; exact h3, by rw [e1]; exact h4, by rw [e1]; exact h5, h6.same hs (hd 9 (by decide)) (hd 10 (by decide)), h7.same hs (hd 11 (by decide)) (hd 12 (by decide)), h8.same hs (hd 13 (by decide)) (hd 14 (by decide)), h9.same hs (hd 15 (by decide)) (hd 16 (by decide))⟩
/-- what a new cell's count counts -/
def ARt (fns : List (Option AV)) (rt : List AV) (a b : AV) : AV → Prop := fun v => some v ∈ fns ∨ v ∈ rt ∨ v = a ∨ v = b
abbrev rts (x e f : AV) (pe ha sk : List AV) : List AV := x :: e :: f :: (pe ++ ha ++ sk)
section CORE
variable {M : PM} {fr : List Nat} {ψ : Nat → Nat} {ns lim : Nat} {H : AHp} {nid : Nat} {x e f : AV} {fns : List (Option AV)} {pe ha sk : List AV}
/-- the head and the tail of a cell -/
theorem CoreA.part (h : MemC M fr ns ψ H nid lim) {v : Int64} {i : Nat} (hv : Tv fr ψ ns v (aC i)) : Tv fr ψ ns (M.2 19 (cix v)) (H i).1 ∧ Tv fr ψ ns (M.2 20 (cix v)) (H i).2 ∧ i < nid := by
  obtain ⟨g1, rfl, g3, g4⟩ := hv.isCl
  obtain ⟨k1, k2, k3, k4⟩ := h.2.2.2.2.2.1 _ g3 g4
  rw [k4]
  exact ⟨⟨k2, rfl⟩, ⟨k3, rfl⟩, k1⟩
theorem CoreA.rootsA (h : CoreA M fr ψ ns lim H nid x e f fns pe ha sk) {hv tv : Int64} {a b : AV} (ha' : Tv fr ψ ns hv a) (hb : Tv fr ψ ns tv b) : ∃ fu pe0 ha0 sk0, RowsIs M fu pe0 ha0 sk0 ∧ RootsA fr ns ψ (RootsC M fu pe0 ha0 sk0 hv tv) (ARt fns (rts x e f pe ha sk) a b) := by
  obtain ⟨h1, h2, h3, h4, h5, ⟨lf, f1, f2, f3⟩, ⟨lp, p1, p2, p3⟩, ⟨lh, q1, q2, q3⟩, ⟨ls, s1, s2, s3⟩⟩ := h
  refine ⟨lf, lp, lh, ls, ⟨f1, p1, q1, s1⟩, fun v hv hc => ?_, fun i hi => ?_⟩
  · unfold ARt
    rcases hv with rfl | rfl | rfl | rfl | rfl | hv | hv | hv | hv
    · exact ⟨ha'.1, Or.inr (Or.inr (Or.inl ha'.2))⟩
    · exact ⟨hb.1, Or.inr (Or.inr (Or.inr hb.2))⟩
    · exact ⟨h3.1, Or.inr (Or.inl (by rw [h3.2]; simp))⟩
    · exact ⟨h4.1, Or.inr (Or.inl (by rw [h4.2]; simp))⟩
    · exact ⟨h5.1, Or.inr (Or.inl (by rw [h5.2]; simp))⟩
    · have hm : v ≠ -1 := fun h9 => by rw [h9] at hc; exact absurd hc.1 (by decide)
      refine ⟨(f3 v hv).resolve_left hm, Or.inl ?_⟩
      rw [f2, List.mem_map]
      exact ⟨v, hv, if_neg hm⟩
    · refine ⟨p3 v hv, Or.inr (Or.inl ?_)⟩
      rw [p2]
      have := List.mem_map_of_mem (f := dv ψ) hv
      simp [this]
    · refine ⟨q3 v hv, Or.inr (Or.inl ?_)⟩
      rw [q2]
      have := List.mem_map_of_mem (f := dv ψ) hv
      simp [this]
    · refine ⟨s3 v hv, Or.inr (Or.inl ?_)⟩
      rw [s2]
      have := List.mem_map_of_mem (f := dv ψ) hv
      simp [this]
  · unfold ARt at hi
    rcases hi with hi | hi | hi | hi
    · rw [f2, List.mem_map] at hi
      obtain ⟨v, v1, v2⟩ := hi
      unfold fd at v2
      split at v2
      · cases v2
      · rename_i hm
        exact ⟨v, Or.inr (Or.inr (Or.inr (Or.inr (Or.inr (Or.inl v1))))), (f3 v v1).resolve_left hm, Option.some.inj v2⟩
    · simp only [rts, List.mem_cons, List.mem_append] at hi
      rcases hi with hi | hi | hi | (hi | hi) | hi
      · exact ⟨_, Or.inr (Or.inr (Or.inl rfl)), h3.1, by rw [h3.2, hi]⟩
      · exact ⟨_, Or.inr (Or.inr (Or.inr (Or.inl rfl))), h4.1, by rw [h4.2, hi]⟩
      · exact ⟨_, Or.inr (Or.inr (Or.inr (Or.inr (Or.inl rfl)))), h5.1, by rw [h5.2, hi]⟩
      · rw [p2, List.mem_map] at hi
        obtain ⟨v, v1, v2⟩ := hi
        exact ⟨v, Or.inr (Or.inr (Or.inr (Or.inr (Or.inr (Or.inr (Or.inl v1)))))), p3 v v1, v2⟩
      · rw [q2, List.mem_map] at hi
        obtain ⟨v, v1, v2⟩ := hi
        exact ⟨v, Or.inr (Or.inr (Or.inr (Or.inr (Or.inr (Or.inr (Or.inr (Or.inl v1))))))), q3 v v1, v2⟩
      · rw [s2, List.mem_map] at hi
        obtain ⟨v, v1, v2⟩ := hi
        exact ⟨v, Or.inr (Or.inr (Or.inr (Or.inr (Or.inr (Or.inr (Or.inr (Or.inr v1))))))), s3 v v1, v2⟩
    · exact ⟨hv, Or.inl rfl, ha'.1, by rw [ha'.2, hi]⟩
    · exact ⟨tv, Or.inr (Or.inl rfl), hb.1, by rw [hb.2, hi]⟩
/-- what is kept when the free cells change -/
def Kept (fr : List Nat) (ψ : Nat → Nat) (ns : Nat) (H : AHp) (RA : AV → Prop) (fr' : List Nat) (ψ' : Nat → Nat) : Prop := ∀ v a, Tv fr ψ ns v a → (∀ i, a = aC i → AR H RA i) → Tv fr' ψ' ns v a
theorem AR.root {H : AHp} {RA : AV → Prop} {i : Nat} (h : RA (aC i)) : AR H RA i := fun _ h1 _ => h1 i h
theorem AR.hd {H : AHp} {RA : AV → Prop} {i j : Nat} (h : AR H RA i) (e : (H i).1 = aC j) : AR H RA j := fun S h1 h2 => (h2 i (h S h1 h2)).1 j e
theorem AR.tl {H : AHp} {RA : AV → Prop} {i j : Nat} (h : AR H RA i) (e : (H i).2 = aC j) : AR H RA j := fun S h1 h2 => (h2 i (h S h1 h2)).2 j e
theorem RowA.kept {M' : PM} {fr' : List Nat} {ψ' : Nat → Nat} {RA : AV → Prop} (hk : Kept fr ψ ns H RA fr' ψ') {r a n : Nat} {as : List AV} {ids : List Nat} (h : RowA M fr ψ ns r a n as) (hA : ∀ v ∈ as, RA v) (hs : Same ids M M') (h1 : r ∉ ids) (h2 : a ∉ ids) : RowA M' fr' ψ' ns r a n as := by
  obtain ⟨l, k1, k2, k3⟩ := h
  have key : ∀ v ∈ l, Tv fr' ψ' ns v (dv ψ v) := fun v hv => hk v _ ⟨k3 v hv, rfl⟩ (fun i e => AR.root (by rw [← e]; exact hA _ (by rw [k2]; exact List.mem_map_of_mem hv)))
  exact ⟨l, k1.same hs h1 h2, by rw [k2]; exact List.map_congr_left (fun v hv => (key v hv).2.symm), fun v hv => (key v hv).1⟩
theorem RowF.kept {M' : PM} {fr' : List Nat} {ψ' : Nat → Nat} {RA : AV → Prop} (hk : Kept fr ψ ns H RA fr' ψ') {ids : List Nat} (h : RowF M fr ψ ns fns) (hA : ∀ v, some v ∈ fns → RA v) (hs : Same ids M M') (h1 : 9 ∉ ids) (h2 : 10 ∉ ids) : RowF M' fr' ψ' ns fns := by
  obtain ⟨l, k1, k2, k3⟩ := h
  have key : ∀ v ∈ l, v ≠ -1 → Tv fr' ψ' ns v (dv ψ v) := fun v hv hm => hk v _ ⟨(k3 v hv).resolve_left hm, rfl⟩ (fun i e => AR.root (by rw [← e]; exact hA _ (by rw [k2, List.mem_map]; exact ⟨v, hv, if_neg hm⟩)))
  refine ⟨l, k1.same hs h1 h2, ?_, fun v hv => ?_⟩
  · rw [k2]
    refine List.map_congr_left (fun v hv => ?_)
    unfold fd
    split
    · rfl
    · rename_i hm
      rw [(key v hv hm).2]
  · by_cases hm : v = -1
    · exact Or.inl hm
    · exact Or.inr (key v hv hm).1
/-- Cells.make with all roots -/
theorem core_make {d : Nat} {hv tv : Int64} {a b : AV} (hC : CoreA M fr ψ ns lim H nid x e f fns pe ha sk) (hh : Tv fr ψ ns hv a) (ht : Tv fr ψ ns tv b) {Q : Option (Option Value) → PM → Prop}
    (hok : acnt H (ARt fns (rts x e f pe ha sk) a b) nid < lim → ∀ M' fr' ψ' v, CoreA M' fr' ψ' ns lim (ahUp H nid a b) (nid + 1) x e f fns pe ha sk → Tv fr' ψ' ns v (aC nid) → Kept fr ψ ns H (ARt fns (rts x e f pe ha sk) a b) fr' ψ' → Same [17, 19, 20, 21, 22, 23] M M' → Q (some (some (.long v))) M')
    (hno : lim ≤ acnt H (ARt fns (rts x e f pe ha sk) a b) nid → ∀ M' fr', CoreA M' fr' ψ ns lim H nid x e f fns pe ha sk → Kept fr ψ ns H (ARt fns (rts x e f pe ha sk) a b) fr' ψ → Same [17, 21, 22, 23] M M' → Q (some (some (.long (-1)))) M') : SC (d + 3) 10 [.ref 17, .long hv, .long tv] M Q := by
  obtain ⟨fu, pe0, ha0, sk0, hR, hRA⟩ := hC.rootsA hh ht
  have hm := hC.1
  have rt : ∀ v a', Tv fr ψ ns v a' → (∀ i, a' = aC i → AR H (ARt fns (rts x e f pe ha sk) a b) i) → isC v → RC (M.2 19) (M.2 20) (RootsC M fu pe0 ha0 sk0 hv tv) (cix v) := by
    intro v a' hv9 hA hc
    obtain ⟨c, c1, c2, c3, c4⟩ := AR_RC hm.2.2.2.2.2 hRA.2 (hA _ (hv9.cell hc))
    obtain ⟨k1, k2, -⟩ := hv9.1.cell hc
    have := hm.2.2.2.2.2.2 _ _ c1 c2 k1 k2 c3
    rw [← this]; exact c4
  have fin : ∀ (M' : PM) (fr' : List Nat) (ψ' : Nat → Nat) (H' : AHp) (nid' : Nat) (ids : List Nat), Kept fr ψ ns H (ARt fns (rts x e f pe ha sk) a b) fr' ψ' → Same ids M M' → (∀ k ∈ [1, 9, 10, 11, 12, 13, 14, 15, 16], k ∉ ids) → MemC M' fr' ns ψ' H' nid' lim → Acy H' nid' → CoreA M' fr' ψ' ns lim H' nid' x e f fns pe ha sk := by
    intro M' fr' ψ' H' nid' ids hk hs hd hm' hac
    obtain ⟨h1, h2, h3, h4, h5, h6, h7, h8, h9⟩ := hC
    have e1 := (hs 1 (hd 1 (by decide))).2
    have inR : ∀ w, w ∈ rts x e f pe ha sk → ARt fns (rts x e f pe ha sk) a b w := fun w hw => Or.inr (Or.inl hw)
    refine ⟨hm', hac, ?_, ?_, ?_, RowF.kept hk h6 (fun v hv => Or.inl hv) hs (hd 9 (by decide)) (hd 10 (by decide)), RowA.kept hk h7 (fun v hv => inR v (by simp [hv])) hs (hd 11 (by decide)) (hd 12 (by decide)), RowA.kept hk h8 (fun v hv => inR v (by simp [hv])) hs (hd 13 (by decide)) (hd 14 (by decide)), RowA.kept hk h9 (fun v hv => inR v (by simp [hv])) hs (hd 15 (by decide)) (hd 16 (by decide))⟩
    · rw [e1]; exact hk _ _ h3 (fun i e9 => AR.root (inR _ (by rw [e9]; simp)))
    · rw [e1]; exact hk _ _ h4 (fun i e9 => AR.root (inR _ (by rw [e9]; simp)))
    · rw [e1]; exact hk _ _ h5 (fun i e9 => AR.root (inR _ (by rw [e9]; simp)))
  have small : ∀ v a', Tv fr ψ ns v a' → ∀ i, a' = aC i → i < nid := fun v a' hv9 i e9 => by subst e9; exact (CoreA.part hm hv9).2.2
  refine make_abs hm hR hh.1 ht.1 hRA (fun hlt M' fr' ψ' c m1 m2 m3 m4 m5 => ?_) (fun hge M' fr' m1 m2 m5 => ?_)
  · rw [hh.2, ht.2] at m1
    have hk : Kept fr ψ ns H (ARt fns (rts x e f pe ha sk) a b) fr' ψ' := fun v a' hv9 hA => by
      have h8 := rt v a' hv9 hA
      exact ⟨hv9.1.ofRC (fun hc => (m4 _ (h8 hc)).1), by rw [← hv9.2]; exact dv_same hv9.1 (fun hc => (m4 _ (h8 hc)).2)⟩
    exact hok hlt M' fr' ψ' (ofC c) (fin M' fr' ψ' _ _ _ hk m5 (by decide) m1 (hC.2.1.up (small _ _ hh) (small _ _ ht))) ⟨m2, m3⟩ hk m5
  · have hk : Kept fr ψ ns H (ARt fns (rts x e f pe ha sk) a b) fr' ψ := fun v a' hv9 hA => by
      have h8 := rt v a' hv9 hA
      exact ⟨hv9.1.ofRC (fun hc => m2 _ (h8 hc)), hv9.2⟩
    exact hno hge M' fr' (fin M' fr' ψ _ _ _ hk m5 (by decide) m1 hC.2.1) hk m5
end CORE

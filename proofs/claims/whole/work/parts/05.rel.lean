/-! The pure machine's world and locals beside the real ones. -/
theorem up2_ne {α : Type} {f : Nat → Nat → α} {k j : Nat} {v : α} {i : Nat} (h : i ≠ k) : up2 f k j v i = f i := by
  funext b; simp [up2, h]
theorem up2_eqI {f : Nat → Nat → Int32} {k j : Nat} {v : Int32} : up2 f k j v k = upd (f k) j v := by
  funext b; simp [up2, upd]
theorem up2_eqJ {f : Nat → Nat → Int64} {k j : Nat} {v : Int64} : up2 f k j v k = vp_updL (f k) j v := by
  funext b; simp [up2, vp_updL]
theorem p_w_get {ρ : Nat → Nat} {cA : Nat → ClassId} {Sh : List PSh} {M : PM} {k : Nat} {sh : PSh} (hk : Sh[k]? = some sh) : (p_w ρ cA Sh M)[k]? = some (ρ k, p_cell ρ cA M k sh) := by
  unfold p_w
  rw [List.getElem?_mapIdx, hk]; rfl
theorem p_w_inv {ρ : Nat → Nat} {cA : Nat → ClassId} {Sh : List PSh} {M : PM} {k : Nat} {q : Nat × va_E} (h : (p_w ρ cA Sh M)[k]? = some q) : ∃ sh, Sh[k]? = some sh ∧ q = (ρ k, p_cell ρ cA M k sh) := by
  unfold p_w at h
  rw [List.getElem?_mapIdx] at h
  cases hs : Sh[k]? with
  | none => rw [hs] at h; cases h
  | some sh => rw [hs] at h; exact ⟨sh, rfl, (Option.some.inj h).symm⟩
theorem p_cell_row {ρ : Nat → Nat} {cA : Nat → ClassId} {M M' : PM} {k : Nat} (h1 : M'.1 k = M.1 k) (h2 : M'.2 k = M.2 k) (sh : PSh) : p_cell ρ cA M' k sh = p_cell ρ cA M k sh := by
  have hf : p_fv ρ M' k = p_fv ρ M k := by
    funext j f
    unfold p_fv
    split
    · rfl
    · rw [h2]
    · rw [h1]
  unfold p_cell
  split
  · rw [hf]
  · rw [h1, h2]
theorem p_w_set {ρ : Nat → Nat} {cA : Nat → ClassId} {Sh : List PSh} {M M' : PM} {k : Nat} {sh : PSh} {e : va_E} (hk : Sh[k]? = some sh) (hr : ∀ i, i ≠ k → M'.1 i = M.1 i ∧ M'.2 i = M.2 i) (he : p_cell ρ cA M' k sh = e) : (p_w ρ cA Sh M).set k (ρ k, e) = p_w ρ cA Sh M' := by
  apply List.ext_getElem?
  intro i
  by_cases hi : i = k
  · subst hi
    rw [List.getElem?_set_self (by rw [p_w, List.length_mapIdx]; exact (List.getElem?_eq_some_iff.mp hk).1), p_w_get hk, he]
  · rw [List.getElem?_set_ne (Ne.symm hi)]
    unfold p_w
    rw [List.getElem?_mapIdx, List.getElem?_mapIdx]
    cases Sh[i]? with
    | none => rfl
    | some sh' => exact congrArg some (congrArg (Prod.mk (ρ i)) (p_cell_row (hr i hi).1 (hr i hi).2 sh').symm)
theorem p_fs_set {ρ : Nat → Nat} {M M' : PM} {k j : Nat} {fs : List (Nat ⊕ FieldType)} {f : Nat ⊕ FieldType} {v : Value} (hj : fs[j]? = some f) (hv : p_fv ρ M' k j f = v) (ho : ∀ b, b ≠ j → M'.1 k b = M.1 k b ∧ M'.2 k b = M.2 k b) : (fs.mapIdx (p_fv ρ M k)).set j v = fs.mapIdx (p_fv ρ M' k) := by
  apply List.ext_getElem?
  intro b
  by_cases hb : b = j
  · subst hb
    rw [List.getElem?_set_self (by rw [List.length_mapIdx]; exact (List.getElem?_eq_some_iff.mp hj).1), List.getElem?_mapIdx, hj]
    exact congrArg some hv.symm
  · rw [List.getElem?_set_ne (Ne.symm hb), List.getElem?_mapIdx, List.getElem?_mapIdx]
    cases fs[b]? with
    | none => rfl
    | some g =>
      refine congrArg some ?_
      unfold p_fv
      split
      · rfl
      · rw [(ho b hb).2]
      · rw [(ho b hb).1]
theorem p_w_putI {ρ : Nat → Nat} {cA : Nat → ClassId} {Sh : List PSh} {M : PM} {k j ci : Nat} {fs : List (Nat ⊕ FieldType)} {ty : FieldType} {x : Int32} (hk : Sh[k]? = some (.inl (ci, fs))) (hj : fs[j]? = some (.inr ty)) (ht : p_small ty) :
    (p_w ρ cA Sh M).set k (ρ k, .inr (ci, (fs.mapIdx (p_fv ρ M k)).set j (.int x))) = p_w ρ cA Sh (mI M k j x) := by
  refine p_w_set hk (fun i hi => ⟨up2_ne hi, rfl⟩) ?_
  show (Sum.inr (ci, fs.mapIdx (p_fv ρ (mI M k j x) k)) : va_E) = _
  rw [p_fs_set (ρ := ρ) (M := M) (M' := mI M k j x) (k := k) (v := .int x) hj (by cases ty <;> first | exact ht.elim | simp [p_fv, mI, up2]) (fun b hb => ⟨by simp [mI, up2, hb], rfl⟩)]
theorem p_w_putJ {ρ : Nat → Nat} {cA : Nat → ClassId} {Sh : List PSh} {M : PM} {k j ci : Nat} {fs : List (Nat ⊕ FieldType)} {x : Int64} (hk : Sh[k]? = some (.inl (ci, fs))) (hj : fs[j]? = some (.inr .long)) :
    (p_w ρ cA Sh M).set k (ρ k, .inr (ci, (fs.mapIdx (p_fv ρ M k)).set j (.long x))) = p_w ρ cA Sh (mJ M k j x) := by
  refine p_w_set hk (fun i hi => ⟨rfl, up2_ne hi⟩) ?_
  show (Sum.inr (ci, fs.mapIdx (p_fv ρ (mJ M k j x) k)) : va_E) = _
  rw [p_fs_set (ρ := ρ) (M := M) (M' := mJ M k j x) (k := k) (v := .long x) hj (by simp [p_fv, mJ, up2]) (fun b hb => ⟨rfl, by simp [mJ, up2, hb]⟩)]
theorem p_w_arrI {ρ : Nat → Nat} {cA : Nat → ClassId} {Sh : List PSh} {M : PM} {k j t n : Nat} {ty : FieldType} {rs : List Nat} {x : Int32} (hk : Sh[k]? = some (.inr (t, n, ty, rs))) (ht : ty = .int ∨ ty = .byte ∨ ty = .boolean) :
    (p_w ρ cA Sh M).set k (ρ k, .inl (cA t, n, .inl (upd (M.1 k) j x))) = p_w ρ cA Sh (mI M k j x) := by
  refine p_w_set hk (fun i hi => ⟨up2_ne hi, rfl⟩) ?_
  rcases ht with rfl | rfl | rfl <;> (show (Sum.inl (cA t, n, Sum.inl ((mI M k j x).1 k)) : va_E) = _; rw [show (mI M k j x).1 k = upd (M.1 k) j x from up2_eqI])
theorem p_w_arrJ {ρ : Nat → Nat} {cA : Nat → ClassId} {Sh : List PSh} {M : PM} {k j t n : Nat} {rs : List Nat} {x : Int64} (hk : Sh[k]? = some (.inr (t, n, .long, rs))) :
    (p_w ρ cA Sh M).set k (ρ k, .inl (cA t, n, .inr (.inl (vp_updL (M.2 k) j x)))) = p_w ρ cA Sh (mJ M k j x) := by
  refine p_w_set hk (fun i hi => ⟨rfl, up2_ne hi⟩) ?_
  show (Sum.inl (cA t, n, Sum.inr (Sum.inl ((mJ M k j x).2 k))) : va_E) = _
  rw [show (mJ M k j x).2 k = vp_updL (M.2 k) j x from up2_eqJ]
/-! locals -/
def lvl (ρ : Nat → Nat) (L : List (Option Value)) : List (Nat × Value) := (List.range L.length).filterMap (fun i => match L[i]? with
  | some (some v) => some (i, rv ρ v)
  | _ => none)
theorem lvl_mem {ρ : Nat → Nat} {L : List (Option Value)} {j : Nat} {w : Value} : (j, w) ∈ lvl ρ L ↔ ∃ v, L[j]? = some (some v) ∧ w = rv ρ v := by
  unfold lvl
  rw [List.mem_filterMap]
  constructor
  · rintro ⟨i, -, hi⟩
    split at hi
    · rename_i v hv
      cases hi
      exact ⟨v, hv, rfl⟩
    · cases hi
  · rintro ⟨v, hv, rfl⟩
    exact ⟨j, List.mem_range.mpr (List.getElem?_eq_some_iff.mp hv).1, by rw [hv]⟩
def p_Lr (ρ : Nat → Nat) (nL : Nat) (L : List (Option Value)) (ls : Array Slot) : Prop := L.length = nL ∧ lv_has ls nL (lvl ρ L)
theorem p_Lr.at {ρ : Nat → Nat} {nL : Nat} {L : List (Option Value)} {ls : Array Slot} (h : p_Lr ρ nL L ls) {i : Nat} {v : Value} (hi : L[i]? = some (some v)) : ls[i]? = some (.val (rv ρ v)) := h.2.2.2 (i, rv ρ v) (lvl_mem.mpr ⟨v, hi, rfl⟩)
theorem st1_len : ∀ (L : List (Option Value)) (i : Nat) (v : Option Value), (st1 L i v).length = L.length
  | [], _, _ => rfl
  | _ :: _, 0, _ => rfl
  | _ :: t, 1, _ => by cases t <;> rfl
  | _ :: t, n + 2, v => by simp [st1, st1_len t (n + 1) v]
theorem st1_get : ∀ (L : List (Option Value)) (i : Nat) (v : Option Value) (j : Nat), i < L.length → (st1 L i v)[j]? = if j = i then some v else if j + 1 = i then (L[j]?).map p_cut else L[j]?
  | [], _, _, _, h => absurd h (Nat.not_lt_zero _)
  | a :: t, 0, v, j, _ => by cases j <;> simp [st1]
  | a :: t, 1, v, j, h => by
    cases t with
    | nil => simp at h
    | cons b t' => rcases j with _ | _ | j <;> simp [st1]
  | a :: t, n + 2, v, j, h => by
    cases j with
    | zero => simp [st1]
    | succ j =>
      have := st1_get t (n + 1) v j (by simp only [List.length_cons] at h; omega)
      simp only [st1, List.getElem?_cons_succ, this]
      simp
theorem st2_len : ∀ (L : List (Option Value)) (i : Nat) (v : Option Value), (st2 L i v).length = L.length
  | [], _, _ => rfl
  | _ :: t, 0, _ => by cases t <;> rfl
  | _ :: t, 1, _ => by rcases t with _ | ⟨_, _ | ⟨_, _⟩⟩ <;> rfl
  | _ :: t, n + 2, v => by simp [st2, st2_len t (n + 1) v]
theorem st2_get : ∀ (L : List (Option Value)) (i : Nat) (v : Option Value) (j : Nat), i + 1 < L.length → (st2 L i v)[j]? = if j = i then some v else if j = i + 1 then some none else if j + 1 = i then (L[j]?).map p_cut else L[j]?
  | [], _, _, _, h => absurd h (Nat.not_lt_zero _)
  | a :: t, 0, v, j, h => by
    cases t with
    | nil => simp at h
    | cons b t' => rcases j with _ | _ | j <;> simp [st2]
  | a :: t, 1, v, j, h => by
    rcases t with _ | ⟨b, _ | ⟨b', t'⟩⟩
    · simp at h
    · simp at h
    · rcases j with _ | _ | _ | j <;> simp [st2]
  | a :: t, n + 2, v, j, h => by
    cases j with
    | zero => simp [st2]
    | succ j =>
      have := st2_get t (n + 1) v j (by simp only [List.length_cons] at h; omega)
      simp only [st2, List.getElem?_cons_succ, this]
      simp
theorem rv_cat (ρ : Nat → Nat) (v : Value) : (rv ρ v).category = v.category := by cases v <;> rfl
theorem p_cut_some {a : Option Value} {v : Value} (h : p_cut a = some v) : a = some v ∧ v.category = 1 := by
  cases a with
  | none => cases h
  | some w => cases w <;> first | (cases h; exact ⟨rfl, rfl⟩) | cases h
/-- the locals behind a store of one place: any value that the place may have got -/
theorem p_Lr.set1 {ρ : Nat → Nat} {nL : Nat} {L : List (Option Value)} {ls ls' : Array Slot} (h : p_Lr ρ nL L ls) {i : Nat} (hi : i < nL) {x : Value} {v : Option Value} (hx : ∀ w, v = some w → rv ρ w = x) (h' : lv_has ls' nL ((i, x) :: (lvl ρ L).filter (fun q => !(q.1 == i) && !(q.1 + 1 == i && q.2.category == 2)))) : p_Lr ρ nL (st1 L i v) ls' := by
  have hiL : i < L.length := by rw [h.1]; exact hi
  refine ⟨by rw [st1_len]; exact h.1, h'.1, h'.2.1, fun q hq => ?_⟩
  obtain ⟨j, w⟩ := q
  obtain ⟨u, hu, rfl⟩ := lvl_mem.mp hq
  rw [st1_get L i v j hiL] at hu
  by_cases hj : j = i
  · subst hj
    rw [if_pos rfl] at hu
    have := hx u (Option.some.inj hu)
    show ls'[j]? = some (.val (rv ρ u))
    rw [this]
    exact h'.2.2 (j, x) List.mem_cons_self
  · rw [if_neg hj] at hu
    refine h'.2.2 (j, rv ρ u) (List.mem_cons_of_mem _ (List.mem_filter.mpr ?_))
    by_cases hj1 : j + 1 = i
    · rw [if_pos hj1] at hu
      cases hLj : L[j]? with
      | none => rw [hLj] at hu; cases hu
      | some a =>
        rw [hLj] at hu
        obtain ⟨ha, hc⟩ := p_cut_some (Option.some.inj hu)
        subst ha
        exact ⟨lvl_mem.mpr ⟨u, hLj, rfl⟩, by simp [hj, rv_cat, hc]⟩
    · rw [if_neg hj1] at hu
      exact ⟨lvl_mem.mpr ⟨u, hu, rfl⟩, by simp [hj, hj1]⟩
theorem p_Lr.set2 {ρ : Nat → Nat} {nL : Nat} {L : List (Option Value)} {ls ls' : Array Slot} (h : p_Lr ρ nL L ls) {i : Nat} (hi : i + 1 < nL) {x : Value} {v : Option Value} (hx : ∀ w, v = some w → rv ρ w = x) (h' : lv_has ls' nL ((i, x) :: (lvl ρ L).filter (fun q => !(q.1 == i) && (!(q.1 == i + 1) && !(q.1 + 1 == i && q.2.category == 2))))) : p_Lr ρ nL (st2 L i v) ls' := by
  have hiL : i + 1 < L.length := by rw [h.1]; exact hi
  refine ⟨by rw [st2_len]; exact h.1, h'.1, h'.2.1, fun q hq => ?_⟩
  obtain ⟨j, w⟩ := q
  obtain ⟨u, hu, rfl⟩ := lvl_mem.mp hq
  rw [st2_get L i v j hiL] at hu
  by_cases hj : j = i
  · subst hj
    rw [if_pos rfl] at hu
    have := hx u (Option.some.inj hu)
    show ls'[j]? = some (.val (rv ρ u))
    rw [this]
    exact h'.2.2 (j, x) List.mem_cons_self
  · rw [if_neg hj] at hu
    by_cases hj2 : j = i + 1
    · rw [if_pos hj2] at hu; cases hu
    · rw [if_neg hj2] at hu
      refine h'.2.2 (j, rv ρ u) (List.mem_cons_of_mem _ (List.mem_filter.mpr ?_))
      by_cases hj1 : j + 1 = i
      · rw [if_pos hj1] at hu
        cases hLj : L[j]? with
        | none => rw [hLj] at hu; cases hu
        | some a =>
          rw [hLj] at hu
          obtain ⟨ha, hc⟩ := p_cut_some (Option.some.inj hu)
          subst ha
          exact ⟨lvl_mem.mpr ⟨u, hLj, rfl⟩, by simp [hj, hj2, rv_cat, hc]⟩
      · rw [if_neg hj1] at hu
        exact ⟨lvl_mem.mpr ⟨u, hu, rfl⟩, by simp [hj, hj1, hj2]⟩
/-! what the readers of the stack say -/
theorem p_ld_e {L : List (Option Value)} {i : Nat} {k : Value → Prop} (h : p_ld L i k) : ∃ v, L[i]? = some (some v) ∧ k v := by
  unfold p_ld at h
  split at h
  · rename_i v hv; exact ⟨v, hv, h⟩
  · exact h.elim
theorem p_isI_e {v : Value} {k : Int32 → Prop} (h : p_isI v k) : ∃ x, v = .int x ∧ k x := by cases v <;> first | exact ⟨_, rfl, h⟩ | exact h.elim
theorem p_isJ_e {v : Value} {k : Int64 → Prop} (h : p_isJ v k) : ∃ x, v = .long x ∧ k x := by cases v <;> first | exact ⟨_, rfl, h⟩ | exact h.elim
theorem p_isR_e {v : Value} {k : Nat → Prop} (h : p_isR v k) : ∃ x, v = .ref x ∧ k x := by cases v <;> first | exact ⟨_, rfl, h⟩ | exact h.elim
theorem p_pop_e {st : List Value} {k : Value → List Value → Prop} (h : p_pop st k) : ∃ v r, st = v :: r ∧ k v r := by
  cases st with
  | nil => exact h.elim
  | cons v r => exact ⟨v, r, rfl, h⟩
theorem p_popI_e {st : List Value} {k : Int32 → List Value → Prop} (h : p_popI st k) : ∃ x r, st = .int x :: r ∧ k x r := by
  cases st with
  | nil => exact h.elim
  | cons v r => cases v <;> first | exact ⟨_, r, rfl, h⟩ | exact h.elim
theorem p_popJ_e {st : List Value} {k : Int64 → List Value → Prop} (h : p_popJ st k) : ∃ x r, st = .long x :: r ∧ k x r := by
  cases st with
  | nil => exact h.elim
  | cons v r => cases v <;> first | exact ⟨_, r, rfl, h⟩ | exact h.elim
theorem p_popR_e {st : List Value} {k : Nat → List Value → Prop} (h : p_popR st k) : ∃ x r, st = .ref x :: r ∧ k x r := by
  cases st with
  | nil => exact h.elim
  | cons v r => cases v <;> first | exact ⟨_, r, rfl, h⟩ | exact h.elim
theorem p_obj_e {Sh : List PSh} {c k : Nat} {f : List (Nat ⊕ FieldType) → Prop} (h : p_obj Sh c k f) : ∃ fs, Sh[k]? = some (.inl (c, fs)) ∧ f fs := by
  unfold p_obj at h
  split at h
  · rename_i c' fs hs
    split at h
    · rename_i h9; subst h9; exact ⟨fs, hs, h⟩
    · exact h.elim
  · exact h.elim
theorem p_arr_e {Sh : List PSh} {k : Nat} {f : Nat → Nat → FieldType → List Nat → Prop} (h : p_arr Sh k f) : ∃ t n ty rs, Sh[k]? = some (.inr (t, n, ty, rs)) ∧ f t n ty rs := by
  unfold p_arr at h
  split at h
  · rename_i t n ty rs hs
    exact ⟨t, n, ty, rs, hs, h⟩
  · exact h.elim

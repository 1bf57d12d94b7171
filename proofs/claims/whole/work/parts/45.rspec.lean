/-! The reader, abstractly. -/
def isBl (c : Nat) : Bool := c == 32 || c == 10
def isLt (c : Nat) : Bool := Nat.ble 65 c && Nat.ble c 90
def isDg (c : Nat) : Bool := Nat.ble 48 c && Nat.ble c 57
def isAn (c : Nat) : Bool := isLt c || isDg c
/-- where a stretch ends -/
def spanE (f : Nat → Bool) (t : List Nat) (p : Nat) : Nat := p + ((t.drop p).takeWhile f).length
theorem spanE_go {f : Nat → Bool} {t : List Nat} {p c : Nat} (h : t[p]? = some c) (hf : f c = true) : spanE f t p = spanE f t (p + 1) := by
  have hp := (List.getElem?_eq_some_iff.mp h).1
  have e : t.drop p = c :: t.drop (p + 1) := by
    rw [List.drop_eq_getElem_cons hp]
    congr 1
    exact (List.getElem?_eq_some_iff.mp h).2
  unfold spanE
  rw [e, List.takeWhile_cons, hf]
  simp
  omega
theorem spanE_no {f : Nat → Bool} {t : List Nat} {p c : Nat} (h : t[p]? = some c) (hf : f c = false) : spanE f t p = p := by
  have hp := (List.getElem?_eq_some_iff.mp h).1
  have e : t.drop p = c :: t.drop (p + 1) := by
    rw [List.drop_eq_getElem_cons hp]
    congr 1
    exact (List.getElem?_eq_some_iff.mp h).2
  unfold spanE
  rw [e, List.takeWhile_cons, hf]
  simp
theorem spanE_end {f : Nat → Bool} {t : List Nat} {p : Nat} (h : t.length ≤ p) : spanE f t p = p := by
  unfold spanE
  rw [List.drop_of_length_le h]
  rfl
theorem spanE_ge {f : Nat → Bool} {t : List Nat} {p : Nat} : p ≤ spanE f t p := Nat.le_add_right _ _
theorem spanE_le {f : Nat → Bool} {t : List Nat} {p : Nat} (h : p ≤ t.length) : spanE f t p ≤ t.length := by
  unfold spanE
  have h1 := (List.takeWhile_prefix f (l := t.drop p)).length_le
  rw [List.length_drop] at h1
  omega
theorem tw_all {f : Nat → Bool} : ∀ (l : List Nat) (c : Nat), c ∈ l.takeWhile f → f c = true
  | [], c, h => by simp at h
  | a :: r, c, h => by
    rw [List.takeWhile_cons] at h
    cases ha : f a with
    | false => rw [ha] at h; simp at h
    | true =>
      rw [ha] at h
      simp only [if_true] at h
      rcases List.mem_cons.mp h with rfl | h
      · exact ha
      · exact tw_all r c h
theorem spanE_all {f : Nat → Bool} {t : List Nat} {p : Nat} : ∀ c ∈ slice t p (spanE f t p - p), f c = true := by
  intro c hc
  unfold slice spanE at hc
  rw [Nat.add_sub_cancel_left] at hc
  have e : (t.drop p).take ((t.drop p).takeWhile f).length = (t.drop p).takeWhile f := (List.prefix_iff_eq_take.mp (List.takeWhile_prefix f)).symm
  rw [e] at hc
  exact tw_all _ _ hc
/-- place, what is open (state and start, the last one first), what was read, the whole, the names, heap, cells made -/
abbrev RS : Type := Nat × List (Nat × Nat) × List AV × Option AV × List (List Nat) × AHp × Nat
abbrev RF : Type := Nat × Nat × List (List Nat) × AHp × Nat
abbrev RR : Type := RS ⊕ RF
def rSt (op : List (Nat × Nat)) (wh : Option AV) : Nat := match op with
  | (s, _) :: _ => s
  | [] => if wh.isSome then 1 else 0
def rMay (op : List (Nat × Nat)) (wh : Option AV) : Bool := !(rSt op wh == 1 || rSt op wh == 6)
def rOpen (k p : Nat) (op : List (Nat × Nat)) (pe : List AV) (wh : Option AV) (nm : List (List Nat)) (H : AHp) (n : Nat) : RR :=
  if rMay op wh then (if op.length < 60 then .inl (p + 1, (k, pe.length) :: op, pe, wh, nm, H, n) else .inr (4, p, nm, H, n)) else .inr (1, p, nm, H, n)
def rDot (p : Nat) (op : List (Nat × Nat)) (pe : List AV) (wh : Option AV) (nm : List (List Nat)) (H : AHp) (n : Nat) : RR := match op with
  | (4, st) :: r => .inl (p + 1, (5, st) :: r, pe, wh, nm, H, n)
  | _ => .inr (1, p, nm, H, n)
/-- an S has been read: lt is the place of its last token -/
noncomputable def rDone (lim : Nat) (fns : List (Option AV)) (lt p : Nat) (pe : List AV) (wh : Option AV) (nm : List (List Nat)) : List (Nat × Nat) → AV → AHp → Nat → RR
  | [], s, H, n => .inl (p, [], pe, some s, nm, H, n)
  | (k, st) :: r, s, H, n => if k = 2 then aCons lim fns (rts (aS 0) (aS 0) (aS 0) pe [] []) s (aS 0) H n (fun c H n => aCons lim fns (rts (aS 0) (aS 0) (aS 0) pe [] []) (aS 2) c H n (fun c H n => rDone lim fns lt p pe wh nm r c H n) (fun H n => .inr (8, lt, nm, H, n))) (fun H n => .inr (8, lt, nm, H, n))
    else .inl (p, (if k = 5 then 6 else 4, st) :: r, pe ++ [s], wh, nm, H, n)
noncomputable def rList (lim : Nat) (fns : List (Option AV)) (rt : List AV) : List AV → AV → AHp → Nat → (AV → AHp → Nat → RR) → (AHp → Nat → RR) → RR
  | [], l, H, n, ok, _ => ok l H n
  | a :: r, l, H, n, ok, no => aCons lim fns rt a l H n (fun l H n => rList lim fns rt r l H n ok no) no
noncomputable def rClose (lim : Nat) (fns : List (Option AV)) (p : Nat) (op : List (Nat × Nat)) (pe : List AV) (wh : Option AV) (nm : List (List Nat)) (H : AHp) (n : Nat) : RR := match op with
  | [] => .inr (1, p, nm, H, n)
  | (k, st) :: r => if k = 3 ∨ k = 4 then rList lim fns (rts (aS 0) (aS 0) (aS 0) pe [] []) (pe.drop st).reverse (aS 0) H n (fun l H n => rDone lim fns p (p + 1) (pe.take st) wh nm r l H n) (fun H n => .inr (8, p, nm, H, n))
    else if k = 6 then rList lim fns (rts (aS 0) (aS 0) (aS 0) pe [] []) (pe.drop st).dropLast.reverse (pe.getLast?.getD (aS 0)) H n (fun l H n => rDone lim fns p (p + 1) (pe.take st) wh nm r l H n) (fun H n => .inr (8, p, nm, H, n))
    else .inr (1, p, nm, H, n)
def fidx (w : List Nat) : List (List Nat) → Nat → Option Nat
  | [], _ => none
  | a :: r, k => if a = w then some k else fidx w r (k + 1)
theorem fidx_some {w : List Nat} : ∀ (l : List (List Nat)) (k i : Nat), l[k]? = some w → (∀ j, j < k → l[j]? ≠ some w) → fidx w l i = some (i + k)
  | [], k, i, h, _ => by simp at h
  | a :: r, 0, i, h, _ => by
    have e : a = w := by simpa using h
    unfold fidx
    rw [if_pos e]; rfl
  | a :: r, k + 1, i, h, hj => by
    have e : ¬ a = w := fun h9 => hj 0 (by omega) (by simp [h9])
    unfold fidx
    rw [if_neg e, fidx_some r k (i + 1) (by simpa using h) (fun j hj2 => by have := hj (j + 1) (by omega); simpa using this)]
    congr 1; omega
theorem fidx_none {w : List Nat} : ∀ (l : List (List Nat)) (i : Nat), (∀ j : Nat, l[j]? ≠ some w) → fidx w l i = none
  | [], i, h => rfl
  | a :: r, i, h => by
    have e : ¬ a = w := fun h9 => h 0 (by simp [h9])
    unfold fidx
    rw [if_neg e, fidx_none r (i + 1) (fun j => by have := h (j + 1); simpa using this)]
/-- a symbol at p: its number, the place behind it, the names; or a fault -/
def rSym (t : List Nat) (p : Nat) (nm : List (List Nat)) : (Nat × Nat × List (List Nat)) ⊕ Nat :=
  if spanE isAn t p - p ≤ 10 then (match fidx (slice t p (spanE isAn t p - p)) nm 0 with
    | some k => .inl (k, spanE isAn t p, nm)
    | none => if nm.length < 300 then .inl (nm.length, spanE isAn t p, nm ++ [slice t p (spanE isAn t p - p)]) else .inr 3)
  else .inr 2
def dVal (acc : Nat) : List Nat → Nat
  | [] => acc
  | d :: r => dVal (acc * 10 + (d - 48)) r
/-- a number at p, with its sign told: it, and the place behind it; or a fault -/
def rNum (t : List Nat) (p : Nat) (neg : Bool) : (Int32 × Nat) ⊕ Nat :=
  if dVal 0 ((t.drop (if neg then p + 1 else p)).takeWhile isDg) ≤ (if neg then 2147483648 else 2147483647) then .inl (Int32.ofInt (if neg then -(dVal 0 ((t.drop (if neg then p + 1 else p)).takeWhile isDg) : Int) else (dVal 0 ((t.drop (if neg then p + 1 else p)).takeWhile isDg) : Int)), spanE isDg t (if neg then p + 1 else p)) else .inr 2
noncomputable def rAtom (lim : Nat) (fns : List (Option AV)) (t : List Nat) (c p : Nat) (op : List (Nat × Nat)) (pe : List AV) (wh : Option AV) (nm : List (List Nat)) (H : AHp) (n : Nat) : RR :=
  if rMay op wh then (if isLt c then (match rSym t p nm with
      | .inl (k, q, nm') => rDone lim fns p q pe wh nm' op (aS k) H n
      | .inr f => .inr (f, p, nm, H, n))
    else if isDg c || (c == 45 && ((t[p + 1]?).map isDg).getD false) then (match rNum t p (c == 45) with
      | .inl (m, q) => rDone lim fns p q pe wh nm op (aN m) H n
      | .inr f => .inr (f, p, nm, H, n))
    else .inr (1, p, nm, H, n))
  else .inr (1, p, nm, H, n)
noncomputable def rTok (lim : Nat) (fns : List (Option AV)) (t : List Nat) (c : Nat) (s : RS) : RR := match s with
  | (p, op, pe, wh, nm, H, n) => if isBl c then .inl (p + 1, op, pe, wh, nm, H, n)
    else if c = 40 then rOpen 3 p op pe wh nm H n
    else if c = 39 then rOpen 2 p op pe wh nm H n
    else if c = 41 then rClose lim fns p op pe wh nm H n
    else if c = 46 then rDot p op pe wh nm H n
    else rAtom lim fns t c p op pe wh nm H n
/-- the rest of a text: its one S, or a fault -/
noncomputable def rAll (lim : Nat) (fns : List (Option AV)) (t : List Nat) : Nat → RS → (AV × List (List Nat) × AHp × Nat) ⊕ RF
  | 0, (_, _, _, wh, nm, H, n) => match wh with
    | some a => .inl (a, nm, H, n)
    | none => .inr (1, t.length, nm, H, n)
  | m + 1, (p, op, pe, wh, nm, H, n) => match t[p]? with
    | some c => (match rTok lim fns t c (p, op, pe, wh, nm, H, n) with
      | .inl s => rAll lim fns t m s
      | .inr F => .inr F)
    | none => match wh with
      | some a => .inl (a, nm, H, n)
      | none => .inr (1, t.length, nm, H, n)
/-- a name ahead: its symbol, the place behind it, the names; or a fault with its place -/
def rName (t : List Nat) (nm : List (List Nat)) : (Nat × Nat × List (List Nat)) ⊕ (Nat × Nat) :=
  match t[spanE isBl t 0]? with
  | some c => if isLt c then (match rSym t (spanE isBl t 0) nm with
      | .inl (k, q, nm') => if k ≤ 7 then .inr (1, spanE isBl t 0) else .inl (k, q, nm')
      | .inr f => .inr (f, spanE isBl t 0))
    else .inr (1, spanE isBl t 0)
  | none => .inr (1, spanE isBl t 0)
/-- digits that are given up beyond a bound -/
def dSat (thr acc : Nat) : List Nat → Nat
  | [] => acc
  | d :: r => dSat thr (if acc ≤ thr then acc * 10 + (d - 48) else acc) r
theorem dVal_ge : ∀ (l : List Nat) (acc : Nat), acc ≤ dVal acc l
  | [], _ => Nat.le_refl _
  | d :: r, acc => by
    have := dVal_ge r (acc * 10 + (d - 48))
    unfold dVal
    omega
theorem dSat_val {thr : Nat} : ∀ (l : List Nat) (acc : Nat), (dVal acc l ≤ thr → dSat thr acc l = dVal acc l) ∧ (thr < dVal acc l → thr < dSat thr acc l)
  | [], acc => ⟨fun _ => rfl, fun h => h⟩
  | d :: r, acc => by
    unfold dVal dSat
    by_cases h : acc ≤ thr
    · rw [if_pos h]
      exact dSat_val r _
    · rw [if_neg h]
      have h1 := dVal_ge r (acc * 10 + (d - 48))
      refine ⟨fun h9 => by omega, fun _ => ?_⟩
      have h2 := dSat_val (thr := thr) r acc
      have h3 := dVal_ge r acc
      exact h2.2 (by omega)
theorem dSat_le {thr : Nat} : ∀ (l : List Nat) (acc : Nat), (∀ d ∈ l, d ≤ 57) → acc ≤ thr * 10 + 9 → dSat thr acc l ≤ thr * 10 + 9
  | [], _, _, h => h
  | d :: r, acc, hd, h => by
    unfold dSat
    have h57 := hd d List.mem_cons_self
    refine dSat_le r _ (fun c hc => hd c (List.mem_cons_of_mem _ hc)) ?_
    split <;> omega

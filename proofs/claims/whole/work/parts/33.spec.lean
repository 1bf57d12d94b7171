/-! The machine, abstractly. -/
/-- a frame: its function (COND's own symbol marks one of COND), its list, its env, its values -/
abbrev AF : Type := AV × AV × AV × List AV
/-- mode (0 stopped, 1 evaluate, 2 return, 3 apply), x, env, function, value, values, frames (the top one first), fuel, most frames, heap, cells made -/
abbrev MS : Type := Nat × AV × AV × AV × AV × List AV × List AF × Nat × Nat × AHp × Nat
/-- a fault, fuel, most frames, heap, cells made -/
abbrev MF : Type := Nat × Nat × Nat × AHp × Nat
abbrev MR : Type := MS ⊕ MF
def flatA : List AF → List AV
  | [] => []
  | (fn, l, e, vs) :: r => flatA r ++ (fn :: l :: e :: vs)
def aHd (H : AHp) (v : AV) : Option AV := match v with
  | .inr (.inr i) => some (H i).1
  | _ => none
def aTl (H : AHp) (v : AV) : Option AV := match v with
  | .inr (.inr i) => some (H i).2
  | _ => none
def a2 (H : AHp) (v : AV) : Option AV := (aTl H v).bind (aHd H)
def a3 (H : AHp) (v : AV) : Option AV := ((aTl H v).bind (aTl H)).bind (aHd H)
def aRet (x e v : AV) (frs : List AF) (fl mo : Nat) (H : AHp) (n : Nat) : MR := .inl (2, x, e, aS 0, v, [], frs, fl, mo, H, n)
def aEv (x e : AV) (frs : List AF) (fl mo : Nat) (H : AHp) (n : Nat) : MR := .inl (1, x, e, aS 0, aS 0, [], frs, fl, mo, H, n)
def aAp (x e f : AV) (vs : List AV) (frs : List AF) (fl mo : Nat) (H : AHp) (n : Nat) : MR := .inl (3, x, e, f, aS 0, vs, frs, fl, mo, H, n)
def aFl (c fl mo : Nat) (H : AHp) (n : Nat) : MR := .inr (c, fl, mo, H, n)
def aMx (a b : Nat) : Nat := if a < b then b else a
noncomputable def aCons {α : Type} (lim : Nat) (fns : List (Option AV)) (rt : List AV) (a b : AV) (H : AHp) (n : Nat) (ok : AV → AHp → Nat → α) (no : AHp → Nat → α) : α := if acnt H (ARt fns rt a b) n < lim then ok (aC n) (ahUp H n a b) (n + 1) else no H n
/-- a symbol looked up: a fault, or its tail, or nothing; the fuel left -/
def aLook (H : AHp) (s : AV) : Nat → AV → (Nat ⊕ Option AV) × Nat
  | 0, e => match e with
    | .inl 0 => (.inr none, 0)
    | .inr (.inr _) => (.inl 7, 0)
    | _ => (.inl 5, 0)
  | fl + 1, e => match e with
    | .inl 0 => (.inr none, fl + 1)
    | .inr (.inr i) => match aHd H (H i).1 with
      | none => (.inl 5, fl)
      | some nm => if nm = s then (.inr (aTl H (H i).1), fl) else aLook H s fl (H i).2
    | _ => (.inl 5, fl + 1)
/-- a frame more -/
def aPush (F : AF) (frs : List AF) (fl mo : Nat) (H : AHp) (n : Nat) (k : List AF → Nat → MR) : MR := if frs.length < 200 then k (F :: frs) (aMx mo (frs.length + 1)) else aFl 12 fl mo H n
noncomputable def aEval (lim : Nat) (fns : List (Option AV)) (x e : AV) (frs : List AF) (fl mo : Nat) (H : AHp) (n : Nat) : MR := match x with
  | .inr (.inl m) => aRet x e (aN m) frs fl mo H n
  | .inl k => if k < 2 then aRet x e (aS k) frs fl mo H n else match aLook H (aS k) fl e with
    | (.inl c, fl') => aFl c fl' mo H n
    | (.inr none, fl') => aFl 6 fl' mo H n
    | (.inr (some v), fl') => aRet x e v frs fl' mo H n
  | .inr (.inr i) =>
    if (H i).1 = aS 2 then (match a2 H (aC i) with
      | some v => aRet x e v frs fl mo H n
      | none => aFl 5 fl mo H n)
    else if (H i).1 = aS 3 then (match aHd H (H i).2 with
      | none => aFl 9 fl mo H n
      | some p => aPush (aS 3, (H i).2, e, []) frs fl mo H n fun frs' mo' => match aHd H p with
        | none => aFl 5 fl mo' H n
        | some x' => aEv x' e frs' fl mo' H n)
    else if (H i).1 = aS 4 then (match a2 H (aC i) with
      | none => aFl 5 fl mo H n
      | some fn => aCons lim fns (rts x e (aS 0) [] [] (flatA frs)) e (aS 0) H n (fun c H n => aCons lim fns (rts x e (aS 0) [] [] (flatA frs)) fn c H n (fun c H n => aCons lim fns (rts x e (aS 0) [] [] (flatA frs)) (aS 7) c H n (fun c H n => aRet x e c frs fl mo H n) (aFl 8 fl mo)) (aFl 8 fl mo)) (aFl 8 fl mo))
    else match aHd H (H i).2 with
      | some x' => aPush ((H i).1, (H i).2, e, []) frs fl mo H n fun frs' mo' => aEv x' e frs' fl mo' H n
      | none => if (H i).2 = aS 0 then aAp x e (H i).1 [] frs fl mo H n else aFl 5 fl mo H n
def aTake (x e v : AV) (frs : List AF) (fl mo : Nat) (H : AHp) (n : Nat) : MR := match frs with
  | [] => .inl (0, x, e, aS 0, v, [], [], fl, mo, H, n)
  | (fn, l, fe, vs) :: r =>
    if fn = aS 3 then (if v = aS 0 then (match aTl H l with
        | none => aFl 5 fl mo H n
        | some l' => match aHd H l' with
          | none => aFl 9 fl mo H n
          | some p => match aHd H p with
            | none => aFl 5 fl mo H n
            | some x' => aEv x' fe ((fn, l', fe, vs) :: r) fl mo H n)
      else (match (aHd H l).bind (a2 H) with
        | none => aFl 5 fl mo H n
        | some x' => aEv x' fe r fl mo H n))
    else if vs.length < 10 then (match aTl H l with
      | none => aFl 5 fl mo H n
      | some l' => match aHd H l' with
        | some x' => aEv x' fe ((fn, l', fe, vs ++ [v]) :: r) fl mo H n
        | none => if l' = aS 0 then aAp x fe fn (vs ++ [v]) r fl mo H n else aFl 5 fl mo H n)
    else aFl 11 fl mo H n
def aVar (v : AV) : Prop := ∃ k, 2 ≤ k ∧ v = aS k
/-- the variables of a list -/
noncomputable def aVars (H : AHp) : Nat → AV → Option (List AV)
  | 0, _ => none
  | m + 1, v => match v with
    | .inr (.inr i) => if @decide (aVar (H i).1) (Classical.propDecidable _) then (aVars H m (H i).2).map ((H i).1 :: ·) else none
    | v => if v = aS 0 then some [] else none
noncomputable def aBind (lim : Nat) (fns : List (Option AV)) (x f : AV) (vs sk : List AV) : List (AV × AV) → AV → AHp → Nat → (AV → AHp → Nat → MR) → (AHp → Nat → MR) → MR
  | [], e, H, n, ok, _ => ok e H n
  | (a, b) :: r, e, H, n, ok, no => aCons lim fns (rts x e f [] vs sk) a b H n (fun p H n => aCons lim fns (rts x e f [] vs sk) p e H n (fun e H n => aBind lim fns x f vs sk r e H n ok no) no) no
noncomputable def aList (lim : Nat) (fns : List (Option AV)) (rt : List AV) : List AV → AV → AHp → Nat → (AV → AHp → Nat → MR) → (AHp → Nat → MR) → MR
  | [], l, H, n, ok, _ => ok l H n
  | a :: r, l, H, n, ok, no => aCons lim fns rt a l H n (fun l H n => aList lim fns rt r l H n ok no) no
noncomputable def aLambda (lim : Nat) (fns : List (Option AV)) (x e f : AV) (vs : List AV) (frs : List AF) (fl mo : Nat) (H : AHp) (n : Nat) : MR := match (a2 H f).bind (aVars H (n + 1)), a3 H f with
  | some vars, some body => if vars.length = vs.length then aBind lim fns x f vs (flatA frs) (vars.zip vs).reverse e H n (fun e H n => aEv body e frs fl mo H n) (aFl 8 fl mo) else aFl 11 fl mo H n
  | _, _ => aFl 5 fl mo H n
noncomputable def aLabel (lim : Nat) (fns : List (Option AV)) (x e f : AV) (vs : List AV) (frs : List AF) (fl mo : Nat) (H : AHp) (n : Nat) : MR := match a2 H f, a3 H f with
  | some nm, some fn => if @decide (aVar nm) (Classical.propDecidable _) then aCons lim fns (rts x e f [] vs (flatA frs)) nm fn H n (fun p H n => aCons lim fns (rts x e f [] vs (flatA frs)) p e H n (fun e H n => aAp x e fn vs frs fl mo H n) (aFl 8 fl mo)) (aFl 8 fl mo) else aFl 5 fl mo H n
  | _, _ => aFl 5 fl mo H n
def aTr (b : Bool) : AV := if b then aS 1 else aS 0
def aIsC (v : AV) : Bool := match v with
  | .inr (.inr _) => true
  | _ => false
def aIsN (v : AV) : Bool := match v with
  | .inr (.inl _) => true
  | _ => false
/-- the reckoned value of two numbers; none at a division by 0 -/
def aCalc (k : Nat) (p q : Int32) : Option AV :=
  if k = 22 then some (aTr (decide (p < q))) else if k = 17 then some (aN (p + q)) else if k = 18 then some (aN (p - q)) else if k = 19 then some (aN (p * q)) else if q = 0 then none else some (aN (if k = 20 then p / q else p - p / q * q))
noncomputable def aBuilt (lim : Nat) (fns : List (Option AV)) (x e f : AV) (k : Nat) (vs : List AV) (frs : List AF) (fl mo : Nat) (H : AHp) (n : Nat) : MR :=
  if k = 14 then aList lim fns (rts x e f [] vs (flatA frs)) vs.reverse (aS 0) H n (fun l H n => aRet x e l frs fl mo H n) (aFl 8 fl mo)
  else match vs with
  | [a] => if k = 8 then (match aHd H a with
        | some v => aRet x e v frs fl mo H n
        | none => aFl 13 fl mo H n)
      else if k = 9 then (match aTl H a with
        | some v => aRet x e v frs fl mo H n
        | none => aFl 13 fl mo H n)
      else if k = 11 then aRet x e (aTr (!aIsC a)) frs fl mo H n
      else if k = 13 then aRet x e (aTr (decide (a = aS 0))) frs fl mo H n
      else if k = 16 then aRet x e (aTr (aIsN a)) frs fl mo H n
      else aFl 11 fl mo H n
  | [a, b] => if k = 8 ∨ k = 9 ∨ k = 11 ∨ k = 13 ∨ k = 16 then aFl 11 fl mo H n
      else if k = 10 then aCons lim fns (rts x e f [] vs (flatA frs)) a b H n (fun c H n => aRet x e c frs fl mo H n) (aFl 8 fl mo)
      else if k = 12 then aRet x e (aTr (decide (a = b) && !aIsC a)) frs fl mo H n
      else if k = 15 then aEv a b frs fl mo H n
      else match a, b with
        | .inr (.inl p), .inr (.inl q) => (match aCalc k p q with
          | some v => aRet x e v frs fl mo H n
          | none => aFl 13 fl mo H n)
        | _, _ => aFl 13 fl mo H n
  | _ => aFl 11 fl mo H n
noncomputable def aApply (lim : Nat) (fns : List (Option AV)) (x e f : AV) (vs : List AV) (frs : List AF) (fl mo : Nat) (H : AHp) (n : Nat) : MR := match f with
  | .inl k => (match (fns[k]?).getD none with
    | some b => aAp x e b vs frs fl mo H n
    | none => if 8 ≤ k ∧ k ≤ 22 then aBuilt lim fns x e f k vs frs fl mo H n else match aLook H (aS k) fl e with
      | (.inl c, fl') => aFl c fl' mo H n
      | (.inr none, fl') => aFl 10 fl' mo H n
      | (.inr (some v), fl') => aAp x e v vs frs fl' mo H n)
  | .inr (.inl _) => aFl 10 fl mo H n
  | .inr (.inr i) => if (H i).1 = aS 5 then aLambda lim fns x e f vs frs fl mo H n
    else if (H i).1 = aS 6 then aLabel lim fns x e f vs frs fl mo H n
    else if (H i).1 = aS 7 then (match a2 H f, a3 H f with
      | some g, some e' => aAp x e' g vs frs fl mo H n
      | _, _ => aFl 5 fl mo H n)
    else aFl 10 fl mo H n
noncomputable def aStep (lim : Nat) (fns : List (Option AV)) (s : MS) : MR := match s with
  | (m, x, e, f, v, vs, frs, fl, mo, H, n) => if m = 1 then aEval lim fns x e frs fl mo H n else if m = 2 then aTake x e v frs fl mo H n else aApply lim fns x e f vs frs fl mo H n
/-- a run: its fault (0 without), the fuel left, the most frames, heap and cells made; its answer -/
noncomputable def aRun (lim : Nat) (fns : List (Option AV)) : Nat → MS → MF × AV
  | 0, (_, _, _, _, _, _, _, fl, mo, H, n) => ((7, fl, mo, H, n), aS 0)
  | m + 1, (md, x, e, f, v, vs, frs, fl, mo, H, n) => match fl with
    | 0 => ((7, 0, mo, H, n), aS 0)
    | fl + 1 => match aStep lim fns (md, x, e, f, v, vs, frs, fl, mo, H, n) with
      | .inr F => (F, aS 0)
      | .inl (0, _, _, _, v', _, _, fl', mo', H', n') => ((0, fl', mo', H', n'), v')
      | .inl s => aRun lim fns m s
theorem flatA_len : ∀ frs : List AF, (∀ F ∈ frs, F.2.2.2.length ≤ 10) → (flatA frs).length ≤ 13 * frs.length
  | [], _ => by simp [flatA]
  | (fn, l, e, vs) :: r, h => by
    have h1 := flatA_len r (fun F hF => h F (List.mem_cons_of_mem _ hF))
    have h2 := h (fn, l, e, vs) List.mem_cons_self
    simp only [flatA, List.length_append, List.length_cons] at h2 ⊢
    omega

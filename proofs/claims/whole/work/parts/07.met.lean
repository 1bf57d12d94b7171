/-! Methods: what the pure machine says of a method is a contract of the real one. -/
/-- name, bytes, locals, answer's type, table of handlers, resolved code, handlers by place, the receiver's kind, how many parameters -/
abbrev PMeth : Type := MethodName × ByteArray × Nat × Option FieldType × List (Nat × Nat × Nat × Nat) × PCode × (Nat → Option (Nat × Nat)) × Option Nat × Nat
abbrev PMeth.y (q : PMeth) : MethodName := q.1
abbrev PMeth.bytes (q : PMeth) : ByteArray := q.2.1
abbrev PMeth.maxL (q : PMeth) : Nat := q.2.2.1
abbrev PMeth.ret (q : PMeth) : Option FieldType := q.2.2.2.1
abbrev PMeth.hh (q : PMeth) : List (Nat × Nat × Nat × Nat) := q.2.2.2.2.1
abbrev PMeth.code (q : PMeth) : PCode := q.2.2.2.2.2.1
abbrev PMeth.hn (q : PMeth) : Nat → Option (Nat × Nat) := q.2.2.2.2.2.2.1
abbrev PMeth.rc (q : PMeth) : Option Nat := q.2.2.2.2.2.2.2.1
abbrev PMeth.np (q : PMeth) : Nat := q.2.2.2.2.2.2.2.2
def PMeth.cw (q : PMeth) : Cond := if q.hh = [] then .code q.y q.bytes q.maxL q.ret else .codeWith q.y q.bytes q.maxL q.ret q.hh
/-- how a method may be entered -/
def p_in (Sh : List PSh) (q : PMeth) (as : List Value) : Prop := (p_ent as).length ≤ q.maxL ∧ match q.rc with
  | none => as.length = q.np
  | some ci => as.length = q.np + 1 ∧ ∃ b r fs, as = .ref b :: r ∧ Sh[b]? = some (.inl (ci, fs))
def p_sem (MT : Nat → Option PMeth) (Sh : List PSh) : Nat → PEnv
  | 0 => fun _ _ _ _ => False
  | d + 1 => fun k as M Q => ∃ q, MT k = some q ∧ p_in Sh q as ∧ Ev (Sh, p_sem MT Sh d, q.hn, q.ret, q.code, fun _ _ _ _ => False) Q 0 (p_ent0 q.maxL as) [] M
/-- a handler's table beside its places -/
def p_hok (Ts : List Cond) (own XN : String) (bytes : ByteArray) (nL : Nat) (hh : List (Nat × Nat × Nat × Nat)) (hn : Nat → Option (Nat × Nat)) : Prop :=
  (∀ pc, hn pc = none → ∀ x ∈ tableOf hh, covers x pc = false) ∧
  ∀ pc p2 i, hn pc = some (p2, i) → ∃ pre x suf, tableOf hh = pre ++ x :: suf ∧ (∀ z ∈ pre, covers z pc = false) ∧ covers x pc = true ∧ x.catchType ≠ 0 ∧ Cond.classLink own x.catchType XN ∈ Ts ∧ i < nL ∧
    ((∃ k : Fin 4, (k : Nat) = i ∧ decode bytes x.handlerPc = .ok (.astore_n k, 1) ∧ p2 = x.handlerPc + 1) ∨ (decode bytes x.handlerPc = .ok (.astore i, 2) ∧ p2 = x.handlerPc + 2))
/-- a call's entry -/
def p_cok (cl : List vw_C) (Ts : List Cond) (MT : Nat → Option PMeth) (own : String) (st : Bool) (idx k n : Nat) : Prop := ∃ q, MT k = some q ∧ Cond.methodLink own idx q.y ∈ Ts ∧ Cond.initialized q.y.cls ∈ Ts ∧ q.cw ∈ Ts ∧ (q.y.cls ≠ "java/lang/invoke/MethodHandle" ∧ q.y.cls ≠ "java/lang/invoke/VarHandle") ∧ (parseMethodDescriptor q.y.desc).map (fun d => d.parameters.length) = some q.np ∧
  match st with
  | true => q.rc = none ∧ n = q.np ∧ Cond.static q.y ∈ Ts
  | false => n = q.np + 1 ∧ Cond.instanceMethod q.y ∈ Ts ∧ Cond.selects q.y.cls q.y q.y ∈ Ts ∧ ∃ ci T N, q.rc = some ci ∧ cl[ci]? = some (q.y.cls, T, N)
/-- a static call: of Math, or of a method of the table -/
def p_csx (cl : List vw_C) (Ts : List Cond) (MT : Nat → Option PMeth) (own : String) (i k n : Nat) : Prop := if n = 1000 then p_mw Ts own i Lib.Math.max.name p_mmax else if n = 1001 then p_mw Ts own i Lib.MathLoose.abs_long.x p_mabs else p_cok cl Ts MT own true i k n
/-- what is checked of a method -/
def p_mok (cl : List vw_C) (Ts : List Cond) (MT : Nat → Option PMeth) (XN : String) (q : PMeth) : Prop :=
  plainName q.y.cls = true ∧ p_hok Ts q.y.cls XN q.bytes q.maxL q.hh q.hn ∧
  ∀ pc ins nx a0 b0 ts0 cv, q.code pc = some (ins, nx, a0, b0, ts0, cv) → ∃ len, decode q.bytes pc = .ok (ins, len) ∧ nx = pc + len ∧ p_chk cl Ts q.y.cls q.maxL pc ins len a0 b0 ts0 cv ∧ (∀ i, ins = .invokevirtual i → p_cok cl Ts MT q.y.cls false i a0 b0) ∧ (∀ i, ins = .invokestatic i → p_csx cl Ts MT q.y.cls i a0 b0)
def p_A (ρ : Nat → Nat) (n sz : Nat) : Nat → Prop := fun q => (∃ k, k < n ∧ q = ρ k) ∨ sz ≤ q
def p_Pc (cl : List vw_C) (Sh : List PSh) (ρ : Nat → Nat) (cA : Nat → ClassId) (D : va_G) (tys : List (ClassId × FieldType)) (sz : Nat) (as : List Value) (M : PM) : Array Value → State → Prop :=
  va_Pc (as.map (rv ρ)) (fun U => U.heap.size = sz ∧ va_P D cl (p_w ρ cA Sh M) U.heap ∧ va_K D cl tys U ∧ va_D (fun _ => True) (p_w ρ cA Sh M))
def p_Qc (cl : List vw_C) (Sh : List PSh) (ρ : Nat → Nat) (cA : Nat → ClassId) (D : va_G) (sz : Nat) (Q0 : Option (Option Value) → PM → Prop) : Array Value → State → Outcome → State → Prop :=
  fun _ st o t => (∃ v M', o = .returned (v.map (rv ρ)) ∧ Q0 (some v) M' ∧ va_P D cl (p_w ρ cA Sh M') t.heap) ∧ va_F (p_A ρ Sh.length sz) st t
def p_XC (cl : List vw_C) (Sh : List PSh) (XN : String) (ρ : Nat → Nat) (cA : Nat → ClassId) (D : va_G) (sz : Nat) (Q0 : Option (Option Value) → PM → Prop) : String → State → State → Prop :=
  fun E st t => E = XN ∧ (∃ M', Q0 none M' ∧ va_P D cl (p_w ρ cA Sh M') t.heap) ∧ va_F (p_A ρ Sh.length sz) st t
def p_rm (K9 d : Nat) : Room := { frames := d, cells := 0, slots := 0, locals := d * K9 }
/-- the contract of every method at depth d -/
def p_CT (l : Launch) (cl : List vw_C) (Ts : List Cond) (MT : Nat → Option PMeth) (Sh : List PSh) (XN : String) (K9 d : Nat) : Prop :=
  ∀ k q, MT k = some q → ∀ (ρ : Nat → Nat) (cA : Nat → ClassId) (D : va_G) (tys : List (ClassId × FieldType)) (sz : Nat) (as : List Value) (M : PM) (Q0 : Option (Option Value) → PM → Prop), p_shok cl tys cA Sh → p_sem MT Sh d k as M Q0 →
    vx_Met l q.y (q.cw :: Ts) (p_rm K9 d) (p_Pc cl Sh ρ cA D tys sz as M) (p_Qc cl Sh ρ cA D sz Q0) (p_XC cl Sh XN ρ cA D sz Q0) 0 0 (p_A ρ Sh.length sz)
theorem p_w_D {A : Nat → Prop} {ρ : Nat → Nat} {cA : Nat → ClassId} {Sh : List PSh} {M M' : PM} (h : va_D A (p_w ρ cA Sh M)) : va_D A (p_w ρ cA Sh M') := by
  have key : ∀ (k : Nat) (q : Nat × va_E), (p_w ρ cA Sh M')[k]? = some q → ∃ q0, (p_w ρ cA Sh M)[k]? = some q0 ∧ q0.1 = q.1 := by
    intro k q hq
    obtain ⟨sh, hs, rfl⟩ := p_w_inv hq
    exact ⟨_, p_w_get hs, rfl⟩
  refine ⟨fun i j x y hi hj hxy => ?_, fun k q hk => ?_⟩
  · obtain ⟨x0, h1, h2⟩ := key i x hi
    obtain ⟨y0, h3, h4⟩ := key j y hj
    exact h.1 i j x0 y0 h1 h3 (h2.trans (hxy.trans h4.symm))
  · obtain ⟨q0, h1, h2⟩ := key k q hk
    rw [← h2]
    exact h.2 k q0 h1
theorem p_A_in {A : Nat → Prop} {ρ : Nat → Nat} {cA : Nat → ClassId} {Sh : List PSh} {M : PM} {sz : Nat} (h : va_D A (p_w ρ cA Sh M)) (hA : ∀ q, sz ≤ q → A q) : ∀ q, p_A ρ Sh.length sz q → A q := by
  rintro q (⟨k, hk, rfl⟩ | h2)
  · exact h.2 k _ (p_w_get (List.getElem?_eq_getElem hk))
  · exact hA q h2
theorem p_blind {cl : List vw_C} {Sh : List PSh} {ρ : Nat → Nat} {cA : Nat → ClassId} {D : va_G} {tys : List (ClassId × FieldType)} {sz : Nat} {as : List Value} {M : PM} : FrameBlind (p_Pc cl Sh ρ cA D tys sz as M) := by
  rintro a U g mk ⟨h1, h2, h3, h4, h5⟩
  exact ⟨h1, h2, h3, va_K.moved (u := U) (U := U.calling g mk a) (Vm.Alike.refl U.vm) h4, h5⟩
theorem cw_code {q : PMeth} (h : q.hh = []) : q.cw = .code q.y q.bytes q.maxL q.ret := if_pos h
theorem cw_with {q : PMeth} (h : ¬ q.hh = []) : q.cw = .codeWith q.y q.bytes q.maxL q.ret q.hh := if_neg h
theorem goodIn_all {Ts : List Cond} (hg : ∀ w ∈ Ts, goodWord w = true) {w : Cond} (h : w ∈ Ts) : w ∈ Ts ∧ ((w.onTables && w.keeps) = true ∨ ∃ ty, w = .arrayClass ty) := ⟨h, good_of_word (hg w h)⟩
section PCALL
variable {p : Program} {l : Launch} {e : Env} {R : Room} {s : State} {m : MethodId} {args : Array Value} {below : List Frame} {meth : Method} {c : Code} {H0 : Heap} {cells slots mc ms : Nat} {D : va_G} {cl : List vw_C} {tys : List (ClassId × FieldType)} {A : Nat → Prop} {ρ : Nat → Nat} {cA : Nat → ClassId} {Sh : List PSh} {cc : ByteArray} {nL : Nat} {own : String} {Ts : List Cond} {Qw : State → Prop} {MT : Nat → Option PMeth} {XN : String} {K9 d : Nat}
set_option maxHeartbeats 4000000 in
theorem p_call (CT : p_CT l cl Ts MT Sh XN K9 d) (S : CallFix p m c cc nL s args Ts own) (hg : ∀ w ∈ Ts, goodWord w = true) (hK : va_K D cl tys s) (hsh : p_shok cl tys cA Sh) (hAn : ∀ q, H0.size ≤ q → A q) (hRf : d + 1 ≤ R.frames) (hRl : ∀ k q, MT k = some q → 8 + (q.maxL + 11) + d * K9 ≤ R.locals) (hRc : cells ≤ R.cells) (hRs : slots ≤ R.slots)
    {pc : Nat} {ins : Instr} {idx k n : Nat} {st9 : Bool} (hins : ins = if st9 then .invokestatic idx else .invokevirtual idx) (hd : decode cc pc = .ok (ins, 3)) (hcok : p_cok cl Ts MT own st9 idx k n)
    {L : List (Option Value)} {st : List Value} {M : PM} {Q0 : Option (Option Value) → PM → Prop} (hcat : ((st.drop n).map fun v => v.category).sum ≤ 8) (hE : p_sem MT Sh d k (st.take n).reverse M Q0)
    (kr : ∀ v M', Q0 (some v) M' → p_sm p l e R s m args below meth c H0 cells slots Qw D cl A ρ cA Sh nL (pc + 3) L (v.toList ++ st.drop n) M')
    (kx : ∀ M', Q0 none M' → p_sx p l e R s m args below meth c H0 cells slots Qw D cl A ρ cA Sh nL XN pc L M') :
    p_sm p l e R s m args below meth c H0 cells slots Qw D cl A ρ cA Sh nL pc L st M := by
  intro H locs ls hL hP hD hS
  obtain ⟨q, hq, hlk, hini, hcw, hy, hdesc, hkind⟩ := hcok
  have hin : p_in Sh q (st.take n).reverse := by
    cases d with
    | zero => exact hE.elim
    | succ d =>
      obtain ⟨q', hq', h1, -⟩ := hE
      cases Option.some.inj (hq.symm.trans hq')
      exact h1
  have hM := CT k q hq ρ cA D tys H.size (st.take n).reverse M Q0 hsh hE
  have hb0 : FrameBlind (p_Pc cl Sh ρ cA D tys H.size (st.take n).reverse M) := p_blind
  have hPc : ∀ U : State, U.heap = H → s.WarmedH U.vm → p_Pc cl Sh ρ cA D tys H.size (st.take n).reverse M ((st.take n).reverse.map (rv ρ)).toArray U := fun U hU hW => ⟨rfl, by rw [hU], by rw [hU]; exact hP, va_K.moved hW.alike hK, hD.weaken (fun _ _ _ _ => trivial)⟩
  have hws : ∀ w ∈ q.cw :: Ts, ∀ (a' : Array Value) (U : State), s.WarmedH U.vm → w.before a' U = true := pay_in S.2.2.2.2 (fun w hw => (List.mem_cons.mp hw).elim (fun h9 => by rw [h9]; exact goodIn_all hg hcw) (fun h9 => goodIn_all hg h9))
  have hfr : (p_rm K9 d).frames + 1 ≤ R.frames := hRf
  have hlo : 8 + (q.maxL + 11) + (p_rm K9 d).locals ≤ R.locals := hRl k q hq
  have hsig : ∀ sig, parseMethodDescriptor q.y.desc = some sig → q.np = sig.parameters.length := fun sig h9 => by rw [h9] at hdesc; exact (Option.some.inj hdesc).symm
  have hst : st.map (rv ρ) = (st.take n).map (rv ρ) ++ (st.drop n).map (rv ρ) := by rw [← List.map_append, List.take_append_drop]
  have hcat' : (((st.drop n).map (rv ρ)).map fun v => v.category).sum ≤ 8 := by
    rw [List.map_map, show (fun v : Value => v.category) ∘ rv ρ = fun v => v.category from funext fun v => rv_cat ρ v]; exact hcat
  have hrun : vx_Run p l e R s m args below meth c H locs cells slots 0 0 (F0 m pc ls (st.map (rv ρ))) ((st.drop n).map (rv ρ)) (p_Qc cl Sh ρ cA D H.size Q0 ((st.take n).reverse.map (rv ρ)).toArray) (p_XC cl Sh XN ρ cA D H.size Q0) (p_A ρ Sh.length H.size) := by
    cases st9 with
    | true =>
      obtain ⟨hrc, hn, hstat⟩ := hkind
      subst hins
      have hlen : ((st.take n).reverse.map (rv ρ)).length = q.np := by
        have h2 := hin.2
        rw [hrc] at h2
        rw [List.length_map]; exact h2
      by_cases hh : q.hh = []
      · rw [cw_code hh] at hM hws hcw
        exact vx_runS S hM ⟨⟨rfl, rfl, hfr, hlo, hws, List.mem_cons_self, S.2.2.2.2 _ hcw, S.2.2.2.2 _ hini, hy, hsig, S.2.2.2.2 _ hlk⟩, S.2.2.2.2 _ hstat⟩ ⟨hb0, hPc⟩ rfl hlen hL.2.1 (by show st.map (rv ρ) = _; rw [hst, ← List.map_reverse, List.reverse_reverse]) (lv_room hcat') hd ⟨hRc, hRs⟩
      · rw [cw_with hh] at hM hws hcw
        exact vx_runSX S hM ⟨⟨rfl, rfl, hfr, hlo, hws, List.mem_cons_self⟩, S.2.2.2.2 _ hcw, S.2.2.2.2 _ hini, hy, hsig, S.2.2.2.2 _ hlk, S.2.2.2.2 _ hstat⟩ ⟨hb0, hPc⟩ rfl hlen hL.2.1 (by show st.map (rv ρ) = _; rw [hst, ← List.map_reverse, List.reverse_reverse]) (lv_room hcat') hd ⟨hRc, hRs⟩
    | false =>
      obtain ⟨hn, hinst, hsel, ci, T, N, hrc, hcl⟩ := hkind
      subst hins
      have h2 := hin.2
      rw [hrc] at h2
      obtain ⟨hlen, b, r, fs, has, hfs⟩ := h2
      have hrecv := va_recv hK hP hcl (p_w_get hfs)
      have hlen' : (r.map (rv ρ)).length = q.np := by rw [List.length_map]; rw [has] at hlen; simpa using hlen
      have hstk : st.map (rv ρ) = (r.map (rv ρ)).reverse ++ .ref (ρ b) :: (st.drop n).map (rv ρ) := by
        have h9 : st.take n = (.ref b :: r).reverse := by rw [← has, List.reverse_reverse]
        rw [hst, h9]
        simp [rv]
      have hPc' : ∀ U : State, U.heap = H → s.WarmedH U.vm → p_Pc cl Sh ρ cA D tys H.size (st.take n).reverse M (Value.ref (ρ b) :: r.map (rv ρ)).toArray U := fun U hU hW => by have h9 := hPc U hU hW; rw [has] at h9 ⊢; exact h9
      have e9 : ((st.take n).reverse.map (rv ρ)).toArray = (Value.ref (ρ b) :: r.map (rv ρ)).toArray := by rw [has]; rfl
      rw [e9]
      by_cases hh : q.hh = []
      · rw [cw_code hh] at hM hws hcw
        exact vx_runV S hM ⟨⟨rfl, rfl, hfr, hlo, hws, List.mem_cons_self, S.2.2.2.2 _ hcw, S.2.2.2.2 _ hini, hy, hsig, S.2.2.2.2 _ hlk⟩, S.2.2.2.2 _ hinst, S.2.2.2.2 _ hsel⟩ ⟨hb0, hrecv, hPc'⟩ rfl hlen' hL.2.1 hstk (lv_room hcat') hd ⟨hRc, hRs⟩
      · rw [cw_with hh] at hM hws hcw
        exact vx_runVX S hM ⟨⟨rfl, rfl, hfr, hlo, hws, List.mem_cons_self⟩, S.2.2.2.2 _ hcw, S.2.2.2.2 _ hini, hy, hsig, S.2.2.2.2 _ hlk, S.2.2.2.2 _ hinst, S.2.2.2.2 _ hsel⟩ ⟨hb0, hrecv, hPc'⟩ rfl hlen' hL.2.1 hstk (lv_room hcat') hd ⟨hRc, hRs⟩
  have hA1 : ∀ q, q < H.size → p_A ρ Sh.length H.size q → A q := fun q9 _ h9 => p_A_in hD (fun z hz => hAn z (Nat.le_trans hS.1 hz)) q9 h9
  have hA2 : ∀ q, p_A ρ Sh.length H.size q → A q := fun q9 h9 => p_A_in hD (fun z hz => hAn z (Nat.le_trans hS.1 hz)) q9 h9
  intro T hT X
  rcases hrun T hT X with ⟨v, st₀, t, T', L9, h0, X', hL9, e1, e2, ⟨⟨v', M', hv, hq0, hP'⟩, hF⟩, hgo⟩ | ⟨q9, st₀, t, T', L9, E9, ce, h0, X', hL9, e1, e2, ⟨hE9, ⟨M', hq0, hP'⟩, hF⟩, hce, hcv, hcl9, hgo⟩
  · cases hv
    obtain ⟨k1, k2, k3⟩ := vx_keep h0 e1 hS hA1 hA2 hL9 hF
    obtain ⟨t2, a1, b1⟩ := kr v' M' hq0 T'.heap (locs ++ L9) ls hL (by rw [e1]; exact hP') (p_w_D hD) k3 T' rfl X'
    refine ⟨t2, hgo t2 ?_, b1⟩
    have e7 : (v'.map (rv ρ)).toList ++ (st.drop n).map (rv ρ) = (v'.toList ++ st.drop n).map (rv ρ) := by cases v' <;> simp
    rw [e7]
    exact a1
  · subst hE9
    obtain ⟨k1, k2, k3⟩ := vx_keep h0 e1 hS hA1 hA2 hL9 hF
    obtain ⟨t2, a1, b1⟩ := kx M' hq0 T'.heap (locs ++ L9) ls ((st.drop n).map (rv ρ)) q9 ce hL (by rw [e1]; exact hP') (p_w_D hD) k3 (by rw [e1]; exact hce) hcv hcl9 T' rfl X'
    exact ⟨t2, hgo.trans a1, b1⟩
end PCALL

/-! The induction over the depth of calls. -/
theorem lv_args_mem {ρ : Nat → Nat} : ∀ (vs : List Value) (i j : Nat) (v : Value), (p_ent vs)[j]? = some (some v) → (i + j, rv ρ v) ∈ lv_args i (vs.map (rv ρ))
  | [], _, _, _, h => by simp [p_ent] at h
  | w :: vs, i, j, v, h => by
    have key : ∀ (hc : w.category = 1), p_ent (w :: vs) = some w :: p_ent vs := fun hc => by cases w <;> first | rfl | simp [Value.category] at hc
    have key2 : ∀ (hc : w.category = 2), p_ent (w :: vs) = some w :: none :: p_ent vs := fun hc => by cases w <;> first | rfl | simp [Value.category] at hc
    show _ ∈ (i, rv ρ w) :: lv_args (if (rv ρ w).category = 2 then i + 2 else i + 1) (vs.map (rv ρ))
    rcases lv_cat w with hc | hc
    · rw [key hc] at h
      rw [rv_cat, if_neg (by omega)]
      cases j with
      | zero => cases h; exact List.mem_cons_self
      | succ j =>
        have := lv_args_mem (ρ := ρ) vs (i + 1) j v h
        rw [show i + (j + 1) = i + 1 + j by omega]
        exact List.mem_cons_of_mem _ this
    · rw [key2 hc] at h
      rw [rv_cat, if_pos hc]
      rcases j with _ | _ | j
      · cases h; exact List.mem_cons_self
      · cases h
      · have := lv_args_mem (ρ := ρ) vs (i + 2) j v h
        rw [show i + (j + 2) = i + 2 + j by omega]
        exact List.mem_cons_of_mem _ this
theorem p_ent_sl {ρ : Nat → Nat} : ∀ vs : List Value, (lg_sl (vs.map (rv ρ))).length = (p_ent vs).length
  | [] => rfl
  | w :: vs => by
    have ih := p_ent_sl (ρ := ρ) vs
    have e : lg_sl ((w :: vs).map (rv ρ)) = (if (rv ρ w).category = 2 then [.val (rv ρ w), .second] else [.val (rv ρ w)]) ++ lg_sl (vs.map (rv ρ)) := rfl
    rw [e, List.length_append, ih]
    cases w <;> simp [rv, Value.category, p_ent] <;> omega
theorem p_entry {ρ : Nat → Nat} {n : Nat} {vs : List Value} (h : (p_ent vs).length ≤ n) : p_Lr ρ n (p_ent0 n vs) ((lg_sl (vs.map (rv ρ)) ++ List.replicate (n - (lg_sl (vs.map (rv ρ))).length) Slot.unset).toArray) := by
  have h1 := lv_entry (vs.map (rv ρ)) (n := n) (by rw [p_ent_sl]; exact h)
  refine ⟨by simp [p_ent0]; omega, h1.1, h1.2.1, fun q hq => ?_⟩
  obtain ⟨j, w⟩ := q
  obtain ⟨v, hv, rfl⟩ := lvl_mem.mp hq
  refine h1.2.2 (j, rv ρ v) ?_
  have hv' : (p_ent vs)[j]? = some (some v) := by
    unfold p_ent0 at hv
    by_cases hj : j < (p_ent vs).length
    · rw [List.getElem?_append_left hj] at hv; exact hv
    · rw [List.getElem?_append_right (by omega), List.getElem?_replicate] at hv
      split at hv <;> cases hv
  have := lv_args_mem (ρ := ρ) vs 0 j v hv'
  rwa [Nat.zero_add] at this
section PTH
variable {p : Program} {l : Launch} {e : Env} {R : Room} {s : State} {m : MethodId} {args : Array Value} {below : List Frame} {meth : Method} {c : Code} {H0 : Heap} {cells slots mc ms : Nat} {D : va_G} {cl : List vw_C} {tys : List (ClassId × FieldType)} {A free : Nat → Prop} {ρ : Nat → Nat} {cA : Nat → ClassId} {Sh : List PSh} {cc : ByteArray} {nL : Nat} {own : String} {Ts : List Cond} {MT : Nat → Option PMeth} {XN : String} {K9 d : Nat} {Qc : Array Value → State → Outcome → State → Prop} {XC : String → State → State → Prop}
theorem p_throw {hh : List (Nat × Nat × Nat × Nat)} {hn : Nat → Option (Nat × Nat)} (S : CallFix p m c cc nL s args Ts own) (htab : c.exceptionTable.toList = tableOf hh) (hok : p_hok Ts own XN cc nL hh hn) (hlocks : meth.locks = false) (hmc : cells ≤ mc) (hms : slots ≤ ms) (hAf : ∀ q, A q → free q)
    {K : Nat → List (Option Value) → List Value → PM → Prop} {Qp : Option (Option Value) → PM → Prop}
    (hKK : ∀ pc L st M, K pc L st M → p_sm p l e R s m args below meth c H0 cells slots (vx_MQ below Qc XC args s mc ms free) D cl A ρ cA Sh nL pc L st M)
    (hX : ∀ (M : PM) (H : Heap) (locs : List Loc), Qp none M → va_P D cl (p_w ρ cA Sh M) H → va_D A (p_w ρ cA Sh M) → va_S A H0 H locs → ∀ t : State, t.heap = H → s.vm.Alike t.vm → XC XN s t)
    {pc : Nat} {L : List (Option Value)} {M : PM} (h : p_th hn pc L M K Qp) : p_sx p l e R s m args below meth c H0 cells slots (vx_MQ below Qc XC args s mc ms free) D cl A ρ cA Sh nL XN pc L M := by
  intro H locs ls rest q ce hL hP hD hS hce hcv hcl
  obtain ⟨hx, hb, hml, hown, hts⟩ := S
  unfold p_th at h
  split at h
  · rename_i p2 i hi
    obtain ⟨pre, x, suf, h1, h2, h3, h4, h5, h7, h8⟩ := hok.2 pc p2 i hi
    refine vx_catch hown pre x suf (htab.trans h1) h2 h3 h4 (hts _ h5) hce hcv hcl ?_
    rcases h8 with ⟨k, hk, hd, rfl⟩ | ⟨hd, rfl⟩
    · exact lv_astore_n hx hb hd hk hL.2 h7 rfl (fun ls' hl' => hKK _ _ _ _ h H locs ls' (hL.set1 h7 (fun w hw => by cases hw) hl') hP hD hS)
    · exact lv_astore hx hb hd hL.2 h7 rfl (fun ls' hl' => hKK _ _ _ _ h H locs ls' (hL.set1 h7 (fun w hw => by cases hw) hl') hP hD hS)
  · rename_i hi
    exact vx_out (fun x hx9 => hok.1 pc hi x (by rw [← htab]; exact hx9)) hlocks hce hcv hcl (fun t ht ha => hX M H locs h hP hD hS t ht ha) (fun z hz => hAf _ (hS.2.2 z hz)) hmc hms
/-- the walk of a body: from a point where the pure machine goes through, the real one does, up to where the pure code ends -/
theorem p_body {q : PMeth} {X9 : Nat → List (Option Value) → List Value → PM → Prop} (CT : p_CT l cl Ts MT Sh XN K9 d) (S : CallFix p m c q.bytes q.maxL s args Ts q.y.cls) (hg : ∀ w ∈ Ts, goodWord w = true) (hK : va_K D cl tys s) (hsh : p_shok cl tys cA Sh) (hAn : ∀ q, H0.size ≤ q → A q) (hRf : d + 1 ≤ R.frames) (hRl : ∀ k q, MT k = some q → 8 + (q.maxL + 11) + d * K9 ≤ R.locals) (hRc : cells ≤ R.cells) (hRs : slots ≤ R.slots) (hR21 : 21 ≤ R.locals)
    (hmok : p_mok cl Ts MT XN q) (htab : c.exceptionTable.toList = tableOf q.hh) (hlocks : meth.locks = false) (hret : meth.sig.returnType = q.ret) (hmc : cells ≤ mc) (hms : slots ≤ ms) (hAf : ∀ q, A q → free q)
    (hkind0 : ∀ (k : Nat) (fs : List (Nat ⊕ FieldType)), Sh[k]? = some (.inl (p_xc, fs)) → ∃ T N, cl[p_xc]? = some (XN, T, N))
    {Qp : Option (Option Value) → PM → Prop}
    (hX9 : ∀ pc L st M, X9 pc L st M → p_sm p l e R s m args below meth c H0 cells slots (vx_MQ below Qc XC args s mc ms free) D cl A ρ cA Sh q.maxL pc L st M)
    (hX : ∀ (M : PM) (H : Heap) (locs : List Loc), Qp none M → va_P D cl (p_w ρ cA Sh M) H → va_D A (p_w ρ cA Sh M) → va_S A H0 H locs → ∀ t : State, t.heap = H → s.vm.Alike t.vm → XC XN s t)
    (hQ : ∀ (v : Option Value) (M : PM) (H : Heap) (locs : List Loc), Qp (some v) M → va_P D cl (p_w ρ cA Sh M) H → va_D A (p_w ρ cA Sh M) → va_S A H0 H locs → ∀ t : State, t.heap = H → s.WarmedH t.vm → Qc args s (.returned (v.map (rv ρ))) t)
    {pc : Nat} {L : List (Option Value)} {st : List Value} {M : PM} (h : Ev (Sh, p_sem MT Sh d, q.hn, q.ret, q.code, X9) Qp pc L st M) :
    p_sm p l e R s m args below meth c H0 cells slots (vx_MQ below Qc XC args s mc ms free) D cl A ρ cA Sh q.maxL pc L st M := by
  refine h (p_sm p l e R s m args below meth c H0 cells slots (vx_MQ below Qc XC args s mc ms free) D cl A ρ cA Sh q.maxL) (fun pc L st M hs => ?_)
  unfold p_st at hs
  split at hs
  · exact hX9 _ _ _ _ hs
  · rename_i ins nx a0 b0 ts0 cv hcode
    obtain ⟨len, hd, hnx, hchk, hcv, hcs⟩ := hmok.2.2 pc ins nx a0 b0 ts0 cv hcode
    refine p_ex_snd (E := p_sem MT Sh d) (hn := q.hn) (XN := XN) S.1 S.2.1 S.2.2.2.1 S.2.2.2.2 hK hsh hlocks hret hmc hms hAf hd hnx hchk S.2.2.1 ⟨by omega, hR21, hRc, hRs⟩ (fun i hi h0 => by have h8 := hcs i hi; unfold p_csx at h8; rw [if_pos h0] at h8; exact h8) (fun i hi h0 => by have h8 := hcs i hi; unfold p_csx at h8; rw [if_neg (by omega), if_pos h0] at h8; exact h8) ?_ (fun _ _ _ _ h9 => h9) ?_ (fun L M h9 => p_throw S htab hmok.2.1 hlocks hmc hms hAf (fun _ _ _ _ h8 => h8) hX h9) hQ hs
    · intro k fs hfs
      obtain ⟨T, N, hcl⟩ := hkind0 k fs hfs
      refine ⟨T, N, hcl, fun H hP => ?_⟩
      obtain ⟨r, -, cell, hc1, hc2, hc3, -⟩ := hP k _ (p_w_get hfs)
      exact ⟨cell, hc1, hc3⟩
    · rintro k n L st M Q0 ⟨i, hi⟩ rfl rfl hcat hE kr kx
      rcases hi with rfl | ⟨rfl, n0, n1⟩
      · have hlen : len = 3 := hchk
        subst hlen
        exact p_call CT S hg hK hsh hAn hRf hRl hRc hRs (st9 := false) rfl hd (hcv i rfl) hcat hE kr kx
      · have hlen : len = 3 := hchk
        subst hlen
        exact p_call CT S hg hK hsh hAn hRf hRl hRc hRs (st9 := true) rfl hd (by have h8 := hcs i rfl; unfold p_csx at h8; rw [if_neg n0, if_neg n1] at h8; exact h8) hcat hE kr kx
end PTH
theorem p_ct {l : Launch} {cl : List vw_C} {Ts : List Cond} {MT : Nat → Option PMeth} {Sh : List PSh} {XN : String} {K9 : Nat} (hg : ∀ w ∈ Ts, goodWord w = true) (hmok : ∀ k q, MT k = some q → p_mok cl Ts MT XN q) (hK9 : ∀ k q, MT k = some q → q.maxL + 19 ≤ K9 ∧ 21 ≤ K9)
    (hkind0 : ∀ (k : Nat) (fs : List (Nat ⊕ FieldType)), Sh[k]? = some (.inl (p_xc, fs)) → ∃ T N, cl[p_xc]? = some (XN, T, N)) : ∀ d, p_CT l cl Ts MT Sh XN K9 d := by
  intro d
  induction d with
  | zero => intro k q hq ρ cA D tys sz as M Q0 hsh hE; exact hE.elim
  | succ d CT =>
    intro k q hq ρ cA D tys sz as M Q0 hsh hE
    obtain ⟨q', hq', hin, hev⟩ := hE
    cases Option.some.inj (hq.symm.trans hq')
    have hm := hmok k q hq
    have body : ∀ (p : Program) (e : Env) (s : State) (m : MethodId) (args : Array Value) (below : List Frame) (meth : Method) (c : Code) (s₁ : State), BodyLoose p l q.y (headSpec (q.cw :: Ts) (p_rm K9 (d + 1))) q.bytes q.maxL q.ret e s m args below meth c s₁ → c.maxLocals = q.maxL → c.exceptionTable.toList = tableOf q.hh → p_Pc cl Sh ρ cA D tys sz as M args s →
        W p l e (headSpec (q.cw :: Ts) (p_rm K9 (d + 1))).room s m args below meth c s.heap [] 0 0 (vx_MQ below (p_Qc cl Sh ρ cA D sz Q0) (p_XC cl Sh XN ρ cA D sz Q0) args s 0 0 (p_A ρ Sh.length sz)) (entryFrame m args q.maxL) := by
      intro p e s m args below meth c s₁ B hml htab hPc
      obtain ⟨rfl, hsz, hP, hK, hD⟩ := hPc
      subst hsz
      have hts0 := atoms_spec (ws := q.cw :: Ts) B.pre
      have hts : ∀ w ∈ Ts, w.before (as.map (rv ρ)).toArray s = true := fun w hw => hts0 w (List.mem_cons_of_mem _ hw)
      have hown : s.vm.findClass q.y.cls = some m.cls := findClass_of_methodNamed B.named
      have hDA : va_D (p_A ρ Sh.length s.heap.size) (p_w ρ cA Sh M) := hD.weaken (fun k9 q9 hk9 _ => by
        obtain ⟨sh, hs, rfl⟩ := p_w_inv hk9
        exact Or.inl ⟨k9, (List.getElem?_eq_some_iff.mp hs).1, rfl⟩)
      rw [lg_entry_eq]
      refine p_body (d := d) (H0 := s.heap) (A := p_A ρ Sh.length s.heap.size) (X9 := fun _ _ _ _ => False) CT ⟨B.exec, B.bytes, hml, hown, hts⟩ hg hK hsh (fun q9 h9 => Or.inr h9) (Nat.le_refl _) (fun k9 q9 h9 => ?_) (Nat.zero_le _) (Nat.zero_le _) (by show 21 ≤ (d + 1) * K9; have := (hK9 k q hq).2; rw [Nat.succ_mul]; omega) hm htab B.notSynchronized B.returns (Nat.le_refl 0) (Nat.le_refl 0) (fun _ h9 => h9) hkind0 (Qp := Q0) (fun _ _ _ _ h9 => h9.elim) ?_ ?_ hev s.heap [] _ (p_entry hin.1) hP hDA va_S.rf
      · show 8 + (q9.maxL + 11) + d * K9 ≤ (d + 1) * K9
        have := (hK9 k9 q9 h9).1
        rw [Nat.succ_mul]; omega
      · intro M' H locs hq0 hP' hD' hS' t ht ha
        exact ⟨rfl, ⟨M', hq0, by rw [ht]; exact hP'⟩, hS'.F ht⟩
      · intro v M' H locs hq0 hP' hD' hS' t ht hW
        exact ⟨⟨v, M', rfl, hq0, by rw [ht]; exact hP'⟩, hS'.F ht⟩
    by_cases hh : q.hh = []
    · have e1 := cw_code hh
      rw [e1] at body ⊢
      exact vx_ofW hm.1 rfl (fun p e s m args below meth c s₁ B hml hno hPc => body p e s m args below meth c s₁ B hml (by
        rw [hh]
        exact List.eq_nil_iff_forall_not_mem.mpr (fun x hx => hno x hx)) hPc)
    · have e1 := cw_with hh
      rw [e1] at body ⊢
      exact vx_ofWH hm.1 rfl (fun p e s m args below meth c s₁ B hml hPc => body p e s m args below meth c s₁ B hml (vx_table (x := q.y) B (atoms_spec (ws := _) B.pre _ List.mem_cons_self)) hPc)

/-! every method is checked -/
theorem p_hok1 {Ts : List Cond} {own XN : String} {bytes : ByteArray} {nL a b h ct p2 i : Nat} (h0 : ct ≠ 0) (h1 : Cond.classLink own ct XN ∈ Ts) (h3 : i < nL)
    (h4 : (∃ k : Fin 4, (k : Nat) = i ∧ decode bytes h = .ok (.astore_n k, 1) ∧ p2 = h + 1) ∨ (decode bytes h = .ok (.astore i, 2) ∧ p2 = h + 2)) : p_hok Ts own XN bytes nL [(a, b, h, ct)] (fun pc => if a ≤ pc ∧ pc < b then some (p2, i) else none) := by
  refine ⟨fun pc hn x hx => ?_, fun pc p2' i' hn => ?_⟩
  · obtain rfl : x = ⟨a, b, h, ct⟩ := List.mem_singleton.mp hx
    by_cases hc : a ≤ pc ∧ pc < b
    · simp [hc] at hn
    · simp only [covers]; simpa using hc
  · by_cases hc : a ≤ pc ∧ pc < b
    · simp only [hc, and_self, if_true, Option.some.injEq, Prod.mk.injEq] at hn
      obtain ⟨rfl, rfl⟩ := hn
      exact ⟨[], ⟨a, b, h, ct⟩, [], rfl, fun _ hz => (List.not_mem_nil hz).elim, by simp only [covers]; simpa using hc, h0, h1, h3, h4⟩
    · simp [hc] at hn
set_option maxRecDepth 20000 in
theorem mkX0_size : p_mok cls TS MT RJxb5711 qX0_size := p_ck_ok (F := FTX0) (Ml := MLX0) (Kc := KCX0) 5 (by decide +kernel) p_hok_nil FTX0_ok MLX0_ok KCX0_ok (fun pc h => if_neg h) (by decide +kernel)
set_option maxRecDepth 20000 in
theorem mkX0_at : p_mok cls TS MT RJxb5711 qX0_at := p_ck_ok (F := FTX0) (Ml := MLX0) (Kc := KCX0) 27 (by decide +kernel) p_hok_nil FTX0_ok MLX0_ok KCX0_ok (fun pc h => if_neg h) (by decide +kernel)
set_option maxRecDepth 20000 in
theorem mkX0_add : p_mok cls TS MT RJxb5711 qX0_add := p_ck_ok (F := FTX0) (Ml := MLX0) (Kc := KCX0) 34 (by decide +kernel) p_hok_nil FTX0_ok MLX0_ok KCX0_ok (fun pc h => if_neg h) (by decide +kernel)
set_option maxRecDepth 20000 in
theorem mkX0_addNumber : p_mok cls TS MT RJxb5711 qX0_addNumber := p_ck_ok (F := FTX0) (Ml := MLX0) (Kc := KCX0) 21 (by decide +kernel) p_hok_nil FTX0_ok MLX0_ok KCX0_ok (fun pc h => if_neg h) (by decide +kernel)
set_option maxRecDepth 20000 in
theorem mkX0_clear : p_mok cls TS MT RJxb5711 qX0_clear := p_ck_ok (F := FTX0) (Ml := MLX0) (Kc := KCX0) 6 (by decide +kernel) p_hok_nil FTX0_ok MLX0_ok KCX0_ok (fun pc h => if_neg h) (by decide +kernel)
set_option maxRecDepth 20000 in
theorem mkX1_made : p_mok cls TS MT RJxb5711 qX1_made := p_ck_ok (F := FTX1) (Ml := MLX1) (Kc := KCX1) 5 (by decide +kernel) p_hok_nil FTX1_ok MLX1_ok KCX1_ok (fun pc h => if_neg h) (by decide +kernel)
set_option maxRecDepth 20000 in
theorem mkX1_limit : p_mok cls TS MT RJxb5711 qX1_limit := p_ck_ok (F := FTX1) (Ml := MLX1) (Kc := KCX1) 5 (by decide +kernel) p_hok_nil FTX1_ok MLX1_ok KCX1_ok (fun pc h => if_neg h) (by decide +kernel)
set_option maxRecDepth 20000 in
theorem mkX1_setLimit : p_mok cls TS MT RJxb5711 qX1_setLimit := p_ck_ok (F := FTX1) (Ml := MLX1) (Kc := KCX1) 6 (by decide +kernel) p_hok_nil FTX1_ok MLX1_ok KCX1_ok (fun pc h => if_neg h) (by decide +kernel)
set_option maxRecDepth 20000 in
theorem mkX1_head : p_mok cls TS MT RJxb5711 qX1_head := p_ck_ok (F := FTX1) (Ml := MLX1) (Kc := KCX1) 34 (by decide +kernel) p_hok_nil FTX1_ok MLX1_ok KCX1_ok (fun pc h => if_neg h) (by decide +kernel)
set_option maxRecDepth 20000 in
theorem mkX1_tail : p_mok cls TS MT RJxb5711 qX1_tail := p_ck_ok (F := FTX1) (Ml := MLX1) (Kc := KCX1) 34 (by decide +kernel) p_hok_nil FTX1_ok MLX1_ok KCX1_ok (fun pc h => if_neg h) (by decide +kernel)
set_option maxRecDepth 20000 in
theorem mkX1_make : p_mok cls TS MT RJxb5711 qX1_make := p_ck_ok (F := FTX1) (Ml := MLX1) (Kc := KCX1) 121 (by decide +kernel) p_hok_nil FTX1_ok MLX1_ok KCX1_ok (fun pc h => if_neg h) (by decide +kernel)
set_option maxRecDepth 20000 in
theorem mkX1_reachedByFunctions : p_mok cls TS MT RJxb5711 qX1_reachedByFunctions := p_ck_ok (F := FTX1) (Ml := MLX1) (Kc := KCX1) 11 (by decide +kernel) p_hok_nil FTX1_ok MLX1_ok KCX1_ok (fun pc h => if_neg h) (by decide +kernel)
set_option maxRecDepth 20000 in
theorem mkX1_inUse : p_mok cls TS MT RJxb5711 qX1_inUse := p_ck_ok (F := FTX1) (Ml := MLX1) (Kc := KCX1) 9 (by decide +kernel) p_hok_nil FTX1_ok MLX1_ok KCX1_ok (fun pc h => if_neg h) (by decide +kernel)
set_option maxRecDepth 20000 in
theorem mkX1_collect : p_mok cls TS MT RJxb5711 qX1_collect := p_ck_ok (F := FTX1) (Ml := MLX1) (Kc := KCX1) 112 (by decide +kernel) p_hok_nil FTX1_ok MLX1_ok KCX1_ok (fun pc h => if_neg h) (by decide +kernel)
set_option maxRecDepth 20000 in
theorem mkX1_reach : p_mok cls TS MT RJxb5711 qX1_reach := p_ck_ok (F := FTX1) (Ml := MLX1) (Kc := KCX1) 136 (by decide +kernel) p_hok_nil FTX1_ok MLX1_ok KCX1_ok (fun pc h => if_neg h) (by decide +kernel)
set_option maxRecDepth 20000 in
theorem mkX1_takeBack : p_mok cls TS MT RJxb5711 qX1_takeBack := p_ck_ok (F := FTX1) (Ml := MLX1) (Kc := KCX1) 56 (by decide +kernel) p_hok_nil FTX1_ok MLX1_ok KCX1_ok (fun pc h => if_neg h) (by decide +kernel)
set_option maxRecDepth 20000 in
theorem mkX2_fault : p_mok cls TS MT RJxb5711 qX2_fault := p_ck_ok (F := FTX2) (Ml := MLX2) (Kc := KCX2) 5 (by decide +kernel) p_hok_nil FTX2_ok MLX2_ok KCX2_ok (fun pc h => if_neg h) (by decide +kernel)
set_option maxRecDepth 20000 in
theorem mkX2_answer : p_mok cls TS MT RJxb5711 qX2_answer := p_ck_ok (F := FTX2) (Ml := MLX2) (Kc := KCX2) 5 (by decide +kernel) p_hok_nil FTX2_ok MLX2_ok KCX2_ok (fun pc h => if_neg h) (by decide +kernel)
set_option maxRecDepth 20000 in
theorem mkX2_fuelTaken : p_mok cls TS MT RJxb5711 qX2_fuelTaken := p_ck_ok (F := FTX2) (Ml := MLX2) (Kc := KCX2) 5 (by decide +kernel) p_hok_nil FTX2_ok MLX2_ok KCX2_ok (fun pc h => if_neg h) (by decide +kernel)
set_option maxRecDepth 20000 in
theorem mkX2_mostFrames : p_mok cls TS MT RJxb5711 qX2_mostFrames := p_ck_ok (F := FTX2) (Ml := MLX2) (Kc := KCX2) 5 (by decide +kernel) p_hok_nil FTX2_ok MLX2_ok KCX2_ok (fun pc h => if_neg h) (by decide +kernel)
set_option maxRecDepth 20000 in
theorem mkX2_forget : p_mok cls TS MT RJxb5711 qX2_forget := p_ck_ok (F := FTX2) (Ml := MLX2) (Kc := KCX2) 16 (by decide +kernel) p_hok_nil FTX2_ok MLX2_ok KCX2_ok (fun pc h => if_neg h) (by decide +kernel)
set_option maxRecDepth 20000 in
theorem mkX2_run : p_mok cls TS MT RJxb5711 qX2_run := p_ck_ok (F := FTX2) (Ml := MLX2) (Kc := KCX2) 119 (by decide +kernel) p_hok_nil FTX2_ok MLX2_ok KCX2_ok (fun pc h => if_neg h) (by decide +kernel)
set_option maxRecDepth 20000 in
theorem mkX2_letGo : p_mok cls TS MT RJxb5711 qX2_letGo := p_ck_ok (F := FTX2) (Ml := MLX2) (Kc := KCX2) 34 (by decide +kernel) p_hok_nil FTX2_ok MLX2_ok KCX2_ok (fun pc h => if_neg h) (by decide +kernel)
set_option maxRecDepth 20000 in
theorem mkX2_emptyHand : p_mok cls TS MT RJxb5711 qX2_emptyHand := p_ck_ok (F := FTX2) (Ml := MLX2) (Kc := KCX2) 17 (by decide +kernel) p_hok_nil FTX2_ok MLX2_ok KCX2_ok (fun pc h => if_neg h) (by decide +kernel)
set_option maxRecDepth 20000 in
theorem mkX2_fail : p_mok cls TS MT RJxb5711 qX2_fail := p_ck_ok (F := FTX2) (Ml := MLX2) (Kc := KCX2) 18 (by decide +kernel) p_hok_nil FTX2_ok MLX2_ok KCX2_ok (fun pc h => if_neg h) (by decide +kernel)
set_option maxRecDepth 20000 in
theorem mkX2_burn : p_mok cls TS MT RJxb5711 qX2_burn := p_ck_ok (F := FTX2) (Ml := MLX2) (Kc := KCX2) 27 (by decide +kernel) p_hok_nil FTX2_ok MLX2_ok KCX2_ok (fun pc h => if_neg h) (by decide +kernel)
set_option maxRecDepth 20000 in
theorem mkX2_give : p_mok cls TS MT RJxb5711 qX2_give := p_ck_ok (F := FTX2) (Ml := MLX2) (Kc := KCX2) 22 (by decide +kernel) p_hok_nil FTX2_ok MLX2_ok KCX2_ok (fun pc h => if_neg h) (by decide +kernel)
set_option maxRecDepth 20000 in
theorem mkX2_evaluateNext : p_mok cls TS MT RJxb5711 qX2_evaluateNext := p_ck_ok (F := FTX2) (Ml := MLX2) (Kc := KCX2) 25 (by decide +kernel) p_hok_nil FTX2_ok MLX2_ok KCX2_ok (fun pc h => if_neg h) (by decide +kernel)
set_option maxRecDepth 20000 in
theorem mkX2_askHead : p_mok cls TS MT RJxb5711 qX2_askHead := p_ck_ok (F := FTX2) (Ml := MLX2) (Kc := KCX2) 23 (by decide +kernel) p_hok_nil FTX2_ok MLX2_ok KCX2_ok (fun pc h => if_neg h) (by decide +kernel)
set_option maxRecDepth 20000 in
theorem mkX2_askTail : p_mok cls TS MT RJxb5711 qX2_askTail := p_ck_ok (F := FTX2) (Ml := MLX2) (Kc := KCX2) 23 (by decide +kernel) p_hok_nil FTX2_ok MLX2_ok KCX2_ok (fun pc h => if_neg h) (by decide +kernel)
set_option maxRecDepth 20000 in
theorem mkX2_askSecond : p_mok cls TS MT RJxb5711 qX2_askSecond := p_ck_ok (F := FTX2) (Ml := MLX2) (Kc := KCX2) 10 (by decide +kernel) p_hok_nil FTX2_ok MLX2_ok KCX2_ok (fun pc h => if_neg h) (by decide +kernel)
set_option maxRecDepth 20000 in
theorem mkX2_askThird : p_mok cls TS MT RJxb5711 qX2_askThird := p_ck_ok (F := FTX2) (Ml := MLX2) (Kc := KCX2) 14 (by decide +kernel) p_hok_nil FTX2_ok MLX2_ok KCX2_ok (fun pc h => if_neg h) (by decide +kernel)
set_option maxRecDepth 20000 in
theorem mkX2_cons : p_mok cls TS MT RJxb5711 qX2_cons := p_ck_ok (F := FTX2) (Ml := MLX2) (Kc := KCX2) 38 (by decide +kernel) p_hok_nil FTX2_ok MLX2_ok KCX2_ok (fun pc h => if_neg h) (by decide +kernel)
set_option maxRecDepth 20000 in
theorem mkX2_lookUp : p_mok cls TS MT RJxb5711 qX2_lookUp := p_ck_ok (F := FTX2) (Ml := MLX2) (Kc := KCX2) 109 (by decide +kernel) p_hok_nil FTX2_ok MLX2_ok KCX2_ok (fun pc h => if_neg h) (by decide +kernel)
set_option maxRecDepth 20000 in
theorem mkX2_evaluate : p_mok cls TS MT RJxb5711 qX2_evaluate := p_ck_ok (F := FTX2) (Ml := MLX2) (Kc := KCX2) 107 (by decide +kernel) p_hok_nil FTX2_ok MLX2_ok KCX2_ok (fun pc h => if_neg h) (by decide +kernel)
set_option maxRecDepth 20000 in
theorem mkX2_evaluateAtom : p_mok cls TS MT RJxb5711 qX2_evaluateAtom := p_ck_ok (F := FTX2) (Ml := MLX2) (Kc := KCX2) 54 (by decide +kernel) p_hok_nil FTX2_ok MLX2_ok KCX2_ok (fun pc h => if_neg h) (by decide +kernel)
set_option maxRecDepth 20000 in
theorem mkX2_evaluateCond : p_mok cls TS MT RJxb5711 qX2_evaluateCond := p_ck_ok (F := FTX2) (Ml := MLX2) (Kc := KCX2) 39 (by decide +kernel) p_hok_nil FTX2_ok MLX2_ok KCX2_ok (fun pc h => if_neg h) (by decide +kernel)
set_option maxRecDepth 20000 in
theorem mkX2_evaluateFunction : p_mok cls TS MT RJxb5711 qX2_evaluateFunction := p_ck_ok (F := FTX2) (Ml := MLX2) (Kc := KCX2) 33 (by decide +kernel) p_hok_nil FTX2_ok MLX2_ok KCX2_ok (fun pc h => if_neg h) (by decide +kernel)
set_option maxRecDepth 20000 in
theorem mkX2_evaluateCall : p_mok cls TS MT RJxb5711 qX2_evaluateCall := p_ck_ok (F := FTX2) (Ml := MLX2) (Kc := KCX2) 56 (by decide +kernel) p_hok_nil FTX2_ok MLX2_ok KCX2_ok (fun pc h => if_neg h) (by decide +kernel)
set_option maxRecDepth 20000 in
theorem mkX2_pushFrame : p_mok cls TS MT RJxb5711 qX2_pushFrame := p_ck_ok (F := FTX2) (Ml := MLX2) (Kc := KCX2) 96 (by decide +kernel) p_hok_nil FTX2_ok MLX2_ok KCX2_ok (fun pc h => if_neg h) (by decide +kernel)
set_option maxRecDepth 20000 in
theorem mkX2_popFrame : p_mok cls TS MT RJxb5711 qX2_popFrame := p_ck_ok (F := FTX2) (Ml := MLX2) (Kc := KCX2) 19 (by decide +kernel) p_hok_nil FTX2_ok MLX2_ok KCX2_ok (fun pc h => if_neg h) (by decide +kernel)
set_option maxRecDepth 20000 in
theorem mkX2_takeValue : p_mok cls TS MT RJxb5711 qX2_takeValue := p_ck_ok (F := FTX2) (Ml := MLX2) (Kc := KCX2) 81 (by decide +kernel) p_hok_nil FTX2_ok MLX2_ok KCX2_ok (fun pc h => if_neg h) (by decide +kernel)
set_option maxRecDepth 20000 in
theorem mkX2_takeChoice : p_mok cls TS MT RJxb5711 qX2_takeChoice := p_ck_ok (F := FTX2) (Ml := MLX2) (Kc := KCX2) 93 (by decide +kernel) p_hok_nil FTX2_ok MLX2_ok KCX2_ok (fun pc h => if_neg h) (by decide +kernel)
set_option maxRecDepth 20000 in
theorem mkX2_takeArgument : p_mok cls TS MT RJxb5711 qX2_takeArgument := p_ck_ok (F := FTX2) (Ml := MLX2) (Kc := KCX2) 100 (by decide +kernel) p_hok_nil FTX2_ok MLX2_ok KCX2_ok (fun pc h => if_neg h) (by decide +kernel)
set_option maxRecDepth 20000 in
theorem mkX2_takeInHand : p_mok cls TS MT RJxb5711 qX2_takeInHand := p_ck_ok (F := FTX2) (Ml := MLX2) (Kc := KCX2) 66 (by decide +kernel) p_hok_nil FTX2_ok MLX2_ok KCX2_ok (fun pc h => if_neg h) (by decide +kernel)
set_option maxRecDepth 20000 in
theorem mkX2_isBuiltIn : p_mok cls TS MT RJxb5711 qX2_isBuiltIn := p_ck_ok (F := FTX2) (Ml := MLX2) (Kc := KCX2) 41 (by decide +kernel) p_hok_nil FTX2_ok MLX2_ok KCX2_ok (fun pc h => if_neg h) (by decide +kernel)
set_option maxRecDepth 20000 in
theorem mkX2_apply : p_mok cls TS MT RJxb5711 qX2_apply := p_ck_ok (F := FTX2) (Ml := MLX2) (Kc := KCX2) 98 (by decide +kernel) p_hok_nil FTX2_ok MLX2_ok KCX2_ok (fun pc h => if_neg h) (by decide +kernel)
set_option maxRecDepth 20000 in
theorem mkX2_applySymbol : p_mok cls TS MT RJxb5711 qX2_applySymbol := p_ck_ok (F := FTX2) (Ml := MLX2) (Kc := KCX2) 53 (by decide +kernel) p_hok_nil FTX2_ok MLX2_ok KCX2_ok (fun pc h => if_neg h) (by decide +kernel)
set_option maxRecDepth 20000 in
theorem mkX2_applyLambda : p_mok cls TS MT RJxb5711 qX2_applyLambda := p_ck_ok (F := FTX2) (Ml := MLX2) (Kc := KCX2) 125 (by decide +kernel) p_hok_nil FTX2_ok MLX2_ok KCX2_ok (fun pc h => if_neg h) (by decide +kernel)
set_option maxRecDepth 20000 in
theorem mkX2_lookAtVariables : p_mok cls TS MT RJxb5711 qX2_lookAtVariables := p_ck_ok (F := FTX2) (Ml := MLX2) (Kc := KCX2) 85 (by decide +kernel) p_hok_nil FTX2_ok MLX2_ok KCX2_ok (fun pc h => if_neg h) (by decide +kernel)
set_option maxRecDepth 20000 in
theorem mkX2_askVariable : p_mok cls TS MT RJxb5711 qX2_askVariable := p_ck_ok (F := FTX2) (Ml := MLX2) (Kc := KCX2) 25 (by decide +kernel) p_hok_nil FTX2_ok MLX2_ok KCX2_ok (fun pc h => if_neg h) (by decide +kernel)
set_option maxRecDepth 20000 in
theorem mkX2_applyLabel : p_mok cls TS MT RJxb5711 qX2_applyLabel := p_ck_ok (F := FTX2) (Ml := MLX2) (Kc := KCX2) 68 (by decide +kernel) p_hok_nil FTX2_ok MLX2_ok KCX2_ok (fun pc h => if_neg h) (by decide +kernel)
set_option maxRecDepth 20000 in
theorem mkX2_applyFunarg : p_mok cls TS MT RJxb5711 qX2_applyFunarg := p_ck_ok (F := FTX2) (Ml := MLX2) (Kc := KCX2) 38 (by decide +kernel) p_hok_nil FTX2_ok MLX2_ok KCX2_ok (fun pc h => if_neg h) (by decide +kernel)
set_option maxRecDepth 20000 in
theorem mkX2_applyBuiltIn : p_mok cls TS MT RJxb5711 qX2_applyBuiltIn := p_ck_ok (F := FTX2) (Ml := MLX2) (Kc := KCX2) 260 (by decide +kernel) p_hok_nil FTX2_ok MLX2_ok KCX2_ok (fun pc h => if_neg h) (by decide +kernel)
set_option maxRecDepth 20000 in
theorem mkX2_valuesWanted : p_mok cls TS MT RJxb5711 qX2_valuesWanted := p_ck_ok (F := FTX2) (Ml := MLX2) (Kc := KCX2) 56 (by decide +kernel) p_hok_nil FTX2_ok MLX2_ok KCX2_ok (fun pc h => if_neg h) (by decide +kernel)
set_option maxRecDepth 20000 in
theorem mkX2_givePart : p_mok cls TS MT RJxb5711 qX2_givePart := p_ck_ok (F := FTX2) (Ml := MLX2) (Kc := KCX2) 42 (by decide +kernel) p_hok_nil FTX2_ok MLX2_ok KCX2_ok (fun pc h => if_neg h) (by decide +kernel)
set_option maxRecDepth 20000 in
theorem mkX2_giveList : p_mok cls TS MT RJxb5711 qX2_giveList := p_ck_ok (F := FTX2) (Ml := MLX2) (Kc := KCX2) 42 (by decide +kernel) p_hok_nil FTX2_ok MLX2_ok KCX2_ok (fun pc h => if_neg h) (by decide +kernel)
set_option maxRecDepth 20000 in
theorem mkX2_giveReckoned : p_mok cls TS MT RJxb5711 qX2_giveReckoned := p_ck_ok (F := FTX2) (Ml := MLX2) (Kc := KCX2) 167 (by decide +kernel) p_hok_nil FTX2_ok MLX2_ok KCX2_ok (fun pc h => if_neg h) (by decide +kernel)
set_option maxRecDepth 20000 in
theorem mkX3_print : p_mok cls TS MT RJxb5711 qX3_print := p_ck_ok (F := FTX3) (Ml := MLX3) (Kc := KCX3) 96 (by decide +kernel) p_hok_nil FTX3_ok MLX3_ok KCX3_ok (fun pc h => if_neg h) (by decide +kernel)
set_option maxRecDepth 20000 in
theorem mkX3_nextElement : p_mok cls TS MT RJxb5711 qX3_nextElement := p_ck_ok (F := FTX3) (Ml := MLX3) (Kc := KCX3) 87 (by decide +kernel) p_hok_nil FTX3_ok MLX3_ok KCX3_ok (fun pc h => if_neg h) (by decide +kernel)
set_option maxRecDepth 20000 in
theorem mkX3_closeList : p_mok cls TS MT RJxb5711 qX3_closeList := p_ck_ok (F := FTX3) (Ml := MLX3) (Kc := KCX3) 48 (by decide +kernel) p_hok_nil FTX3_ok MLX3_ok KCX3_ok (fun pc h => if_neg h) (by decide +kernel)
set_option maxRecDepth 20000 in
theorem mkX3_printAtom : p_mok cls TS MT RJxb5711 qX3_printAtom := p_ck_ok (F := FTX3) (Ml := MLX3) (Kc := KCX3) 59 (by decide +kernel) p_hok_nil FTX3_ok MLX3_ok KCX3_ok (fun pc h => if_neg h) (by decide +kernel)
set_option maxRecDepth 20000 in
theorem mkX3_printNumber : p_mok cls TS MT RJxb5711 qX3_printNumber := p_ck_ok (F := FTX3) (Ml := MLX3) (Kc := KCX3) 76 (by decide +kernel) p_hok_nil FTX3_ok MLX3_ok KCX3_ok (fun pc h => if_neg h) (by decide +kernel)
set_option maxRecDepth 20000 in
theorem mkX4_fault : p_mok cls TS MT RJxb5711 qX4_fault := p_ck_ok (F := FTX4) (Ml := MLX4) (Kc := KCX4) 5 (by decide +kernel) p_hok_nil FTX4_ok MLX4_ok KCX4_ok (fun pc h => if_neg h) (by decide +kernel)
set_option maxRecDepth 20000 in
theorem mkX4_faultPlace : p_mok cls TS MT RJxb5711 qX4_faultPlace := p_ck_ok (F := FTX4) (Ml := MLX4) (Kc := KCX4) 5 (by decide +kernel) p_hok_nil FTX4_ok MLX4_ok KCX4_ok (fun pc h => if_neg h) (by decide +kernel)
set_option maxRecDepth 20000 in
theorem mkX4_begin : p_mok cls TS MT RJxb5711 qX4_begin := p_ck_ok (F := FTX4) (Ml := MLX4) (Kc := KCX4) 36 (by decide +kernel) p_hok_nil FTX4_ok MLX4_ok KCX4_ok (fun pc h => if_neg h) (by decide +kernel)
set_option maxRecDepth 20000 in
theorem mkX4_readName : p_mok cls TS MT RJxb5711 qX4_readName := p_ck_ok (F := FTX4) (Ml := MLX4) (Kc := KCX4) 105 (by decide +kernel) p_hok_nil FTX4_ok MLX4_ok KCX4_ok (fun pc h => if_neg h) (by decide +kernel)
set_option maxRecDepth 20000 in
theorem mkX4_readWhole : p_mok cls TS MT RJxb5711 qX4_readWhole := p_ck_ok (F := FTX4) (Ml := MLX4) (Kc := KCX4) 66 (by decide +kernel) p_hok_nil FTX4_ok MLX4_ok KCX4_ok (fun pc h => if_neg h) (by decide +kernel)
set_option maxRecDepth 20000 in
theorem mkX4_fail : p_mok cls TS MT RJxb5711 qX4_fail := p_ck_ok (F := FTX4) (Ml := MLX4) (Kc := KCX4) 18 (by decide +kernel) p_hok_nil FTX4_ok MLX4_ok KCX4_ok (fun pc h => if_neg h) (by decide +kernel)
set_option maxRecDepth 20000 in
theorem mkX4_readToken : p_mok cls TS MT RJxb5711 qX4_readToken := p_ck_ok (F := FTX4) (Ml := MLX4) (Kc := KCX4) 92 (by decide +kernel) p_hok_nil FTX4_ok MLX4_ok KCX4_ok (fun pc h => if_neg h) (by decide +kernel)
set_option maxRecDepth 20000 in
theorem mkX4_state : p_mok cls TS MT RJxb5711 qX4_state := p_ck_ok (F := FTX4) (Ml := MLX4) (Kc := KCX4) 41 (by decide +kernel) p_hok_nil FTX4_ok MLX4_ok KCX4_ok (fun pc h => if_neg h) (by decide +kernel)
set_option maxRecDepth 20000 in
theorem mkX4_setState : p_mok cls TS MT RJxb5711 qX4_setState := p_ck_ok (F := FTX4) (Ml := MLX4) (Kc := KCX4) 29 (by decide +kernel) p_hok_nil FTX4_ok MLX4_ok KCX4_ok (fun pc h => if_neg h) (by decide +kernel)
set_option maxRecDepth 20000 in
theorem mkX4_mayBegin : p_mok cls TS MT RJxb5711 qX4_mayBegin := p_ck_ok (F := FTX4) (Ml := MLX4) (Kc := KCX4) 22 (by decide +kernel) p_hok_nil FTX4_ok MLX4_ok KCX4_ok (fun pc h => if_neg h) (by decide +kernel)
set_option maxRecDepth 20000 in
theorem mkX4_openOne : p_mok cls TS MT RJxb5711 qX4_openOne := p_ck_ok (F := FTX4) (Ml := MLX4) (Kc := KCX4) 87 (by decide +kernel) p_hok_nil FTX4_ok MLX4_ok KCX4_ok (fun pc h => if_neg h) (by decide +kernel)
set_option maxRecDepth 20000 in
theorem mkX4_readDot : p_mok cls TS MT RJxb5711 qX4_readDot := p_ck_ok (F := FTX4) (Ml := MLX4) (Kc := KCX4) 34 (by decide +kernel) p_hok_nil FTX4_ok MLX4_ok KCX4_ok (fun pc h => if_neg h) (by decide +kernel)
set_option maxRecDepth 20000 in
theorem mkX4_closeList : p_mok cls TS MT RJxb5711 qX4_closeList := p_ck_ok (F := FTX4) (Ml := MLX4) (Kc := KCX4) 200 (by decide +kernel) p_hok_nil FTX4_ok MLX4_ok KCX4_ok (fun pc h => if_neg h) (by decide +kernel)
set_option maxRecDepth 20000 in
theorem mkX4_readAtom : p_mok cls TS MT RJxb5711 qX4_readAtom := p_ck_ok (F := FTX4) (Ml := MLX4) (Kc := KCX4) 105 (by decide +kernel) p_hok_nil FTX4_ok MLX4_ok KCX4_ok (fun pc h => if_neg h) (by decide +kernel)
set_option maxRecDepth 20000 in
theorem mkX4_readSymbol : p_mok cls TS MT RJxb5711 qX4_readSymbol := p_ck_ok (F := FTX4) (Ml := MLX4) (Kc := KCX4) 114 (by decide +kernel) p_hok_nil FTX4_ok MLX4_ok KCX4_ok (fun pc h => if_neg h) (by decide +kernel)
set_option maxRecDepth 20000 in
theorem mkX4_readNumber : p_mok cls TS MT RJxb5711 qX4_readNumber := p_ck_ok (F := FTX4) (Ml := MLX4) (Kc := KCX4) 158 (by decide +kernel) p_hok_nil FTX4_ok MLX4_ok KCX4_ok (fun pc h => if_neg h) (by decide +kernel)
set_option maxRecDepth 20000 in
theorem mkX4_complete : p_mok cls TS MT RJxb5711 qX4_complete := p_ck_ok (F := FTX4) (Ml := MLX4) (Kc := KCX4) 157 (by decide +kernel) p_hok_nil FTX4_ok MLX4_ok KCX4_ok (fun pc h => if_neg h) (by decide +kernel)
set_option maxRecDepth 20000 in
theorem mkX4_isBlank : p_mok cls TS MT RJxb5711 qX4_isBlank := p_ck_ok (F := FTX4) (Ml := MLX4) (Kc := KCX4) 18 (by decide +kernel) p_hok_nil FTX4_ok MLX4_ok KCX4_ok (fun pc h => if_neg h) (by decide +kernel)
set_option maxRecDepth 20000 in
theorem mkX4_isLetter : p_mok cls TS MT RJxb5711 qX4_isLetter := p_ck_ok (F := FTX4) (Ml := MLX4) (Kc := KCX4) 18 (by decide +kernel) p_hok_nil FTX4_ok MLX4_ok KCX4_ok (fun pc h => if_neg h) (by decide +kernel)
set_option maxRecDepth 20000 in
theorem mkX4_isDigit : p_mok cls TS MT RJxb5711 qX4_isDigit := p_ck_ok (F := FTX4) (Ml := MLX4) (Kc := KCX4) 18 (by decide +kernel) p_hok_nil FTX4_ok MLX4_ok KCX4_ok (fun pc h => if_neg h) (by decide +kernel)
set_option maxRecDepth 20000 in
theorem mkX6_size : p_mok cls TS MT RJxb5711 qX6_size := p_ck_ok (F := FTX6) (Ml := MLX6) (Kc := KCX6) 5 (by decide +kernel) p_hok_nil FTX6_ok MLX6_ok KCX6_ok (fun pc h => if_neg h) (by decide +kernel)
set_option maxRecDepth 20000 in
theorem mkX6_at : p_mok cls TS MT RJxb5711 qX6_at := p_ck_ok (F := FTX6) (Ml := MLX6) (Kc := KCX6) 25 (by decide +kernel) p_hok_nil FTX6_ok MLX6_ok KCX6_ok (fun pc h => if_neg h) (by decide +kernel)
set_option maxRecDepth 20000 in
theorem mkX6_put : p_mok cls TS MT RJxb5711 qX6_put := p_ck_ok (F := FTX6) (Ml := MLX6) (Kc := KCX6) 20 (by decide +kernel) p_hok_nil FTX6_ok MLX6_ok KCX6_ok (fun pc h => if_neg h) (by decide +kernel)
set_option maxRecDepth 20000 in
theorem mkX6_add : p_mok cls TS MT RJxb5711 qX6_add := p_ck_ok (F := FTX6) (Ml := MLX6) (Kc := KCX6) 33 (by decide +kernel) p_hok_nil FTX6_ok MLX6_ok KCX6_ok (fun pc h => if_neg h) (by decide +kernel)
set_option maxRecDepth 20000 in
theorem mkX6_cut : p_mok cls TS MT RJxb5711 qX6_cut := p_ck_ok (F := FTX6) (Ml := MLX6) (Kc := KCX6) 18 (by decide +kernel) p_hok_nil FTX6_ok MLX6_ok KCX6_ok (fun pc h => if_neg h) (by decide +kernel)
set_option maxRecDepth 20000 in
theorem mkX6_present : p_mok cls TS MT RJxb5711 qX6_present := p_ck_ok (F := FTX6) (Ml := MLX6) (Kc := KCX6) 36 (by decide +kernel) p_hok_nil FTX6_ok MLX6_ok KCX6_ok (fun pc h => if_neg h) (by decide +kernel)
set_option maxRecDepth 20000 in
theorem mkX7_size : p_mok cls TS MT RJxb5711 qX7_size := p_ck_ok (F := FTX7) (Ml := MLX7) (Kc := KCX7) 5 (by decide +kernel) p_hok_nil FTX7_ok MLX7_ok KCX7_ok (fun pc h => if_neg h) (by decide +kernel)
set_option maxRecDepth 20000 in
theorem mkX7_lengthOf : p_mok cls TS MT RJxb5711 qX7_lengthOf := p_ck_ok (F := FTX7) (Ml := MLX7) (Kc := KCX7) 23 (by decide +kernel) p_hok_nil FTX7_ok MLX7_ok KCX7_ok (fun pc h => if_neg h) (by decide +kernel)
set_option maxRecDepth 20000 in
theorem mkX7_signOf : p_mok cls TS MT RJxb5711 qX7_signOf := p_ck_ok (F := FTX7) (Ml := MLX7) (Kc := KCX7) 29 (by decide +kernel) p_hok_nil FTX7_ok MLX7_ok KCX7_ok (fun pc h => if_neg h) (by decide +kernel)
set_option maxRecDepth 20000 in
theorem mkX7_named : p_mok cls TS MT RJxb5711 qX7_named := p_ck_ok (F := FTX7) (Ml := MLX7) (Kc := KCX7) 99 (by decide +kernel) p_hok_nil FTX7_ok MLX7_ok KCX7_ok (fun pc h => if_neg h) (by decide +kernel)
set_option maxRecDepth 20000 in
theorem mkX7_isNamed : p_mok cls TS MT RJxb5711 qX7_isNamed := p_ck_ok (F := FTX7) (Ml := MLX7) (Kc := KCX7) 54 (by decide +kernel) p_hok_nil FTX7_ok MLX7_ok KCX7_ok (fun pc h => if_neg h) (by decide +kernel)
set_option maxRecDepth 20000 in
theorem mkX7_addSign : p_mok cls TS MT RJxb5711 qX7_addSign := p_ck_ok (F := FTX7) (Ml := MLX7) (Kc := KCX7) 58 (by decide +kernel) p_hok_nil FTX7_ok MLX7_ok KCX7_ok (fun pc h => if_neg h) (by decide +kernel)
set_option maxRecDepth 20000 in
theorem mkX8_isSymbol : p_mok cls TS MT RJxb5711 qX8_isSymbol := p_ck_ok (F := FTX8) (Ml := MLX8) (Kc := KCX8) 20 (by decide +kernel) p_hok_nil FTX8_ok MLX8_ok KCX8_ok (fun pc h => if_neg h) (by decide +kernel)
set_option maxRecDepth 20000 in
theorem mkX8_isNumber : p_mok cls TS MT RJxb5711 qX8_isNumber := p_ck_ok (F := FTX8) (Ml := MLX8) (Kc := KCX8) 22 (by decide +kernel) p_hok_nil FTX8_ok MLX8_ok KCX8_ok (fun pc h => if_neg h) (by decide +kernel)
set_option maxRecDepth 20000 in
theorem mkX8_isCell : p_mok cls TS MT RJxb5711 qX8_isCell := p_ck_ok (F := FTX8) (Ml := MLX8) (Kc := KCX8) 22 (by decide +kernel) p_hok_nil FTX8_ok MLX8_ok KCX8_ok (fun pc h => if_neg h) (by decide +kernel)
set_option maxRecDepth 20000 in
theorem mkX8_ofNumber : p_mok cls TS MT RJxb5711 qX8_ofNumber := p_ck_ok (F := FTX8) (Ml := MLX8) (Kc := KCX8) 11 (by decide +kernel) p_hok_nil FTX8_ok MLX8_ok KCX8_ok (fun pc h => if_neg h) (by decide +kernel)
set_option maxRecDepth 20000 in
theorem mkX8_ofCell : p_mok cls TS MT RJxb5711 qX8_ofCell := p_ck_ok (F := FTX8) (Ml := MLX8) (Kc := KCX8) 7 (by decide +kernel) p_hok_nil FTX8_ok MLX8_ok KCX8_ok (fun pc h => if_neg h) (by decide +kernel)
set_option maxRecDepth 20000 in
theorem mkX8_ofTruth : p_mok cls TS MT RJxb5711 qX8_ofTruth := p_ck_ok (F := FTX8) (Ml := MLX8) (Kc := KCX8) 10 (by decide +kernel) p_hok_nil FTX8_ok MLX8_ok KCX8_ok (fun pc h => if_neg h) (by decide +kernel)
set_option maxRecDepth 20000 in
theorem mkX8_number : p_mok cls TS MT RJxb5711 qX8_number := p_ck_ok (F := FTX8) (Ml := MLX8) (Kc := KCX8) 3 (by decide +kernel) p_hok_nil FTX8_ok MLX8_ok KCX8_ok (fun pc h => if_neg h) (by decide +kernel)
set_option maxRecDepth 20000 in
theorem mkX9_feed : p_mok cls TS MT RJxb5711 qX9_feed := p_ck_ok (F := FTX9) (Ml := MLX9) (Kc := KCX9) 68 (by decide +kernel) p_hok_nil FTX9_ok MLX9_ok KCX9_ok (fun pc h => if_neg h) (by decide +kernel)
set_option maxRecDepth 20000 in
theorem mkX9_define : p_mok cls TS MT RJxb5711 qX9_define := p_ck_ok (F := FTX9) (Ml := MLX9) (Kc := KCX9) 81 (by decide +kernel) p_hok_nil FTX9_ok MLX9_ok KCX9_ok (fun pc h => if_neg h) (by decide +kernel)
set_option maxRecDepth 20000 in
theorem mkX9_eval : p_mok cls TS MT RJxb5711 qX9_eval := p_ck_ok (F := FTX9) (Ml := MLX9) (Kc := KCX9) 130 (by decide +kernel) p_hok_nil FTX9_ok MLX9_ok KCX9_ok (fun pc h => if_neg h) (by decide +kernel)
set_option maxRecDepth 20000 in
theorem mkX9_echo : p_mok cls TS MT RJxb5711 qX9_echo := p_ck_ok (F := FTX9) (Ml := MLX9) (Kc := KCX9) 79 (by decide +kernel) p_hok_nil FTX9_ok MLX9_ok KCX9_ok (fun pc h => if_neg h) (by decide +kernel)
set_option maxRecDepth 20000 in
theorem mkX9_place : p_mok cls TS MT RJxb5711 qX9_place := p_ck_ok (F := FTX9) (Ml := MLX9) (Kc := KCX9) 8 (by decide +kernel) p_hok_nil FTX9_ok MLX9_ok KCX9_ok (fun pc h => if_neg h) (by decide +kernel)
set_option maxRecDepth 20000 in
theorem mkX9_room : p_mok cls TS MT RJxb5711 qX9_room := p_ck_ok (F := FTX9) (Ml := MLX9) (Kc := KCX9) 44 (by decide +kernel) p_hok_nil FTX9_ok MLX9_ok KCX9_ok (fun pc h => if_neg h) (by decide +kernel)
set_option maxRecDepth 20000 in
theorem mkX9_count : p_mok cls TS MT RJxb5711 qX9_count := p_ck_ok (F := FTX9) (Ml := MLX9) (Kc := KCX9) 126 (by decide +kernel) p_hok_nil FTX9_ok MLX9_ok KCX9_ok (fun pc h => if_neg h) (by decide +kernel)
set_option maxRecDepth 20000 in
theorem mkX9_function : p_mok cls TS MT RJxb5711 qX9_function := p_ck_ok (F := FTX9) (Ml := MLX9) (Kc := KCX9) 35 (by decide +kernel) p_hok_nil FTX9_ok MLX9_ok KCX9_ok (fun pc h => if_neg h) (by decide +kernel)
set_option maxRecDepth 20000 in
theorem mkX9_octet : p_mok cls TS MT RJxb5711 qX9_octet := p_ck_ok (F := FTX9) (Ml := MLX9) (Kc := KCX9) 9 (by decide +kernel) p_hok_nil FTX9_ok MLX9_ok KCX9_ok (fun pc h => if_neg h) (by decide +kernel)
set_option maxRecDepth 20000 in
theorem mkX10_thrown : p_mok cls TS MT RJxb5711 qX10_thrown := p_ck_ok (F := FTX10) (Ml := MLX10) (Kc := KCX10) 5 (by decide +kernel) p_hok_nil FTX10_ok MLX10_ok KCX10_ok (fun pc h => if_neg h) (by decide +kernel)
set_option maxRecDepth 20000 in
theorem mkX10_isSymbol : p_mok cls TS MT RJxb5711 qX10_isSymbol := p_ck_ok (F := FTX10) (Ml := MLX10) (Kc := KCX10) 12 (by decide +kernel) p_hok_nil FTX10_ok MLX10_ok KCX10_ok (fun pc h => if_neg h) (by decide +kernel)
set_option maxRecDepth 20000 in
theorem mkX10_isNumber : p_mok cls TS MT RJxb5711 qX10_isNumber := p_ck_ok (F := FTX10) (Ml := MLX10) (Kc := KCX10) 14 (by decide +kernel) p_hok_nil FTX10_ok MLX10_ok KCX10_ok (fun pc h => if_neg h) (by decide +kernel)
set_option maxRecDepth 20000 in
theorem mkX10_isCell : p_mok cls TS MT RJxb5711 qX10_isCell := p_ck_ok (F := FTX10) (Ml := MLX10) (Kc := KCX10) 20 (by decide +kernel) p_hok_nil FTX10_ok MLX10_ok KCX10_ok (fun pc h => if_neg h) (by decide +kernel)
set_option maxRecDepth 20000 in
theorem mkX10_symbolOf : p_mok cls TS MT RJxb5711 qX10_symbolOf := p_ck_ok (F := FTX10) (Ml := MLX10) (Kc := KCX10) 7 (by decide +kernel) p_hok_nil FTX10_ok MLX10_ok KCX10_ok (fun pc h => if_neg h) (by decide +kernel)
set_option maxRecDepth 20000 in
theorem mkX10_fails : p_mok cls TS MT RJxb5711 qX10_fails := p_ck_ok (F := FTX10) (Ml := MLX10) (Kc := KCX10) 10 (by decide +kernel) p_hok_nil FTX10_ok MLX10_ok KCX10_ok (fun pc h => if_neg h) (by decide +kernel)
set_option maxRecDepth 20000 in
theorem mkX10_visit : p_mok cls TS MT RJxb5711 qX10_visit := p_ck_ok (F := FTX10) (Ml := MLX10) (Kc := KCX10) 58 (by decide +kernel) p_hok_nil FTX10_ok MLX10_ok KCX10_ok (fun pc h => if_neg h) (by decide +kernel)
set_option maxRecDepth 20000 in
theorem mkX10_walks : p_mok cls TS MT RJxb5711 qX10_walks := p_ck_ok (F := FTX10) (Ml := MLX10) (Kc := KCX10) 51 (by decide +kernel) p_hok_nil FTX10_ok MLX10_ok KCX10_ok (fun pc h => if_neg h) (by decide +kernel)
set_option maxRecDepth 20000 in
theorem mkX10_reachFunctions : p_mok cls TS MT RJxb5711 qX10_reachFunctions := p_ck_ok (F := FTX10) (Ml := MLX10) (Kc := KCX10) 72 (by decide +kernel) p_hok_nil FTX10_ok MLX10_ok KCX10_ok (fun pc h => if_neg h) (by decide +kernel)
set_option maxRecDepth 20000 in
theorem mkX10_reach : p_mok cls TS MT RJxb5711 qX10_reach := p_ck_ok (F := FTX10) (Ml := MLX10) (Kc := KCX10) 209 (by decide +kernel) p_hok_nil FTX10_ok MLX10_ok KCX10_ok (fun pc h => if_neg h) (by decide +kernel)
set_option maxRecDepth 20000 in
theorem mkX10_cons : p_mok cls TS MT RJxb5711 qX10_cons := p_ck_ok (F := FTX10) (Ml := MLX10) (Kc := KCX10) 116 (by decide +kernel) p_hok_nil FTX10_ok MLX10_ok KCX10_ok (fun pc h => if_neg h) (by decide +kernel)
set_option maxRecDepth 20000 in
theorem mkX10_headOf : p_mok cls TS MT RJxb5711 qX10_headOf := p_ck_ok (F := FTX10) (Ml := MLX10) (Kc := KCX10) 21 (by decide +kernel) p_hok_nil FTX10_ok MLX10_ok KCX10_ok (fun pc h => if_neg h) (by decide +kernel)
set_option maxRecDepth 20000 in
theorem mkX10_tailOf : p_mok cls TS MT RJxb5711 qX10_tailOf := p_ck_ok (F := FTX10) (Ml := MLX10) (Kc := KCX10) 21 (by decide +kernel) p_hok_nil FTX10_ok MLX10_ok KCX10_ok (fun pc h => if_neg h) (by decide +kernel)
set_option maxRecDepth 20000 in
theorem mkX10_second : p_mok cls TS MT RJxb5711 qX10_second := p_ck_ok (F := FTX10) (Ml := MLX10) (Kc := KCX10) 10 (by decide +kernel) p_hok_nil FTX10_ok MLX10_ok KCX10_ok (fun pc h => if_neg h) (by decide +kernel)
set_option maxRecDepth 20000 in
theorem mkX10_third : p_mok cls TS MT RJxb5711 qX10_third := p_ck_ok (F := FTX10) (Ml := MLX10) (Kc := KCX10) 14 (by decide +kernel) p_hok_nil FTX10_ok MLX10_ok KCX10_ok (fun pc h => if_neg h) (by decide +kernel)
set_option maxRecDepth 20000 in
theorem mkX10_byteAt : p_mok cls TS MT RJxb5711 qX10_byteAt := p_ck_ok (F := FTX10) (Ml := MLX10) (Kc := KCX10) 23 (by decide +kernel) p_hok_nil FTX10_ok MLX10_ok KCX10_ok (fun pc h => if_neg h) (by decide +kernel)
set_option maxRecDepth 20000 in
theorem mkX10_failsAt : p_mok cls TS MT RJxb5711 qX10_failsAt := p_ck_ok (F := FTX10) (Ml := MLX10) (Kc := KCX10) 11 (by decide +kernel) p_hok_nil FTX10_ok MLX10_ok KCX10_ok (fun pc h => if_neg h) (by decide +kernel)
set_option maxRecDepth 20000 in
theorem mkX10_isCapital : p_mok cls TS MT RJxb5711 qX10_isCapital := p_ck_ok (F := FTX10) (Ml := MLX10) (Kc := KCX10) 18 (by decide +kernel) p_hok_nil FTX10_ok MLX10_ok KCX10_ok (fun pc h => if_neg h) (by decide +kernel)
set_option maxRecDepth 20000 in
theorem mkX10_isDigit : p_mok cls TS MT RJxb5711 qX10_isDigit := p_ck_ok (F := FTX10) (Ml := MLX10) (Kc := KCX10) 18 (by decide +kernel) p_hok_nil FTX10_ok MLX10_ok KCX10_ok (fun pc h => if_neg h) (by decide +kernel)
set_option maxRecDepth 20000 in
theorem mkX10_blanks : p_mok cls TS MT RJxb5711 qX10_blanks := p_ck_ok (F := FTX10) (Ml := MLX10) (Kc := KCX10) 51 (by decide +kernel) p_hok_nil FTX10_ok MLX10_ok KCX10_ok (fun pc h => if_neg h) (by decide +kernel)
set_option maxRecDepth 20000 in
theorem mkX10_symbol : p_mok cls TS MT RJxb5711 qX10_symbol := p_ck_ok (F := FTX10) (Ml := MLX10) (Kc := KCX10) 239 (by decide +kernel) p_hok_nil FTX10_ok MLX10_ok KCX10_ok (fun pc h => if_neg h) (by decide +kernel)
set_option maxRecDepth 20000 in
theorem mkX10_number : p_mok cls TS MT RJxb5711 qX10_number := p_ck_ok (F := FTX10) (Ml := MLX10) (Kc := KCX10) 139 (by decide +kernel) p_hok_nil FTX10_ok MLX10_ok KCX10_ok (fun pc h => if_neg h) (by decide +kernel)
set_option maxRecDepth 20000 in
theorem mkX10_isAtom : p_mok cls TS MT RJxb5711 qX10_isAtom := p_ck_ok (F := FTX10) (Ml := MLX10) (Kc := KCX10) 51 (by decide +kernel) p_hok_nil FTX10_ok MLX10_ok KCX10_ok (fun pc h => if_neg h) (by decide +kernel)
set_option maxRecDepth 20000 in
theorem mkX10_mayBegin : p_mok cls TS MT RJxb5711 qX10_mayBegin := p_ck_ok (F := FTX10) (Ml := MLX10) (Kc := KCX10) 28 (by decide +kernel) p_hok_nil FTX10_ok MLX10_ok KCX10_ok (fun pc h => if_neg h) (by decide +kernel)
set_option maxRecDepth 20000 in
theorem mkX10_reads : p_mok cls TS MT RJxb5711 qX10_reads := p_ck_ok (F := FTX10) (Ml := MLX10) (Kc := KCX10) 377 (by decide +kernel) p_hok_nil FTX10_ok MLX10_ok KCX10_ok (fun pc h => if_neg h) (by decide +kernel)
set_option maxRecDepth 20000 in
theorem mkX10_quotes : p_mok cls TS MT RJxb5711 qX10_quotes := p_ck_ok (F := FTX10) (Ml := MLX10) (Kc := KCX10) 36 (by decide +kernel) (p_hok1 (by decide) (mT 1019 rfl rfl) (by decide) (Or.inr ⟨by decide +kernel, rfl⟩)) FTX10_ok MLX10_ok KCX10_ok (fun pc h => if_neg h) (by decide +kernel)
set_option maxRecDepth 20000 in
theorem mkX10_closes : p_mok cls TS MT RJxb5711 qX10_closes := p_ck_ok (F := FTX10) (Ml := MLX10) (Kc := KCX10) 162 (by decide +kernel) (p_hok1 (by decide) (mT 1019 rfl rfl) (by decide) (Or.inr ⟨by decide +kernel, rfl⟩)) FTX10_ok MLX10_ok KCX10_ok (fun pc h => if_neg h) (by decide +kernel)
set_option maxRecDepth 20000 in
theorem mkX10_nothing : p_mok cls TS MT RJxb5711 qX10_nothing := p_ck_ok (F := FTX10) (Ml := MLX10) (Kc := KCX10) 39 (by decide +kernel) p_hok_nil FTX10_ok MLX10_ok KCX10_ok (fun pc h => if_neg h) (by decide +kernel)
set_option maxRecDepth 20000 in
theorem mkX10_burn : p_mok cls TS MT RJxb5711 qX10_burn := p_ck_ok (F := FTX10) (Ml := MLX10) (Kc := KCX10) 29 (by decide +kernel) p_hok_nil FTX10_ok MLX10_ok KCX10_ok (fun pc h => if_neg h) (by decide +kernel)
set_option maxRecDepth 20000 in
theorem mkX10_pairOf : p_mok cls TS MT RJxb5711 qX10_pairOf := p_ck_ok (F := FTX10) (Ml := MLX10) (Kc := KCX10) 64 (by decide +kernel) p_hok_nil FTX10_ok MLX10_ok KCX10_ok (fun pc h => if_neg h) (by decide +kernel)
set_option maxRecDepth 20000 in
theorem mkX10_frame : p_mok cls TS MT RJxb5711 qX10_frame := p_ck_ok (F := FTX10) (Ml := MLX10) (Kc := KCX10) 108 (by decide +kernel) p_hok_nil FTX10_ok MLX10_ok KCX10_ok (fun pc h => if_neg h) (by decide +kernel)
set_option maxRecDepth 20000 in
theorem mkX10_evaluates : p_mok cls TS MT RJxb5711 qX10_evaluates := p_ck_ok (F := FTX10) (Ml := MLX10) (Kc := KCX10) 289 (by decide +kernel) p_hok_nil FTX10_ok MLX10_ok KCX10_ok (fun pc h => if_neg h) (by decide +kernel)
set_option maxRecDepth 20000 in
theorem mkX10_returns : p_mok cls TS MT RJxb5711 qX10_returns := p_ck_ok (F := FTX10) (Ml := MLX10) (Kc := KCX10) 318 (by decide +kernel) p_hok_nil FTX10_ok MLX10_ok KCX10_ok (fun pc h => if_neg h) (by decide +kernel)
set_option maxRecDepth 20000 in
theorem mkX10_applies : p_mok cls TS MT RJxb5711 qX10_applies := p_ck_ok (F := FTX10) (Ml := MLX10) (Kc := KCX10) 246 (by decide +kernel) p_hok_nil FTX10_ok MLX10_ok KCX10_ok (fun pc h => if_neg h) (by decide +kernel)
set_option maxRecDepth 20000 in
theorem mkX10_variable : p_mok cls TS MT RJxb5711 qX10_variable := p_ck_ok (F := FTX10) (Ml := MLX10) (Kc := KCX10) 30 (by decide +kernel) p_hok_nil FTX10_ok MLX10_ok KCX10_ok (fun pc h => if_neg h) (by decide +kernel)
set_option maxRecDepth 20000 in
theorem mkX10_binds : p_mok cls TS MT RJxb5711 qX10_binds := p_ck_ok (F := FTX10) (Ml := MLX10) (Kc := KCX10) 184 (by decide +kernel) p_hok_nil FTX10_ok MLX10_ok KCX10_ok (fun pc h => if_neg h) (by decide +kernel)
set_option maxRecDepth 20000 in
theorem mkX10_gives : p_mok cls TS MT RJxb5711 qX10_gives := p_ck_ok (F := FTX10) (Ml := MLX10) (Kc := KCX10) 7 (by decide +kernel) p_hok_nil FTX10_ok MLX10_ok KCX10_ok (fun pc h => if_neg h) (by decide +kernel)
set_option maxRecDepth 20000 in
theorem mkX10_says : p_mok cls TS MT RJxb5711 qX10_says := p_ck_ok (F := FTX10) (Ml := MLX10) (Kc := KCX10) 18 (by decide +kernel) p_hok_nil FTX10_ok MLX10_ok KCX10_ok (fun pc h => if_neg h) (by decide +kernel)
set_option maxRecDepth 20000 in
theorem mkX10_built : p_mok cls TS MT RJxb5711 qX10_built := p_ck_ok (F := FTX10) (Ml := MLX10) (Kc := KCX10) 314 (by decide +kernel) p_hok_nil FTX10_ok MLX10_ok KCX10_ok (fun pc h => if_neg h) (by decide +kernel)
set_option maxRecDepth 20000 in
theorem mkX10_counts : p_mok cls TS MT RJxb5711 qX10_counts := p_ck_ok (F := FTX10) (Ml := MLX10) (Kc := KCX10) 161 (by decide +kernel) p_hok_nil FTX10_ok MLX10_ok KCX10_ok (fun pc h => if_neg h) (by decide +kernel)
set_option maxRecDepth 20000 in
theorem mkX10_puts : p_mok cls TS MT RJxb5711 qX10_puts := p_ck_ok (F := FTX10) (Ml := MLX10) (Kc := KCX10) 33 (by decide +kernel) p_hok_nil FTX10_ok MLX10_ok KCX10_ok (fun pc h => if_neg h) (by decide +kernel)
set_option maxRecDepth 20000 in
theorem mkX10_atom : p_mok cls TS MT RJxb5711 qX10_atom := p_ck_ok (F := FTX10) (Ml := MLX10) (Kc := KCX10) 140 (by decide +kernel) p_hok_nil FTX10_ok MLX10_ok KCX10_ok (fun pc h => if_neg h) (by decide +kernel)
set_option maxRecDepth 20000 in
theorem mkX10_prints : p_mok cls TS MT RJxb5711 qX10_prints := p_ck_ok (F := FTX10) (Ml := MLX10) (Kc := KCX10) 218 (by decide +kernel) p_hok_nil FTX10_ok MLX10_ok KCX10_ok (fun pc h => if_neg h) (by decide +kernel)
set_option maxRecDepth 20000 in
theorem mkX10_feed : p_mok cls TS MT RJxb5711 qX10_feed := p_ck_ok (F := FTX10) (Ml := MLX10) (Kc := KCX10) 124 (by decide +kernel) p_hok_nil FTX10_ok MLX10_ok KCX10_ok (fun pc h => if_neg h) (by decide +kernel)
set_option maxRecDepth 20000 in
theorem mkX10_begins : p_mok cls TS MT RJxb5711 qX10_begins := p_ck_ok (F := FTX10) (Ml := MLX10) (Kc := KCX10) 60 (by decide +kernel) p_hok_nil FTX10_ok MLX10_ok KCX10_ok (fun pc h => if_neg h) (by decide +kernel)
set_option maxRecDepth 20000 in
theorem mkX10_whole : p_mok cls TS MT RJxb5711 qX10_whole := p_ck_ok (F := FTX10) (Ml := MLX10) (Kc := KCX10) 37 (by decide +kernel) p_hok_nil FTX10_ok MLX10_ok KCX10_ok (fun pc h => if_neg h) (by decide +kernel)
set_option maxRecDepth 20000 in
theorem mkX10_failed : p_mok cls TS MT RJxb5711 qX10_failed := p_ck_ok (F := FTX10) (Ml := MLX10) (Kc := KCX10) 35 (by decide +kernel) p_hok_nil FTX10_ok MLX10_ok KCX10_ok (fun pc h => if_neg h) (by decide +kernel)
set_option maxRecDepth 20000 in
theorem mkX10_define : p_mok cls TS MT RJxb5711 qX10_define := p_ck_ok (F := FTX10) (Ml := MLX10) (Kc := KCX10) 125 (by decide +kernel) (p_hok1 (by decide) (mT 1019 rfl rfl) (by decide) (Or.inl ⟨2, rfl, by decide +kernel, rfl⟩)) FTX10_ok MLX10_ok KCX10_ok (fun pc h => if_neg h) (by decide +kernel)
set_option maxRecDepth 20000 in
theorem mkX10_echo : p_mok cls TS MT RJxb5711 qX10_echo := p_ck_ok (F := FTX10) (Ml := MLX10) (Kc := KCX10) 35 (by decide +kernel) (p_hok1 (by decide) (mT 1019 rfl rfl) (by decide) (Or.inl ⟨2, rfl, by decide +kernel, rfl⟩)) FTX10_ok MLX10_ok KCX10_ok (fun pc h => if_neg h) (by decide +kernel)
set_option maxRecDepth 20000 in
theorem mkX10_eval : p_mok cls TS MT RJxb5711 qX10_eval := p_ck_ok (F := FTX10) (Ml := MLX10) (Kc := KCX10) 137 (by decide +kernel) (p_hok1 (by decide) (mT 1019 rfl rfl) (by decide) (Or.inl ⟨3, rfl, by decide +kernel, rfl⟩)) FTX10_ok MLX10_ok KCX10_ok (fun pc h => if_neg h) (by decide +kernel)
set_option maxRecDepth 20000 in
theorem mkX10_place : p_mok cls TS MT RJxb5711 qX10_place := p_ck_ok (F := FTX10) (Ml := MLX10) (Kc := KCX10) 10 (by decide +kernel) p_hok_nil FTX10_ok MLX10_ok KCX10_ok (fun pc h => if_neg h) (by decide +kernel)
set_option maxRecDepth 20000 in
theorem mkX10_ofFunctions : p_mok cls TS MT RJxb5711 qX10_ofFunctions := p_ck_ok (F := FTX10) (Ml := MLX10) (Kc := KCX10) 22 (by decide +kernel) p_hok_nil FTX10_ok MLX10_ok KCX10_ok (fun pc h => if_neg h) (by decide +kernel)
set_option maxRecDepth 20000 in
theorem mkX10_room : p_mok cls TS MT RJxb5711 qX10_room := p_ck_ok (F := FTX10) (Ml := MLX10) (Kc := KCX10) 48 (by decide +kernel) p_hok_nil FTX10_ok MLX10_ok KCX10_ok (fun pc h => if_neg h) (by decide +kernel)
set_option maxRecDepth 20000 in
theorem mkX10_count : p_mok cls TS MT RJxb5711 qX10_count := p_ck_ok (F := FTX10) (Ml := MLX10) (Kc := KCX10) 103 (by decide +kernel) p_hok_nil FTX10_ok MLX10_ok KCX10_ok (fun pc h => if_neg h) (by decide +kernel)
set_option maxRecDepth 20000 in
theorem mkX10_function : p_mok cls TS MT RJxb5711 qX10_function := p_ck_ok (F := FTX10) (Ml := MLX10) (Kc := KCX10) 48 (by decide +kernel) p_hok_nil FTX10_ok MLX10_ok KCX10_ok (fun pc h => if_neg h) (by decide +kernel)
set_option maxRecDepth 20000 in
theorem mkX10_octet : p_mok cls TS MT RJxb5711 qX10_octet := p_ck_ok (F := FTX10) (Ml := MLX10) (Kc := KCX10) 32 (by decide +kernel) p_hok_nil FTX10_ok MLX10_ok KCX10_ok (fun pc h => if_neg h) (by decide +kernel)
set_option maxRecDepth 20000 in
theorem MTl_ok : ∀ q ∈ MTl, p_mok cls TS MT RJxb5711 q := List.forall_mem_cons.mpr ⟨mkX0_size, List.forall_mem_cons.mpr ⟨mkX0_at, List.forall_mem_cons.mpr ⟨mkX0_add, List.forall_mem_cons.mpr ⟨mkX0_addNumber, List.forall_mem_cons.mpr ⟨mkX0_clear, List.forall_mem_cons.mpr ⟨mkX1_made, List.forall_mem_cons.mpr ⟨mkX1_limit, List.forall_mem_cons.mpr ⟨mkX1_setLimit, List.forall_mem_cons.mpr ⟨mkX1_head, List.forall_mem_cons.mpr ⟨mkX1_tail, List.forall_mem_cons.mpr ⟨mkX1_make, List.forall_mem_cons.mpr ⟨mkX1_reachedByFunctions, List.forall_mem_cons.mpr ⟨mkX1_inUse, List.forall_mem_cons.mpr ⟨mkX1_collect, List.forall_mem_cons.mpr ⟨mkX1_reach, List.forall_mem_cons.mpr ⟨mkX1_takeBack, List.forall_mem_cons.mpr ⟨mkX2_fault, List.forall_mem_cons.mpr ⟨mkX2_answer, List.forall_mem_cons.mpr ⟨mkX2_fuelTaken, List.forall_mem_cons.mpr ⟨mkX2_mostFrames, List.forall_mem_cons.mpr ⟨mkX2_forget, List.forall_mem_cons.mpr ⟨mkX2_run, List.forall_mem_cons.mpr ⟨mkX2_letGo, List.forall_mem_cons.mpr ⟨mkX2_emptyHand, List.forall_mem_cons.mpr ⟨mkX2_fail, List.forall_mem_cons.mpr ⟨mkX2_burn, List.forall_mem_cons.mpr ⟨mkX2_give, List.forall_mem_cons.mpr ⟨mkX2_evaluateNext, List.forall_mem_cons.mpr ⟨mkX2_askHead, List.forall_mem_cons.mpr ⟨mkX2_askTail, List.forall_mem_cons.mpr ⟨mkX2_askSecond, List.forall_mem_cons.mpr ⟨mkX2_askThird, List.forall_mem_cons.mpr ⟨mkX2_cons, List.forall_mem_cons.mpr ⟨mkX2_lookUp, List.forall_mem_cons.mpr ⟨mkX2_evaluate, List.forall_mem_cons.mpr ⟨mkX2_evaluateAtom, List.forall_mem_cons.mpr ⟨mkX2_evaluateCond, List.forall_mem_cons.mpr ⟨mkX2_evaluateFunction, List.forall_mem_cons.mpr ⟨mkX2_evaluateCall, List.forall_mem_cons.mpr ⟨mkX2_pushFrame, List.forall_mem_cons.mpr ⟨mkX2_popFrame, List.forall_mem_cons.mpr ⟨mkX2_takeValue, List.forall_mem_cons.mpr ⟨mkX2_takeChoice, List.forall_mem_cons.mpr ⟨mkX2_takeArgument, List.forall_mem_cons.mpr ⟨mkX2_takeInHand, List.forall_mem_cons.mpr ⟨mkX2_isBuiltIn, List.forall_mem_cons.mpr ⟨mkX2_apply, List.forall_mem_cons.mpr ⟨mkX2_applySymbol, List.forall_mem_cons.mpr ⟨mkX2_applyLambda, List.forall_mem_cons.mpr ⟨mkX2_lookAtVariables, List.forall_mem_cons.mpr ⟨mkX2_askVariable, List.forall_mem_cons.mpr ⟨mkX2_applyLabel, List.forall_mem_cons.mpr ⟨mkX2_applyFunarg, List.forall_mem_cons.mpr ⟨mkX2_applyBuiltIn, List.forall_mem_cons.mpr ⟨mkX2_valuesWanted, List.forall_mem_cons.mpr ⟨mkX2_givePart, List.forall_mem_cons.mpr ⟨mkX2_giveList, List.forall_mem_cons.mpr ⟨mkX2_giveReckoned, List.forall_mem_cons.mpr ⟨mkX3_print, List.forall_mem_cons.mpr ⟨mkX3_nextElement, List.forall_mem_cons.mpr ⟨mkX3_closeList, List.forall_mem_cons.mpr ⟨mkX3_printAtom, List.forall_mem_cons.mpr ⟨mkX3_printNumber, List.forall_mem_cons.mpr ⟨mkX4_fault, List.forall_mem_cons.mpr ⟨mkX4_faultPlace, List.forall_mem_cons.mpr ⟨mkX4_begin, List.forall_mem_cons.mpr ⟨mkX4_readName, List.forall_mem_cons.mpr ⟨mkX4_readWhole, List.forall_mem_cons.mpr ⟨mkX4_fail, List.forall_mem_cons.mpr ⟨mkX4_readToken, List.forall_mem_cons.mpr ⟨mkX4_state, List.forall_mem_cons.mpr ⟨mkX4_setState, List.forall_mem_cons.mpr ⟨mkX4_mayBegin, List.forall_mem_cons.mpr ⟨mkX4_openOne, List.forall_mem_cons.mpr ⟨mkX4_readDot, List.forall_mem_cons.mpr ⟨mkX4_closeList, List.forall_mem_cons.mpr ⟨mkX4_readAtom, List.forall_mem_cons.mpr ⟨mkX4_readSymbol, List.forall_mem_cons.mpr ⟨mkX4_readNumber, List.forall_mem_cons.mpr ⟨mkX4_complete, List.forall_mem_cons.mpr ⟨mkX4_isBlank, List.forall_mem_cons.mpr ⟨mkX4_isLetter, List.forall_mem_cons.mpr ⟨mkX4_isDigit, List.forall_mem_cons.mpr ⟨mkX6_size, List.forall_mem_cons.mpr ⟨mkX6_at, List.forall_mem_cons.mpr ⟨mkX6_put, List.forall_mem_cons.mpr ⟨mkX6_add, List.forall_mem_cons.mpr ⟨mkX6_cut, List.forall_mem_cons.mpr ⟨mkX6_present, List.forall_mem_cons.mpr ⟨mkX7_size, List.forall_mem_cons.mpr ⟨mkX7_lengthOf, List.forall_mem_cons.mpr ⟨mkX7_signOf, List.forall_mem_cons.mpr ⟨mkX7_named, List.forall_mem_cons.mpr ⟨mkX7_isNamed, List.forall_mem_cons.mpr ⟨mkX7_addSign, List.forall_mem_cons.mpr ⟨mkX8_isSymbol, List.forall_mem_cons.mpr ⟨mkX8_isNumber, List.forall_mem_cons.mpr ⟨mkX8_isCell, List.forall_mem_cons.mpr ⟨mkX8_ofNumber, List.forall_mem_cons.mpr ⟨mkX8_ofCell, List.forall_mem_cons.mpr ⟨mkX8_ofTruth, List.forall_mem_cons.mpr ⟨mkX8_number, List.forall_mem_cons.mpr ⟨mkX9_feed, List.forall_mem_cons.mpr ⟨mkX9_define, List.forall_mem_cons.mpr ⟨mkX9_eval, List.forall_mem_cons.mpr ⟨mkX9_echo, List.forall_mem_cons.mpr ⟨mkX9_place, List.forall_mem_cons.mpr ⟨mkX9_room, List.forall_mem_cons.mpr ⟨mkX9_count, List.forall_mem_cons.mpr ⟨mkX9_function, List.forall_mem_cons.mpr ⟨mkX9_octet, List.forall_mem_cons.mpr ⟨mkX10_thrown, List.forall_mem_cons.mpr ⟨mkX10_isSymbol, List.forall_mem_cons.mpr ⟨mkX10_isNumber, List.forall_mem_cons.mpr ⟨mkX10_isCell, List.forall_mem_cons.mpr ⟨mkX10_symbolOf, List.forall_mem_cons.mpr ⟨mkX10_fails, List.forall_mem_cons.mpr ⟨mkX10_visit, List.forall_mem_cons.mpr ⟨mkX10_walks, List.forall_mem_cons.mpr ⟨mkX10_reachFunctions, List.forall_mem_cons.mpr ⟨mkX10_reach, List.forall_mem_cons.mpr ⟨mkX10_cons, List.forall_mem_cons.mpr ⟨mkX10_headOf, List.forall_mem_cons.mpr ⟨mkX10_tailOf, List.forall_mem_cons.mpr ⟨mkX10_second, List.forall_mem_cons.mpr ⟨mkX10_third, List.forall_mem_cons.mpr ⟨mkX10_byteAt, List.forall_mem_cons.mpr ⟨mkX10_failsAt, List.forall_mem_cons.mpr ⟨mkX10_isCapital, List.forall_mem_cons.mpr ⟨mkX10_isDigit, List.forall_mem_cons.mpr ⟨mkX10_blanks, List.forall_mem_cons.mpr ⟨mkX10_symbol, List.forall_mem_cons.mpr ⟨mkX10_number, List.forall_mem_cons.mpr ⟨mkX10_isAtom, List.forall_mem_cons.mpr ⟨mkX10_mayBegin, List.forall_mem_cons.mpr ⟨mkX10_reads, List.forall_mem_cons.mpr ⟨mkX10_quotes, List.forall_mem_cons.mpr ⟨mkX10_closes, List.forall_mem_cons.mpr ⟨mkX10_nothing, List.forall_mem_cons.mpr ⟨mkX10_burn, List.forall_mem_cons.mpr ⟨mkX10_pairOf, List.forall_mem_cons.mpr ⟨mkX10_frame, List.forall_mem_cons.mpr ⟨mkX10_evaluates, List.forall_mem_cons.mpr ⟨mkX10_returns, List.forall_mem_cons.mpr ⟨mkX10_applies, List.forall_mem_cons.mpr ⟨mkX10_variable, List.forall_mem_cons.mpr ⟨mkX10_binds, List.forall_mem_cons.mpr ⟨mkX10_gives, List.forall_mem_cons.mpr ⟨mkX10_says, List.forall_mem_cons.mpr ⟨mkX10_built, List.forall_mem_cons.mpr ⟨mkX10_counts, List.forall_mem_cons.mpr ⟨mkX10_puts, List.forall_mem_cons.mpr ⟨mkX10_atom, List.forall_mem_cons.mpr ⟨mkX10_prints, List.forall_mem_cons.mpr ⟨mkX10_feed, List.forall_mem_cons.mpr ⟨mkX10_begins, List.forall_mem_cons.mpr ⟨mkX10_whole, List.forall_mem_cons.mpr ⟨mkX10_failed, List.forall_mem_cons.mpr ⟨mkX10_define, List.forall_mem_cons.mpr ⟨mkX10_echo, List.forall_mem_cons.mpr ⟨mkX10_eval, List.forall_mem_cons.mpr ⟨mkX10_place, List.forall_mem_cons.mpr ⟨mkX10_ofFunctions, List.forall_mem_cons.mpr ⟨mkX10_room, List.forall_mem_cons.mpr ⟨mkX10_count, List.forall_mem_cons.mpr ⟨mkX10_function, List.forall_mem_cons.mpr ⟨mkX10_octet, fun _ h => (List.not_mem_nil h).elim⟩⟩⟩⟩⟩⟩⟩⟩⟩⟩⟩⟩⟩⟩⟩⟩⟩⟩⟩⟩⟩⟩⟩⟩⟩⟩⟩⟩⟩⟩⟩⟩⟩⟩⟩⟩⟩⟩⟩⟩⟩⟩⟩⟩⟩⟩⟩⟩⟩⟩⟩⟩⟩⟩⟩⟩⟩⟩⟩⟩⟩⟩⟩⟩⟩⟩⟩⟩⟩⟩⟩⟩⟩⟩⟩⟩⟩⟩⟩⟩⟩⟩⟩⟩⟩⟩⟩⟩⟩⟩⟩⟩⟩⟩⟩⟩⟩⟩⟩⟩⟩⟩⟩⟩⟩⟩⟩⟩⟩⟩⟩⟩⟩⟩⟩⟩⟩⟩⟩⟩⟩⟩⟩⟩⟩⟩⟩⟩⟩⟩⟩⟩⟩⟩⟩⟩⟩⟩⟩⟩⟩⟩⟩⟩⟩⟩⟩⟩⟩⟩⟩⟩⟩⟩⟩⟩⟩⟩⟩⟩⟩⟩⟩⟩⟩⟩⟩
theorem MT_ok : ∀ k q, MT k = some q → p_mok cls TS MT RJxb5711 q := fun _ _ h => MTl_ok _ (List.mem_of_getElem? h)
theorem MTl_L : MTl.all (fun q => decide (q.maxL + 19 ≤ 32)) = true := by decide +kernel
theorem MT_L : ∀ k q, MT k = some q → q.maxL + 19 ≤ 32 ∧ 21 ≤ 32 := fun _ _ h => ⟨of_decide_eq_true (List.all_eq_true.mp MTl_L _ (List.mem_of_getElem? h)), by decide⟩

/-! The reference's memory: what is reached. -/
/-- v's cell, if it is one, is marked -/
def Seen (T : Nat → Bool) (v : Int64) : Prop := ∀ c, c < 2400 → v = lN c → T c = true
theorem Seen.mono {T T' : Nat → Bool} {v : Int64} (h : Seen T v) (hm : ∀ c, T c = true → T' c = true) : Seen T' v := fun c h1 h2 => hm c (h c h1 h2)
theorem lN_inj {a b : Nat} (ha : a < 2400) (hb : b < 2400) (h : lN a = lN b) : a = b := by
  have := congrArg Int64.toInt h
  rw [pk_lT (by omega), pk_lT (by omega)] at this
  omega
/-- the marks at work: T marked, W to be walked, E exempt -/
def Mk (M0 : PM) (U : Nat → Bool) (ψ : Nat → Nat) (H : AHp) (RA : AV → Prop) (T : Nat → Bool) (W E : List Nat) (M : PM) : Prop :=
  (∀ c, c < 2400 → M.1 8 c = if T c then 1 else 0) ∧ M.1 0 14 = nI (cntB T 2400) ∧ M.1 0 13 = nI W.length ∧ (∀ i c, W[i]? = some c → M.1 9 i = nI c) ∧ W.Nodup ∧ (∀ c ∈ W, T c = true) ∧ (∀ c, T c = true → c < 2400 ∧ U c = true ∧ AR H RA (ψ c)) ∧ (∀ c, T c = true → c ∉ W → c ∉ E → Seen T (M0.2 6 c) ∧ Seen T (M0.2 7 c)) ∧ SameM [8, 9, 113, 114] M0 M
section MK
variable {M0 M : PM} {U : Nat → Bool} {ψ : Nat → Nat} {ns nid : Nat} {H : AHp} {RA : AV → Prop} {T : Nat → Bool} {W E : List Nat} {v : Int64} {w : AV}
theorem nodup_le {l : List Nat} {n : Nat} (h : l.Nodup) (hl : ∀ c ∈ l, c < n) : l.length ≤ n := by
  have := cntB_free (n := n) l (fun _ => false) h (fun c hc => ⟨hl c hc, rfl⟩)
  omega
theorem k_visit {d : Nat} (hM : Mk M0 U ψ H RA T W E M) (hv : RTv U ψ ns v w) (hA : ∀ i, w = aC i → AR H RA i) {Q : Option (Option Value) → PM → Prop}
    (h : ∀ M' T' W', Mk M0 U ψ H RA T' W' E M' → (∀ c, T c = true → T' c = true) → Seen T' v → cntB T' 2400 + W.length = cntB T 2400 + W'.length → Q (some none) M') : SM (d + 2) 117 [.ref 0, .long v] M Q := by
  refine ⟨qX10_visit, rfl, ⟨Nat.le_of_ble_eq_true rfl, rfl, 0, _, _, rfl, rfl⟩, ?_⟩
  show Ev (BM (d + 1) qX10_visit) Q 0 [some (.ref 0), some (.long v), none] [] M
  obtain ⟨m1, m2, m3, m4, m5, m6, m7, m8, m9⟩ := id hM
  have out : Seen T v → Ev (BM (d + 1) qX10_visit) Q 17 [some (.ref 0), some (.long v), none] [] M := fun h9 => ev_retv rfl rfl (h M T W hM (fun _ h8 => h8) h9 rfl)
  have nocell : ¬ aIsC w = true → Seen T v := fun h9 c hc e => by
    rcases hv.int with ⟨m, rfl, _, k3, k4, k5⟩ | ⟨n, rfl, k4, k5⟩ | ⟨c', rfl, k1, k2, k4, k5⟩
    · rw [e, pk_lT (by omega)] at k5; omega
    · have := rN_n (n := n); rw [e, pk_lT (by omega)] at k5; omega
    · exact (h9 rfl).elim
  repeat (refine ev_s rfl (?_ : Ev _ _ _ _ _ _))
  refine ev_cs rfl (by decide) (by decide) (as := [.long v]) rfl rfl (Nat.le_of_ble_eq_true rfl) ?_
  refine k_isCell hv ?_
  cases hc : aIsC w with
  | false =>
    show Ev _ _ _ _ [.int 0] _
    refine ev_ifT rfl (show (0 : Int32) = 0 from rfl) ?_
    exact out (nocell (by rw [hc]; decide))
  | true =>
    obtain ⟨c, rfl, c1, c2, c4⟩ : ∃ c, w = aC (ψ c) ∧ c < 2400 ∧ U c = true ∧ v = lN c := by
      rcases hv.int with ⟨m, rfl, _, k3, k4, k5⟩ | ⟨n, rfl, k4, k5⟩ | ⟨c', rfl, k1, k2, k4, k5⟩
      · cases hc
      · cases hc
      · exact ⟨c', rfl, k1, k2, k4⟩
    subst c4
    show Ev _ _ _ _ [.int 1] _
    refine ev_ifF rfl (show ¬ (1 : Int32) = 0 by decide) ?_
    repeat (refine ev_s rfl (?_ : Ev _ _ _ _ _ _))
    rw [lN_i32]
    refine ev_zald rfl rfl (vp_in_nI c1 (by decide)) ?_
    rw [nI_clamp (by omega), m1 c c1]
    cases ht : T c with
    | true =>
      refine ev_ifF rfl (show ¬ (1 : Int32) = 0 by decide) ?_
      exact out (fun c' h1 h2 => by rw [← lN_inj c1 h1 h2]; exact ht)
    | false =>
      have hnw : c ∉ W := fun h9 => by rw [m6 c h9] at ht; cases ht
      have hWl : W.length < 2400 := by
        have := nodup_le (l := c :: W) (n := 2400) (List.nodup_cons.mpr ⟨hnw, m5⟩) (fun k hk => by
          rcases List.mem_cons.mp hk with rfl | hk
          · exact c1
          · exact (m7 k (m6 k hk)).1)
        simp at this
        omega
      refine ev_ifT rfl (show (0 : Int32) = 0 from rfl) ?_
      repeat (refine ev_s rfl (?_ : Ev _ _ _ _ _ _))
      rw [lN_i32]
      refine ev_zast rfl rfl (vp_in_nI c1 (by decide)) ?_
      rw [nI_clamp (by omega), show vp_nar .boolean 1 = 1 by decide]
      repeat (refine ev_s rfl (?_ : Ev _ _ _ _ _ _))
      have e14 : (mI M 8 c 1).1 0 14 = nI (cntB T 2400) := by rw [mI_ne (Or.inl (by decide))]; exact m2
      rw [e14, nI_1]
      have e13 : (mI (mI M 8 c 1) 0 14 (nI (cntB T 2400 + 1))).1 0 13 = nI W.length := by rw [mI_ne (Or.inr (by decide)), mI_ne (Or.inl (by decide))]; exact m3
      rw [e13, lN_i32]
      refine ev_iast rfl rfl (vp_in_nI hWl (by decide)) ?_
      rw [nI_clamp (by omega)]
      repeat (refine ev_s rfl (?_ : Ev _ _ _ _ _ _))
      have e13' : (mI (mI (mI M 8 c 1) 0 14 (nI (cntB T 2400 + 1))) 9 W.length (nI c)).1 0 13 = nI W.length := by rw [mI_ne (Or.inl (by decide))]; exact e13
      rw [e13', nI_1]
      have up : ∀ k, T k = true → upB T c k = true := fun k hk => upB_of hk
      refine ev_retv rfl rfl (h _ (upB T c) (W ++ [c]) ⟨fun k hk => ?_, ?_, ?_, fun i k hi => ?_, ?_, fun k hk => ?_, fun k hk => ?_, fun k hk hkW hkE => ?_, ?_⟩ up (fun k h1 h2 => ?_) ?_)
      · rw [mI_ne (Or.inl (by decide)), mI_ne (Or.inl (by decide)), mI_ne (Or.inl (by decide))]
        by_cases hkc : k = c
        · rw [hkc, mI_at, upB_self]; rfl
        · rw [mI_ne (Or.inr hkc), m1 k hk, upB_ne hkc]
      · rw [mI_ne (Or.inr (by decide)), mI_ne (Or.inl (by decide)), mI_at, cntB_upB 2400 c1 ht]
      · rw [mI_at, List.length_append]; rfl
      · rw [mI_ne (Or.inl (by decide))]
        by_cases hiW : i < W.length
        · rw [List.getElem?_append_left hiW] at hi
          rw [mI_ne (Or.inr (by omega)), mI_ne (Or.inl (by decide)), mI_ne (Or.inl (by decide))]
          exact m4 i k hi
        · have hi2 := (List.getElem?_eq_some_iff.mp hi).1
          rw [List.length_append, List.length_singleton] at hi2
          have ei : i = W.length := by omega
          subst ei
          rw [List.getElem?_append_right (Nat.le_refl _), Nat.sub_self] at hi
          have ek : c = k := by simpa using hi
          rw [mI_at, ek]
      · rw [List.nodup_append]
        refine ⟨m5, by simp, fun a ha b hb => ?_⟩
        rw [List.mem_singleton] at hb
        subst hb
        exact fun h9 => hnw (h9 ▸ ha)
      · rw [List.mem_append, List.mem_singleton] at hk
        rcases hk with hk | hk
        · exact up k (m6 k hk)
        · rw [hk]; exact upB_self
      · by_cases hkc : k = c
        · subst hkc
          exact ⟨c1, c2, hA _ rfl⟩
        · rw [upB_ne hkc] at hk
          exact m7 k hk
      · have hkc : k ≠ c := fun h9 => hkW (by simp [h9])
        rw [upB_ne hkc] at hk
        have := m8 k hk (fun h9 => hkW (by simp [h9])) hkE
        exact ⟨this.1.mono up, this.2.mono up⟩
      · exact (((m9.tr (SameM.Ik (by decide))).tr SameM.I0).tr ((SameM.Ik (by decide)).tr SameM.I0)).sub (by decide)
      · rw [← lN_inj c1 h1 h2]; exact upB_self
      · rw [cntB_upB 2400 c1 ht, List.length_append, List.length_singleton]; omega
/-- the heap of the reference -/
def HeapM (M : PM) (U : Nat → Bool) (ψ : Nat → Nat) (ns : Nat) (H : AHp) (nid : Nat) : Prop :=
  (∀ c, c < 2400 → U c = true → ψ c < nid ∧ RTv U ψ ns (M.2 6 c) (H (ψ c)).1 ∧ RTv U ψ ns (M.2 7 c) (H (ψ c)).2) ∧ ∀ c c', c < 2400 → U c = true → c' < 2400 → U c' = true → ψ c = ψ c' → c = c'
theorem k_walks {d : Nat} (hH : HeapM M0 U ψ ns H nid) (hM : Mk M0 U ψ H RA T W [] M) {Q : Option (Option Value) → PM → Prop}
    (h : ∀ M' T', Mk M0 U ψ H RA T' [] [] M' → (∀ c, T c = true → T' c = true) → Q (some none) M') : SM (d + 3) 118 [.ref 0] M Q := by
  refine ⟨qX10_walks, rfl, ⟨Nat.le_of_ble_eq_true rfl, rfl, 0, _, _, rfl, rfl⟩, ?_⟩
  show Ev (BM (d + 2) qX10_walks) Q 0 [some (.ref 0), none] [] M
  have loop : ∀ (m : Nat) (M1 : PM) (T1 : Nat → Bool) (W1 : List Nat) (z : Option Value), 2400 - cntB T1 2400 + W1.length < m → Mk M0 U ψ H RA T1 W1 [] M1 → (∀ c, T c = true → T1 c = true) → Ev (BM (d + 2) qX10_walks) Q 0 [some (.ref 0), z] [] M1 := by
    intro m
    induction m with
    | zero => intro M1 T1 W1 z h9; omega
    | succ m ih =>
      intro M1 T1 W1 z hm hM1 hT
      obtain ⟨m1, m2, m3, m4, m5, m6, m7, m8, m9⟩ := id hM1
      have hWl : W1.length ≤ 2400 := nodup_le m5 (fun k hk => (m7 k (m6 k hk)).1)
      rcases List.eq_nil_or_concat W1 with rfl | ⟨W0, c, rfl⟩
      · repeat (refine ev_s rfl (?_ : Ev _ _ _ _ _ _))
        rw [m3]
        refine ev_ifT rfl (show nI ([] : List Nat).length ≤ 0 by decide) ?_
        exact ev_retv rfl rfl (h M1 T1 hM1 hT)
      · rw [List.concat_eq_append] at *
        have el : (W0 ++ [c]).length = W0.length + 1 := by simp
        rw [el] at m3 hWl hm
        have hcT : T1 c = true := m6 c (by simp)
        obtain ⟨c1, c2, c3⟩ := m7 c hcT
        obtain ⟨hh1, hh2, hh3⟩ := hH.1 c c1 c2
        repeat (refine ev_s rfl (?_ : Ev _ _ _ _ _ _))
        rw [m3]
        refine ev_ifF rfl (nI_nle (by omega) (by omega)) ?_
        repeat (refine ev_s rfl (?_ : Ev _ _ _ _ _ _))
        rw [m3, nI_pred]
        have e13 : (mI M1 0 13 (nI W0.length)).1 0 13 = nI W0.length := mI_at
        rw [e13]
        refine ev_iald rfl rfl (vp_in_nI (show W0.length < 2400 by omega) (by decide)) ?_
        rw [nI_clamp (by omega), mI_ne (Or.inl (by decide)), m4 W0.length c (by simp)]
        have hM2 : Mk M0 U ψ H RA T1 W0 [c] (mI M1 0 13 (nI W0.length)) := by
          refine ⟨fun k hk => by rw [mI_ne (Or.inl (by decide))]; exact m1 k hk, by rw [mI_ne (Or.inr (by decide))]; exact m2, mI_at, fun i k hi => ?_, (List.nodup_append.mp m5).1, fun k hk => m6 k (by simp [hk]), m7, fun k hk hkW hkE => m8 k hk (fun h9 => ?_) (by simp), (m9.tr SameM.I0).sub (by decide)⟩
          · rw [mI_ne (Or.inl (by decide))]
            refine m4 i k ?_
            rw [List.getElem?_append_left (List.getElem?_eq_some_iff.mp hi).1]
            exact hi
          · rcases List.mem_append.mp h9 with h9 | h9
            · exact hkW h9
            · exact hkE h9
        have eH : ∀ (M2 : PM) (T2 : Nat → Bool) (W2 E2 : List Nat), Mk M0 U ψ H RA T2 W2 E2 M2 → M2.2 6 = M0.2 6 ∧ M2.2 7 = M0.2 7 := fun M2 T2 W2 E2 h9 => ⟨(h9.2.2.2.2.2.2.2.2.1 6 (by decide) (by decide)).2, (h9.2.2.2.2.2.2.2.2.1 7 (by decide) (by decide)).2⟩
        repeat (refine ev_s rfl (?_ : Ev _ _ _ _ _ _))
        refine ev_lald rfl rfl (vp_in_nI c1 (by decide)) ?_
        rw [nI_clamp (by omega), (eH _ _ _ _ hM2).1]
        refine ev_cv rfl (as := [.ref 0, .long (M0.2 6 c)]) rfl rfl (Nat.le_of_ble_eq_true rfl) ?_
        refine k_visit hM2 hh2 (fun i e => c3.hd e) (fun M3 T3 W3 g1 g2 g3 g4 => ?_)
        show Ev _ _ _ _ [] _
        repeat (refine ev_s rfl (?_ : Ev _ _ _ _ _ _))
        refine ev_lald rfl rfl (vp_in_nI c1 (by decide)) ?_
        rw [nI_clamp (by omega), (eH _ _ _ _ g1).2]
        refine ev_cv rfl (as := [.ref 0, .long (M0.2 7 c)]) rfl rfl (Nat.le_of_ble_eq_true rfl) ?_
        refine k_visit g1 hh3 (fun i e => c3.tl e) (fun M4 T4 W4 g5 g6 g7 g8 => ?_)
        show Ev _ _ _ _ [] _
        iterate 1 (refine ev_s rfl (?_ : Ev _ _ _ _ _ _))
        refine ih M4 T4 W4 _ ?_ ?_ (fun k hk => g6 k (g2 k (hT k hk)))
        · have := cntB_le T4 2400
          omega
        · obtain ⟨n1, n2, n3, n4, n5, n6, n7, n8, n9⟩ := g5
          refine ⟨n1, n2, n3, n4, n5, n6, n7, fun k hk hkW _ => ?_, n9⟩
          by_cases hkc : k = c
          · subst hkc
            exact ⟨g3.mono g6, g7⟩
          · exact n8 k hk hkW (by simp [hkc])
  exact loop (2400 - cntB T 2400 + W.length + 1) M T W none (by omega) hM (fun _ h9 => h9)
end MK

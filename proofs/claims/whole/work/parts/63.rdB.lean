/-! ===== the class's reader ===== -/
theorem rn_X {N K n s : Nat} {lt : Nat → Nat} {X T : St} (hT : TL n lt) (hX : TX n lt X) (hs : s ≤ 300) (e : T 3 0 = nI s) : ∃ T1, fX9_readNumber_l4 N X (K + 1 + 1 + 1) (-1, 0, T) = some (if ndN lt s = 0 then -1 else nI (vvN lt s), T1) ∧ T1 3 0 = nI (s + ndN lt s) ∧ ∀ i, i ≠ 3 → T1 i = T i := by
  have u : ∀ k q, fX9_readNumber_l4 N X (k + 1) q = fX9_readNumber_b4 N X (fX9_readNumber_l4 N X k) q.1 q.2.1 q.2.2 := fun _ _ => rfl
  have l1 := hT.le s
  have l2 := hT.le (s + 1)
  rw [u]
  unfold fX9_readNumber_b4
  dsimp only
  rw [if_neg (show ¬ (2 : Int32) ≤ 0 by decide), e, let_X hT hX (by omega)]
  simp only [Option.bind_some]
  rw [dig_Xt (by omega)]
  simp only [Option.bind_some]
  cases d0 : dg (lt s) with
  | false =>
    have hn : ndN lt s = 0 := by unfold ndN; rw [d0, if_neg (by decide)]
    rw [if_pos (by rfl), hn, if_pos (by rfl)]
    exact ⟨T, rfl, e, fun _ _ => rfl⟩
  | true =>
    have a0 := dg_t.mp d0
    rw [if_neg (by decide)]
    unfold nm
    dsimp only
    have ev : ((if (-1 : Int32) < 0 then (0 : Int32) else -1) * 10 + nI (lt s)) - 48 = nI (lt s - 48) := by
      rw [if_pos (by decide)]
      show (nI 0 * nI 10 + nI (lt s)) - nI 48 = _
      rw [pk_mul, nI_add, pk_sub (by omega)]
      congr 1
      omega
    rw [ev, show nI s + (1 : Int32) = nI (s + 1) from nI_1 s, show (0 : Int32) + 1 = 1 from rfl, u]
    unfold fX9_readNumber_b4
    dsimp only
    have e1 : (stf T 3 (nI (s + 1))) 3 0 = nI (s + 1) := rfl
    rw [if_neg (show ¬ (2 : Int32) ≤ 1 by decide), e1, let_X hT hX (by omega)]
    simp only [Option.bind_some]
    rw [dig_Xt (by omega)]
    simp only [Option.bind_some]
    cases d1 : dg (lt (s + 1)) with
    | false =>
      have hn : ndN lt s = 1 := by unfold ndN; rw [d0, if_pos rfl, d1, if_neg (by decide)]
      have hv : vvN lt s = lt s - 48 := by unfold vvN; rw [d0, if_pos rfl, d1, if_neg (by decide)]
      rw [if_pos (by rfl), hn, if_neg (by omega), hv]
      refine ⟨_, rfl, rfl, fun i hi => ?_⟩
      show (if i = 3 then _ else T i) = T i
      rw [if_neg hi]
    | true =>
      have a1 := dg_t.mp d1
      have hn : ndN lt s = 2 := by unfold ndN; rw [d0, if_pos rfl, d1, if_pos rfl]
      have hv : vvN lt s = 10 * (lt s - 48) + (lt (s + 1) - 48) := by unfold vvN; rw [d0, if_pos rfl, d1, if_pos rfl]
      rw [if_neg (by decide)]
      unfold nm
      dsimp only
      have ev2 : ((if nI (lt s - 48) < (0 : Int32) then (0 : Int32) else nI (lt s - 48)) * 10 + nI (lt (s + 1))) - 48 = nI (10 * (lt s - 48) + (lt (s + 1) - 48)) := by
        rw [if_neg (nI_pos (by omega))]
        show (nI (lt s - 48) * nI 10 + nI (lt (s + 1))) - nI 48 = _
        rw [pk_mul, nI_add, pk_sub (by omega)]
        congr 1
        omega
      rw [ev2, show nI (s + 1) + (1 : Int32) = nI (s + 2) from nI_1 (s + 1), show (1 : Int32) + 1 = 2 from rfl, u]
      unfold fX9_readNumber_b4
      dsimp only
      rw [if_pos (show (2 : Int32) ≤ 2 by decide), hn, if_neg (by omega), hv]
      refine ⟨_, rfl, rfl, fun i hi => ?_⟩
      show (if i = 3 then _ else if i = 3 then _ else T i) = T i
      rw [if_neg hi, if_neg hi]
theorem readNum_X {N n s : Nat} {lt : Nat → Nat} {X T : St} (hN : 10 ≤ N) (hT : TL n lt) (hX : TX n lt X) (hs : s ≤ 300) (e : T 3 0 = nI s) : ∃ T1, fX9_readNumber N T X = some (if ndN lt s = 0 then -1 else nI (vvN lt s), T1) ∧ T1 3 0 = nI (s + ndN lt s) ∧ ∀ i, i ≠ 3 → T1 i = T i := by
  unfold fX9_readNumber
  obtain ⟨K, hK⟩ : ∃ K, N = K + 1 + 1 + 1 := ⟨N - 3, by omega⟩
  have := rn_X (N := N) (K := K) hT hX hs e
  rw [← hK] at this
  exact this
def RX (T : St) (D : DT) : Prop := T 5 0 = nI D.1 ∧ (∀ f, f < 10 → T 6 f = nI (D.2.1 f)) ∧ (T 0 0 = nI D.2.2.1.length ∧ ∀ j, j < D.2.2.1.length → T 4 j = nI (D.2.2.1.getD j 0)) ∧ T 1 0 = nI D.2.2.2.1 ∧ T 2 0 = nI D.2.2.2.2.1 ∧ (T 7 0 = nI D.2.2.2.2.2.length ∧ ∀ j, j < D.2.2.2.2.2.length → T 8 j = nI (D.2.2.2.2.2.getD j 0))
theorem RX.fr {T T1 : St} {D : DT} (h : RX T D) (fr : ∀ i, i ≠ 3 → T1 i = T i) : RX T1 D := by
  unfold RX at h ⊢
  rw [fr 0 (by omega), fr 1 (by omega), fr 2 (by omega), fr 4 (by omega), fr 5 (by omega), fr 6 (by omega), fr 7 (by omega), fr 8 (by omega)]
  exact h
def OX (lt : Nat → Nat) (q : Option (Nat × DT)) (o : Option (Int32 × St)) : Prop := (q = none ∧ ∃ b T1 s1, o = some (b, T1) ∧ T1 3 0 = nI s1 ∧ s1 ≤ 400 ∧ (b = 0 ∨ (b = 1 ∧ lt s1 ≠ 59))) ∨ (∃ s1 D' T1, q = some (s1, D') ∧ o = some (1, T1) ∧ T1 3 0 = nI s1 ∧ lt s1 = 59 ∧ RX T1 D')
theorem OX.wrap {lt : Nat → Nat} {q : Option (Nat × DT)} {o : Option (Int32 × St)} (h : OX lt q o) : OX lt q (Option.bind o (fun q3 => if q3.1 = 0 ∨ q3.1 = 1 then (some (q3.1, q3.2)) else none)) := by
  rcases h with ⟨h1, b, T1, s1, rfl, h2, h3, h4⟩ | ⟨s1, D', T1, h1, rfl, h2⟩
  · refine Or.inl ⟨h1, b, T1, s1, ?_, h2, h3, h4⟩
    show (if b = 0 ∨ b = 1 then some (b, T1) else none) = some (b, T1)
    rw [if_pos (h4.elim Or.inl (fun q => Or.inr q.1))]
  · exact Or.inr ⟨s1, D', T1, h1, by show (if (1 : Int32) = 0 ∨ (1 : Int32) = 1 then some ((1 : Int32), T1) else none) = _; rw [if_pos (Or.inr rfl)], h2⟩
theorem or_X : ∀ k, k < 1024 → ∀ f, f < 10 → nI k ||| ((1 : Int32) <<< (nI f &&& 31)) = nI (k ||| 2 ^ f) := by decide +kernel
theorem fig_m1 : ¬ (nI 0 ≤ (-1 : Int32) ∧ (-1 : Int32) ≤ nI 9) := by decide
theorem strike_X {N n s : Nat} {lt : Nat → Nat} {X T : St} {D : DT} (hN : 10 ≤ N) (hT : TL n lt) (hX : TX n lt X) (hs : s ≤ 300) (e : T 3 0 = nI s) (hR : RX T D) (hV : VD D) : OX lt (pX lt s D) (fX9_readStrike N T X) := by
  obtain ⟨T1, e1, e2, fr⟩ := readNum_X (N := N) hN hT hX hs e
  have hnd := nd_le lt s
  have hvv := vv_le lt s
  unfold fX9_readStrike pX
  rw [e1]
  simp only [Option.bind_some]
  rw [isFig_X]
  by_cases c0 : ndN lt s = 0
  · rw [if_pos c0, if_neg fig_m1, if_neg (by omega)]
    exact Or.inl ⟨rfl, 0, T1, _, rfl, e2, by omega, Or.inl rfl⟩
  · rw [if_neg c0]
    by_cases c1 : vvN lt s ≤ 9
    · rw [if_pos (rng_t (Nat.zero_le _) c1 (by omega))]
      simp only [Option.bind_some]
      have hR1 := hR.fr fr
      rw [if_neg i10, hR1.1, or_X _ hV.1 _ (by omega)]
      by_cases c2 : lt (s + ndN lt s) = 59
      · rw [if_pos ⟨by omega, c1, c2⟩]
        exact Or.inr ⟨_, _, _, rfl, rfl, e2, c2, rfl, hR1.2⟩
      · rw [if_neg (fun q => c2 q.2.2)]
        exact Or.inl ⟨rfl, 1, _, _, rfl, e2, by omega, Or.inr ⟨rfl, c2⟩⟩
    · rw [if_neg (show ¬ (nI 0 ≤ nI (vvN lt s) ∧ nI (vvN lt s) ≤ nI 9) from fun q => c1 ((nI_leI (by omega) (by omega)).mp q.2)), if_neg (fun q => c1 q.2.1)]
      exact Or.inl ⟨rfl, 0, T1, _, rfl, e2, by omega, Or.inl rfl⟩
theorem standIn_X {N n s : Nat} {lt : Nat → Nat} {X T : St} {D : DT} (hN : 10 ≤ N) (hT : TL n lt) (hX : TX n lt X) (hs : s ≤ 300) (e : T 3 0 = nI s) (hR : RX T D) : OX lt (pF lt s D) (fX9_readStandIn N T X) := by
  obtain ⟨T1, e1, e2, fr⟩ := readNum_X (N := N) hN hT hX hs e
  have hnd := nd_le lt s
  have hvv := vv_le lt s
  have hll := hT.le (s + ndN lt s)
  unfold fX9_readStandIn pF
  rw [e1]
  simp only [Option.bind_some]
  rw [isFig_X]
  by_cases c0 : ndN lt s = 0
  · rw [if_pos c0, if_neg fig_m1, if_neg (by omega)]
    exact Or.inl ⟨rfl, 0, T1, _, rfl, e2, by omega, Or.inl rfl⟩
  · rw [if_neg c0]
    by_cases c1 : vvN lt s ≤ 9
    · rw [if_pos (rng_t (Nat.zero_le _) c1 (by omega))]
      simp only [Option.bind_some]
      rw [if_neg i10, e2, let_X hT hX (by omega)]
      simp only [Option.bind_some]
      by_cases c2 : lt (s + ndN lt s) = 44
      · rw [if_pos (show nI (lt (s + ndN lt s)) = (44 : Int32) by rw [c2]; rfl), show nI (s + ndN lt s) + (1 : Int32) = nI (s + ndN lt s + 1) from nI_1 _]
        generalize hs2 : s + ndN lt s + 1 = s2
        by_cases c9 : s2 ≤ 300
        · obtain ⟨T2, f1, f2, fr2⟩ := readNum_X (N := N) (T := stf T1 3 (nI s2)) hN hT hX c9 rfl
          have hnd2 := nd_le lt s2
          have hvv2 := vv_le lt s2
          rw [f1]
          simp only [Option.bind_some]
          rw [isFig_X]
          by_cases c3 : ndN lt s2 = 0
          · rw [if_pos c3, if_neg fig_m1, if_neg (by omega)]
            exact Or.inl ⟨rfl, 0, T2, _, rfl, f2, by omega, Or.inl rfl⟩
          · rw [if_neg c3]
            by_cases c4 : vvN lt s2 ≤ 9
            · rw [if_pos (rng_t (Nat.zero_le _) c4 (by omega))]
              simp only [Option.bind_some]
              rw [if_neg i10, if_pos (in_nI (by omega) (by omega)), nI_clamp (by omega)]
              have hR2 : RX T2 D := (hR.fr fr).fr (fun i hi => (fr2 i hi).trans (by show (if i = 3 then _ else T1 i) = T1 i; rw [if_neg hi]))
              by_cases c5 : lt (s2 + ndN lt s2) = 59
              · rw [if_pos ⟨⟨by omega, c1, c2⟩, by omega, c4, c5⟩]
                refine Or.inr ⟨_, _, _, rfl, rfl, f2, c5, hR2.1, fun f hf => ?_, hR2.2.2⟩
                show upd (T2 6) (vvN lt s) (nI (vvN lt s2)) f = nI (if f = vvN lt s then vvN lt s2 else D.2.1 f)
                by_cases q : f = vvN lt s
                · rw [q, upd_s, if_pos rfl]
                · rw [upd_n _ _ q, if_neg q, hR2.2.1 f hf]
              · rw [if_neg (fun q => c5 q.2.2.2)]
                exact Or.inl ⟨rfl, 1, _, _, rfl, f2, by omega, Or.inr ⟨rfl, c5⟩⟩
            · rw [if_neg (show ¬ (nI 0 ≤ nI (vvN lt s2) ∧ nI (vvN lt s2) ≤ nI 9) from fun q => c4 ((nI_leI (by omega) (by omega)).mp q.2)), if_neg (fun q => c4 q.2.2.1)]
              exact Or.inl ⟨rfl, 0, T2, _, rfl, f2, by omega, Or.inl rfl⟩
        · have : s + ndN lt s < n := by
            rcases Nat.lt_or_ge (s + ndN lt s) n with q | q
            · exact q
            · have := hT.2.2 _ q; omega
          have := hT.1
          omega
      · rw [if_neg (show ¬ nI (lt (s + ndN lt s)) = (44 : Int32) from fun q => c2 ((nI_eq (b := 44) (by omega) (by omega)).mp q)), if_neg (fun q => c2 q.1.2.2)]
        exact Or.inl ⟨rfl, 0, T1, _, rfl, e2, by omega, Or.inl rfl⟩
    · rw [if_neg (show ¬ (nI 0 ≤ nI (vvN lt s) ∧ nI (vvN lt s) ≤ nI 9) from fun q => c1 ((nI_leI (by omega) (by omega)).mp q.2)), if_neg (fun q => c1 q.1.2.1)]
      exact Or.inl ⟨rfl, 0, T1, _, rfl, e2, by omega, Or.inl rfl⟩
theorem has_X {N w : Nat} {T : St} {C : List Nat} (hN : 10 ≤ N) (hC : C.length ≤ 6) (e0 : T 0 0 = nI C.length) (e4 : ∀ j, j < C.length → T 4 j = nI (C.getD j 0)) (h9 : ∀ j, j < C.length → C.getD j 0 ≤ 99) (hw : w ≤ 99) : fX9_hasCoin N T (nI w) = some (nI (bN (hcN C w C.length 0))) := by
  unfold fX9_hasCoin fX9_hasCoin_l2
  have key := lpN_ix (body := fun g q => fX9_hasCoin_b2 N T (nI w) g q) (enc := fun i : Nat × Nat => nI i.2) (I := fun i => i.2 + i.1 = C.length) (μ := fun i => i.1) (f := fun i => some (nI (bN (hcN C w i.1 i.2)))) ?_ N (C.length, 0) (by show 0 + C.length = C.length; omega) (by show C.length < N; omega)
  · exact key
  rintro g ⟨m, j⟩ hm ih
  dsimp only at hm ih ⊢
  unfold fX9_hasCoin_b2
  rw [e0]
  cases m with
  | zero => rw [if_pos (nI_le (by omega) (by omega))]; rfl
  | succ m =>
    have b := h9 j (by omega)
    rw [if_neg (nI_ge (by omega) (by omega)), if_pos (in_nI (by omega) (by omega)), nI_clamp (by omega), e4 j (by omega), hcN]
    by_cases c : C.getD j 0 = w
    · rw [if_pos (show nI (C.getD j 0) = nI w by rw [c]), show (C.getD j 0 == w) = true from beq_iff_eq.mpr c]
      rfl
    · rw [if_neg (fun q => c ((nI_eq (by omega) (by omega)).mp q)), show (C.getD j 0 == w) = false from beq_eq_false_iff_ne.mpr c, Bool.false_or, show nI j + (1 : Int32) = nI (j + 1) from nI_1 j]
      exact ih (m, j + 1) (by show j + 1 + m = C.length; omega) (by show m < m + 1; omega)
theorem coin_X {N n s : Nat} {lt : Nat → Nat} {X T : St} {D : DT} (hN : 10 ≤ N) (hT : TL n lt) (hX : TX n lt X) (hs : s ≤ 300) (e : T 3 0 = nI s) (hR : RX T D) (hV : VD D) : OX lt (pC lt s D) (fX9_readCoin N T X) := by
  obtain ⟨T1, e1, e2, fr⟩ := readNum_X (N := N) hN hT hX hs e
  have hnd := nd_le lt s
  have hvv := vv_le lt s
  unfold fX9_readCoin pC
  rw [e1]
  simp only [Option.bind_some]
  by_cases c0 : ndN lt s = 0
  · rw [if_pos c0, if_pos (show (-1 : Int32) < 1 by decide), if_neg (by omega)]
    exact Or.inl ⟨rfl, 0, T1, _, rfl, e2, by omega, Or.inl rfl⟩
  · rw [if_neg c0]
    by_cases c1 : 1 ≤ vvN lt s
    · have hR1 := hR.fr fr
      have h6 := hV.2.2.1.1
      rw [if_neg (show ¬ nI (vvN lt s) < (1 : Int32) from nI_nlt (b := 1) c1 (by omega)), hR1.2.2.1.1]
      by_cases c2 : D.2.2.1.length < 6
      · rw [if_neg (show ¬ (6 : Int32) ≤ nI D.2.2.1.length from nI_ge (b := 6) c2 (by omega)), has_X hN h6 hR1.2.2.1.1 hR1.2.2.1.2 (fun j hj => (hV.2.2.1.2 j hj).2) hvv]
        simp only [Option.bind_some]
        cases c3 : hcN D.2.2.1 (vvN lt s) D.2.2.1.length 0 with
        | true =>
          rw [if_neg (show ¬ nI (bN true) = (0 : Int32) by decide), if_neg (fun q => absurd q.2.2.2.1 (by decide))]
          exact Or.inl ⟨rfl, 0, T1, _, rfl, e2, by omega, Or.inl rfl⟩
        | false =>
          have f0 : (sti T1 4 D.2.2.1.length (nI (vvN lt s))) 0 0 = nI D.2.2.1.length := hR1.2.2.1.1
          rw [if_pos (show nI (bN false) = (0 : Int32) by rfl), if_pos (in_nI (by omega) (by omega)), nI_clamp (by omega), f0, show nI D.2.2.1.length + (1 : Int32) = nI (D.2.2.1.length + 1) from nI_1 _]
          by_cases c4 : lt (s + ndN lt s) = 59
          · rw [if_pos ⟨by omega, c1, c2, by trivial, c4⟩]
            refine Or.inr ⟨_, _, _, rfl, rfl, e2, c4, hR1.1, hR1.2.1, ⟨?_, fun j hj => ?_⟩, hR1.2.2.2⟩
            · show nI (D.2.2.1.length + 1) = nI (D.2.2.1 ++ [vvN lt s]).length
              rw [ln_s]
            · have hj' : j < (D.2.2.1 ++ [vvN lt s]).length := hj
              rw [ln_s] at hj'
              show upd (T1 4) D.2.2.1.length (nI (vvN lt s)) j = nI ((D.2.2.1 ++ [vvN lt s]).getD j 0)
              by_cases q : j = D.2.2.1.length
              · rw [q, upd_s, gd_e]
              · rw [upd_n _ _ q, gd_l _ _ _ (by omega), hR1.2.2.1.2 j (by omega)]
          · rw [if_neg (fun q => c4 q.2.2.2.2)]
            exact Or.inl ⟨rfl, 1, _, _, rfl, e2, by omega, Or.inr ⟨rfl, c4⟩⟩
      · rw [if_pos (show (6 : Int32) ≤ nI D.2.2.1.length from nI_le (a := 6) (by omega) (by omega)), if_neg (fun q => c2 q.2.2.1)]
        exact Or.inl ⟨rfl, 0, T1, _, rfl, e2, by omega, Or.inl rfl⟩
    · rw [if_pos (show nI (vvN lt s) < (1 : Int32) from nI_lt (b := 1) (by omega) (by omega)), if_neg (fun q => c1 q.2.1)]
      exact Or.inl ⟨rfl, 0, T1, _, rfl, e2, by omega, Or.inl rfl⟩
theorem sides_X {N n s : Nat} {lt : Nat → Nat} {X T : St} {D : DT} (hN : 10 ≤ N) (hT : TL n lt) (hX : TX n lt X) (hs : s ≤ 300) (e : T 3 0 = nI s) (hR : RX T D) : OX lt (pD lt s D) (fX9_readSides N T X) := by
  obtain ⟨T1, e1, e2, fr⟩ := readNum_X (N := N) hN hT hX hs e
  have hnd := nd_le lt s
  have hvv := vv_le lt s
  have hR1 := hR.fr fr
  unfold fX9_readSides pD
  rw [e1]
  simp only [Option.bind_some]
  rw [show ∀ v : Int32, (stf T1 1 v) 1 0 = v from fun _ => rfl, within_eq]
  by_cases c0 : ndN lt s = 0
  · rw [if_pos c0, if_neg (show ¬ ((2 : Int32) ≤ -1 ∧ (-1 : Int32) ≤ 9) by decide), if_neg (by omega)]
    exact Or.inl ⟨rfl, 0, stf T1 1 (-1), _, rfl, e2, by omega, Or.inl rfl⟩
  · rw [if_neg c0]
    by_cases c1 : 2 ≤ vvN lt s ∧ vvN lt s ≤ 9
    · rw [if_pos (show (2 : Int32) ≤ nI (vvN lt s) ∧ nI (vvN lt s) ≤ 9 from rng_t (a := 2) (b := 9) c1.1 c1.2 (by omega))]
      by_cases c2 : lt (s + ndN lt s) = 59
      · rw [if_pos ⟨by omega, c1, c2⟩]
        exact Or.inr ⟨_, _, stf T1 1 (nI (vvN lt s)), rfl, rfl, e2, c2, hR1.1, hR1.2.1, hR1.2.2.1, rfl, hR1.2.2.2.2⟩
      · rw [if_neg (fun q => c2 q.2.2)]
        exact Or.inl ⟨rfl, 1, stf T1 1 (nI (vvN lt s)), _, rfl, e2, by omega, Or.inr ⟨rfl, c2⟩⟩
    · rw [if_neg (show ¬ ((2 : Int32) ≤ nI (vvN lt s) ∧ nI (vvN lt s) ≤ 9) from fun q => c1 ⟨(nI_leI (a := 2) (by omega) (by omega)).mp q.1, (nI_leI (b := 9) (by omega) (by omega)).mp q.2⟩), if_neg (fun q => c1 q.2.1)]
      exact Or.inl ⟨rfl, 0, stf T1 1 (nI (vvN lt s)), _, rfl, e2, by omega, Or.inl rfl⟩
theorem week_X {N n s : Nat} {lt : Nat → Nat} {X T : St} {D : DT} (hN : 10 ≤ N) (hT : TL n lt) (hX : TX n lt X) (hs : s ≤ 300) (e : T 3 0 = nI s) (hR : RX T D) : OX lt (pW lt s D) (fX9_readWeek N T X) := by
  obtain ⟨T1, e1, e2, fr⟩ := readNum_X (N := N) hN hT hX hs e
  have hnd := nd_le lt s
  have hvv := vv_le lt s
  have hR1 := hR.fr fr
  unfold fX9_readWeek pW
  rw [e1]
  simp only [Option.bind_some]
  rw [show ∀ v : Int32, (stf T1 2 v) 2 0 = v from fun _ => rfl, within_eq]
  by_cases c0 : ndN lt s = 0
  · rw [if_pos c0, if_neg (show ¬ ((1 : Int32) ≤ -1 ∧ (-1 : Int32) ≤ 9) by decide), if_neg (by omega)]
    exact Or.inl ⟨rfl, 0, stf T1 2 (-1), _, rfl, e2, by omega, Or.inl rfl⟩
  · rw [if_neg c0]
    by_cases c1 : 1 ≤ vvN lt s ∧ vvN lt s ≤ 9
    · rw [if_pos (show (1 : Int32) ≤ nI (vvN lt s) ∧ nI (vvN lt s) ≤ 9 from rng_t (a := 1) (b := 9) c1.1 c1.2 (by omega))]
      by_cases c2 : lt (s + ndN lt s) = 59
      · rw [if_pos ⟨by omega, c1, c2⟩]
        exact Or.inr ⟨_, _, stf T1 2 (nI (vvN lt s)), rfl, rfl, e2, c2, hR1.1, hR1.2.1, hR1.2.2.1, hR1.2.2.2.1, rfl, hR1.2.2.2.2.2⟩
      · rw [if_neg (fun q => c2 q.2.2)]
        exact Or.inl ⟨rfl, 1, stf T1 2 (nI (vvN lt s)), _, rfl, e2, by omega, Or.inr ⟨rfl, c2⟩⟩
    · rw [if_neg (show ¬ ((1 : Int32) ≤ nI (vvN lt s) ∧ nI (vvN lt s) ≤ 9) from fun q => c1 ⟨(nI_leI (a := 1) (by omega) (by omega)).mp q.1, (nI_leI (b := 9) (by omega) (by omega)).mp q.2⟩), if_neg (fun q => c1 q.2.1)]
      exact Or.inl ⟨rfl, 0, stf T1 2 (nI (vvN lt s)), _, rfl, e2, by omega, Or.inl rfl⟩

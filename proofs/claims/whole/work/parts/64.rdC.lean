/-! ===== the class's reader: the sum, an item, all ===== -/
theorem app_X {N i c : Nat} {S : St} (hi : i < 20) (hc : c < 128) (e : S 0 0 = nI i) : fX6_append N S (nI c) = some (stf (sti S 1 i (nI c)) 0 (nI (i + 1))) := by
  unfold fX6_append
  have f : (sti S 1 i (nI c)) 0 0 = nI i := e
  rw [e, if_neg (show ¬ (20 : Int32) ≤ nI i from nI_ge (b := 20) hi (by omega)), if_pos (in_nI hi (by omega)), nI_clamp (by omega), byt_ok c hc, f, show nI i + (1 : Int32) = nI (i + 1) from nI_1 i]
theorem j60_X {N c i s : Nat} {X T : St} {g : Int32 × Int32 × St → Option (Int32 × St)} {x2 x3 : Int32} (e3 : T 3 0 = nI s) (e7 : T 7 0 = nI i) (hi : i < 20) (hc : c < 128) : ∃ T', fX9_readSum_j60 N X g x2 x3 (nI c) T = g (x2, x3 + 1, T') ∧ T' 3 0 = nI (s + 1) ∧ T' 7 0 = nI (i + 1) ∧ T' 8 = upd (T 8) i (nI c) ∧ ∀ a, a ≠ 3 → a ≠ 7 → a ≠ 8 → T' a = T a := by
  unfold fX9_readSum_j60
  rw [app_X (S := sh T 7) hi hc e7]
  simp only [Option.bind_some]
  refine ⟨_, rfl, ?_, rfl, rfl, fun a h1 h2 h3 => ?_⟩
  · show T 3 0 + 1 = nI (s + 1)
    rw [e3]; exact nI_1 s
  · show (if a = 3 then _ else if 7 ≤ a ∧ a < 7 + 2 then _ else T a) = T a
    rw [if_neg h1, if_neg (by omega)]
def OS (lt : Nat → Nat) (T0 : St) (q : Option (Nat × List Nat)) (o : Option (Int32 × St)) : Prop := (q = none ∧ ∃ b T1 s1, o = some (b, T1) ∧ T1 3 0 = nI s1 ∧ s1 ≤ 400 ∧ (b = 0 ∨ (b = 1 ∧ lt s1 ≠ 59))) ∨ (∃ s1 L' T1, q = some (s1, L') ∧ o = some (1, T1) ∧ T1 3 0 = nI s1 ∧ lt s1 = 59 ∧ T1 7 0 = nI L'.length ∧ (∀ j, j < L'.length → T1 8 j = nI (L'.getD j 0)) ∧ ∀ a, a ≠ 3 → a ≠ 7 → a ≠ 8 → T1 a = T0 a)
theorem js_X {N r s : Nat} {X T T0 : St} {L : List Nat} {lt : Nat → Nat} (e3 : T 3 0 = nI s) (hs : s ≤ 400) (hr : r ≤ 4) (e7 : T 7 0 = nI L.length) (e8 : ∀ j, j < L.length → T 8 j = nI (L.getD j 0)) (fr : ∀ a, a ≠ 3 → a ≠ 7 → a ≠ 8 → T a = T0 a) : OS lt T0 (if lt s = 59 ∧ 0 < r then some (s, L) else none) (fX9_readSum_j85 N X (nI r) T) := by
  unfold fX9_readSum_j85
  by_cases c : r = 0
  · rw [if_pos (show nI r ≤ (0 : Int32) by rw [c]; decide), if_neg (by omega)]
    exact Or.inl ⟨rfl, 0, T, s, rfl, e3, hs, Or.inl rfl⟩
  · rw [if_neg (nI_nle (by omega) (by omega))]
    by_cases c2 : lt s = 59
    · rw [if_pos ⟨c2, by omega⟩]
      exact Or.inr ⟨s, L, T, rfl, rfl, e3, c2, e7, e8, fr⟩
    · rw [if_neg (fun q => c2 q.1)]
      exact Or.inl ⟨rfl, 1, T, s, rfl, e3, hs, Or.inr ⟨rfl, c2⟩⟩
theorem readSum_X {N n s : Nat} {lt : Nat → Nat} {X T : St} (hN : 100 ≤ N) (hT : TL n lt) (hX : TX n lt X) (hs : s ≤ 300) (e : T 3 0 = nI s) : OS lt T (pS lt 20 s 0 []) (fX9_readSum N T X) := by
  unfold fX9_readSum fX9_readSum_l12
  have key := lpN_h (body := fun g q => fX9_readSum_b12 N X g q.1 q.2.1 q.2.2) (enc := fun i : Nat × List Nat × Nat × St × Nat => (nI i.2.2.1, nI i.2.1.length, i.2.2.2.1)) (I := fun i => i.2.1.length + i.1 = 20 ∧ i.2.2.2.2 ≤ 300 + i.2.1.length ∧ i.2.2.1 ≤ 4 ∧ i.2.2.2.1 3 0 = nI i.2.2.2.2 ∧ i.2.2.2.1 7 0 = nI i.2.1.length ∧ (∀ j, j < i.2.1.length → i.2.2.2.1 8 j = nI (i.2.1.getD j 0)) ∧ ∀ a, a ≠ 3 → a ≠ 7 → a ≠ 8 → i.2.2.2.1 a = T a) (μ := fun i => i.1) (P := fun i o => OS lt T (pS lt i.1 i.2.2.2.2 i.2.2.1 i.2.1) o) ?_ N (20, [], 0, stf T 7 0, s) ⟨rfl, by show s ≤ 300 + 0; omega, Nat.zero_le _, e, rfl, fun j hj => absurd hj (Nat.not_lt_zero j), fun a h1 h2 h3 => by show (if a = 7 then _ else T a) = T a; rw [if_neg h2]⟩ (by show 20 < N; omega)
  · exact key
  rintro g ⟨m, L, r, U, s⟩ ⟨hm, hs, hr, e3, e7, e8, fr⟩ ih
  dsimp only at hm hs hr e3 e7 e8 fr ih ⊢
  have hl := hT.le s
  unfold fX9_readSum_b12
  cases m with
  | zero =>
    rw [if_pos (show (20 : Int32) ≤ nI L.length from nI_le (a := 20) (by omega) (by omega))]
    exact js_X e3 (by omega) hr e7 e8 fr
  | succ m =>
    have stp : ∀ r', r' ≤ 4 → OS lt T (pS lt m (s + 1) r' (L ++ [lt s])) (fX9_readSum_j60 N X g (nI r') (nI L.length) (nI (lt s)) U) := by
      intro r' hr'
      obtain ⟨U', f1, f3, f7, f8, ff⟩ := j60_X (N := N) (X := X) (g := g) (x2 := nI r') (x3 := nI L.length) e3 e7 (show L.length < 20 by omega) (show lt s < 128 by omega)
      rw [f1, show nI L.length + (1 : Int32) = nI (L ++ [lt s]).length from by rw [ln_s]; exact nI_1 _]
      refine ih (m, L ++ [lt s], r', U', s + 1) ⟨by show (L ++ [lt s]).length + m = 20; rw [ln_s]; omega, by show s + 1 ≤ 300 + (L ++ [lt s]).length; rw [ln_s]; omega, hr', f3, by show U' 7 0 = nI (L ++ [lt s]).length; rw [ln_s]; exact f7, fun j hj => ?_, fun a h1 h2 h3 => (ff a h1 h2 h3).trans (fr a h1 h2 h3)⟩ (by show m < m + 1; omega)
      have hj' : j < (L ++ [lt s]).length := hj
      rw [ln_s] at hj'
      show U' 8 j = nI ((L ++ [lt s]).getD j 0)
      rw [f8]
      by_cases q : j = L.length
      · rw [q, upd_s, gd_e]
      · rw [upd_n _ _ q, gd_l _ _ _ (by omega), e8 j (by omega)]
    rw [if_neg (show ¬ (20 : Int32) ≤ nI L.length from nI_ge (b := 20) (by omega) (by omega)), e3, let_X hT hX (by omega)]
    simp only [Option.bind_some]
    rw [dig_Xt (by omega)]
    simp only [Option.bind_some]
    rw [pS]
    cases d0 : dg (lt s) with
    | true =>
      rw [if_neg (show ¬ nI (bN true) = (0 : Int32) by decide), if_pos (show true = true from rfl), show nI r + (1 : Int32) = nI (r + 1) from nI_1 r]
      by_cases c : r < 4
      · rw [if_pos c, if_pos (show nI (r + 1) ≤ (4 : Int32) from nI_le (b := 4) (by omega) (by omega))]
        exact stp (r + 1) (by omega)
      · rw [if_neg c, if_neg (show ¬ nI (r + 1) ≤ (4 : Int32) from nI_ge (a := 4) (by omega) (by omega))]
        exact Or.inl ⟨rfl, 0, U, s, rfl, e3, by omega, Or.inl rfl⟩
    | false =>
      rw [if_pos (show nI (bN false) = (0 : Int32) by rfl), if_neg (show ¬ false = true by decide), sign_X (by omega)]
      simp only [Option.bind_some]
      have las := js_X (N := N) (X := X) (lt := lt) e3 (show s ≤ 400 by omega) hr e7 e8 fr
      cases d1 : sg (lt s) with
      | false =>
        rw [if_pos (show nI (bN false) = (0 : Int32) by rfl), if_neg (fun q => absurd q.1 (by decide))]
        exact las
      | true =>
        rw [if_neg (show ¬ nI (bN true) = (0 : Int32) by decide)]
        by_cases c : r = 0
        · rw [if_pos (show nI r ≤ (0 : Int32) by rw [c]; decide), if_neg (fun q => absurd q.2 (by omega))]
          exact las
        · rw [if_neg (nI_nle (by omega) (by omega)), if_pos ⟨by trivial, by omega⟩]
          exact stp 0 (by omega)
theorem OS.ox {lt : Nat → Nat} {T : St} {D : DT} {s : Nat} {o : Option (Int32 × St)} (hR : RX T D) (h : OS lt T (pS lt 20 s 0 []) o) : OX lt (pE lt s D) o := by
  rcases h with ⟨h1, h2⟩ | ⟨s1, L', T1, h1, h2, h3, h4, h5, h6, h7⟩
  · refine Or.inl ⟨?_, h2⟩
    unfold pE
    rw [h1]
  · refine Or.inr ⟨s1, (D.1, D.2.1, D.2.2.1, D.2.2.2.1, D.2.2.2.2.1, L'), T1, ?_, h2, h3, h4, ?_⟩
    · unfold pE
      rw [h1]
    · unfold RX at hR ⊢
      rw [h7 0 (by omega) (by omega) (by omega), h7 1 (by omega) (by omega) (by omega), h7 2 (by omega) (by omega) (by omega), h7 4 (by omega) (by omega) (by omega), h7 5 (by omega) (by omega) (by omega), h7 6 (by omega) (by omega) (by omega)]
      exact ⟨hR.1, hR.2.1, hR.2.2.1, hR.2.2.2.1, hR.2.2.2.2.1, h5, h6⟩
theorem nc_p {c d : Nat} (h : c = d) : nI c = nI d := by rw [h]
theorem nc_n {c d : Nat} (hc : c ≤ 126) (hd : d ≤ 126) (h : ¬ c = d) : ¬ nI c = nI d := fun q => h ((nI_eq (by omega) (by omega)).mp q)
theorem item_X {N n s : Nat} {lt : Nat → Nat} {X T : St} {D : DT} (hN : 100 ≤ N) (hT : TL n lt) (hX : TX n lt X) (hs : s ≤ 200) (e : T 3 0 = nI s) (hR : RX T D) (hV : VD D) : OX lt (pI lt s D) (fX9_readItem N T X) := by
  have hl := hT.le s
  unfold fX9_readItem pI
  rw [e, let_X hT hX (by omega)]
  simp only [Option.bind_some]
  rw [show nI s + (1 : Int32) = nI (s + 1) from nI_1 s]
  have hR' : RX (stf T 3 (nI (s + 1))) D := hR.fr (fun i hi => by show (if i = 3 then _ else T i) = T i; rw [if_neg hi])
  by_cases c1 : lt s = 99
  · rw [if_pos (show nI (lt s) = (99 : Int32) from nc_p c1), if_pos c1]
    exact (coin_X (by omega) hT hX (by omega) rfl hR' hV).wrap
  · rw [if_neg (show ¬ nI (lt s) = (99 : Int32) from nc_n (d := 99) hl (by omega) c1), if_neg c1]
    by_cases c2 : lt s = 100
    · rw [if_pos (show nI (lt s) = (100 : Int32) from nc_p c2), if_pos c2]
      exact (sides_X (by omega) hT hX (by omega) rfl hR').wrap
    · rw [if_neg (show ¬ nI (lt s) = (100 : Int32) from nc_n (d := 100) hl (by omega) c2), if_neg c2]
      by_cases c3 : lt s = 101
      · rw [if_pos (show nI (lt s) = (101 : Int32) from nc_p c3), if_pos c3]
        exact ((readSum_X (by omega) hT hX (by omega) rfl).ox hR').wrap
      · rw [if_neg (show ¬ nI (lt s) = (101 : Int32) from nc_n (d := 101) hl (by omega) c3), if_neg c3]
        by_cases c4 : lt s = 102
        · rw [if_pos (show nI (lt s) = (102 : Int32) from nc_p c4), if_pos c4]
          exact (standIn_X (by omega) hT hX (by omega) rfl hR').wrap
        · rw [if_neg (show ¬ nI (lt s) = (102 : Int32) from nc_n (d := 102) hl (by omega) c4), if_neg c4]
          by_cases c5 : lt s = 119
          · rw [if_pos (show nI (lt s) = (119 : Int32) from nc_p c5), if_pos c5]
            exact (week_X (by omega) hT hX (by omega) rfl hR').wrap
          · rw [if_neg (show ¬ nI (lt s) = (119 : Int32) from nc_n (d := 119) hl (by omega) c5), if_neg c5]
            by_cases c6 : lt s = 120
            · rw [if_pos (show nI (lt s) = (120 : Int32) from nc_p c6), if_pos c6]
              exact (strike_X (by omega) hT hX (by omega) rfl hR' hV).wrap
            · rw [if_neg (show ¬ nI (lt s) = (120 : Int32) from nc_n (d := 120) hl (by omega) c6), if_neg c6]
              exact Or.inl ⟨rfl, 0, _, s + 1, rfl, rfl, by omega, Or.inl rfl⟩
theorem clear_X {N : Nat} {F : St} (hN : 100 ≤ N) : ∃ F', fX0_clear N F = some F' ∧ F' 0 0 = 0 ∧ ∀ f, f < 10 → F' 1 f = nI f := by
  unfold fX0_clear fX0_clear_l7
  have key := lpN_h (body := fun g q => fX0_clear_b7 N g q.1 q.2) (enc := fun i : Nat × Nat × St => (nI i.2.1, i.2.2)) (I := fun i => i.2.1 + i.1 = 10 ∧ i.2.2 0 0 = 0 ∧ ∀ f, f < i.2.1 → i.2.2 1 f = nI f) (μ := fun i => i.1) (P := fun _ o => ∃ F', o = some F' ∧ F' 0 0 = 0 ∧ ∀ f, f < 10 → F' 1 f = nI f) ?_ N (10, 0, stf F 0 0) ⟨rfl, rfl, fun f hf => absurd hf (Nat.not_lt_zero f)⟩ (by show 10 < N; omega)
  · exact key
  rintro g ⟨m, j, U⟩ ⟨hm, h0, h1⟩ ih
  dsimp only at hm h0 h1 ih ⊢
  unfold fX0_clear_b7
  cases m with
  | zero =>
    rw [if_pos (show (10 : Int32) ≤ nI j from nI_le (a := 10) (by omega) (by omega))]
    exact ⟨U, rfl, h0, fun f hf => h1 f (by omega)⟩
  | succ m =>
    rw [if_neg (show ¬ (10 : Int32) ≤ nI j from nI_ge (b := 10) (by omega) (by omega)), if_pos (in_nI (by omega) (by omega)), nI_clamp (by omega), show nI j + (1 : Int32) = nI (j + 1) from nI_1 j]
    refine ih (m, j + 1, sti U 1 j (nI j)) ⟨by show j + 1 + m = 10; omega, h0, fun f hf => ?_⟩ (by show m < m + 1; omega)
    have hf' : f < j + 1 := hf
    show upd (U 1) j (nI j) f = nI f
    by_cases q : f = j
    · rw [q, upd_s]
    · rw [upd_n _ _ q]; exact h1 f (by omega)
def D0 : DT := (0, (fun f => f), [], 6, 7, [])
theorem VD.d0 : VD D0 := ⟨by show 0 < 1024; omega, fun f hf => hf, ⟨Nat.zero_le _, fun j hj => absurd hj (Nat.not_lt_zero j)⟩, ⟨by show 2 ≤ 6; omega, by show 6 ≤ 9; omega⟩, ⟨by show 1 ≤ 7; omega, by show 7 ≤ 9; omega⟩, Nat.zero_le _, Or.inl rfl⟩
theorem pA_VD {lt : Nat → Nat} {n : Nat} : ∀ (m s : Nat) (D : DT), VD D → VD (pA lt n m s D).2
  | 0, _, _, h => h
  | m + 1, s, D, h => by
    rw [pA]
    by_cases c : n ≤ s
    · rw [if_pos c]; exact h
    · rw [if_neg c]
      cases e : pI lt s D with
      | none => exact h
      | some q => exact pA_VD m (q.1 + 1) q.2 (pI_ok h e).2.2
theorem readFrom_X {N n : Nat} {lt : Nat → Nat} {X T : St} (hN : 1000 ≤ N) (hT : TL n lt) (hX : TX n lt X) : ∃ T', fX9_readFrom N T X = some (fvN (pA lt n 201 0 D0).1, T') ∧ ((pA lt n 201 0 D0).1 = none → RX T' (pA lt n 201 0 D0).2) := by
  have hn := hT.1
  unfold fX9_readFrom
  obtain ⟨F, f1, f2, f3⟩ := clear_X (N := N) (F := sh T 5) (by omega)
  rw [f1]
  simp only [Option.bind_some]
  unfold fX9_readFrom_l39
  have key := lpN_h (body := fun g q => fX9_readFrom_b39 N X g q.1 q.2) (enc := fun i : Nat × Nat × Nat × DT × St => (nI i.2.1, i.2.2.2.2)) (I := fun i => i.2.2.1 ≤ n ∧ n < i.2.2.1 + i.1 ∧ i.2.1 ≤ i.2.2.1 ∧ i.2.2.2.2 3 0 = nI i.2.2.1 ∧ RX i.2.2.2.2 i.2.2.2.1 ∧ VD i.2.2.2.1) (μ := fun i => n - i.2.2.1) (P := fun i o => ∃ T', o = some (fvN (pA lt n i.1 i.2.2.1 i.2.2.2.1).1, T') ∧ ((pA lt n i.1 i.2.2.1 i.2.2.2.1).1 = none → RX T' (pA lt n i.1 i.2.2.1 i.2.2.2.1).2)) ?_ N (201, 0, 0, D0, stf (stf (stf (stf (stf (pt T 5 2 F) 0 0) 1 6) 2 7) 7 0) 3 0) ⟨Nat.zero_le _, by show n < 0 + 201; omega, Nat.le_refl _, rfl, ⟨f2, f3, ⟨rfl, fun j hj => absurd hj (Nat.not_lt_zero j)⟩, rfl, rfl, rfl, fun j hj => absurd hj (Nat.not_lt_zero j)⟩, VD.d0⟩ (by show n - 0 < N; omega)
  · exact key
  rintro g ⟨m, x, s, D, U⟩ ⟨h1, h2, h3, h4, h5, h6⟩ ih
  dsimp only at h1 h2 h3 h4 h5 h6 ih ⊢
  unfold fX9_readFrom_b39
  rw [hX.1, h4]
  cases m with
  | zero => omega
  | succ m =>
    rw [pA]
    by_cases c : n ≤ s
    · rw [if_pos c, if_pos (nI_le c (by omega))]
      by_cases c2 : (200 : Int32) ≤ nI x
      · rw [if_pos c2]; exact ⟨U, rfl, fun _ => h5⟩
      · rw [if_neg c2]; exact ⟨U, rfl, fun _ => h5⟩
    · rw [if_neg c, if_neg (show ¬ (200 : Int32) ≤ nI x from nI_ge (b := 200) (by omega) (by omega)), if_neg (nI_ge (by omega) (by omega))]
      rcases item_X (N := N) (by omega) hT hX (by omega) h4 h5 h6 with ⟨q, b, T1, s1, o, e1, e2, e3⟩ | ⟨s1, D', T1, q, o, e1, e2, e3⟩
      · rw [q, o]
        simp only [Option.bind_some]
        rcases e3 with e3 | ⟨e3, e4⟩
        · rw [if_pos e3]
          exact ⟨T1, rfl, fun h => by cases h⟩
        · have hl := hT.le s1
          rw [if_neg (by rw [e3]; decide), e1, let_X hT hX (by omega)]
          simp only [Option.bind_some]
          rw [if_neg (show ¬ nI (lt s1) = (59 : Int32) from nc_n (d := 59) hl (by omega) e4)]
          exact ⟨T1, rfl, fun h => by cases h⟩
      · have hin := hT.in e2
        obtain ⟨o1, o2, o3⟩ := pI_ok h6 q
        rw [q, o]
        simp only [Option.bind_some]
        rw [if_neg i10, e1, let_X hT hX (by omega)]
        simp only [Option.bind_some]
        rw [if_pos (show nI (lt s1) = (59 : Int32) from nc_p e2), show nI s1 + (1 : Int32) = nI (s1 + 1) from nI_1 s1, show nI x + (1 : Int32) = nI (x + 1) from nI_1 x]
        exact ih (m, x + 1, s1 + 1, D', stf T1 3 (nI (s1 + 1))) ⟨by show s1 + 1 ≤ n; omega, by show n < s1 + 1 + m; omega, by show x + 1 ≤ s1 + 1; omega, rfl, e3.fr (fun i hi => by show (if i = 3 then _ else T1 i) = T1 i; rw [if_neg hi]), o3⟩ (by show n - (s1 + 1) < n - s; omega)

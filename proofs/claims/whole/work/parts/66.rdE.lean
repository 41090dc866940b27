/-! ===== the reference's reader: coin, sum, item, all ===== -/
def OM (M : St) (q : Option (Nat × DT)) (o : Option (Int32 × St)) : Prop := (q = none ∧ ∃ U, o = some (0, U) ∧ FM M U) ∨ (∃ s1 D' U, q = some (s1, D') ∧ o = some (1, U) ∧ U 17 0 = nI (s1 + 1) ∧ RM U D' ∧ FM M U)
theorem OM.wrap {M : St} {q : Option (Nat × DT)} {o : Option (Int32 × St)} (h : OM M q o) : OM M q (Option.bind o (fun q3 => if q3.1 = 0 ∨ q3.1 = 1 then (some (q3.1, q3.2)) else none)) := by
  rcases h with ⟨h1, U, rfl, h2⟩ | ⟨s1, D', U, h1, rfl, h2⟩
  · refine Or.inl ⟨h1, U, ?_, h2⟩
    show (if (0 : Int32) = 0 ∨ (0 : Int32) = 1 then some ((0 : Int32), U) else none) = _
    rw [if_pos (Or.inl rfl)]
  · refine Or.inr ⟨s1, D', U, h1, ?_, h2⟩
    show (if (1 : Int32) = 0 ∨ (1 : Int32) = 1 then some ((1 : Int32), U) else none) = _
    rw [if_pos (Or.inr rfl)]
theorem OM.from {M V : St} {q : Option (Nat × DT)} {o : Option (Int32 × St)} (h : OM V q o) (hf : FM M V) : OM M q o := by
  rcases h with ⟨h1, U, h2, h3⟩ | ⟨s1, D', U, h1, h2, h3, h4, h5⟩
  · exact Or.inl ⟨h1, U, h2, hf.trans h3⟩
  · exact Or.inr ⟨s1, D', U, h1, h2, h3, h4, hf.trans h5⟩
theorem cj80_0 {N : Nat} {U : St} : fX11_coinItem_j80 N 0 U = some (0, U) := by
  unfold fX11_coinItem_j80
  rw [if_pos rfl, if_pos (Or.inl rfl)]
theorem cj32_M {N : Nat} {U : St} (hN : 10 ≤ N) : fX11_coinItem_j32 N U = some (0, U) := by
  obtain ⟨K, hK⟩ : ∃ K, N = K + 1 := ⟨N - 1, by omega⟩
  unfold fX11_coinItem_j32 fX11_coinItem_j33
  have h1 : fX11_coinItem_l36 N N (0, 0, U) = fX11_coinItem_l36 N (K + 1) (0, 0, U) := by rw [← hK]
  rw [h1, show fX11_coinItem_l36 N (K + 1) (0, 0, U) = fX11_coinItem_b36 N (fX11_coinItem_l36 N K) 0 0 U from rfl]
  unfold fX11_coinItem_b36
  rw [if_pos (show (0 : Int32) = 0 from rfl), cj80_0]
  split <;> rfl
theorem has_M {N w : Nat} {U : St} {C : List Nat} (hN : 10 ≤ N) (hC : C.length ≤ 6) (e4 : U 4 1 = nI C.length) (e3 : ∀ j, j < C.length → U 3 (6 + j) = nI (C.getD j 0)) (h9 : ∀ j, j < C.length → C.getD j 0 ≤ 99) (hw : w ≤ 99) (e18 : U 18 0 = nI w) : fX11_coinItem_j33 N 1 U = fX11_coinItem_j80 N (nI (bN (!hcN C w C.length 0))) U := by
  unfold fX11_coinItem_j33 fX11_coinItem_l36
  have key := lpN_ix (body := fun g q => fX11_coinItem_b36 N g q.1 q.2.1 q.2.2) (enc := fun i : Bool × Nat × Nat => (nI (bN i.1), nI i.2.2, U)) (I := fun i => i.2.2 + i.2.1 = C.length) (μ := fun i => i.2.1) (f := fun i => fX11_coinItem_j80 N (nI (bN (i.1 && !hcN C w i.2.1 i.2.2))) U) ?_ N (true, C.length, 0) (by show 0 + C.length = C.length; omega) (by show C.length < N; omega)
  · exact key
  rintro g ⟨b, m, j⟩ hm ih
  dsimp only at hm ih ⊢
  unfold fX11_coinItem_b36
  rw [e4]
  cases m with
  | zero =>
    rw [if_pos (nI_le (by omega) (by omega)), hcN]
    cases b <;> rfl
  | succ m =>
    rw [if_neg (nI_ge (by omega) (by omega))]
    cases b with
    | false => rw [if_pos (show nI (bN false) = (0 : Int32) by rfl)]; rfl
    | true =>
      have bb := h9 j (by omega)
      rw [if_neg (show ¬ nI (bN true) = (0 : Int32) by decide), show (6 : Int32) + nI j = nI (6 + j) from nI_add 6 j, if_pos (in_nI (by omega) (by omega)), nI_clamp (by omega), e3 j (by omega), e18, hcN]
      unfold fX11_coinItem_j73
      rw [show nI j + (1 : Int32) = nI (j + 1) from nI_1 j]
      by_cases c : C.getD j 0 = w
      · rw [if_pos (nc_p c), show (C.getD j 0 == w) = true from beq_iff_eq.mpr c, Bool.true_or]
        exact ih (false, m, j + 1) (by show j + 1 + m = C.length; omega) (by show m < m + 1; omega)
      · rw [if_neg (nc_n (by omega) (by omega) c), show (C.getD j 0 == w) = false from beq_eq_false_iff_ne.mpr c, Bool.false_or]
        exact ih (true, m, j + 1) (by show j + 1 + m = C.length; omega) (by show m < m + 1; omega)
theorem coin_M {N n s : Nat} {lt : Nat → Nat} {M : St} {D : DT} (hN : 10 ≤ N) (hT : TL n lt) (hX : TX n lt M) (hs : s ≤ 300) (e : M 17 0 = nI s) (hR : RM M D) (hV : VD D) : OM M (pC lt s D) (fX11_coinItem N M) := by
  obtain ⟨U, fr, h⟩ := fig1_M (N := N) hN hT hX hs e
  have hvv := vv_le lt s
  have hRU := hR.g fr
  have h6 := hV.2.2.1.1
  unfold fX11_coinItem pC
  rcases h with ⟨a1, a2, a3, a4, a5⟩ | ⟨a1, a2⟩
  · rw [a3]
    simp only [Option.bind_some]
    rw [if_neg i10, a5, hRU.2.1.1]
    by_cases c1 : 1 ≤ vvN lt s
    · rw [if_neg (nI_nle (by omega) (by omega))]
      by_cases c2 : D.2.2.1.length < 6
      · rw [if_neg (show ¬ (6 : Int32) ≤ nI D.2.2.1.length from nI_ge (b := 6) c2 (by omega)), has_M hN h6 hRU.2.1.1 hRU.2.1.2 (fun j hj => (hV.2.2.1.2 j hj).2) hvv a5]
        cases c3 : hcN D.2.2.1 (vvN lt s) D.2.2.1.length 0 with
        | true =>
          rw [show nI (bN !true) = (0 : Int32) by rfl, cj80_0, if_neg (fun q => absurd q.2.2.2.1 (by decide))]
          exact Or.inl ⟨rfl, U, rfl, FM.g fr⟩
        | false =>
          rw [show nI (bN !false) = (1 : Int32) by rfl]
          unfold fX11_coinItem_j80
          have f4 : (sti U 3 (6 + D.2.2.1.length) (nI (vvN lt s))) 4 1 = nI D.2.2.1.length := hRU.2.1.1
          rw [if_neg i10, hRU.2.1.1, show (6 : Int32) + nI D.2.2.1.length = nI (6 + D.2.2.1.length) from nI_add 6 _, if_pos (in_nI (by omega) (by omega)), if_pos (Or.inr rfl), nI_clamp (by omega), a5, f4, show nI D.2.2.1.length + (1 : Int32) = nI (D.2.2.1.length + 1) from nI_1 _, if_pos ⟨a1, c1, c2, by trivial, a2⟩]
          refine Or.inr ⟨_, _, _, rfl, rfl, a4, ⟨hRU.1, ⟨?_, fun j hj => ?_⟩, hRU.2.2⟩, ((FM.g fr).sti (by unfold Dr; omega)).sti (by unfold Dr; omega)⟩
          · show upd (U 4) 1 (nI (D.2.2.1.length + 1)) 1 = nI (D.2.2.1 ++ [vvN lt s]).length
            rw [ln_s, upd_s]
          · have hj' : j < (D.2.2.1 ++ [vvN lt s]).length := hj
            rw [ln_s] at hj'
            show upd (U 3) (6 + D.2.2.1.length) (nI (vvN lt s)) (6 + j) = nI ((D.2.2.1 ++ [vvN lt s]).getD j 0)
            by_cases q : j = D.2.2.1.length
            · rw [q, upd_s, gd_e]
            · rw [upd_n _ _ (by omega), gd_l _ _ _ (by omega), hRU.2.1.2 j (by omega)]
      · rw [if_pos (show (6 : Int32) ≤ nI D.2.2.1.length from nI_le (a := 6) (by omega) (by omega)), cj32_M hN, if_neg (fun q => c2 q.2.2.1)]
        exact Or.inl ⟨rfl, U, rfl, FM.g fr⟩
    · rw [if_pos (show nI (vvN lt s) ≤ (0 : Int32) by rw [show vvN lt s = 0 by omega]; decide), cj32_M hN, if_neg (fun q => c1 q.2.1)]
      exact Or.inl ⟨rfl, U, rfl, FM.g fr⟩
  · rw [a2]
    simp only [Option.bind_some]
    rw [if_pos trivial, cj32_M hN, if_neg (fun q => a1 ⟨q.1, q.2.2.2.2⟩)]
    exact Or.inl ⟨rfl, U, rfl, FM.g fr⟩
def FS (M U : St) : Prop := (∀ a, a ≠ 7 → a ≠ 8 → a ≠ 17 → U a = M a) ∧ (∀ x, x < 20 → U 7 x = M 7 x) ∧ U 8 0 = M 8 0
theorem FS.fm {M U : St} (h : FS M U) : FM M U := by
  intro i x hn
  unfold Dr at hn
  by_cases e7 : i = 7
  · subst e7; exact h.2.1 x (by omega)
  · by_cases e8 : i = 8
    · subst e8
      have : x = 0 := by omega
      subst this
      exact h.2.2
    · rw [h.1 i e7 e8 (by omega)]
def OZ (M : St) (q : Option (Nat × List Nat)) (o : Option (Int32 × St)) : Prop := (q = none ∧ ∃ U, o = some (0, U) ∧ FS M U) ∨ (∃ s1 L' U, q = some (s1, L') ∧ o = some (1, U) ∧ U 17 0 = nI (s1 + 1) ∧ U 8 1 = nI L'.length ∧ (∀ j, j < L'.length → U 7 (20 + j) = nI (L'.getD j 0)) ∧ FS M U)
theorem fs_140 {M U : St} (h : FS M U) (v w : Int32) : FS M (sti (stf U 17 v) 8 1 w) := by
  refine ⟨fun a h7 h8 h17 => ?_, h.2.1, ?_⟩
  · show (if a = 8 then _ else if a = 17 then _ else U a) = M a
    rw [if_neg h8, if_neg h17]; exact h.1 a h7 h8 h17
  · show upd (U 8) 1 w 0 = M 8 0
    rw [upd_n _ _ (by omega)]; exact h.2.2
/-- what a sum's letters bear while they are read -/
def SI (M U : St) (L : List Nat) (r s : Nat) : Prop := s ≤ 300 + L.length ∧ r ≤ 4 ∧ U 17 0 = nI s ∧ (∀ j, j < L.length → U 7 (20 + j) = nI (L.getD j 0) ∧ L.getD j 0 ≤ 126) ∧ ((r = 0 ∧ (L.length = 0 ∨ sg (L.getD (L.length - 1) 0) = true)) ∨ (0 < r ∧ 0 < L.length ∧ sg (L.getD (L.length - 1) 0) = false)) ∧ FS M U
theorem SI.put {M U : St} {L : List Nat} {r s r' c : Nat} (h : SI M U L r s) (hL : L.length < 20) (hc : c ≤ 126) (hr : r' ≤ 4) (hl : (r' = 0 ∧ sg c = true) ∨ (0 < r' ∧ sg c = false)) : SI M (stf (sti U 7 (20 + L.length) (nI c)) 17 (nI (s + 1))) (L ++ [c]) r' (s + 1) := by
  obtain ⟨h1, h2, h3, h4, h5, h6⟩ := h
  refine ⟨by rw [ln_s]; omega, hr, rfl, fun j hj => ?_, ?_, fun a a7 a8 a17 => ?_, fun x hx => ?_, h6.2.2⟩
  · rw [ln_s] at hj
    show upd (U 7) (20 + L.length) (nI c) (20 + j) = nI ((L ++ [c]).getD j 0) ∧ (L ++ [c]).getD j 0 ≤ 126
    by_cases q : j = L.length
    · rw [q, upd_s, gd_e]; exact ⟨rfl, hc⟩
    · rw [upd_n _ _ (by omega), gd_l _ _ _ (by omega)]; exact h4 j (by omega)
  · rw [ln_s, Nat.add_sub_cancel, gd_e]
    rcases hl with ⟨q1, q2⟩ | ⟨q1, q2⟩
    · exact Or.inl ⟨q1, Or.inr q2⟩
    · exact Or.inr ⟨q1, by omega, q2⟩
  · show (if a = 17 then _ else if a = 7 then _ else U a) = M a
    rw [if_neg a17, if_neg a7]; exact h6.1 a a7 a8 a17
  · show upd (U 7) (20 + L.length) (nI c) x = M 7 x
    rw [upd_n _ _ (by omega)]; exact h6.2.1 x hx
theorem sum_M {N n s : Nat} {lt : Nat → Nat} {M : St} (hN : 100 ≤ N) (hT : TL n lt) (hX : TX n lt M) (hs : s ≤ 300) (e : M 17 0 = nI s) : OZ M (pS lt 20 s 0 []) (fX11_sumItem N M) := by
  unfold fX11_sumItem fX11_sumItem_l6
  have key := lpN_h (body := fun g q => fX11_sumItem_b6 N g q.1 q.2.1 q.2.2.1 q.2.2.2) (enc := fun i : Bool × Nat × List Nat × Nat × St × Nat => (nI i.2.2.1.length, nI i.2.2.2.1, nI (bN i.1), i.2.2.2.2.1)) (I := fun i => (i.1 = true → i.2.2.1.length + i.2.1 = 20 ∧ SI M i.2.2.2.2.1 i.2.2.1 i.2.2.2.1 i.2.2.2.2.2) ∧ FS M i.2.2.2.2.1) (μ := fun i => if i.1 = true then i.2.1 + 1 else 0) (P := fun i o => (i.1 = true → OZ M (pS lt i.2.1 i.2.2.2.2.2 i.2.2.2.1 i.2.2.1) o) ∧ (i.1 = false → ∃ U, o = some (0, U) ∧ FS M U)) ?_ N (true, 20, [], 0, M, s) ⟨fun _ => ⟨rfl, by show s ≤ 300 + 0; omega, Nat.zero_le _, e, fun j hj => absurd hj (Nat.not_lt_zero j), Or.inl ⟨rfl, Or.inl rfl⟩, fun _ _ _ _ => rfl, fun _ _ => rfl, rfl⟩, fun _ _ _ _ => rfl, fun _ _ => rfl, rfl⟩ (by show 20 + 1 < N; omega)
  · exact key.1 rfl
  rintro g ⟨b, m, L, r, U, s⟩ ⟨hb, hF⟩ ih
  dsimp only at hb hF ih ⊢
  unfold fX11_sumItem_b6
  cases b with
  | false =>
    refine ⟨fun q => (by cases q), fun _ => ?_⟩
    rw [if_pos (show nI (bN false) = (0 : Int32) by rfl)]
    unfold fX11_sumItem_j140
    rw [if_pos (show nI (bN false) = (0 : Int32) by rfl)]
    exact ⟨_, rfl, fs_140 hF _ _⟩
  | true =>
    refine ⟨fun _ => ?_, fun q => (by cases q)⟩
    obtain ⟨hm, hI⟩ := hb rfl
    obtain ⟨h1, h2, h3, h4, h5, h6⟩ := id hI
    have hl := hT.le s
    have hXU : TX n lt U := hF.fm.tx hX
    rw [if_neg (show ¬ nI (bN true) = (0 : Int32) by decide), h3, let_M hT hXU (by omega)]
    simp only [Option.bind_some]
    by_cases c59 : lt s = 59
    · rw [if_pos (show nI (lt s) = (59 : Int32) from nc_p c59)]
      have hp : pS lt m s r L = if lt s = 59 ∧ 0 < r then some (s, L) else none := by
        cases m with
        | zero => rw [pS]
        | succ m => rw [pS, if_neg (by rw [c59]; decide), if_neg (fun q => absurd q.1 (by rw [c59]; decide))]
      rw [hp]
      unfold fX11_sumItem_j140
      rw [if_neg (show ¬ nI (bN true) = (0 : Int32) by decide), h3, show nI s + (1 : Int32) = nI (s + 1) from nI_1 s]
      by_cases c0 : L.length = 0
      · rw [if_pos (show nI L.length ≤ (0 : Int32) by rw [c0]; decide), if_neg (by omega)]
        exact Or.inl ⟨rfl, _, rfl, fs_140 hF _ _⟩
      · rw [if_neg (nI_nle (by omega) (by omega))]
        by_cases c1 : r = 0
        · rw [if_pos (show nI r ≤ (0 : Int32) by rw [c1]; decide), if_neg (by omega)]
          exact Or.inl ⟨rfl, _, rfl, fs_140 hF _ _⟩
        · rw [if_neg (nI_nle (by omega) (by omega)), if_pos ⟨c59, by omega⟩]
          exact Or.inr ⟨s, L, _, rfl, rfl, rfl, upd_s (U 8) 1 (nI L.length), fun j hj => (h4 j hj).1, fs_140 hF _ _⟩
    · rw [if_neg (show ¬ nI (lt s) = (59 : Int32) from nc_n (d := 59) hl (by omega) c59), dig_M (by omega)]
      simp only [Option.bind_some]
      have bad : ∀ r' : Nat, ∃ V, fX11_sumItem_j107 N g (nI L.length) (nI r') (nI (lt s)) U = some (0, V) ∧ FS M V := by
        intro r'
        unfold fX11_sumItem_j107 fX11_sumItem_j108 fX11_sumItem_j137
        rw [if_pos rfl]
        exact (ih (false, m, L, r', U, s) ⟨fun q => (by cases q), hF⟩ (by show 0 < m + 1; omega)).2 rfl
      have good : ∀ (m' r' : Nat), m = m' + 1 → r' ≤ 4 → ((r' = 0 ∧ sg (lt s) = true) ∨ (0 < r' ∧ sg (lt s) = false)) → OZ M (pS lt m' (s + 1) r' (L ++ [lt s])) (fX11_sumItem_j103 N g (nI L.length) (nI r') (nI (lt s)) U) := by
        intro m' r' em hr' hl'
        unfold fX11_sumItem_j103 fX11_sumItem_j108 fX11_sumItem_j137
        have f17 : (sti U 7 (20 + L.length) (nI (lt s))) 17 0 = nI s := h3
        rw [if_neg i10, show (20 : Int32) + nI L.length = nI (20 + L.length) from nI_add 20 _, if_pos (in_nI (by omega) (by omega)), nI_clamp (by omega), f17, show nI s + (1 : Int32) = nI (s + 1) from nI_1 s, show nI L.length + (1 : Int32) = nI (L ++ [lt s]).length from by rw [ln_s]; exact nI_1 _]
        have hput := hI.put (by omega) hl hr' hl'
        exact (ih (true, m', L ++ [lt s], r', _, s + 1) ⟨fun _ => ⟨by show (L ++ [lt s]).length + m' = 20; rw [ln_s]; omega, hput⟩, hput.2.2.2.2.2⟩ (by show m' + 1 < m + 1; omega)).1 rfl
      have no : ∀ r' : Nat, pS lt m s r L = none → OZ M (pS lt m s r L) (fX11_sumItem_j107 N g (nI L.length) (nI r') (nI (lt s)) U) := fun r' q => Or.inl ⟨q, bad r'⟩
      unfold fX11_sumItem_j59
      cases m with
      | zero =>
        have hp : pS lt 0 s r L = none := by rw [pS, if_neg (fun q => c59 q.1)]
        have h20 : (20 : Int32) ≤ nI L.length := nI_le (a := 20) (by omega) (by omega)
        rw [if_pos h20, if_pos h20, show nI r + (1 : Int32) = nI (r + 1) from nI_1 r]
        split
        · exact no 0 hp
        · exact no (r + 1) hp
      | succ m =>
        have h20 : ¬ (20 : Int32) ≤ nI L.length := nI_ge (b := 20) (by omega) (by omega)
        rw [if_neg h20, if_neg h20]
        cases d0 : dg (lt s) with
        | true =>
          have a0 := dg_t.mp d0
          rw [if_neg (show ¬ nI (bN true) = (0 : Int32) by decide), if_neg (show ¬ nI (bN true) = (0 : Int32) by decide), show nI r + (1 : Int32) = nI (r + 1) from nI_1 r]
          by_cases c : r < 4
          · rw [if_neg (show ¬ (4 : Int32) < nI (r + 1) from nI_nlt (a := 4) (by omega) (by omega)), pS, if_pos d0, if_pos c]
            exact good m (r + 1) rfl (by omega) (Or.inr ⟨by omega, sg_f a0.1⟩)
          · rw [if_pos (show (4 : Int32) < nI (r + 1) from nI_lt (a := 4) (by omega) (by omega))]
            exact no (r + 1) (by rw [pS, if_pos d0, if_neg c])
        | false =>
          have hnd : ¬ dg (lt s) = true := by rw [d0]; decide
          rw [if_pos (show nI (bN false) = (0 : Int32) by rfl), if_neg (show ¬ (4 : Int32) < 0 by decide), if_pos (show nI (bN false) = (0 : Int32) by rfl), sign_M (by omega)]
          simp only [Option.bind_some]
          cases d1 : sg (lt s) with
          | false =>
            rw [if_pos (show nI (bN false) = (0 : Int32) by rfl)]
            exact no 0 (by rw [pS, if_neg hnd, if_neg (fun q => absurd q.1 (by rw [d1]; decide)), if_neg (fun q => c59 q.1)])
          | true =>
            rw [if_neg (show ¬ nI (bN true) = (0 : Int32) by decide)]
            by_cases c0 : L.length = 0
            · rw [if_pos (show nI L.length ≤ (0 : Int32) by rw [c0]; decide)]
              exact no 0 (by rw [pS, if_neg hnd, if_neg (fun q => absurd q.2 (by omega)), if_neg (fun q => c59 q.1)])
            · obtain ⟨p1, p2⟩ := h4 (L.length - 1) (by omega)
              rw [if_neg (nI_nle (by omega) (by omega)), show (19 : Int32) + nI L.length = nI (20 + (L.length - 1)) from (nI_add 19 _).trans (by rw [show 19 + L.length = 20 + (L.length - 1) by omega]), if_pos (in_nI (by omega) (by omega)), nI_clamp (by omega), p1, sign_M (by omega)]
              simp only [Option.bind_some]
              rcases h5 with ⟨q1, q2⟩ | ⟨q1, q2, q3⟩
              · have q3 : sg (L.getD (L.length - 1) 0) = true := q2.elim (fun z => absurd z c0) id
                rw [q3, if_neg (show ¬ nI (bN true) = (0 : Int32) by decide)]
                exact no 0 (by rw [pS, if_neg hnd, if_neg (fun q => absurd q.2 (by omega)), if_neg (fun q => c59 q.1)])
              · rw [q3, if_pos (show nI (bN false) = (0 : Int32) by rfl), pS, if_neg hnd, if_pos ⟨d1, q1⟩]
                exact good m 0 rfl (by omega) (Or.inl ⟨rfl, d1⟩)
theorem OZ.om {lt : Nat → Nat} {M : St} {D : DT} {s : Nat} {o : Option (Int32 × St)} (hR : RM M D) (h : OZ M (pS lt 20 s 0 []) o) : OM M (pE lt s D) o := by
  rcases h with ⟨h1, U, h2, h3⟩ | ⟨s1, L', U, h1, h2, h3, h4, h5, h6⟩
  · refine Or.inl ⟨?_, U, h2, h3.fm⟩
    unfold pE
    rw [h1]
  · refine Or.inr ⟨s1, (D.1, D.2.1, D.2.2.1, D.2.2.2.1, D.2.2.2.2.1, L'), U, ?_, h2, h3, ?_, h6.fm⟩
    · unfold pE
      rw [h1]
    · unfold RM at hR ⊢
      rw [h6.1 2 (by omega) (by omega) (by omega), h6.1 3 (by omega) (by omega) (by omega), h6.1 4 (by omega) (by omega) (by omega), h6.1 5 (by omega) (by omega) (by omega), h6.1 6 (by omega) (by omega) (by omega)]
      exact ⟨hR.1, hR.2.1, hR.2.2.1, hR.2.2.2.1, h4, h5⟩

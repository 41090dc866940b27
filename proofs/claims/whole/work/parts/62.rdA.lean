/-! ===== the text: letters, the pure reader ===== -/
def dg (c : Nat) : Bool := decide (48 ≤ c) && decide (c ≤ 57)
theorem dg_t {c : Nat} : dg c = true ↔ 48 ≤ c ∧ c ≤ 57 := by
  unfold dg
  rw [Bool.and_eq_true, decide_eq_true_iff, decide_eq_true_iff]
def TL (n : Nat) (lt : Nat → Nat) : Prop := n ≤ 200 ∧ (∀ j, j < n → 32 ≤ lt j ∧ lt j ≤ 126) ∧ ∀ j, n ≤ j → lt j = 0
def TX (n : Nat) (lt : Nat → Nat) (X : St) : Prop := X 0 0 = nI n ∧ ∀ j, j < n → X 1 j = nI (lt j)
theorem TL.le {n : Nat} {lt : Nat → Nat} (h : TL n lt) (j : Nat) : lt j ≤ 126 := by
  rcases Nat.lt_or_ge j n with q | q
  · exact (h.2.1 j q).2
  · rw [h.2.2 j q]; omega
theorem TL.in {n : Nat} {lt : Nat → Nat} (h : TL n lt) {j : Nat} (hj : lt j = 59) : j < n := by
  rcases Nat.lt_or_ge j n with q | q
  · exact q
  · rw [h.2.2 j q] at hj; omega
theorem let_X {N n s : Nat} {lt : Nat → Nat} {X : St} (hT : TL n lt) (hX : TX n lt X) (hs : s ≤ 400) : fX7_letterAt N X (nI s) = some (nI (lt s)) := by
  have hn := hT.1
  unfold fX7_letterAt
  rw [hX.1, if_neg (show ¬ nI s < (0 : Int32) from fun q => in_nI (n := s) (N := 401) (by omega) (by decide) (Or.inl q))]
  by_cases h : s < n
  · rw [if_neg (nI_ge h (by omega)), if_pos (in_nI (by omega) (by omega)), nI_clamp (by omega), hX.2 s h]
  · rw [if_pos (nI_le (by omega) (by omega)), hT.2.2 s (by omega)]
    rfl
theorem let_M {N n s : Nat} {lt : Nat → Nat} {M : St} (hT : TL n lt) (hX : TX n lt M) (hs : s ≤ 400) : fX11_letterAt N M (nI s) = some (nI (lt s)) := by
  have hn := hT.1
  unfold fX11_letterAt
  rw [hX.1]
  by_cases h : s < n
  · rw [if_neg (nI_ge h (by omega)), if_pos (in_nI (by omega) (by omega)), nI_clamp (by omega), hX.2 s h]
  · rw [if_pos (nI_le (by omega) (by omega)), hT.2.2 s (by omega)]
    rfl
theorem dgX_ok : ∀ c, c < 128 → fX9_isDigit 0 (nI c) = some (nI (bN (dg c))) := by decide +kernel
theorem dgM_ok : ∀ c, c < 128 → fX11_in 0 (nI c).toInt64 48 57 = some (nI (bN (dg c))) := by decide +kernel
theorem dig_Xt {N c : Nat} (h : c < 128) : fX9_isDigit N (nI c) = some (nI (bN (dg c))) := dgX_ok c h
theorem dig_M {N c : Nat} (h : c < 128) : fX11_in N (nI c).toInt64 48 57 = some (nI (bN (dg c))) := dgM_ok c h
/-- how many figures of a number are read, two at most, and the number -/
def ndN (lt : Nat → Nat) (s : Nat) : Nat := if dg (lt s) = true then (if dg (lt (s + 1)) = true then 2 else 1) else 0
def vvN (lt : Nat → Nat) (s : Nat) : Nat := if dg (lt s) = true then (if dg (lt (s + 1)) = true then 10 * (lt s - 48) + (lt (s + 1) - 48) else lt s - 48) else 0
theorem nd_le (lt : Nat → Nat) (s : Nat) : ndN lt s ≤ 2 := by unfold ndN; (repeat' split) <;> omega
theorem vv_le (lt : Nat → Nat) (s : Nat) : vvN lt s ≤ 99 := by
  unfold vvN
  by_cases h0 : dg (lt s) = true
  · have a0 := dg_t.mp h0
    rw [if_pos h0]
    by_cases h1 : dg (lt (s + 1)) = true
    · have a1 := dg_t.mp h1
      rw [if_pos h1]; omega
    · rw [if_neg h1]; omega
  · rw [if_neg h0]; omega
def hcN (C : List Nat) (w : Nat) : Nat → Nat → Bool
  | 0, _ => false
  | m + 1, j => (C.getD j 0 == w) || hcN C w m (j + 1)
def pS (lt : Nat → Nat) : Nat → Nat → Nat → List Nat → Option (Nat × List Nat)
  | 0, s, r, L => if lt s = 59 ∧ 0 < r then some (s, L) else none
  | m + 1, s, r, L => if dg (lt s) = true then (if r < 4 then pS lt m (s + 1) (r + 1) (L ++ [lt s]) else none) else if sg (lt s) = true ∧ 0 < r then pS lt m (s + 1) 0 (L ++ [lt s]) else if lt s = 59 ∧ 0 < r then some (s, L) else none
/-- a text's tale: mask, who stands in, coins, sides, days, the sum -/
abbrev DT : Type := Nat × (Nat → Nat) × List Nat × Nat × Nat × List Nat
def pC (lt : Nat → Nat) (s : Nat) (D : DT) : Option (Nat × DT) := if 1 ≤ ndN lt s ∧ 1 ≤ vvN lt s ∧ D.2.2.1.length < 6 ∧ hcN D.2.2.1 (vvN lt s) D.2.2.1.length 0 = false ∧ lt (s + ndN lt s) = 59 then some (s + ndN lt s, (D.1, D.2.1, D.2.2.1 ++ [vvN lt s], D.2.2.2)) else none
def pD (lt : Nat → Nat) (s : Nat) (D : DT) : Option (Nat × DT) := if 1 ≤ ndN lt s ∧ (2 ≤ vvN lt s ∧ vvN lt s ≤ 9) ∧ lt (s + ndN lt s) = 59 then some (s + ndN lt s, (D.1, D.2.1, D.2.2.1, vvN lt s, D.2.2.2.2)) else none
def pW (lt : Nat → Nat) (s : Nat) (D : DT) : Option (Nat × DT) := if 1 ≤ ndN lt s ∧ (1 ≤ vvN lt s ∧ vvN lt s ≤ 9) ∧ lt (s + ndN lt s) = 59 then some (s + ndN lt s, (D.1, D.2.1, D.2.2.1, D.2.2.2.1, vvN lt s, D.2.2.2.2.2)) else none
def pX (lt : Nat → Nat) (s : Nat) (D : DT) : Option (Nat × DT) := if 1 ≤ ndN lt s ∧ vvN lt s ≤ 9 ∧ lt (s + ndN lt s) = 59 then some (s + ndN lt s, (D.1 ||| 2 ^ vvN lt s, D.2)) else none
def pF (lt : Nat → Nat) (s : Nat) (D : DT) : Option (Nat × DT) := if (1 ≤ ndN lt s ∧ vvN lt s ≤ 9 ∧ lt (s + ndN lt s) = 44) ∧ (1 ≤ ndN lt (s + ndN lt s + 1) ∧ vvN lt (s + ndN lt s + 1) ≤ 9 ∧ lt (s + ndN lt s + 1 + ndN lt (s + ndN lt s + 1)) = 59) then some (s + ndN lt s + 1 + ndN lt (s + ndN lt s + 1), (D.1, (fun f => if f = vvN lt s then vvN lt (s + ndN lt s + 1) else D.2.1 f), D.2.2)) else none
def pE (lt : Nat → Nat) (s : Nat) (D : DT) : Option (Nat × DT) := match pS lt 20 s 0 [] with
  | none => none
  | some q => some (q.1, (D.1, D.2.1, D.2.2.1, D.2.2.2.1, D.2.2.2.2.1, q.2))
def pI (lt : Nat → Nat) (s : Nat) (D : DT) : Option (Nat × DT) := if lt s = 99 then pC lt (s + 1) D else if lt s = 100 then pD lt (s + 1) D else if lt s = 101 then pE lt (s + 1) D else if lt s = 102 then pF lt (s + 1) D else if lt s = 119 then pW lt (s + 1) D else if lt s = 120 then pX lt (s + 1) D else none
def pA (lt : Nat → Nat) (n : Nat) : Nat → Nat → DT → Option Nat × DT
  | 0, _, D => (none, D)
  | m + 1, s, D => if n ≤ s then (none, D) else match pI lt s D with
    | none => (some s, D)
    | some q => pA lt n m (q.1 + 1) q.2
def fvN : Option Nat → Int32
  | none => -4
  | some s => nI s
def VD (D : DT) : Prop := D.1 < 1024 ∧ (∀ f, f < 10 → D.2.1 f < 10) ∧ (D.2.2.1.length ≤ 6 ∧ ∀ j, j < D.2.2.1.length → 1 ≤ D.2.2.1.getD j 0 ∧ D.2.2.1.getD j 0 ≤ 99) ∧ (2 ≤ D.2.2.2.1 ∧ D.2.2.2.1 ≤ 9) ∧ (1 ≤ D.2.2.2.2.1 ∧ D.2.2.2.2.1 ≤ 9) ∧ (D.2.2.2.2.2.length ≤ 20 ∧ (D.2.2.2.2.2 = [] ∨ ∃ r, 0 < r ∧ sumR D.2.2.2.2.2 0 = some r))
theorem gd_l : ∀ (L : List Nat) (c j : Nat), j < L.length → (L ++ [c]).getD j 0 = L.getD j 0
  | [], _, j, h => absurd h (Nat.not_lt_zero j)
  | _ :: _, _, 0, _ => rfl
  | _ :: l, c, j + 1, h => gd_l l c j (Nat.lt_of_succ_lt_succ h)
theorem gd_e : ∀ (L : List Nat) (c : Nat), (L ++ [c]).getD L.length 0 = c
  | [], _ => rfl
  | _ :: l, c => gd_e l c
theorem ln_s (L : List Nat) (c : Nat) : (L ++ [c]).length = L.length + 1 := List.length_append
theorem sR_snoc : ∀ (L : List Nat) (r q c : Nat), sumR L r = some q → sumR (L ++ [c]) r = sumR [c] q
  | [], r, q, c, h => by
    have : r = q := Option.some.inj h
    rw [this]; rfl
  | a :: l, r, q, c, h => by
    show sumR (a :: (l ++ [c])) r = sumR [c] q
    rw [sumR] at h ⊢
    by_cases c1 : 48 ≤ a ∧ a ≤ 57
    · rw [if_pos c1] at h ⊢
      by_cases c2 : r < 4
      · rw [if_pos c2] at h ⊢; exact sR_snoc l _ q c h
      · rw [if_neg c2] at h; cases h
    · rw [if_neg c1] at h ⊢
      by_cases c2 : (a = 43 ∨ a = 45 ∨ a = 42) ∧ 0 < r
      · rw [if_pos c2] at h ⊢; exact sR_snoc l _ q c h
      · rw [if_neg c2] at h; cases h
theorem sR_dig {L : List Nat} {r c : Nat} (h : sumR L 0 = some r) (hc : 48 ≤ c ∧ c ≤ 57) (hr : r < 4) : sumR (L ++ [c]) 0 = some (r + 1) := by
  rw [sR_snoc L 0 r c h, sumR, if_pos hc, if_pos hr, sumR]
theorem sg_c {c : Nat} (h : sg c = true) : c = 43 ∨ c = 45 ∨ c = 42 := by
  unfold sg at h
  rw [Bool.or_eq_true, Bool.or_eq_true, beq_iff_eq, beq_iff_eq, beq_iff_eq] at h
  omega
theorem sR_sgn {L : List Nat} {r c : Nat} (h : sumR L 0 = some r) (hc : sg c = true) (hr : 0 < r) : sumR (L ++ [c]) 0 = some 0 := by
  have q := sg_c hc
  rw [sR_snoc L 0 r c h, sumR, if_neg (by omega), if_pos ⟨q, hr⟩, sumR]
theorem pS_ok (lt : Nat → Nat) : ∀ (m s r : Nat) (L : List Nat) (s1 : Nat) (L' : List Nat), sumR L 0 = some r → L.length + m = 20 → pS lt m s r L = some (s1, L') → s ≤ s1 ∧ lt s1 = 59 ∧ L'.length ≤ 20 ∧ ∃ r', 0 < r' ∧ sumR L' 0 = some r'
  | 0, s, r, L, s1, L', h1, h2, h3 => by
    rw [pS] at h3
    by_cases c : lt s = 59 ∧ 0 < r
    · rw [if_pos c] at h3
      cases h3
      exact ⟨Nat.le_refl _, c.1, by omega, r, c.2, h1⟩
    · rw [if_neg c] at h3; cases h3
  | m + 1, s, r, L, s1, L', h1, h2, h3 => by
    rw [pS] at h3
    by_cases c1 : dg (lt s) = true
    · rw [if_pos c1] at h3
      by_cases c2 : r < 4
      · rw [if_pos c2] at h3
        have := pS_ok lt m (s + 1) (r + 1) (L ++ [lt s]) s1 L' (sR_dig h1 (dg_t.mp c1) c2) (by rw [ln_s]; omega) h3
        exact ⟨by omega, this.2⟩
      · rw [if_neg c2] at h3; cases h3
    · rw [if_neg c1] at h3
      by_cases c2 : sg (lt s) = true ∧ 0 < r
      · rw [if_pos c2] at h3
        have := pS_ok lt m (s + 1) 0 (L ++ [lt s]) s1 L' (sR_sgn h1 c2.1 c2.2) (by rw [ln_s]; omega) h3
        exact ⟨by omega, this.2⟩
      · rw [if_neg c2] at h3
        by_cases c : lt s = 59 ∧ 0 < r
        · rw [if_pos c] at h3
          cases h3
          exact ⟨Nat.le_refl _, c.1, by omega, r, c.2, h1⟩
        · rw [if_neg c] at h3; cases h3
theorem or_lt {k f : Nat} (hk : k < 1024) (hf : f < 10) : k ||| 2 ^ f < 1024 := by
  have h1 : 2 ^ f < 2 ^ 10 := Nat.pow_lt_pow_right (by omega) hf
  exact Nat.or_lt_two_pow (n := 10) hk h1
theorem pI_ok {lt : Nat → Nat} {s s1 : Nat} {D D' : DT} (hV : VD D) (h : pI lt s D = some (s1, D')) : s < s1 ∧ lt s1 = 59 ∧ VD D' := by
  obtain ⟨v1, v2, ⟨v3, v4⟩, v5, v6, v7⟩ := hV
  have vl := vv_le lt (s + 1)
  unfold pI at h
  by_cases c1 : lt s = 99
  · rw [if_pos c1] at h
    unfold pC at h
    by_cases q : 1 ≤ ndN lt (s + 1) ∧ 1 ≤ vvN lt (s + 1) ∧ D.2.2.1.length < 6 ∧ hcN D.2.2.1 (vvN lt (s + 1)) D.2.2.1.length 0 = false ∧ lt (s + 1 + ndN lt (s + 1)) = 59
    · rw [if_pos q] at h
      cases h
      refine ⟨by omega, q.2.2.2.2, v1, v2, ⟨by show (D.2.2.1 ++ [vvN lt (s + 1)]).length ≤ 6; rw [ln_s]; omega, fun j hj => ?_⟩, v5, v6, v7⟩
      have hj' : j < (D.2.2.1 ++ [vvN lt (s + 1)]).length := hj
      rw [ln_s] at hj'
      show 1 ≤ (D.2.2.1 ++ [vvN lt (s + 1)]).getD j 0 ∧ (D.2.2.1 ++ [vvN lt (s + 1)]).getD j 0 ≤ 99
      by_cases e : j = D.2.2.1.length
      · rw [e, gd_e]; omega
      · rw [gd_l _ _ _ (by omega)]; exact v4 j (by omega)
    · rw [if_neg q] at h; cases h
  · rw [if_neg c1] at h
    by_cases c2 : lt s = 100
    · rw [if_pos c2] at h
      unfold pD at h
      by_cases q : 1 ≤ ndN lt (s + 1) ∧ (2 ≤ vvN lt (s + 1) ∧ vvN lt (s + 1) ≤ 9) ∧ lt (s + 1 + ndN lt (s + 1)) = 59
      · rw [if_pos q] at h
        cases h
        exact ⟨by omega, q.2.2, v1, v2, ⟨v3, v4⟩, q.2.1, v6, v7⟩
      · rw [if_neg q] at h; cases h
    · rw [if_neg c2] at h
      by_cases c3 : lt s = 101
      · rw [if_pos c3] at h
        unfold pE at h
        cases e : pS lt 20 (s + 1) 0 [] with
        | none => rw [e] at h; cases h
        | some q =>
          rw [e] at h
          cases h
          obtain ⟨a1, a2, a3, a4⟩ := pS_ok lt 20 (s + 1) 0 [] q.1 q.2 rfl rfl e
          exact ⟨by omega, a2, v1, v2, ⟨v3, v4⟩, v5, v6, a3, Or.inr a4⟩
      · rw [if_neg c3] at h
        by_cases c4 : lt s = 102
        · rw [if_pos c4] at h
          unfold pF at h
          by_cases q : (1 ≤ ndN lt (s + 1) ∧ vvN lt (s + 1) ≤ 9 ∧ lt (s + 1 + ndN lt (s + 1)) = 44) ∧ (1 ≤ ndN lt (s + 1 + ndN lt (s + 1) + 1) ∧ vvN lt (s + 1 + ndN lt (s + 1) + 1) ≤ 9 ∧ lt (s + 1 + ndN lt (s + 1) + 1 + ndN lt (s + 1 + ndN lt (s + 1) + 1)) = 59)
          · rw [if_pos q] at h
            cases h
            refine ⟨by omega, q.2.2.2, v1, fun f hf => ?_, ⟨v3, v4⟩, v5, v6, v7⟩
            show (if f = vvN lt (s + 1) then vvN lt (s + 1 + ndN lt (s + 1) + 1) else D.2.1 f) < 10
            split
            · omega
            · exact v2 f hf
          · rw [if_neg q] at h; cases h
        · rw [if_neg c4] at h
          by_cases c5 : lt s = 119
          · rw [if_pos c5] at h
            unfold pW at h
            by_cases q : 1 ≤ ndN lt (s + 1) ∧ (1 ≤ vvN lt (s + 1) ∧ vvN lt (s + 1) ≤ 9) ∧ lt (s + 1 + ndN lt (s + 1)) = 59
            · rw [if_pos q] at h
              cases h
              exact ⟨by omega, q.2.2, v1, v2, ⟨v3, v4⟩, v5, q.2.1, v7⟩
            · rw [if_neg q] at h; cases h
          · rw [if_neg c5] at h
            by_cases c6 : lt s = 120
            · rw [if_pos c6] at h
              unfold pX at h
              by_cases q : 1 ≤ ndN lt (s + 1) ∧ vvN lt (s + 1) ≤ 9 ∧ lt (s + 1 + ndN lt (s + 1)) = 59
              · rw [if_pos q] at h
                cases h
                exact ⟨by omega, q.2.2, or_lt v1 (by omega), v2, ⟨v3, v4⟩, v5, v6, v7⟩
              · rw [if_neg q] at h; cases h
            · rw [if_neg c6] at h; cases h

/-! ===== mean, odds ===== -/
def fcN (k j : Nat) : Nat := if bi k j = 1 then 0 else j
theorem fc_le (k j : Nat) : fcN k j ≤ j := by unfold fcN; split <;> omega
theorem shown_X {N k j : Nat} {S : St} (hk : k < 1024) (e2 : S 2 0 = nI k) (hj : j < 10) : fX10_shownBy N S (nI j) = some (nI (fcN k j)) := by
  unfold fX10_shownBy fcN
  rw [onStrike_X hk hj (show sh S 2 0 0 = nI k from e2)]
  simp only [Option.bind_some]
  have := bi_le k j
  rcases (show bi k j = 0 ∨ bi k j = 1 by omega) with h | h
  · rw [h, if_pos (by rfl), if_neg (show ¬ (0 : Nat) = 1 by omega)]
  · rw [h, if_neg (by decide), if_pos rfl]; rfl
theorem face_M {N k j : Nat} {M : St} (hw : NW k M) (hj : j < 10) : fX11_faceOf N M (nI j) = some (nI (fcN k j)) := by
  unfold fX11_faceOf fcN
  rw [if_pos (in_nI (by omega) (by omega)), nI_clamp (by omega), hw j hj]
  have := bi_le k j
  rcases (show bi k j = 0 ∨ bi k j = 1 by omega) with h | h
  · rw [h, if_neg (by decide), if_neg (show ¬ (0 : Nat) = 1 by omega)]
  · rw [h, if_pos (by rfl), if_pos rfl]; rfl
theorem low_X {N a d w : Nat} (hN : 200 ≤ N) (ha : a ≤ 100) (hd : d ≤ 100) (h0 : 0 < d) (hw : w ≤ 1) : fX3_lowestTerms N (nI a) (nI d) (nI w) = some (nI ((if w = 0 then a else d) / Nat.gcd a d)) := by
  have hg0 : 0 < Nat.gcd a d := Nat.gcd_pos_of_pos_right a h0
  have hgb : Nat.gcd a d ≤ d := Nat.le_of_dvd h0 (Nat.gcd_dvd_right a d)
  have go : ∀ y : Nat, y ≤ 100 → fX3_lowestTerms_j9 N (nI a) (nI d) (nI w) (nI y) = some (nI (y / Nat.gcd a d)) := by
    intro y hy
    unfold fX3_lowestTerms_j9 fX3_lowestTerms_l13
    have key := lpN_ix (body := fun g q => fX3_lowestTerms_b13 N (nI a) (nI d) (nI w) g q.1 q.2) (enc := fun i : Nat => (nI y, nI i)) (I := fun i => Nat.gcd a d ≤ i ∧ i ≤ 100) (μ := fun i => i) (f := fun _ => some (nI (y / Nat.gcd a d))) ?_ N d ⟨hgb, hd⟩ (by show d < N; omega)
    · exact key
    rintro g x ⟨hx, hx9⟩ ih
    dsimp only at ih ⊢
    unfold fX3_lowestTerms_b13
    by_cases h1 : x ≤ 1
    · rw [if_pos (show nI x ≤ (1 : Int32) from nI_le (b := 1) h1 (by omega)), show Nat.gcd a d = 1 by omega, Nat.div_one]
    · have st : ¬ x = Nat.gcd a d → fX3_lowestTerms_j38 N (nI a) (nI d) (nI w) g (nI y) (nI x) = some (nI (y / Nat.gcd a d)) := by
        intro hne
        unfold fX3_lowestTerms_j38
        rw [nI_m1 (by omega)]
        exact ih (x - 1) ⟨by omega, by omega⟩ (by omega)
      have n0 := nI_ne0 (n := x) (by omega) (by omega)
      rw [if_neg (show ¬ nI x ≤ (1 : Int32) from nI_ge (b := x) (a := 1) (by omega) (by omega)), if_pos n0, pk_rem (by omega) (by omega) (by omega), pk_rem (by omega) (by omega) (by omega)]
      have m1 := Nat.mod_lt a (show 0 < x by omega)
      have m2 := Nat.mod_lt d (show 0 < x by omega)
      by_cases h2 : a % x = 0
      · rw [if_pos (by rw [h2]; rfl), if_pos n0]
        by_cases h3 : d % x = 0
        · rw [if_pos (by rw [h3]; rfl)]
          have hge := Nat.le_of_dvd hg0 (Nat.dvd_gcd (Nat.dvd_of_mod_eq_zero h2) (Nat.dvd_of_mod_eq_zero h3))
          unfold fX3_lowestTerms_j33
          rw [if_pos n0, pk_div (by omega) (by omega) (by omega), show x = Nat.gcd a d by omega]
        · rw [if_neg (nI_ne0 (by omega) (by omega))]
          refine st (fun h => h3 ?_)
          rw [h]
          exact Nat.mod_eq_zero_of_dvd (Nat.gcd_dvd_right a d)
      · rw [if_neg (nI_ne0 (by omega) (by omega))]
        refine st (fun h => h2 ?_)
        rw [h]
        exact Nat.mod_eq_zero_of_dvd (Nat.gcd_dvd_left a d)
  unfold fX3_lowestTerms
  rw [go a ha, go d hd]
  rcases (show w = 0 ∨ w = 1 by omega) with rfl | rfl
  · rw [if_pos (by rfl), if_pos rfl]
  · rw [if_neg (by decide), if_neg (by omega)]
theorem low_M {N a d w : Nat} (hN : 200 ≤ N) (ha : a ≤ 100) (hd : d ≤ 100) (h0 : 0 < d) (hw : w ≤ 1) : (Option.bind (fX11_common N (nI a) (nI d)) (fun q1 => if nI w = 0 then (if ¬ q1 = 0 then (some (nI a / q1)) else none) else (if ¬ q1 = 0 then (some (nI d / q1)) else none))) = some (nI ((if w = 0 then a else d) / Nat.gcd a d)) := by
  have hg0 : 0 < Nat.gcd a d := Nat.gcd_pos_of_pos_right a h0
  have hgb : Nat.gcd a d ≤ d := Nat.le_of_dvd h0 (Nat.gcd_dvd_right a d)
  rw [common_M hN ha hd]
  simp only [Option.bind_some]
  rw [if_pos (nI_ne0 hg0 (by omega)), if_pos (nI_ne0 hg0 (by omega)), pk_div (by omega) hg0 (by omega), pk_div (by omega) hg0 (by omega)]
  rcases (show w = 0 ∨ w = 1 by omega) with rfl | rfl
  · rw [if_pos (by rfl), if_pos rfl]
  · rw [if_neg (by decide), if_neg (by omega)]
def smN (k : Nat) : Nat → Nat → Nat
  | 0, _ => 0
  | m + 1, j => fcN k j + smN k m (j + 1)
theorem sm_le (k : Nat) : ∀ m j, j + m ≤ 10 → smN k m j ≤ 9 * m
  | 0, _, _ => Nat.le_refl _
  | m + 1, j, h => by
    have h1 := sm_le k m (j + 1) (by omega)
    have h2 := fc_le k j
    show fcN k j + smN k m (j + 1) ≤ 9 * (m + 1)
    omega
theorem mean_X {N k d : Nat} {S : St} {p : Int32} (hN : 200 ≤ N) (hk : k < 1024) (e2 : S 2 0 = nI k) (hd : d ≤ 9) (e : S 24 0 = nI d) : fX10_mean_l15 N S p N (0, 1) = fX10_mean_j40 N S p (nI (smN k d 1)) := by
  unfold fX10_mean_l15
  have key := lpN_ix (body := fun g q => fX10_mean_b15 N S p g q.1 q.2) (enc := fun i : Nat × Nat => (nI i.1, nI (d + 1 - i.2))) (I := fun i => i.2 ≤ d) (μ := fun i => i.2) (f := fun i => fX10_mean_j40 N S p (nI (i.1 + smN k i.2 (d + 1 - i.2)))) ?_ N (0, d) (Nat.le_refl _) (by show d < N; omega)
  · simp only [Nat.add_sub_cancel_left, Nat.zero_add] at key
    exact key
  rintro g ⟨x, m⟩ hm ih
  dsimp only at hm ih ⊢
  unfold fX10_mean_b15
  rw [e]
  cases m with
  | zero => rw [if_pos (nI_lt (by omega) (by omega))]; rfl
  | succ m =>
    rw [if_neg (nI_nlt (by omega) (by omega)), shown_X hk e2 (by omega)]
    simp only [Option.bind_some]
    rw [nI_add, show nI (d + 1 - (m + 1)) + (1 : Int32) = nI (d + 1 - (m + 1) + 1) from nI_1 _, show d + 1 - (m + 1) + 1 = d + 1 - m by omega]
    refine (ih (_, m) (by show m ≤ d; omega) (by show m < m + 1; omega)).trans ?_
    show fX10_mean_j40 N S p (nI (x + fcN k (d + 1 - (m + 1)) + smN k m (d + 1 - m))) = fX10_mean_j40 N S p (nI (x + (fcN k (d + 1 - (m + 1)) + smN k m (d + 1 - (m + 1) + 1))))
    rw [show d + 1 - (m + 1) + 1 = d + 1 - m by omega, Nat.add_assoc]
theorem mean_M {N k d : Nat} {M : St} {p : Int32} (hN : 200 ≤ N) (hw : NW k M) (hd : d ≤ 9) (e : M 5 0 = nI d) : fX11_mean_l16 N M p N (0, 1) = fX11_mean_j40 N M p (nI (smN k d 1)) := by
  unfold fX11_mean_l16
  have key := lpN_ix (body := fun g q => fX11_mean_b16 N M p g q.1 q.2) (enc := fun i : Nat × Nat => (nI i.1, nI (d + 1 - i.2))) (I := fun i => i.2 ≤ d) (μ := fun i => i.2) (f := fun i => fX11_mean_j40 N M p (nI (i.1 + smN k i.2 (d + 1 - i.2)))) ?_ N (0, d) (Nat.le_refl _) (by show d < N; omega)
  · simp only [Nat.add_sub_cancel_left, Nat.zero_add] at key
    exact key
  rintro g ⟨x, m⟩ hm ih
  dsimp only at hm ih ⊢
  unfold fX11_mean_b16
  rw [e]
  cases m with
  | zero => rw [if_pos (nI_lt (by omega) (by omega))]; rfl
  | succ m =>
    rw [if_neg (nI_nlt (by omega) (by omega)), face_M hw (by omega)]
    simp only [Option.bind_some]
    rw [nI_add, show nI (d + 1 - (m + 1)) + (1 : Int32) = nI (d + 1 - (m + 1) + 1) from nI_1 _, show d + 1 - (m + 1) + 1 = d + 1 - m by omega]
    refine (ih (_, m) (by show m ≤ d; omega) (by show m < m + 1; omega)).trans ?_
    show fX11_mean_j40 N M p (nI (x + fcN k (d + 1 - (m + 1)) + smN k m (d + 1 - m))) = fX11_mean_j40 N M p (nI (x + (fcN k (d + 1 - (m + 1)) + smN k m (d + 1 - (m + 1) + 1))))
    rw [show d + 1 - (m + 1) + 1 = d + 1 - m by omega, Nat.add_assoc]
theorem ob_mean {N : Nat} (hN : 200 ≤ N) : OB_mean N Rel := by
  intro S M p1 hR
  obtain ⟨k, hk, e2, hF, hw⟩ := hR.fig
  obtain ⟨-, ⟨d, hd2, hd9, e3, e4⟩, -, -⟩ := hR.2.2.2.2.2
  unfold fX10_mean fX11_mean
  rw [within_eq, in_lit p1 0 1 (by omega) (by omega)]
  rcases rng p1 (a := 0) (b := 1) (by omega) (by omega) with ⟨w, -, hw1, rfl⟩ | h
  · have hb1 := rng_t (Nat.zero_le w) hw1 (by omega)
    rw [if_pos (show (0 : Int32) ≤ nI w ∧ nI w ≤ (1 : Int32) from hb1), if_pos hb1]
    simp only [Option.bind_some]
    have hs := sm_le k d 1 (by omega)
    rw [if_neg i10, if_neg i10, mean_X hN hk e2 hd9 e3, mean_M hN hw hd9 e4]
    unfold fX10_mean_j40 fX11_mean_j40
    rw [e3, e4, low_X hN (by omega) (by omega) (by omega) hw1, low_M hN (by omega) (by omega) (by omega) hw1]
    exact ⟨_, rfl, rfl, hR⟩
  · rw [if_neg (show ¬ ((0 : Int32) ≤ p1 ∧ p1 ≤ (1 : Int32)) from h), if_neg h]
    exact ⟨-1, rfl, rfl, hR⟩
def inN (k t i : Nat) : Nat → Nat → Nat
  | 0, _ => 0
  | m + 1, j => (if fcN k i + fcN k j = t then 1 else 0) + inN k t i m (j + 1)
def ouN (k t d : Nat) : Nat → Nat → Nat
  | 0, _ => 0
  | m + 1, i => inN k t i d 1 + ouN k t d m (i + 1)
theorem in_le (k t i : Nat) : ∀ m j, inN k t i m j ≤ m
  | 0, _ => Nat.le_refl _
  | m + 1, j => by
    have h1 := in_le k t i m (j + 1)
    show (if fcN k i + fcN k j = t then 1 else 0) + inN k t i m (j + 1) ≤ m + 1
    split <;> omega
theorem ou_le (k t d : Nat) : ∀ m i, ouN k t d m i ≤ m * d
  | 0, _ => by show 0 ≤ _; omega
  | m + 1, i => by
    have h1 := ou_le k t d m (i + 1)
    have h2 := in_le k t i d 1
    show inN k t i d 1 + ouN k t d m (i + 1) ≤ (m + 1) * d
    rw [Nat.succ_mul]
    omega
theorem odds_X {N k d t : Nat} {S : St} {p2 : Int32} (hN : 200 ≤ N) (hk : k < 1024) (e2 : S 2 0 = nI k) (hd : d ≤ 9) (ht : t ≤ 18) (e : S 24 0 = nI d) : fX10_odds_l26 N S (nI t) p2 N (0, 1) = fX10_odds_j85 N S (nI t) p2 (nI (ouN k t d d 1)) := by
  unfold fX10_odds_l26
  have key := lpN_ix (body := fun g q => fX10_odds_b26 N S (nI t) p2 g q.1 q.2) (enc := fun i : Nat × Nat => (nI i.1, nI (d + 1 - i.2))) (I := fun i => i.2 ≤ d) (μ := fun i => i.2) (f := fun i => fX10_odds_j85 N S (nI t) p2 (nI (i.1 + ouN k t d i.2 (d + 1 - i.2)))) ?_ N (0, d) (Nat.le_refl _) (by show d < N; omega)
  · simp only [Nat.add_sub_cancel_left, Nat.zero_add] at key
    exact key
  rintro g ⟨x, m⟩ hm ih
  dsimp only at hm ih ⊢
  unfold fX10_odds_b26
  rw [e]
  cases m with
  | zero => rw [if_pos (nI_lt (by omega) (by omega))]; rfl
  | succ m =>
    rw [if_neg (nI_nlt (by omega) (by omega))]
    have inn : fX10_odds_l41 N S (nI t) p2 g N (nI x, nI (d + 1 - (m + 1)), 1) = fX10_odds_j79 N S (nI t) p2 g (nI (x + inN k t (d + 1 - (m + 1)) d 1)) (nI (d + 1 - (m + 1))) := by
      have hi9 : d + 1 - (m + 1) < 10 := by omega
      generalize d + 1 - (m + 1) = i at hi9 ⊢
      unfold fX10_odds_l41
      have key := lpN_ix (body := fun g' q => fX10_odds_b41 N S (nI t) p2 g g' q.1 q.2.1 q.2.2) (enc := fun z : Nat × Nat => (nI z.1, nI i, nI (d + 1 - z.2))) (I := fun z => z.2 ≤ d) (μ := fun z => z.2) (f := fun z => fX10_odds_j79 N S (nI t) p2 g (nI (z.1 + inN k t i z.2 (d + 1 - z.2))) (nI i)) ?_ N (x, d) (Nat.le_refl _) (by show d < N; omega)
      · simp only [Nat.add_sub_cancel_left] at key
        exact key
      rintro g' ⟨y, n⟩ hn ih'
      dsimp only at hn ih' ⊢
      unfold fX10_odds_b41
      rw [e]
      cases n with
      | zero => rw [if_pos (nI_lt (by omega) (by omega))]; rfl
      | succ n =>
        have f1 := fc_le k i
        have f2 := fc_le k (d + 1 - (n + 1))
        rw [if_neg (nI_nlt (by omega) (by omega)), shown_X hk e2 hi9, shown_X hk e2 (by omega)]
        simp only [Option.bind_some]
        have st : ∀ y, fX10_odds_j73 N S (nI t) p2 g g' (nI y) (nI i) (nI (d + 1 - (n + 1))) = fX10_odds_j79 N S (nI t) p2 g (nI (y + inN k t i n (d + 1 - n))) (nI i) := by
          intro y
          unfold fX10_odds_j73
          rw [show nI (d + 1 - (n + 1)) + (1 : Int32) = nI (d + 1 - (n + 1) + 1) from nI_1 _, show d + 1 - (n + 1) + 1 = d + 1 - n by omega]
          exact ih' (y, n) (by show n ≤ d; omega) (by show n < n + 1; omega)
        show _ = fX10_odds_j79 N S (nI t) p2 g (nI (y + ((if fcN k i + fcN k (d + 1 - (n + 1)) = t then 1 else 0) + inN k t i n (d + 1 - (n + 1) + 1)))) (nI i)
        rw [show d + 1 - (n + 1) + 1 = d + 1 - n by omega, nI_add, show nI y + (1 : Int32) = nI (y + 1) from nI_1 y, st, st]
        by_cases h : fcN k i + fcN k (d + 1 - (n + 1)) = t
        · rw [if_pos (by rw [h]), if_pos h, Nat.add_assoc]
        · rw [if_neg (fun h2 => h ((nI_eq (by omega) (by omega)).mp h2)), if_neg h, Nat.zero_add]
    rw [inn]
    unfold fX10_odds_j79
    rw [show nI (d + 1 - (m + 1)) + (1 : Int32) = nI (d + 1 - (m + 1) + 1) from nI_1 _, show d + 1 - (m + 1) + 1 = d + 1 - m by omega]
    refine (ih (_, m) (by show m ≤ d; omega) (by show m < m + 1; omega)).trans ?_
    show fX10_odds_j85 N S (nI t) p2 (nI (x + inN k t (d + 1 - (m + 1)) d 1 + ouN k t d m (d + 1 - m))) = fX10_odds_j85 N S (nI t) p2 (nI (x + (inN k t (d + 1 - (m + 1)) d 1 + ouN k t d m (d + 1 - (m + 1) + 1))))
    rw [show d + 1 - (m + 1) + 1 = d + 1 - m by omega, Nat.add_assoc]
theorem odds_M {N k d t : Nat} {M : St} {p2 : Int32} (hN : 200 ≤ N) (hw : NW k M) (hd : d ≤ 9) (ht : t ≤ 18) (e : M 5 0 = nI d) : fX11_odds_l29 N M (nI t) p2 N (0, 1) = fX11_odds_j91 N M (nI t) p2 (nI (ouN k t d d 1)) := by
  unfold fX11_odds_l29
  have key := lpN_ix (body := fun g q => fX11_odds_b29 N M (nI t) p2 g q.1 q.2) (enc := fun i : Nat × Nat => (nI i.1, nI (d + 1 - i.2))) (I := fun i => i.2 ≤ d) (μ := fun i => i.2) (f := fun i => fX11_odds_j91 N M (nI t) p2 (nI (i.1 + ouN k t d i.2 (d + 1 - i.2)))) ?_ N (0, d) (Nat.le_refl _) (by show d < N; omega)
  · simp only [Nat.add_sub_cancel_left, Nat.zero_add] at key
    exact key
  rintro g ⟨x, m⟩ hm ih
  dsimp only at hm ih ⊢
  unfold fX11_odds_b29
  rw [e]
  cases m with
  | zero => rw [if_pos (nI_lt (by omega) (by omega))]; rfl
  | succ m =>
    rw [if_neg (nI_nlt (by omega) (by omega))]
    have inn : fX11_odds_l43 N M (nI t) p2 g N (nI x, nI (d + 1 - (m + 1)), 1) = fX11_odds_j85 N M (nI t) p2 g (nI (x + inN k t (d + 1 - (m + 1)) d 1)) (nI (d + 1 - (m + 1))) := by
      have hi9 : d + 1 - (m + 1) < 10 := by omega
      generalize d + 1 - (m + 1) = i at hi9 ⊢
      unfold fX11_odds_l43
      have key := lpN_ix (body := fun g' q => fX11_odds_b43 N M (nI t) p2 g g' q.1 q.2.1 q.2.2) (enc := fun z : Nat × Nat => (nI z.1, nI i, nI (d + 1 - z.2))) (I := fun z => z.2 ≤ d) (μ := fun z => z.2) (f := fun z => fX11_odds_j85 N M (nI t) p2 g (nI (z.1 + inN k t i z.2 (d + 1 - z.2))) (nI i)) ?_ N (x, d) (Nat.le_refl _) (by show d < N; omega)
      · simp only [Nat.add_sub_cancel_left] at key
        exact key
      rintro g' ⟨y, n⟩ hn ih'
      dsimp only at hn ih' ⊢
      unfold fX11_odds_b43
      rw [e]
      cases n with
      | zero => rw [if_pos (nI_lt (by omega) (by omega))]; rfl
      | succ n =>
        have f1 := fc_le k i
        have f2 := fc_le k (d + 1 - (n + 1))
        rw [if_neg (nI_nlt (by omega) (by omega)), face_M hw hi9, face_M hw (by omega)]
        simp only [Option.bind_some]
        have st : ∀ z, fX11_odds_j77 N M (nI t) p2 g g' (nI i) (nI (d + 1 - (n + 1))) (nI y) (nI z) = fX11_odds_j85 N M (nI t) p2 g (nI (y + z + inN k t i n (d + 1 - n))) (nI i) := by
          intro z
          unfold fX11_odds_j77
          rw [show nI (d + 1 - (n + 1)) + (1 : Int32) = nI (d + 1 - (n + 1) + 1) from nI_1 _, show d + 1 - (n + 1) + 1 = d + 1 - n by omega, nI_add]
          exact ih' (y + z, n) (by show n ≤ d; omega) (by show n < n + 1; omega)
        show _ = fX11_odds_j85 N M (nI t) p2 g (nI (y + ((if fcN k i + fcN k (d + 1 - (n + 1)) = t then 1 else 0) + inN k t i n (d + 1 - (n + 1) + 1)))) (nI i)
        rw [show d + 1 - (n + 1) + 1 = d + 1 - n by omega, nI_add]
        by_cases h : fcN k i + fcN k (d + 1 - (n + 1)) = t
        · rw [if_pos (by rw [h]), if_pos h, ← Nat.add_assoc]; exact st 1
        · rw [if_neg (fun h2 => h ((nI_eq (by omega) (by omega)).mp h2)), if_neg h, ← Nat.add_assoc]; exact st 0
    rw [inn]
    unfold fX11_odds_j85
    rw [show nI (d + 1 - (m + 1)) + (1 : Int32) = nI (d + 1 - (m + 1) + 1) from nI_1 _, show d + 1 - (m + 1) + 1 = d + 1 - m by omega]
    refine (ih (_, m) (by show m ≤ d; omega) (by show m < m + 1; omega)).trans ?_
    show fX11_odds_j91 N M (nI t) p2 (nI (x + inN k t (d + 1 - (m + 1)) d 1 + ouN k t d m (d + 1 - m))) = fX11_odds_j91 N M (nI t) p2 (nI (x + (inN k t (d + 1 - (m + 1)) d 1 + ouN k t d m (d + 1 - (m + 1) + 1))))
    rw [show d + 1 - (m + 1) + 1 = d + 1 - m by omega, Nat.add_assoc]
theorem ob_odds {N : Nat} (hN : 200 ≤ N) : OB_odds N Rel := by
  intro S M p1 p2 hR
  obtain ⟨k, hk, e2, hF, hw⟩ := hR.fig
  obtain ⟨-, ⟨d, hd2, hd9, e3, e4⟩, -, -⟩ := hR.2.2.2.2.2
  unfold fX10_odds fX11_odds
  rw [within_eq, in_lit p1 0 18 (by omega) (by omega)]
  rcases rng p1 (a := 0) (b := 18) (by omega) (by omega) with ⟨t, -, ht, rfl⟩ | h
  · have hb1 := rng_t (Nat.zero_le t) ht (by omega)
    rw [if_pos (show (0 : Int32) ≤ nI t ∧ nI t ≤ (18 : Int32) from hb1), if_pos hb1]
    simp only [Option.bind_some]
    rw [if_neg i10, if_neg i10, within_eq, in_lit p2 0 1 (by omega) (by omega)]
    rcases rng p2 (a := 0) (b := 1) (by omega) (by omega) with ⟨w, -, hw1, rfl⟩ | h
    · have hb2 := rng_t (Nat.zero_le w) hw1 (by omega)
      rw [if_pos (show (0 : Int32) ≤ nI w ∧ nI w ≤ (1 : Int32) from hb2), if_pos hb2]
      simp only [Option.bind_some]
      have hs := ou_le k t d d 1
      have hdd : d * d ≤ 9 * 9 := Nat.mul_le_mul hd9 hd9
      have hdp : 0 < d * d := Nat.mul_pos (by omega) (by omega)
      rw [if_neg i10, if_neg i10, odds_X hN hk e2 hd9 ht e3, odds_M hN hw hd9 ht e4]
      unfold fX10_odds_j85 fX11_odds_j91
      rw [e3, e4, pk_mul, low_X hN (by omega) (by omega) hdp hw1, low_M hN (by omega) (by omega) hdp hw1]
      exact ⟨_, rfl, rfl, hR⟩
    · rw [if_neg (show ¬ ((0 : Int32) ≤ p2 ∧ p2 ≤ (1 : Int32)) from h), if_neg h]
      exact ⟨-1, rfl, rfl, hR⟩
  · rw [if_neg (show ¬ ((0 : Int32) ≤ p1 ∧ p1 ≤ (18 : Int32)) from h), if_neg h]
    exact ⟨-1, rfl, rfl, hR⟩

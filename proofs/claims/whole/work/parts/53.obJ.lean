/-! ===== day, agree, mean, odds ===== -/
theorem nI_m1 {x : Nat} (h : 0 < x) : nI x + (-1 : Int32) = nI (x - 1) := by
  obtain ⟨y, rfl⟩ : ∃ y, x = y + 1 := ⟨x - 1, by omega⟩
  rw [show nI (y + 1) = nI y + 1 from (nI_1 y).symm, Int32.add_assoc, show (1 : Int32) + (-1) = 0 from by decide, Int32.add_zero, Nat.add_sub_cancel]
theorem common_M {N a b : Nat} (hN : 200 ≤ N) (ha : a ≤ 100) (hb : b ≤ 100) : fX11_common N (nI a) (nI b) = some (nI (Nat.gcd a b)) := by
  unfold fX11_common fX11_common_l4
  refine lpN_ix (enc := fun i : Nat × Nat => (nI i.1, nI i.2)) (I := fun i => i.1 ≤ 100 ∧ i.2 ≤ 100) (μ := fun i => i.2) (f := fun i => some (nI (Nat.gcd i.1 i.2))) ?_ N (a, b) ⟨ha, hb⟩ (by show b < N; omega)
  rintro g ⟨x, y⟩ ⟨hx, hy⟩ ih
  dsimp only at hx hy ih ⊢
  unfold fX11_common_b4
  rcases Nat.eq_zero_or_pos y with rfl | hp
  · rw [if_pos (by rfl), Nat.gcd_zero_right]
  · have hm := Nat.mod_lt x hp
    rw [if_neg (nI_ne0 hp (by omega)), if_pos (nI_ne0 hp (by omega)), pk_rem (by omega) hp (by omega)]
    refine (ih (y, x % y) ⟨hy, by show x % y ≤ 100; omega⟩ hm).trans ?_
    show some (nI (Nat.gcd y (x % y))) = _
    rw [Nat.gcd_comm y (x % y), ← Nat.gcd_rec, Nat.gcd_comm]
theorem agr_1 : ∀ w < 10, ∀ q < 10, 0 < q → 1 ≤ q / Nat.gcd w q := by decide +kernel
theorem agr_2 : ∀ w < 10, ∀ q < 10, 0 < q → q / Nat.gcd w q ≤ q := by decide +kernel
theorem agr_3 : ∀ w < 10, ∀ q < 10, 0 < q → w / Nat.gcd w q * q = w * (q / Nat.gcd w q) := by decide +kernel
def agB (w q i : Nat) : Bool := q == 0 || i == 0 || decide (q / Nat.gcd w q < i) || !(w * i % q == 0) || i == q / Nat.gcd w q
theorem agr_b : ∀ w < 10, ∀ q < 10, ∀ i < 10, agB w q i = true := by decide +kernel
theorem agr_4 (w : Nat) (hw : w < 10) (q : Nat) (hq : q < 10) (h0 : 0 < q) (i : Nat) (hi : i < 10) (h1 : 1 ≤ i) (h2 : i ≤ q / Nat.gcd w q) (h3 : w * i % q = 0) : i = q / Nat.gcd w q := by
  have h := agr_b w hw q hq i hi
  unfold agB at h
  simp only [Bool.or_eq_true, beq_iff_eq, decide_eq_true_eq, Bool.not_eq_true', beq_eq_false_iff_ne, ne_eq] at h
  omega
theorem agr_5 : ∀ w < 10, ∀ q < 10, 0 < q → w * (q / Nat.gcd w q) % q = 0 := by decide +kernel
theorem agr_d (w : Nat) (hw : w < 10) (q : Nat) (hq : q < 10) (h0 : 0 < q) : (1 ≤ q / Nat.gcd w q ∧ q / Nat.gcd w q ≤ q ∧ w / Nat.gcd w q * q = w * (q / Nat.gcd w q) ∧ ∀ i < 10, 1 ≤ i → i ≤ q / Nat.gcd w q → (w * i % q = 0 ↔ i = q / Nat.gcd w q)) := ⟨agr_1 w hw q hq h0, agr_2 w hw q hq h0, agr_3 w hw q hq h0, fun i hi h1 h2 => ⟨agr_4 w hw q hq h0 i hi h1 h2, fun h => by rw [h]; exact agr_5 w hw q hq h0⟩⟩
theorem agree_X {N w q : Nat} {S : St} (hN : 200 ≤ N) (hw : w ≤ 9) (hq : q ≤ 9) (h0 : 0 < q) (e : S 25 0 = nI w) : fX10_agree_l14 N S N (nI q, 1) = some (nI (w * (q / Nat.gcd w q))) := by
  obtain ⟨h1, h2, -, h4⟩ := agr_d w (by omega) q (by omega) h0
  generalize q / Nat.gcd w q = t at h1 h2 h4 ⊢
  unfold fX10_agree_l14
  have key := lpN_ix (body := fun g z => fX10_agree_b14 N S g z.1 z.2) (enc := fun i : Nat => (nI q, nI i)) (I := fun i => 1 ≤ i ∧ i ≤ t) (μ := fun i => q - i) (f := fun _ => some (nI (w * t))) ?_ N 1 ⟨Nat.le_refl _, h1⟩ (by show q - 1 < N; omega)
  · exact key
  rintro g x ⟨hx, hxt⟩ ih
  dsimp only at ih ⊢
  unfold fX10_agree_b14
  have n0 := nI_ne0 (n := q) h0 (by omega)
  have hwx : w * x ≤ 9 * 9 := Nat.mul_le_mul hw (by omega)
  rw [if_neg (nI_nlt (by omega) (by omega)), if_pos n0, e, pk_mul, pk_rem (by omega) h0 (by omega)]
  have m1 := Nat.mod_lt (w * x) h0
  by_cases h3 : w * x % q = 0
  · rw [if_pos (by rw [h3]; rfl)]
    unfold fX10_agree_j33
    rw [e, pk_mul, (h4 x (by omega) hx hxt).mp h3]
  · have hne : ¬ x = t := fun h => h3 ((h4 x (by omega) hx hxt).mpr h)
    rw [if_neg (nI_ne0 (by omega) (by omega)), show nI x + (1 : Int32) = nI (x + 1) from nI_1 x]
    exact ih (x + 1) ⟨by omega, by omega⟩ (by omega)
def wdN (k : Nat) : Nat → Nat → Nat
  | 0, _ => 0
  | m + 1, j => (1 - bi k j) + wdN k m (j + 1)
theorem wd_le (k : Nat) : ∀ m j, wdN k m j ≤ m
  | 0, _ => Nat.le_refl _
  | m + 1, j => by have := wd_le k m (j + 1); show (1 - bi k j) + wdN k m (j + 1) ≤ m + 1; omega
theorem wd_X {N k w : Nat} {S : St} (hN : 200 ≤ N) (hk : k < 1024) (e2 : S 2 0 = nI k) (hw : w ≤ 9) (e : S 25 0 = nI w) : fX10_workingDays N S = some (nI (wdN k w 1)) := by
  unfold fX10_workingDays fX10_workingDays_l4
  have key := lpN_ix (body := fun g q => fX10_workingDays_b4 N S g q.1 q.2) (enc := fun i : Nat × Nat => (nI i.1, nI (w + 1 - i.2))) (I := fun i => i.2 ≤ w) (μ := fun i => i.2) (f := fun i => some (nI (i.1 + wdN k i.2 (w + 1 - i.2)))) ?_ N (0, w) (Nat.le_refl _) (by show w < N; omega)
  · simp only [Nat.add_sub_cancel_left, Nat.zero_add] at key
    exact key
  rintro g ⟨x, m⟩ hm ih
  dsimp only at hm ih ⊢
  unfold fX10_workingDays_b4
  rw [e]
  cases m with
  | zero => rw [if_pos (nI_lt (by omega) (by omega))]; rfl
  | succ m =>
    have hb := bi_le k (w + 1 - (m + 1))
    rw [if_neg (nI_nlt (by omega) (by omega)), onStrike_X hk (by omega) (show sh S 2 0 0 = nI k from e2)]
    simp only [Option.bind_some]
    have st : ∀ y, fX10_workingDays_j29 N S g (nI y) (nI (w + 1 - (m + 1))) = some (nI (y + wdN k m (w + 1 - m))) := by
      intro y
      unfold fX10_workingDays_j29
      rw [show nI (w + 1 - (m + 1)) + (1 : Int32) = nI (w + 1 - (m + 1) + 1) from nI_1 _, show w + 1 - (m + 1) + 1 = w + 1 - m by omega]
      exact ih (y, m) (by show m ≤ w; omega) (by show m < m + 1; omega)
    show _ = some (nI (x + ((1 - bi k (w + 1 - (m + 1))) + wdN k m (w + 1 - (m + 1) + 1))))
    rw [show w + 1 - (m + 1) + 1 = w + 1 - m by omega, show nI x + (1 : Int32) = nI (x + 1) from nI_1 x, st, st]
    rcases (show bi k (w + 1 - (m + 1)) = 0 ∨ bi k (w + 1 - (m + 1)) = 1 by omega) with h | h
    · rw [h, if_pos (by rfl), Nat.add_assoc]
    · rw [h, if_neg (by decide)]; simp only [Nat.sub_self, Nat.zero_add]
theorem wd_M {N k w : Nat} {M : St} (hN : 200 ≤ N) (hnw : NW k M) (hw : w ≤ 9) (e : M 6 0 = nI w) : fX11_daysLeft N M = some (nI (wdN k w 1)) := by
  unfold fX11_daysLeft fX11_daysLeft_l4
  have key := lpN_ix (body := fun g q => fX11_daysLeft_b4 N M g q.1 q.2) (enc := fun i : Nat × Nat => (nI i.1, nI (w + 1 - i.2))) (I := fun i => i.2 ≤ w) (μ := fun i => i.2) (f := fun i => some (nI (i.1 + wdN k i.2 (w + 1 - i.2)))) ?_ N (0, w) (Nat.le_refl _) (by show w < N; omega)
  · simp only [Nat.add_sub_cancel_left, Nat.zero_add] at key
    exact key
  rintro g ⟨x, m⟩ hm ih
  dsimp only at hm ih ⊢
  unfold fX11_daysLeft_b4
  rw [e]
  cases m with
  | zero => rw [if_pos (nI_lt (by omega) (by omega))]; rfl
  | succ m =>
    have hb := bi_le k (w + 1 - (m + 1))
    rw [if_neg (nI_nlt (by omega) (by omega)), if_pos (in_nI (by omega) (by omega)), nI_clamp (by omega), hnw _ (by omega)]
    unfold nm
    dsimp only
    rw [show (1 : Int32) = nI 1 from rfl, pk_sub (by omega), nI_add, nI_add, show w + 1 - (m + 1) + 1 = w + 1 - m by omega]
    refine (ih (_, m) (by show m ≤ w; omega) (by show m < m + 1; omega)).trans ?_
    show some (nI (x + (1 - bi k (w + 1 - (m + 1))) + wdN k m (w + 1 - m))) = some (nI (x + ((1 - bi k (w + 1 - (m + 1))) + wdN k m (w + 1 - (m + 1) + 1))))
    rw [show w + 1 - (m + 1) + 1 = w + 1 - m by omega, Nat.add_assoc]
theorem ob_agree {N : Nat} (hN : 200 ≤ N) : OB_agree N Rel := by
  intro S M hR
  obtain ⟨k, hk, e2, hF, hw⟩ := hR.fig
  obtain ⟨-, -, ⟨w, hw1, hw9, e3, e4⟩, -⟩ := hR.2.2.2.2.2
  have hq := wd_le k w 1
  unfold fX10_agree fX11_agree
  rw [wd_X hN hk e2 hw9 e3, wd_M hN hw hw9 e4]
  simp only [Option.bind_some]
  rw [e4]
  generalize wdN k w 1 = q at hq ⊢
  rcases Nat.eq_zero_or_pos q with rfl | hp
  · exact ⟨-4, rfl, rfl, hR⟩
  · have hg0 : 0 < Nat.gcd w q := Nat.gcd_pos_of_pos_right w hp
    have hgw : Nat.gcd w q ≤ w := Nat.le_of_dvd hw1 (Nat.gcd_dvd_left w q)
    rw [if_pos (show (0 : Int32) < nI q from nI_lt (a := 0) hp (by omega)), if_neg (nI_ne0 hp (by omega)), agree_X hN hw9 (by omega) hp e3, common_M hN (by omega) (by omega)]
    simp only [Option.bind_some]
    rw [if_pos (nI_ne0 hg0 (by omega)), pk_div (by omega) hg0 (by omega), pk_mul, (agr_d w (by omega) q (by omega) hp).2.2.1]
    exact ⟨_, rfl, rfl, hR⟩
def fdN (k : Nat) : Nat → Nat → Nat → Nat
  | 0, _, _ => 0
  | m + 1, j, c => if bi k j = 1 then fdN k m (j + 1) c else if c = 0 then j else fdN k m (j + 1) (c - 1)
theorem day_X {N k w c : Nat} {S : St} {p : Int32} (hN : 200 ≤ N) (hk : k < 1024) (e2 : S 2 0 = nI k) (hw : w ≤ 9) (e : S 25 0 = nI w) (hc : c < wdN k w 1) : fX10_day_l32 N S p N (nI c, 1) = some (nI (fdN k w 1 c)) := by
  unfold fX10_day_l32
  have key := lpN_ix (body := fun g q => fX10_day_b32 N S p g q.1 q.2) (enc := fun i : Nat × Nat => (nI i.1, nI (w + 1 - i.2))) (I := fun i => i.2 ≤ w ∧ i.1 < wdN k i.2 (w + 1 - i.2)) (μ := fun i => i.2) (f := fun i => some (nI (fdN k i.2 (w + 1 - i.2) i.1))) ?_ N (c, w) ⟨Nat.le_refl _, by show c < wdN k w (w + 1 - w); rw [Nat.add_sub_cancel_left]; exact hc⟩ (by show w < N; omega)
  · simp only [Nat.add_sub_cancel_left] at key
    exact key
  rintro g ⟨x, m⟩ ⟨hm, hx⟩ ih
  dsimp only at hm hx ih ⊢
  have hx9 := wd_le k m (w + 1 - m)
  unfold fX10_day_b32
  rw [e]
  cases m with
  | zero => exact absurd hx (Nat.not_lt_zero _)
  | succ m =>
    have hb := bi_le k (w + 1 - (m + 1))
    have hx' : x < (1 - bi k (w + 1 - (m + 1))) + wdN k m (w + 1 - (m + 1) + 1) := hx
    rw [show w + 1 - (m + 1) + 1 = w + 1 - m by omega] at hx'
    rw [if_neg (nI_nlt (by omega) (by omega)), onStrike_X hk (by omega) (show sh S 2 0 0 = nI k from e2)]
    simp only [Option.bind_some]
    have st : ∀ y, y < wdN k m (w + 1 - m) → fX10_day_j66 N S p g (nI y) (nI (w + 1 - (m + 1))) = some (nI (fdN k m (w + 1 - m) y)) := by
      intro y hy
      unfold fX10_day_j66
      rw [show nI (w + 1 - (m + 1)) + (1 : Int32) = nI (w + 1 - (m + 1) + 1) from nI_1 _, show w + 1 - (m + 1) + 1 = w + 1 - m by omega]
      exact ih (y, m) ⟨by show m ≤ w; omega, hy⟩ (by show m < m + 1; omega)
    show _ = some (nI (if bi k (w + 1 - (m + 1)) = 1 then fdN k m (w + 1 - (m + 1) + 1) x else if x = 0 then w + 1 - (m + 1) else fdN k m (w + 1 - (m + 1) + 1) (x - 1)))
    rw [show w + 1 - (m + 1) + 1 = w + 1 - m by omega]
    rcases (show bi k (w + 1 - (m + 1)) = 0 ∨ bi k (w + 1 - (m + 1)) = 1 by omega) with h | h
    · rw [h] at hx' ⊢
      rw [if_pos (by rfl), if_neg (show ¬ (0 : Nat) = 1 by omega)]
      rcases Nat.eq_zero_or_pos x with rfl | hp
      · rw [if_pos (by rfl), if_pos rfl]
      · rw [if_neg (nI_ne0 hp (by omega)), if_neg (by omega), nI_m1 hp, st _ (by omega)]
    · rw [h] at hx' ⊢
      rw [if_neg (by decide), if_pos rfl, st _ (by omega)]
theorem day_M {N k w c : Nat} {M : St} {p : Int32} (hN : 200 ≤ N) (hnw : NW k M) (hw : w ≤ 9) (hc : c < wdN k w 1) : fX11_day_l33 N M p N (nI c, 1) = some (nI (fdN k w 1 c)) := by
  unfold fX11_day_l33
  have key := lpN_ix (body := fun g q => fX11_day_b33 N M p g q.1 q.2) (enc := fun i : Nat × Nat => (nI i.1, nI (w + 1 - i.2))) (I := fun i => i.2 ≤ w ∧ i.1 < wdN k i.2 (w + 1 - i.2)) (μ := fun i => i.2) (f := fun i => some (nI (fdN k i.2 (w + 1 - i.2) i.1))) ?_ N (c, w) ⟨Nat.le_refl _, by show c < wdN k w (w + 1 - w); rw [Nat.add_sub_cancel_left]; exact hc⟩ (by show w < N; omega)
  · simp only [Nat.add_sub_cancel_left] at key
    exact key
  rintro g ⟨x, m⟩ ⟨hm, hx⟩ ih
  dsimp only at hm hx ih ⊢
  have hx9 := wd_le k m (w + 1 - m)
  unfold fX11_day_b33
  cases m with
  | zero => exact absurd hx (Nat.not_lt_zero _)
  | succ m =>
    have hb := bi_le k (w + 1 - (m + 1))
    have hx' : x < (1 - bi k (w + 1 - (m + 1))) + wdN k m (w + 1 - (m + 1) + 1) := hx
    rw [show w + 1 - (m + 1) + 1 = w + 1 - m by omega] at hx'
    have st : (1 - bi k (w + 1 - (m + 1))) ≤ x → x - (1 - bi k (w + 1 - (m + 1))) < wdN k m (w + 1 - m) → fX11_day_j48 N M p g (nI x) (nI (w + 1 - (m + 1))) = some (nI (fdN k m (w + 1 - m) (x - (1 - bi k (w + 1 - (m + 1)))))) := by
      intro hy hy2
      unfold fX11_day_j48
      rw [if_pos (in_nI (by omega) (by omega)), nI_clamp (by omega), hnw _ (by omega)]
      unfold nm
      dsimp only
      rw [show (1 : Int32) = nI 1 from rfl, pk_sub (by omega), pk_sub hy, nI_add, show w + 1 - (m + 1) + 1 = w + 1 - m by omega]
      exact ih (_, m) ⟨by show m ≤ w; omega, hy2⟩ (by show m < m + 1; omega)
    rw [if_pos (in_nI (by omega) (by omega)), nI_clamp (by omega), hnw _ (by omega)]
    show _ = some (nI (if bi k (w + 1 - (m + 1)) = 1 then fdN k m (w + 1 - (m + 1) + 1) x else if x = 0 then w + 1 - (m + 1) else fdN k m (w + 1 - (m + 1) + 1) (x - 1)))
    rw [show w + 1 - (m + 1) + 1 = w + 1 - m by omega]
    rcases (show bi k (w + 1 - (m + 1)) = 0 ∨ bi k (w + 1 - (m + 1)) = 1 by omega) with h | h
    · rw [h] at hx' st ⊢
      rw [if_neg (by decide), if_neg (show ¬ (0 : Nat) = 1 by omega)]
      rcases Nat.eq_zero_or_pos x with rfl | hp
      · rw [if_pos (by decide), if_pos rfl]
      · rw [if_neg (show ¬ nI x ≤ (0 : Int32) from nI_ge (a := 0) (by omega) (by omega)), if_neg (by omega), st (by omega) (by omega)]
    · rw [h] at hx' st ⊢
      rw [if_pos (by rfl), if_pos rfl, st (by omega) (by omega)]
      rfl
theorem ob_day {N : Nat} (hN : 200 ≤ N) : OB_day N Rel := by
  intro S M p1 hR
  obtain ⟨k, hk, e2, hF, hw⟩ := hR.fig
  obtain ⟨-, -, ⟨w, hw1, hw9, e3, e4⟩, -⟩ := hR.2.2.2.2.2
  have hq := wd_le k w 1
  unfold fX10_day fX11_day
  rw [within_eq, in_lit p1 0 9999 (by omega) (by omega)]
  rcases rng p1 (a := 0) (b := 9999) (by omega) (by omega) with ⟨s, -, hs, rfl⟩ | h
  · have hb1 := rng_t (Nat.zero_le s) hs (by omega)
    rw [if_pos (show (0 : Int32) ≤ nI s ∧ nI s ≤ (9999 : Int32) from hb1), if_pos hb1]
    simp only [Option.bind_some]
    rw [if_neg i10, if_neg i10, wd_X hN hk e2 hw9 e3, wd_M hN hw hw9 e4]
    simp only [Option.bind_some]
    rcases Nat.eq_zero_or_pos (wdN k w 1) with h0 | hp
    · rw [h0]
      exact ⟨-4, rfl, rfl, hR⟩
    · have hm := Nat.mod_lt s hp
      rw [if_pos (show (0 : Int32) < nI (wdN k w 1) from nI_lt (a := 0) hp (by omega)), if_neg (nI_ne0 hp (by omega)), if_pos (nI_ne0 hp (by omega)), if_pos (nI_ne0 hp (by omega)), pk_rem (by omega) hp (by omega), day_X hN hk e2 hw9 e3 hm, day_M hN hw hw9 hm]
      exact ⟨_, rfl, rfl, hR⟩
  · rw [if_neg (show ¬ ((0 : Int32) ≤ p1 ∧ p1 ≤ (9999 : Int32)) from h), if_neg h]
    exact ⟨-1, rfl, rfl, hR⟩

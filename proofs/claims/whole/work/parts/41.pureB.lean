/-! ===== the class's numbers ===== -/
theorem s_l' : ∀ n, n < 32 → ((nI n &&& 31).toBitVec.smod 32).toNat = n := by decide +kernel
theorem bit_X {k d : Nat} (hk : k < 1024) (hd : d < 10) : ((nI k >>> (nI d &&& 31)) &&& 1) = nI (bi k d) := by
  rw [pk_shrN (by omega) (nI d &&& 31) d (by rw [s_l' d (by omega)]), show (1 : Int32) = nI 1 from rfl, pk_andN (Nat.lt_of_le_of_lt (Nat.div_le_self _ _) (by omega)) (m := nI 1) 1 (by decide)]
  rfl
theorem canSay_X {N k n : Nat} (hN : 10 ≤ N) (hk : k < 1024) (hn : n ≤ 99999) : fX3_canSay N (nI k) (nI n) = some (nI (bN (sy k n))) := by
  unfold fX3_canSay fX3_canSay_l4
  refine lpN_ix (enc := fun i : Nat × Nat => (nI i.1, nI i.2)) (I := fun i => i.1 ≤ 99999 / 10 ^ i.2 ∧ i.2 ≤ 4) (μ := fun i => 5 - i.2) (f := fun i => some (nI (bN (sy k i.1)))) ?_ N (n, 0) ⟨by simpa using hn, by simp⟩ (by show 5 - 0 < N; omega)
  rintro g ⟨a, t⟩ ⟨ha, ht⟩ ih
  dsimp only at ha ht ih ⊢
  unfold fX3_canSay_b4
  have ha9 : a ≤ 99999 := Nat.le_trans ha (Nat.div_le_self _ _)
  rw [show (5 : Int32) = nI 5 from rfl, if_neg (nI_ge (by omega) (by omega)), show (10 : Int32) = nI 10 from rfl, pk_rem (by omega) (by omega) (by omega), bit_X hk (by omega), pk_div (by omega) (by omega) (by omega)]
  rw [show (1 : Int32) = nI 1 from rfl, show (0 : Int32) = nI 0 from rfl]
  by_cases hb : bi k (a % 10) = 1
  · rw [if_pos (by rw [hb])]
    have : sy k a = false := by
      by_cases h10 : a < 10
      · rw [sy_lt h10]
        have e : a % 10 = a := by omega
        rw [e] at hb
        rw [hb]; rfl
      · rw [sy_ge h10, hb]; rfl
    rw [this]; rfl
  · have hb0 : bi k (a % 10) = 0 := by have := bi_le k (a % 10); omega
    rw [if_neg (fun h => hb ((nI_eq (by rw [hb0]; omega) (by omega)).mp h))]
    by_cases h10 : a < 10
    · rw [if_pos (by rw [show a / 10 = 0 by omega])]
      have e : a % 10 = a := by omega
      rw [e] at hb0
      rw [sy_lt h10, hb0]; rfl
    · rw [if_neg (fun h => by have := (nI_eq (by omega) (by omega)).mp h; omega), show nI t + nI 1 = nI (t + 1) from nI_add t 1]
      have ht4 : t ≤ 3 := by
        rcases Nat.lt_or_ge t 4 with q | q
        · omega
        · have : t = 4 := by omega
          rw [this] at ha
          omega
      have := ih (a / 10, t + 1) ⟨?_, by show t + 1 ≤ 4; omega⟩ (by show 5 - (t + 1) < 5 - t; omega)
      · dsimp only at this
        rw [this, sy_ge h10, hb0]; rfl
      · show a / 10 ≤ 99999 / 10 ^ (t + 1)
        rw [Nat.pow_succ, ← Nat.div_div_eq_div_mul]
        exact Nat.div_le_div_right ha
theorem pop_ok : ∀ y, y < 1024 → fJ6_bitCount_0f7a4 0 (nI y) = some (nI (bi y 0 + bi y 1 + bi y 2 + bi y 3 + bi y 4 + bi y 5 + bi y 6 + bi y 7 + bi y 8 + bi y 9)) := by decide +kernel
theorem pop_N (N : Nat) (x : Int32) : fJ6_bitCount_0f7a4 N x = fJ6_bitCount_0f7a4 0 x := rfl
theorem wk_ok : ∀ k, k < 1024 → ∀ d, d < 10 → (let y := (4294967295 - k) % 2 ^ (d + 1); bi y 0 + bi y 1 + bi y 2 + bi y 3 + bi y 4 + bi y 5 + bi y 6 + bi y 7 + bi y 8 + bi y 9) = wk k d := by decide +kernel
theorem msk_ok : ∀ d, d < 10 → ((((2 : Int32) <<< (nI d &&& 31)) - 1)).toBitVec.toNat = 2 ^ (d + 1) - 1 := by decide +kernel
theorem not_ok : ∀ k, k < 1024 → (nI k ^^^ (-1 : Int32)).toBitVec.toNat = 4294967295 - k := by decide +kernel
theorem work_X {N k d : Nat} (hk : k < 1024) (hd : d < 10) : fX3_workingUpTo N (nI k) (nI d) = some (nI (wk k d)) := by
  unfold fX3_workingUpTo
  rw [pk_and _ (d + 1) (msk_ok d hd), not_ok k hk, pop_N, pop_ok _ (Nat.lt_of_lt_of_le (Nat.mod_lt _ (Nat.pow_pos (by omega))) (Nat.pow_le_pow_right (n := 2) (by omega) (show d + 1 ≤ 10 by omega)))]
  exact congrArg (fun x => some (nI x)) (wk_ok k hk d hd)
def lnN (n : Nat) : Nat := if n < 100 then (if n < 10 then 1 else 2) else if n < 10000 then (if n < 1000 then 3 else 4) else 5
theorem len_X {N n : Nat} (hn : n ≤ 99999) : fX3_lengthOf N (nI n) = some (nI (lnN n)) := by
  unfold fX3_lengthOf lnN
  rw [show (100 : Int32) = nI 100 from rfl, show (10000 : Int32) = nI 10000 from rfl, show (1000 : Int32) = nI 1000 from rfl, show (10 : Int32) = nI 10 from rfl]
  by_cases h1 : n < 100
  · rw [if_neg (nI_ge h1 (by omega)), if_pos h1]
    by_cases h2 : n < 10
    · rw [if_neg (nI_ge h2 (by omega)), if_pos h2]; rfl
    · rw [if_pos (nI_le (by omega) (by omega)), if_neg h2]; rfl
  · rw [if_pos (nI_le (by omega) (by omega)), if_neg h1]
    by_cases h2 : n < 10000
    · rw [if_neg (nI_ge h2 (by omega)), if_pos h2]
      by_cases h3 : n < 1000
      · rw [if_neg (nI_ge h3 (by omega)), if_pos h3]; rfl
      · rw [if_pos (nI_le (by omega) (by omega)), if_neg h3]; rfl
    · rw [if_pos (nI_le (by omega) (by omega)), if_neg h2]; rfl
theorem ln_pow {n : Nat} (hn : n ≤ 99999) : 1 ≤ lnN n ∧ lnN n ≤ 5 ∧ n < 10 ^ lnN n ∧ (lnN n = 1 ∨ 10 ^ (lnN n - 1) ≤ n) := by
  unfold lnN
  by_cases h1 : n < 100
  · rw [if_pos h1]
    by_cases h2 : n < 10
    · rw [if_pos h2]; exact ⟨by decide, by decide, h2, Or.inl rfl⟩
    · rw [if_neg h2]; exact ⟨by decide, by decide, h1, Or.inr (show 10 ≤ n by omega)⟩
  · rw [if_neg h1]
    by_cases h2 : n < 10000
    · rw [if_pos h2]
      by_cases h3 : n < 1000
      · rw [if_pos h3]; exact ⟨by decide, by decide, h3, Or.inr (show 100 ≤ n by omega)⟩
      · rw [if_neg h3]; exact ⟨by decide, by decide, h2, Or.inr (show 1000 ≤ n by omega)⟩
    · rw [if_neg h2]; exact ⟨by decide, by decide, show n < 100000 by omega, Or.inr (show 10000 ≤ n by omega)⟩
theorem cnt_small {k n : Nat} (hn : n ≤ 99999) : cnt k n < 100001 := by have := cnt_le k n; omega
theorem say58_X {N k n : Nat} (hN : 10 ≤ N) (hk : k < 1024) (hn : n ≤ 99999) : ∀ (K r : Nat), r ≤ 4 → (r = 0 ∨ 1 ≤ n / 10 ^ r) → r < K → fX3_sayable_l58 N (nI k) (nI n) K (nI (wk k 9), nI (wk k 0), nI (if r = 0 then 0 else 10 ^ (r - 1)), nI (cnt k (n / 10 ^ r))) = some (nI (cnt k n)) := by
  intro K r hr hr1 hK
  unfold fX3_sayable_l58
  refine lpN_ix (enc := fun r : Nat => (nI (wk k 9), nI (wk k 0), nI (if r = 0 then 0 else 10 ^ (r - 1)), nI (cnt k (n / 10 ^ r)))) (I := fun r => r ≤ 4 ∧ (r = 0 ∨ 1 ≤ n / 10 ^ r)) (μ := fun r => r) (f := fun _ => some (nI (cnt k n))) ?_ K r ⟨hr, hr1⟩ hK
  rintro g r ⟨h1, h2⟩ ih
  dsimp only at ih ⊢
  unfold fX3_sayable_b58
  rcases Nat.eq_zero_or_pos r with rfl | hpos
  · rw [if_pos (by decide)]
    simp
  · obtain ⟨t, rfl⟩ : ∃ t, r = t + 1 := ⟨r - 1, by omega⟩
    have h2 : 1 ≤ n / 10 ^ (t + 1) := by omega
    rw [if_neg (show ¬ (t + 1 = 0) by omega), show t + 1 - 1 = t by omega]
    have hp : 0 < 10 ^ t := Nat.pow_pos (by omega)
    have hp4 : 10 ^ t ≤ 1000 := Nat.le_trans (Nat.pow_le_pow_right (by omega) (show t ≤ 3 by omega)) (by decide)
    rw [if_neg (nI_nle hp (by omega)), if_pos (nI_ne0 hp (by omega)), pk_div (by omega) hp (by omega), show (10 : Int32) = nI 10 from rfl, pk_div (Nat.lt_of_le_of_lt (Nat.div_le_self _ _) (by omega)) (by omega) (by omega), Nat.div_div_eq_div_mul, ← Nat.pow_succ, canSay_X hN hk (Nat.le_trans (Nat.div_le_self _ _) hn)]
    have hj : ∀ b : Bool, sy k (n / 10 ^ (t + 1)) = b → fX3_sayable_j86 N (nI k) (nI n) g (nI (wk k 9)) (nI (wk k 0)) (nI (10 ^ t)) (nI (cnt k (n / 10 ^ (t + 1)))) (nI (bN b)) = some (nI (cnt k n)) := by
      intro b hb
      unfold fX3_sayable_j86
      rw [if_pos (nI_ne0 hp (by omega)), pk_div (by omega) hp (by omega), show (10 : Int32) = nI 10 from rfl, pk_rem (Nat.lt_of_le_of_lt (Nat.div_le_self _ _) (by omega)) (by omega) (by omega), work_X hk (Nat.mod_lt _ (by omega))]
      have hc := cnt_ge (k := k) h2
      rw [hb] at hc
      have h0 : bN (sy k 0) = wk k 0 := by rw [sy_lt (by omega)]; rfl
      rw [h0] at hc
      have hd := cnt_dp (k := k) (n / 10 ^ (t + 1)) h2 (n / 10 ^ t % 10) (Nat.mod_lt _ (by omega))
      have he : 10 * (n / 10 ^ (t + 1)) + n / 10 ^ t % 10 = n / 10 ^ t := by
        rw [Nat.pow_succ, ← Nat.div_div_eq_div_mul]
        omega
      rw [he, hb, h0] at hd
      simp only [Option.bind_some, nm]
      rw [pk_sub (by omega), pk_sub (by omega), pk_mul, pk_mul, nI_add, nI_add, ← hd, pk_div (by omega) (by omega) (by omega)]
      rcases Nat.eq_zero_or_pos t with rfl | htp
      · have := ih 0 ⟨by omega, Or.inl rfl⟩ (by omega)
        simpa using this
      · have e1 : 10 ^ t / 10 = 10 ^ (t - 1) := by
          obtain ⟨u, rfl⟩ : ∃ u, t = u + 1 := ⟨t - 1, by omega⟩
          rw [Nat.pow_succ, Nat.mul_div_cancel _ (by omega)]; rfl
        have := ih t ⟨by omega, Or.inr ?_⟩ (by omega)
        · rw [if_neg (show ¬ t = 0 by omega)] at this
          rw [e1]
          exact this
        · exact Nat.le_trans h2 (Nat.div_le_div_left (Nat.pow_le_pow_right (by omega) (by omega)) hp)
    show Option.bind (some _) _ = _
    simp only [Option.bind_some]
    cases hb : sy k (n / 10 ^ (t + 1)) with
    | false => rw [if_pos (by rfl)]; exact hj false hb
    | true => rw [if_neg (by decide)]; exact hj true hb
theorem sayable_X {N k n : Nat} (hN : 10 ≤ N) (hk : k < 1024) (hn : n ≤ 99999) : fX3_sayable N (nI k) (nI n) = some (nI (cnt k n)) := by
  obtain ⟨hl1, hl5, hlt, hge⟩ := ln_pow hn
  unfold fX3_sayable
  rw [show (9 : Int32) = nI 9 from rfl, show (0 : Int32) = nI 0 from rfl, work_X hk (by omega), work_X hk (by omega), len_X hn]
  simp only [Option.bind_some]
  unfold fX3_sayable_l22
  have := lpN_ix (body := fun g q => fX3_sayable_b22 N (nI k) (nI n) g q.1 q.2.1 q.2.2.1 q.2.2.2) (enc := fun i : Nat × Nat => (nI (wk k 9), nI (wk k 0), nI (10 ^ i.1), nI i.2)) (I := fun i => 1 ≤ i.2 ∧ i.1 + i.2 = lnN n) (μ := fun i => i.2) (f := fun i => fX3_sayable_j41 N (nI k) (nI n) (nI (wk k 9)) (nI (wk k 0)) (nI (10 ^ (lnN n - 1)))) ?_ N (0, lnN n) ⟨hl1, by simp⟩ (by show lnN n < N; omega)
  · refine Eq.trans this ?_
    unfold fX3_sayable_j41
    have hp : 0 < 10 ^ (lnN n - 1) := Nat.pow_pos (by omega)
    have hp4 : 10 ^ (lnN n - 1) ≤ 10000 := Nat.le_trans (Nat.pow_le_pow_right (by omega) (show lnN n - 1 ≤ 4 by omega)) (by decide)
    have hd : n / 10 ^ (lnN n - 1) < 10 := by
      rw [Nat.div_lt_iff_lt_mul hp, Nat.mul_comm, ← Nat.pow_succ, show (lnN n - 1).succ = lnN n by omega]
      exact hlt
    rw [if_pos (nI_ne0 hp (by omega)), pk_div (by omega) hp (by omega), work_X hk hd]
    simp only [Option.bind_some]
    rw [← cnt_wk _ hd, show (10 : Int32) = nI 10 from rfl, pk_div (by omega) (by omega) (by omega)]
    have h58 := say58_X hN hk hn N (lnN n - 1) (by omega) (by
      rcases hge with h | h
      · left; omega
      · right; exact (Nat.one_le_div_iff hp).mpr h) (by omega)
    refine Eq.trans ?_ h58
    congr 4
    by_cases h1 : lnN n - 1 = 0
    · rw [if_pos h1, h1]
    · rw [if_neg h1]
      obtain ⟨u, hu⟩ : ∃ u, lnN n - 1 = u + 1 := ⟨lnN n - 1 - 1, by omega⟩
      rw [hu, Nat.pow_succ, Nat.mul_div_cancel _ (by omega)]; rfl
  · rintro g ⟨j, q⟩ ⟨h1, h2⟩ ih
    dsimp only at h1 h2 ih ⊢
    unfold fX3_sayable_b22
    by_cases hq : q = 1
    · rw [if_pos (show nI q ≤ (1 : Int32) from nI_le (b := 1) (by omega) (by omega)), show j = lnN n - 1 by omega]
    · have hp4 : 10 ^ j ≤ 10000 := Nat.le_trans (Nat.pow_le_pow_right (by omega) (show j ≤ 4 by omega)) (by decide)
      obtain ⟨r, rfl⟩ : ∃ r, q = r + 1 := ⟨q - 1, by omega⟩
      rw [if_neg (show ¬ nI (r + 1) ≤ (1 : Int32) from nI_ge (a := 1) (by omega) (by omega)), pk_m1, show (10 : Int32) = nI 10 from rfl, pk_mul, ← Nat.pow_succ]
      exact ih (j + 1, r) ⟨by show 1 ≤ r; omega, by show j + 1 + r = lnN n; omega⟩ (by show r < r + 1; omega)
theorem atR_X {N k r : Nat} (hN : 20 ≤ N) (hk : k < 1024) (hr : r ≤ 100000) : ∃ n, n ≤ 100000 ∧ (∀ j, j < n → cnt k j ≤ r) ∧ (n ≤ 99999 → r < cnt k n) ∧ fX3_atRank N (nI k) (nI r) = some (if n ≤ 99999 then nI n else -4) := by
  have key : ∀ (K t n : Nat), t ≤ 17 → t < K → n ≤ 100000 → (∀ j, j < n → cnt k j ≤ r) → (n + 2 ^ t ≤ 100000 → r < cnt k (n + 2 ^ t - 1)) → ∃ z, z ≤ 100000 ∧ (∀ j, j < z → cnt k j ≤ r) ∧ (z ≤ 99999 → r < cnt k z) ∧ fX3_atRank_l5 N (nI k) (nI r) K (nI n, nI (2 ^ t / 2)) = some (if z ≤ 99999 then nI z else -4) := by
    intro K
    induction K with
    | zero => intro t n _ h; omega
    | succ K ih =>
      intro t n ht htK hn h1 h2
      show ∃ z, _ ∧ _ ∧ _ ∧ fX3_atRank_b5 N (nI k) (nI r) (fX3_atRank_l5 N (nI k) (nI r) K) (nI n) (nI (2 ^ t / 2)) = _
      unfold fX3_atRank_b5 fX3_atRank_j37 fX3_atRank_j44
      rcases Nat.eq_zero_or_pos t with rfl | htp
      · refine ⟨n, hn, h1, fun h => ?_, ?_⟩
        · have := h2 (by simpa using (show n + 1 ≤ 100000 by omega))
          simpa using this
        · rw [if_pos (by decide)]
          by_cases hz : n ≤ 99999
          · rw [if_neg (show ¬ (99999 : Int32) < nI n from nI_nlt (b := n) (a := 99999) hz (by omega)), if_pos hz]
          · rw [if_pos (show (99999 : Int32) < nI n from nI_lt (a := 99999) (by omega) (by omega)), if_neg hz]
      · obtain ⟨u, rfl⟩ : ∃ u, t = u + 1 := ⟨t - 1, by omega⟩
        have hp : 0 < 2 ^ u := Nat.pow_pos (by omega)
        have hp16 : 2 ^ u ≤ 65536 := Nat.le_trans (Nat.pow_le_pow_right (by omega) (show u ≤ 16 by omega)) (by decide)
        have e2 : 2 ^ (u + 1) / 2 = 2 ^ u := by rw [Nat.pow_succ, Nat.mul_div_cancel _ (by omega)]
        rw [e2, if_neg (nI_nle hp (by omega)), nI_add, show (1 : Int32) = nI 1 from rfl, pk_sub (by omega), show (2 : Int32) = nI 2 from rfl, pk_div (by omega) (by omega) (by omega)]
        by_cases hb : 99999 < n + 2 ^ u - 1
        · rw [if_pos (show (99999 : Int32) < nI (n + 2 ^ u - 1) from nI_lt (a := 99999) hb (by omega))]
          exact ih u n (by omega) (by omega) hn h1 (fun h => by omega)
        · rw [if_neg (show ¬ (99999 : Int32) < nI (n + 2 ^ u - 1) from nI_nlt (b := n + 2 ^ u - 1) (a := 99999) (by omega) (by omega)), sayable_X (by omega) hk (by omega)]
          simp only [Option.bind_some]
          have hcs := cnt_small (k := k) (n := n + 2 ^ u - 1) (by omega)
          by_cases hc : r < cnt k (n + 2 ^ u - 1)
          · rw [if_pos (nI_lt hc (by omega))]
            exact ih u n (by omega) (by omega) hn h1 (fun _ => hc)
          · rw [if_neg (nI_nlt (by omega) (by omega))]
            refine ih u (n + 2 ^ u) (by omega) (by omega) (by omega) (fun j hj => ?_) (fun h => ?_)
            · exact Nat.le_trans (cnt_mono k (show j ≤ n + 2 ^ u - 1 by omega)) (by omega)
            · have h5 := h2 (by rw [Nat.pow_succ]; omega)
              rw [Nat.pow_succ] at h5
              rw [show n + 2 ^ u + 2 ^ u - 1 = n + 2 ^ u * 2 - 1 by omega]
              exact h5
  have := key N 17 0 (by omega) (by omega) (by omega) (fun j h => by omega) (fun h => by simp at h)
  exact this

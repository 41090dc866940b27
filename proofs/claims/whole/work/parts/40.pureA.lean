/-! ===== the pure side: tools ===== -/
theorem lit (n : Nat) : (OfNat.ofNat n : Int32) = nI n := rfl
theorem lpN_ix {σ ρ ι : Type} {body : (σ → Option ρ) → σ → Option ρ} (enc : ι → σ) (I : ι → Prop) (μ : ι → Nat) (f : ι → Option ρ) (h : ∀ (g : σ → Option ρ) (i : ι), I i → (∀ i', I i' → μ i' < μ i → g (enc i') = f i') → body g (enc i) = f i) : ∀ (k : Nat) (i : ι), I i → μ i < k → lpN body k (enc i) = f i
  | 0, i, _, h2 => absurd h2 (Nat.not_lt_zero _)
  | k + 1, i, h1, h2 => h (lpN body k) i h1 (fun i' h3 h4 => lpN_ix enc I μ f h k i' h3 (by omega))
theorem in_nI {n N : Nat} (h : n < N) (hN : N < 2 ^ 31) : ¬ (nI n < 0 ∨ N ≤ (nI n).toNatClampNeg) := vp_in_nI h hN
/-- the value 0 or 1 of a truth value -/
def bN (b : Bool) : Nat := if b then 1 else 0
theorem bN_le (b : Bool) : bN b ≤ 1 := by cases b <;> decide
theorem bN_t : bN true = 1 := rfl
theorem bN_f : bN false = 0 := rfl
theorem nI_bN (b : Bool) : nI (bN b) = 0 ∨ nI (bN b) = 1 := by cases b <;> simp [bN] <;> decide
theorem within_eq {N : Nat} (p lo hi : Int32) : fX10_isWithin N p lo hi = some (if lo ≤ p ∧ p ≤ hi then 1 else 0) := by
  unfold fX10_isWithin
  by_cases h1 : p < lo
  · rw [if_pos h1, if_neg (fun h => absurd h.1 (Int32.not_le.mpr h1))]
  · rw [if_neg h1]
    by_cases h2 : hi < p
    · rw [if_pos h2, if_neg (fun h => absurd h.2 (Int32.not_le.mpr h2))]
    · rw [if_neg h2, if_pos ⟨Int32.not_lt.mp h1, Int32.not_lt.mp h2⟩]
theorem toInt64_le (a b : Int32) : a.toInt64 ≤ b.toInt64 ↔ a ≤ b := by
  rw [Int64.le_iff_toInt_le, Int32.le_iff_toInt_le, Int32.toInt_toInt64, Int32.toInt_toInt64]
theorem toInt64_lt (a b : Int32) : a.toInt64 < b.toInt64 ↔ a < b := by
  rw [Int64.lt_iff_toInt_lt, Int32.lt_iff_toInt_lt, Int32.toInt_toInt64, Int32.toInt_toInt64]
theorem in_eq {N : Nat} (p lo hi : Int32) : fX11_in N p.toInt64 lo.toInt64 hi.toInt64 = some (if lo ≤ p ∧ p ≤ hi then 1 else 0) := by
  unfold fX11_in
  by_cases h1 : p < lo
  · rw [if_pos ((lg_cmp_lt _ _).mpr ((toInt64_lt _ _).mpr h1)), if_neg (fun h => absurd h.1 (Int32.not_le.mpr h1))]
  · rw [if_neg (fun h => h1 ((toInt64_lt _ _).mp ((lg_cmp_lt _ _).mp h)))]
    by_cases h2 : hi < p
    · rw [if_pos ((lg_cmp_gt _ _).mpr ((toInt64_lt _ _).mpr h2)), if_neg (fun h => absurd h.2 (Int32.not_le.mpr h2))]
    · rw [if_neg (fun h => h2 ((toInt64_lt _ _).mp ((lg_cmp_gt _ _).mp h))), if_pos ⟨Int32.not_lt.mp h1, Int32.not_lt.mp h2⟩]
theorem in_lit {N : Nat} (p : Int32) (a b : Nat) (ha : a < 2 ^ 31) (hb : b < 2 ^ 31) : fX11_in N p.toInt64 (OfNat.ofNat a) (OfNat.ofNat b) = some (if nI a ≤ p ∧ p ≤ nI b then 1 else 0) := by
  rw [← in_eq (N := N), nI_l ha, nI_l hb]
  rfl
/-- within a range, by a number; else outside -/
theorem rng (p : Int32) {a b : Nat} (ha : a < 2 ^ 31) (hb : b < 2 ^ 31) : (∃ n, a ≤ n ∧ n ≤ b ∧ p = nI n) ∨ ¬ (nI a ≤ p ∧ p ≤ nI b) := by
  by_cases h : nI a ≤ p ∧ p ≤ nI b
  · left
    have h0 : ¬ p < 0 := by
      intro h9
      have h1 := Int32.le_iff_toInt_le.mp h.1
      have h2 := Int32.lt_iff_toInt_lt.mp h9
      rw [nI_toInt ha] at h1
      have : (0 : Int32).toInt = 0 := rfl
      omega
    obtain ⟨j, hj, rfl⟩ := nI_of h0
    exact ⟨j, (nI_leI ha hj).mp h.1, (nI_leI hj hb).mp h.2, rfl⟩
  · exact Or.inr h
theorem rng_t {a b n : Nat} (h1 : a ≤ n) (h2 : n ≤ b) (hb : b < 2 ^ 31) : nI a ≤ nI n ∧ nI n ≤ nI b := ⟨nI_le h1 (by omega), nI_le h2 hb⟩
/-! ===== what can be said: figures by a mask ===== -/
def bi (k d : Nat) : Nat := k / 2 ^ d % 2
theorem bi_le (k d : Nat) : bi k d ≤ 1 := by unfold bi; omega
def sy (k n : Nat) : Bool := if n < 10 then bi k n == 0 else (bi k (n % 10) == 0) && sy k (n / 10)
termination_by n
decreasing_by omega
theorem sy_lt {k n : Nat} (h : n < 10) : sy k n = (bi k n == 0) := by rw [sy, if_pos h]
theorem sy_ge {k n : Nat} (h : ¬ n < 10) : sy k n = ((bi k (n % 10) == 0) && sy k (n / 10)) := by rw [sy, if_neg h]
theorem sy_10 {k h d : Nat} (hh : 1 ≤ h) (hd : d < 10) : sy k (10 * h + d) = ((bi k d == 0) && sy k h) := by
  rw [sy_ge (by omega), show (10 * h + d) % 10 = d by omega, show (10 * h + d) / 10 = h by omega]
def cnt (k : Nat) : Nat → Nat
  | 0 => bN (sy k 0)
  | n + 1 => cnt k n + bN (sy k (n + 1))
def wk (k : Nat) : Nat → Nat
  | 0 => bN (bi k 0 == 0)
  | n + 1 => wk k n + bN (bi k (n + 1) == 0)
theorem cnt_le (k : Nat) : ∀ n, cnt k n ≤ n + 1
  | 0 => bN_le _
  | n + 1 => by have := cnt_le k n; have := bN_le (sy k (n + 1)); simp only [cnt]; omega
theorem wk_le (k : Nat) : ∀ n, wk k n ≤ n + 1
  | 0 => bN_le _
  | n + 1 => by have := wk_le k n; have := bN_le (bi k (n + 1) == 0); simp only [wk]; omega
theorem cnt_wk {k : Nat} : ∀ d, d < 10 → cnt k d = wk k d
  | 0, _ => by simp only [cnt, wk, sy_lt (show 0 < 10 by omega)]
  | d + 1, h => by simp only [cnt, wk, cnt_wk d (by omega), sy_lt h]
theorem cnt_mono (k : Nat) {a b : Nat} (h : a ≤ b) : cnt k a ≤ cnt k b := by
  induction b with
  | zero => rw [show a = 0 by omega]; exact Nat.le_refl _
  | succ b ih =>
    rcases Nat.lt_or_ge a (b + 1) with h1 | h1
    · have := ih (by omega); simp only [cnt]; omega
    · rw [show a = b + 1 by omega]; exact Nat.le_refl _
theorem bN_and (a b : Bool) : bN (a && b) = bN a * bN b := by cases a <;> cases b <;> rfl
theorem cnt_10 {k h : Nat} (hh : 1 ≤ h) : ∀ d, d < 10 → cnt k (10 * h + d) = cnt k (10 * h - 1) + bN (sy k h) * wk k d
  | 0, _ => by
    have e : 10 * h + 0 = (10 * h - 1) + 1 := by omega
    rw [e]
    simp only [cnt]
    rw [← e, sy_10 hh (by omega), bN_and, wk, Nat.mul_comm (bN (bi k 0 == 0)) (bN (sy k h))]
  | d + 1, hd => by
    have e : 10 * h + (d + 1) = (10 * h + d) + 1 := by omega
    rw [e]
    simp only [cnt]
    rw [← e, cnt_10 hh d (by omega), sy_10 hh hd, bN_and, wk, Nat.mul_add, Nat.mul_comm (bN (sy k h)) (bN (bi k (d + 1) == 0)), Nat.add_assoc]
theorem cnt_ge {k h : Nat} (hh : 1 ≤ h) : bN (sy k h) + bN (sy k 0) ≤ cnt k h := by
  obtain ⟨g, rfl⟩ : ∃ g, h = g + 1 := ⟨h - 1, by omega⟩
  have h1 := cnt_mono k (Nat.zero_le g)
  simp only [cnt] at h1 ⊢
  omega
theorem cnt_dp {k : Nat} : ∀ h, 1 ≤ h → ∀ d, d < 10 → cnt k (10 * h + d) = wk k 9 + (cnt k h - bN (sy k h) - bN (sy k 0)) * wk k 9 + bN (sy k h) * wk k d
  | 0, h, _, _ => absurd h (by omega)
  | 1, _, d, hd => by
    rw [cnt_10 (by omega) d hd, show 10 * 1 - 1 = 9 by omega, cnt_wk 9 (by omega)]
    have h9 : cnt k 1 = bN (sy k 0) + bN (sy k 1) := rfl
    have : cnt k 1 - bN (sy k 1) - bN (sy k 0) = 0 := by omega
    rw [this]
    omega
  | h + 2, _, d, hd => by
    rw [cnt_10 (by omega) d hd, show 10 * (h + 2) - 1 = 10 * (h + 1) + 9 by omega, cnt_dp (h + 1) (by omega) 9 (by omega)]
    have h1 := cnt_ge (k := k) (h := h + 1) (by omega)
    have h2 : cnt k (h + 2) = cnt k (h + 1) + bN (sy k (h + 2)) := rfl
    have h3 : cnt k (h + 2) - bN (sy k (h + 2)) - bN (sy k 0) = (cnt k (h + 1) - bN (sy k (h + 1)) - bN (sy k 0)) + bN (sy k (h + 1)) := by omega
    rw [h3, Nat.add_mul]
    omega

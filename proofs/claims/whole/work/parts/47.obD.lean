/-! ===== back; what is undone ===== -/
theorem back_M {N t : Nat} {M : St} (hN : 100 ≤ N) (ht : t < 2) (e : M 13 0 = nI (t + 1)) : fX11_back N M = some (nI t, stf (va_up (stf M 13 (nI t)) 9 (va_cpy (M 12) (M 9) (20 * t) 0 20)) 11 0) := by
  have key : fX11_back_l22 N N (nI 0, va_up (stf M 13 (nI t)) 9 (va_cpy (M 12) (M 9) (20 * t) 0 0)) = fX11_back_j54 N (va_up (stf M 13 (nI t)) 9 (va_cpy (M 12) (M 9) (20 * t) 0 20)) := by
    unfold fX11_back_l22
    refine lpN_ix (enc := fun i : Nat => (nI i, va_up (stf M 13 (nI t)) 9 (va_cpy (M 12) (M 9) (20 * t) 0 i))) (I := fun i => i ≤ 20) (μ := fun i => 20 - i) (f := fun _ => fX11_back_j54 N (va_up (stf M 13 (nI t)) 9 (va_cpy (M 12) (M 9) (20 * t) 0 20))) ?_ N 0 (by omega) (by omega)
    intro g i hi ih
    dsimp only at ih ⊢
    unfold fX11_back_b22
    by_cases h : 20 ≤ i
    · rw [if_pos (show (20 : Int32) ≤ nI i from nI_le (a := 20) h (by omega)), show i = 20 by omega]
    · have e' : (va_up (stf M 13 (nI t)) 9 (va_cpy (M 12) (M 9) (20 * t) 0 i)) 13 0 = nI t := rfl
      rw [if_neg (show ¬ (20 : Int32) ≤ nI i from nI_ge (b := 20) (by omega) (by omega)), e', show (20 : Int32) = nI 20 from rfl, pk_mul, nI_add, if_pos (in_nI (by omega) (by omega)), if_pos (in_nI (by omega) (by omega)), nI_clamp (by omega), nI_clamp (by omega), show nI i + (1 : Int32) = nI (i + 1) from nI_1 i, sti_up]
      have := ih (i + 1) (by omega) (by omega)
      rw [← cpy_s, Nat.zero_add] at this
      exact this
  unfold fX11_back
  rw [e, if_neg (show ¬ nI (t + 1) = (0 : Int32) from nI_ne0 (by omega) (by omega)), nI_pred]
  rw [cpy_0] at key
  have e9 : va_up (stf M 13 (nI t)) 9 (M 9) = stf M 13 (nI t) := up_self (stf M 13 (nI t)) 9
  rw [e9] at key
  refine Eq.trans key ?_
  rfl
theorem ob_back {N : Nat} (hN : 100 ≤ N) : OB_back N Rel := by
  intro S M hR
  obtain ⟨t, ht, e1, e3, hj⟩ := hR.2.2.1
  have e1' : sh S 7 0 0 = nI t := e1
  rcases (show t = 0 ∨ t = 1 ∨ t = 2 by omega) with rfl | rfl | rfl
  · refine ⟨-2, pt (pt S 7 5 (sh S 7)) 2 2 (sh S 2), M, ?_, ?_, ?_⟩
    · unfold fX10_back fX1_restore
      rw [e1', if_neg (by decide)]
      rfl
    · unfold fX11_back
      rw [e3, if_pos (by rfl)]
    · exact ⟨hR.1.congr rfl rfl rfl rfl, hR.2.1.congr rfl rfl rfl rfl rfl rfl rfl rfl, hR.2.2.1.congr rfl rfl rfl rfl rfl rfl rfl, hR.2.2.2.1.congr rfl rfl rfl rfl rfl rfl, hR.2.2.2.2.1.congr rfl rfl, hR.2.2.2.2.2.congr rfl rfl rfl rfl rfl rfl rfl rfl rfl rfl rfl rfl⟩
  · obtain ⟨k0, a1, a2⟩ := hj 0 (by omega)
    refine ⟨nI 0, stf (pt (pt S 7 5 (stf (sh S 7) 0 (nI 0))) 2 2 (va_up (stf (sh S 2) 0 (S 8 0)) 1 (va_cpy (S 9) (S 3) 0 0 10))) 4 0, _, ?_, back_M hN (by omega) e3, ?_⟩
    · unfold fX10_back fX1_restore
      rw [e1', if_pos (by decide), show nI 1 - (1 : Int32) = nI 0 from nI_pred 0, if_pos (show (stf (sh S 7) 0 (nI 0)) 0 0 = 0 from rfl)]
      rfl
    · refine ⟨hR.1.congr rfl rfl rfl rfl, ⟨k0, 0, a1, a2.congr (fun x hx => by show va_cpy (S 9) (S 3) 0 0 10 x = _; rw [cpy_in _ _ (by omega)]; congr 1; omega) (fun x hx => by show va_cpy (M 12) (M 9) (20 * 0) 0 20 x = _; rw [cpy_in _ _ (by omega)]; rfl), by omega, rfl, rfl, trivial⟩, ⟨0, by omega, rfl, rfl, fun j hjt => absurd hjt (by omega)⟩, hR.2.2.2.1.congr rfl rfl rfl rfl rfl rfl, hR.2.2.2.2.1.congr rfl rfl, hR.2.2.2.2.2.congr rfl rfl rfl rfl rfl rfl rfl rfl rfl rfl rfl rfl⟩
  · obtain ⟨k1, a1, a2⟩ := hj 1 (by omega)
    refine ⟨nI 1, stf (pt (pt S 7 5 (stf (sh S 7) 0 (nI 1))) 2 2 (va_up (stf (sh S 2) 0 (S 10 0)) 1 (va_cpy (S 11) (S 3) 0 0 10))) 4 0, _, ?_, back_M hN (by omega) e3, ?_⟩
    · unfold fX10_back fX1_restore
      rw [e1', if_pos (by decide), show nI 2 - (1 : Int32) = nI 1 from nI_pred 1, if_neg (show ¬ (stf (sh S 7) 0 (nI 1)) 0 0 = 0 from i10), if_pos (show (stf (sh S 7) 0 (nI 1)) 0 0 = 1 from rfl)]
      rfl
    · refine ⟨hR.1.congr rfl rfl rfl rfl, ⟨k1, 0, a1, a2.congr (fun x hx => by show va_cpy (S 11) (S 3) 0 0 10 x = _; rw [cpy_in _ _ (by omega)]; congr 1; omega) (fun x hx => by show va_cpy (M 12) (M 9) (20 * 1) 0 20 x = _; rw [cpy_in _ _ (by omega)]; rfl), by omega, rfl, rfl, trivial⟩, ⟨1, by omega, rfl, rfl, fun j hjt => ?_⟩, hR.2.2.2.1.congr rfl rfl rfl rfl rfl rfl, hR.2.2.2.2.1.congr rfl rfl, hR.2.2.2.2.2.congr rfl rfl rfl rfl rfl rfl rfl rfl rfl rfl rfl rfl⟩
      rcases (show j = 0 by omega) with rfl
      obtain ⟨k0, b1, b2⟩ := hj 0 (by omega)
      exact ⟨k0, b1, b2⟩
/-! bits of a mask -/
theorem bi_tb (k d : Nat) : bi k d = bN (k.testBit d) := by
  unfold bi bN
  rw [Nat.testBit_eq_decide_div_mod_eq]
  by_cases h : k / 2 ^ d % 2 = 1
  · simp [h]
  · simp [h]; omega
theorem bi_xor {k f g : Nat} : bi (k ^^^ 2 ^ f) g = if g = f then 1 - bi k f else bi k g := by
  rw [bi_tb, bi_tb, bi_tb, Nat.testBit_xor, Nat.testBit_two_pow]
  by_cases h : g = f
  · subst h
    rw [if_pos rfl]
    cases k.testBit g <;> simp [bN]
  · rw [if_neg h]
    have : ¬ f = g := fun h2 => h h2.symm
    simp [this]
theorem xor_lt {k f : Nat} (hk : k < 1024) (hf : f < 10) : k ^^^ 2 ^ f < 1024 := by
  have h1 : 2 ^ f < 2 ^ 10 := Nat.pow_lt_pow_right (by omega) hf
  exact Nat.xor_lt_two_pow (n := 10) hk h1
theorem xor_xor' (k f : Nat) : k ^^^ 2 ^ f ^^^ 2 ^ f = k := by rw [Nat.xor_assoc, Nat.xor_self, Nat.xor_zero]
theorem nx_xor (a b : Nat) : nI a ^^^ nI b = nI (a ^^^ b) := by
  apply Int32.toBitVec_inj.1
  show BitVec.ofNat 32 a ^^^ BitVec.ofNat 32 b = BitVec.ofNat 32 (a ^^^ b)
  apply BitVec.eq_of_getLsbD_eq
  intro i hi
  simp [hi]
theorem shl_X : ∀ f, f < 10 → ((1 : Int32) <<< (nI f &&& 31)) = nI (2 ^ f) := by decide +kernel
theorem xor_X {k f : Nat} (hf : f < 10) : nI k ^^^ ((1 : Int32) <<< (nI f &&& 31)) = nI (k ^^^ 2 ^ f) := by rw [shl_X f hf, nx_xor]

/-! ===== copies of rows; keep and back ===== -/
theorem cpy_0 {α : Type} (f g : Nat → α) (sp dp : Nat) : va_cpy f g sp dp 0 = g := by
  funext k
  unfold va_cpy
  rw [if_neg (by omega)]
theorem cpy_s (f g : Nat → Int32) (sp dp i : Nat) : upd (va_cpy f g sp dp i) (dp + i) (f (sp + i)) = va_cpy f g sp dp (i + 1) := by
  funext k
  by_cases h : k = dp + i
  · subst h
    rw [upd_s]
    unfold va_cpy
    rw [if_pos (by omega), show dp + i - dp = i by omega]
  · rw [upd_n _ _ h]
    unfold va_cpy
    by_cases h2 : dp ≤ k ∧ k < dp + i
    · rw [if_pos h2, if_pos (by omega)]
    · rw [if_neg h2, if_neg (by omega)]
theorem cpy_in {α : Type} (f g : Nat → α) {sp dp n k : Nat} (h : dp ≤ k ∧ k < dp + n) : va_cpy f g sp dp n k = f (sp + (k - dp)) := by
  unfold va_cpy
  rw [if_pos h]
theorem cpy_out {α : Type} (f g : Nat → α) {sp dp n k : Nat} (h : ¬ (dp ≤ k ∧ k < dp + n)) : va_cpy f g sp dp n k = g k := by
  unfold va_cpy
  rw [if_neg h]
theorem up_self (M : St) (k : Nat) : va_up M k (M k) = M := by
  funext j
  unfold va_up
  by_cases h : j = k
  · rw [if_pos h, h]
  · rw [if_neg h]
theorem sti_up (M : St) (k : Nat) (f : Nat → Int32) (j : Nat) (v : Int32) : sti (va_up M k f) k j v = va_up M k (upd f j v) := by
  funext i
  unfold sti va_up
  by_cases h : i = k
  · rw [if_pos h, if_pos h, if_pos rfl]
  · rw [if_neg h, if_neg h, if_neg h]
theorem FR.congr {k : Nat} {si row si' row' : Nat → Int32} (h : FR k si row) (h1 : ∀ x, x < 10 → si' x = si x) (h2 : ∀ x, x < 20 → row' x = row x) : FR k si' row' := by
  refine ⟨h.1, fun f hf => ?_⟩
  obtain ⟨a, b, g, hg, c⟩ := h.2 f hf
  exact ⟨by rw [h2 f (by omega)]; exact a, by rw [h1 f hf, h2 (10 + f) (by omega)]; exact b, g, hg, by rw [h2 (10 + f) (by omega)]; exact c⟩
theorem keep_M {N t : Nat} {M : St} (hN : 100 ≤ N) (ht : t < 2) (e : M 13 0 = nI t) : fX11_keep N M = some (nI (t + 1), stf (va_up M 12 (va_cpy (M 9) (M 12) 0 (20 * t) 20)) 13 (nI (t + 1))) := by
  have key : fX11_keep_l13 N N (nI 0, va_up M 12 (va_cpy (M 9) (M 12) 0 (20 * t) 0)) = fX11_keep_j45 N (va_up M 12 (va_cpy (M 9) (M 12) 0 (20 * t) 20)) := by
    unfold fX11_keep_l13
    refine lpN_ix (enc := fun i : Nat => (nI i, va_up M 12 (va_cpy (M 9) (M 12) 0 (20 * t) i))) (I := fun i => i ≤ 20) (μ := fun i => 20 - i) (f := fun _ => fX11_keep_j45 N (va_up M 12 (va_cpy (M 9) (M 12) 0 (20 * t) 20))) ?_ N 0 (by omega) (by omega)
    intro g i hi ih
    dsimp only at ih ⊢
    unfold fX11_keep_b13
    by_cases h : 20 ≤ i
    · rw [if_pos (show (20 : Int32) ≤ nI i from nI_le (a := 20) h (by omega)), show i = 20 by omega]
    · have e' : (va_up M 12 (va_cpy (M 9) (M 12) 0 (20 * t) i)) 13 0 = nI t := e
      rw [if_neg (show ¬ (20 : Int32) ≤ nI i from nI_ge (b := 20) (by omega) (by omega)), if_pos (in_nI (by omega) (by omega)), e', show (20 : Int32) = nI 20 from rfl, pk_mul, nI_add, if_pos (in_nI (by omega) (by omega)), nI_clamp (by omega), nI_clamp (by omega), show nI i + (1 : Int32) = nI (i + 1) from nI_1 i, sti_up]
      have := ih (i + 1) (by omega) (by omega)
      rw [← cpy_s, Nat.zero_add] at this
      exact this
  unfold fX11_keep
  rw [e, if_neg (show ¬ nI t = (2 : Int32) from fun h => by have := (nI_eq (b := 2) (by omega) (by omega)).mp h; omega)]
  rw [cpy_0, up_self] at key
  refine Eq.trans key ?_
  unfold fX11_keep_j45
  have e' : (va_up M 12 (va_cpy (M 9) (M 12) 0 (20 * t) 20)) 13 0 = nI t := e
  rw [e', show nI t + (1 : Int32) = nI (t + 1) from nI_1 t]
  rfl
theorem ob_keep {N : Nat} (hN : 100 ≤ N) : OB_keep N Rel := by
  intro S M hR
  obtain ⟨k, hk, e2, hF, hw⟩ := hR.fig
  obtain ⟨t, ht, e1, e3, hj⟩ := hR.2.2.1
  have e1' : sh S 7 0 0 = nI t := e1
  rcases (show t = 0 ∨ t = 1 ∨ t = 2 by omega) with rfl | rfl | rfl
  · refine ⟨nI 1, pt S 7 5 (stf (pt (sh S 7) 1 2 (va_up (stf (sh (sh S 7) 1) 0 (S 2 0)) 1 (va_cpy (S 3) (S 9) 0 0 10))) 0 (nI 1)), _, ?_, keep_M hN (by omega) e3, ?_⟩
    · unfold fX10_keep fX1_put
      rw [e1', if_pos (by decide), if_pos (by rfl)]
      unfold fX0_copyFrom
      have f1 : (pt (sh S 7) 1 2 (va_up (stf (sh (sh S 7) 1) 0 (sh S 2 0 0)) 1 (va_cpy (sh S 2 1) (stf (sh (sh S 7) 1) 0 (sh S 2 0 0) 1) 0 0 10))) 0 0 = nI 0 := e1
      simp only [Option.bind_some]
      rw [f1]
      rfl
    · refine ⟨hR.1.congr rfl rfl rfl rfl, hR.2.1.congr rfl rfl rfl rfl rfl rfl rfl rfl, ⟨1, by omega, rfl, rfl, fun j hjt => ?_⟩, hR.2.2.2.1.congr rfl rfl rfl rfl rfl rfl, hR.2.2.2.2.1.congr rfl rfl, hR.2.2.2.2.2.congr rfl rfl rfl rfl rfl rfl rfl rfl rfl rfl rfl rfl⟩
      rcases (show j = 0 by omega) with rfl
      exact ⟨k, e2, hF.congr (fun x hx => by show va_cpy (S 3) (S 9) 0 0 10 x = _; rw [cpy_in _ _ (by omega)]; congr 1; omega) (fun x hx => by show va_cpy (M 9) (M 12) 0 (20 * 0) 20 (20 * 0 + x) = _; rw [cpy_in _ _ (by omega)]; congr 1; omega)⟩
  · refine ⟨nI 2, pt S 7 5 (stf (pt (sh S 7) 3 2 (va_up (stf (sh (sh S 7) 3) 0 (S 2 0)) 1 (va_cpy (S 3) (S 11) 0 0 10))) 0 (nI 2)), _, ?_, keep_M hN (by omega) e3, ?_⟩
    · unfold fX10_keep fX1_put
      rw [e1', if_pos (by decide), if_neg (by decide), if_pos (by rfl)]
      unfold fX0_copyFrom
      have f1 : (pt (sh S 7) 3 2 (va_up (stf (sh (sh S 7) 3) 0 (sh S 2 0 0)) 1 (va_cpy (sh S 2 1) (stf (sh (sh S 7) 3) 0 (sh S 2 0 0) 1) 0 0 10))) 0 0 = nI 1 := e1
      simp only [Option.bind_some]
      rw [f1]
      rfl
    · refine ⟨hR.1.congr rfl rfl rfl rfl, hR.2.1.congr rfl rfl rfl rfl rfl rfl rfl rfl, ⟨2, by omega, rfl, rfl, fun j hjt => ?_⟩, hR.2.2.2.1.congr rfl rfl rfl rfl rfl rfl, hR.2.2.2.2.1.congr rfl rfl, hR.2.2.2.2.2.congr rfl rfl rfl rfl rfl rfl rfl rfl rfl rfl rfl rfl⟩
      rcases (show j = 0 ∨ j = 1 by omega) with rfl | rfl
      · obtain ⟨k0, a1, a2⟩ := hj 0 (by omega)
        exact ⟨k0, a1, a2.congr (fun x hx => rfl) (fun x hx => by show va_cpy (M 9) (M 12) 0 (20 * 1) 20 (20 * 0 + x) = _; rw [cpy_out _ _ (by omega)])⟩
      · exact ⟨k, e2, hF.congr (fun x hx => by show va_cpy (S 3) (S 11) 0 0 10 x = _; rw [cpy_in _ _ (by omega)]; congr 1; omega) (fun x hx => by show va_cpy (M 9) (M 12) 0 (20 * 1) 20 (20 * 1 + x) = _; rw [cpy_in _ _ (by omega)]; congr 1; omega)⟩
  · refine ⟨-3, pt S 7 5 (sh S 7), M, ?_, ?_, ?_⟩
    · unfold fX10_keep fX1_put
      rw [e1', if_neg (by decide)]
      rfl
    · unfold fX11_keep
      rw [e3, if_pos (by rfl)]
    · exact ⟨hR.1.congr rfl rfl rfl rfl, hR.2.1.congr rfl rfl rfl rfl rfl rfl rfl rfl, hR.2.2.1.congr rfl rfl rfl rfl rfl rfl rfl, hR.2.2.2.1.congr rfl rfl rfl rfl rfl rfl, hR.2.2.2.2.1.congr rfl rfl, hR.2.2.2.2.2.congr rfl rfl rfl rfl rfl rfl rfl rfl rfl rfl rfl rfl⟩

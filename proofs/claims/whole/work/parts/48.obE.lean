/-! ===== undo, strike, standIn ===== -/
theorem US.congr {cf bf : Int32} {k k' : Nat} {si si' s2 : Nat → Int32} (h : US cf bf k si k' si') (hs : ∀ x, x < 10 → s2 x = si x) : US cf bf k s2 k' si' := by
  rcases h with ⟨f, h1, h2, h3, h4, h5⟩ | ⟨f, g, h1, h2, h3, h4, h5, h6⟩
  · exact Or.inl ⟨f, h1, h2, h3, h4, fun x hx => by rw [hs x hx]; exact h5 x hx⟩
  · exact Or.inr ⟨f, g, h1, h2, h3, h4, h5, fun x hx => by rw [hs x hx]; exact h6 x hx⟩
theorem UC.congr {c5 c6 m10 c5' c6' m10' : Nat → Int32} : ∀ (u k : Nat) (si si' : Nat → Int32), (∀ j, j < u → c5' j = c5 j) → (∀ j, j < u → c6' j = c6 j) → (∀ j, j < 20 * u → m10' j = m10 j) → (∀ x, x < 10 → si' x = si x) → UC c5 c6 m10 u k si → UC c5' c6' m10' u k si'
  | 0, _, _, _, _, _, _, _, _ => trivial
  | u + 1, k, si, si', h5, h6, hm, hs, ⟨k2, s2, a, b, c⟩ => ⟨k2, s2, a.congr (fun _ _ => rfl) (fun x hx => hm _ (by omega)), by rw [h5 u (by omega), h6 u (by omega)]; exact b.congr hs, UC.congr u k2 s2 s2 (fun j h => h5 j (by omega)) (fun j h => h6 j (by omega)) (fun j h => hm j (by omega)) (fun _ _ => rfl) c⟩
theorem UC.shift {c5 c6 m10 : Nat → Int32} : ∀ (u k : Nat) (si : Nat → Int32), UC c5 c6 m10 (u + 1) k si → UC (fun j => c5 (j + 1)) (fun j => c6 (j + 1)) (fun j => m10 (20 + j)) u k si
  | 0, _, _, _ => trivial
  | u + 1, k, si, ⟨k2, s2, a, b, c⟩ => ⟨k2, s2, a.congr (fun _ _ => rfl) (fun x hx => by show m10 (20 + (20 * u + x)) = m10 (20 * (u + 1) + x); congr 1; omega), b, UC.shift u k2 s2 c⟩
theorem undo_M {N v : Nat} {M : St} (hN : 100 ≤ N) (hv : v < 8) (e : M 11 0 = nI (v + 1)) : fX11_undo N M = some (nI v, va_up (stf M 11 (nI v)) 9 (va_cpy (M 10) (M 9) (20 * v) 0 20)) := by
  have key : fX11_undo_l22 N N (nI 0, va_up (stf M 11 (nI v)) 9 (va_cpy (M 10) (M 9) (20 * v) 0 0)) = fX11_undo_j54 N (va_up (stf M 11 (nI v)) 9 (va_cpy (M 10) (M 9) (20 * v) 0 20)) := by
    unfold fX11_undo_l22
    refine lpN_ix (enc := fun i : Nat => (nI i, va_up (stf M 11 (nI v)) 9 (va_cpy (M 10) (M 9) (20 * v) 0 i))) (I := fun i => i ≤ 20) (μ := fun i => 20 - i) (f := fun _ => fX11_undo_j54 N (va_up (stf M 11 (nI v)) 9 (va_cpy (M 10) (M 9) (20 * v) 0 20))) ?_ N 0 (by omega) (by omega)
    intro g i hi ih
    dsimp only at ih ⊢
    unfold fX11_undo_b22
    by_cases h : 20 ≤ i
    · rw [if_pos (show (20 : Int32) ≤ nI i from nI_le (a := 20) h (by omega)), show i = 20 by omega]
    · have e' : (va_up (stf M 11 (nI v)) 9 (va_cpy (M 10) (M 9) (20 * v) 0 i)) 11 0 = nI v := rfl
      rw [if_neg (show ¬ (20 : Int32) ≤ nI i from nI_ge (b := 20) (by omega) (by omega)), e', show (20 : Int32) = nI 20 from rfl, pk_mul, nI_add, if_pos (in_nI (by omega) (by omega)), if_pos (in_nI (by omega) (by omega)), nI_clamp (by omega), nI_clamp (by omega), show nI i + (1 : Int32) = nI (i + 1) from nI_1 i, sti_up]
      have := ih (i + 1) (by omega) (by omega)
      rw [← cpy_s, Nat.zero_add] at this
      exact this
  unfold fX11_undo
  rw [e, if_neg (show ¬ nI (v + 1) = (0 : Int32) from nI_ne0 (by omega) (by omega)), nI_pred]
  rw [cpy_0] at key
  have e9 : va_up (stf M 11 (nI v)) 9 (M 9) = stf M 11 (nI v) := up_self (stf M 11 (nI v)) 9
  rw [e9] at key
  exact Eq.trans key rfl
theorem nI_ne_m1 {g : Nat} (h : g < 2 ^ 31) : ¬ nI g = (-1 : Int32) := by
  intro h9
  have h1 : (nI g).toInt = (-1 : Int32).toInt := by rw [h9]
  rw [nI_toInt h] at h1
  have h2 : (-1 : Int32).toInt = -1 := by decide
  omega
theorem ob_undo {N : Nat} (hN : 100 ≤ N) : OB_undo N Rel := by
  intro S M hR
  obtain ⟨k, u, e2, hF, hu, u1, u2, hU⟩ := hR.2.1
  have u1' : sh S 4 0 0 = nI u := u1
  rcases Nat.eq_zero_or_pos u with rfl | hp
  · refine ⟨-2, pt (pt S 4 3 (sh S 4)) 2 2 (sh S 2), M, ?_, ?_, ?_⟩
    · unfold fX10_undo fX4_takeBack
      rw [u1', if_neg (by decide)]
      rfl
    · unfold fX11_undo
      rw [u2, if_pos (by rfl)]
    · exact ⟨hR.1.congr rfl rfl rfl rfl, hR.2.1.congr rfl rfl rfl rfl rfl rfl rfl rfl, hR.2.2.1.congr rfl rfl rfl rfl rfl rfl rfl, hR.2.2.2.1.congr rfl rfl rfl rfl rfl rfl, hR.2.2.2.2.1.congr rfl rfl, hR.2.2.2.2.2.congr rfl rfl rfl rfl rfl rfl rfl rfl rfl rfl rfl rfl⟩
  · obtain ⟨v, rfl⟩ : ∃ v, u = v + 1 := ⟨u - 1, by omega⟩
    obtain ⟨k', si', hF', hUS, hUC⟩ := hU
    have hsnap : ∀ (si2 : Nat → Int32), (∀ x, x < 10 → si2 x = si' x) → FR k' si2 (va_cpy (M 10) (M 9) (20 * v) 0 20) := fun si2 h => hF'.congr h (fun x hx => by rw [cpy_in _ _ (by omega)]; rfl)
    have g0 : (0 : Int32) < nI (v + 1) := nI_lt (a := 0) (by omega) (by omega)
    have g1 : (stf (sh S 4) 0 (nI v)) 0 0 = nI v := rfl
    have hq : ¬ (nI v < 0 ∨ 8 ≤ v) := by
      have := in_nI (n := v) (N := 8) (by omega) (by omega)
      rwa [nI_clamp (by omega)] at this
    rcases hUS with ⟨f, hf, a1, a2, a3, a4⟩ | ⟨f, g, hf, hg, a1, a2, a3, a4⟩
    · refine ⟨nI v, pt (pt S 4 3 (stf (sh S 4) 0 (nI v))) 2 2 (stf (sh S 2) 0 (nI k')), _, ?_, undo_M hN (by omega) u2, ?_⟩
      · unfold fX10_undo fX4_takeBack
        have b1 : (stf (sh S 4) 0 (nI v)) 1 v = nI f := a1
        have b2 : (stf (sh S 4) 0 (nI v)) 2 v = -1 := a2
        have b3 : sh S 2 0 0 = nI k := e2
        rw [u1', if_pos g0, nI_pred, g1, if_pos (in_nI (by omega) (by omega)), nI_clamp (by omega), b1]
        unfold nm
        dsimp only
        rw [if_pos hq, b2, if_pos (by rfl), b3, xor_X hf, ← a3]
        rfl
      · refine ⟨hR.1.congr rfl rfl rfl rfl, ⟨k', v, rfl, hsnap _ (fun x hx => (a4 x hx).symm), by omega, rfl, rfl, ?_⟩, hR.2.2.1.congr rfl rfl rfl rfl rfl rfl rfl, hR.2.2.2.1.congr rfl rfl rfl rfl rfl rfl, hR.2.2.2.2.1.congr rfl rfl, hR.2.2.2.2.2.congr rfl rfl rfl rfl rfl rfl rfl rfl rfl rfl rfl rfl⟩
        exact UC.congr v k' si' (S 3) (fun _ _ => rfl) (fun _ _ => rfl) (fun _ _ => rfl) (fun x hx => (a4 x hx).symm) hUC
    · refine ⟨nI v, pt (pt S 4 3 (stf (sh S 4) 0 (nI v))) 2 2 (sti (sh S 2) 1 f (nI g)), _, ?_, undo_M hN (by omega) u2, ?_⟩
      · unfold fX10_undo fX4_takeBack
        have b1 : (stf (sh S 4) 0 (nI v)) 1 v = nI f := a1
        have b2 : (stf (sh S 4) 0 (nI v)) 2 v = nI g := a2
        rw [u1', if_pos g0, nI_pred, g1, if_pos (in_nI (by omega) (by omega)), nI_clamp (by omega), b1]
        unfold nm
        dsimp only
        rw [if_pos hq, b2, if_neg (nI_ne_m1 (by omega)), if_pos hq, if_pos (in_nI (by omega) (by omega)), nI_clamp (by omega)]
        rfl
      · have hs : ∀ x, x < 10 → upd (S 3) f (nI g) x = si' x := by
          intro x hx
          rw [a4 x hx]
          by_cases h : x = f
          · rw [if_pos h, h, upd_s]
          · rw [if_neg h, upd_n _ _ h]
        refine ⟨hR.1.congr rfl rfl rfl rfl, ⟨k', v, by rw [a3]; exact e2, hsnap _ hs, by omega, rfl, rfl, ?_⟩, hR.2.2.1.congr rfl rfl rfl rfl rfl rfl rfl, hR.2.2.2.1.congr rfl rfl rfl rfl rfl rfl, hR.2.2.2.2.1.congr rfl rfl, hR.2.2.2.2.2.congr rfl rfl rfl rfl rfl rfl rfl rfl rfl rfl rfl rfl⟩
        exact UC.congr v k' si' _ (fun _ _ => rfl) (fun _ _ => rfl) (fun _ _ => rfl) hs hUC

/-! ===== strike, standIn ===== -/
theorem note_j49 {N u : Nat} {M : St} (hN : 100 ≤ N) (hu : u < 8) (e : M 11 0 = nI u) : fX11_note_j49 N M = some (stf (va_up M 10 (va_cpy (M 9) (M 10) 0 (20 * u) 20)) 11 (nI (u + 1))) := by
  have key : fX11_note_l51 N N (nI 0, va_up M 10 (va_cpy (M 9) (M 10) 0 (20 * u) 0)) = fX11_note_j83 N (va_up M 10 (va_cpy (M 9) (M 10) 0 (20 * u) 20)) := by
    unfold fX11_note_l51
    refine lpN_ix (enc := fun i : Nat => (nI i, va_up M 10 (va_cpy (M 9) (M 10) 0 (20 * u) i))) (I := fun i => i ≤ 20) (μ := fun i => 20 - i) (f := fun _ => fX11_note_j83 N (va_up M 10 (va_cpy (M 9) (M 10) 0 (20 * u) 20))) ?_ N 0 (by omega) (by omega)
    intro g i hi ih
    dsimp only at ih ⊢
    unfold fX11_note_b51
    by_cases h : 20 ≤ i
    · rw [if_pos (show (20 : Int32) ≤ nI i from nI_le (a := 20) h (by omega)), show i = 20 by omega]
    · have e' : (va_up M 10 (va_cpy (M 9) (M 10) 0 (20 * u) i)) 11 0 = nI u := e
      rw [if_neg (show ¬ (20 : Int32) ≤ nI i from nI_ge (b := 20) (by omega) (by omega)), e', show (20 : Int32) = nI 20 from rfl, pk_mul, nI_add, if_pos (in_nI (by omega) (by omega)), if_pos (in_nI (by omega) (by omega)), nI_clamp (by omega), nI_clamp (by omega), show nI i + (1 : Int32) = nI (i + 1) from nI_1 i, sti_up]
      have := ih (i + 1) (by omega) (by omega)
      rw [← cpy_s, Nat.zero_add] at this
      exact this
  unfold fX11_note_j49
  rw [cpy_0, up_self] at key
  refine Eq.trans key ?_
  unfold fX11_note_j83
  have e' : (va_up M 10 (va_cpy (M 9) (M 10) 0 (20 * u) 20)) 11 0 = nI u := e
  rw [e', show nI u + (1 : Int32) = nI (u + 1) from nI_1 u]
theorem note_8 {N : Nat} {M : St} (hN : 200 ≤ N) (e : M 11 0 = nI 8) : fX11_note N M = some (stf (va_up M 10 (va_cpy (M 9) (va_cpy (M 10) (M 10) 20 0 140) 0 (20 * 7) 20)) 11 (nI 8)) := by
  have key : fX11_note_l11 N N (nI 0, va_up M 10 (va_cpy (M 10) (M 10) 20 0 0)) = fX11_note_j39 N (va_up M 10 (va_cpy (M 10) (M 10) 20 0 140)) := by
    unfold fX11_note_l11
    refine lpN_ix (enc := fun i : Nat => (nI i, va_up M 10 (va_cpy (M 10) (M 10) 20 0 i))) (I := fun i => i ≤ 140) (μ := fun i => 140 - i) (f := fun _ => fX11_note_j39 N (va_up M 10 (va_cpy (M 10) (M 10) 20 0 140))) ?_ N 0 (by omega) (by omega)
    intro g i hi ih
    dsimp only at ih ⊢
    unfold fX11_note_b11
    by_cases h : 140 ≤ i
    · rw [if_pos (show (140 : Int32) ≤ nI i from nI_le (a := 140) h (by omega)), show i = 140 by omega]
    · have e' : (va_up M 10 (va_cpy (M 10) (M 10) 20 0 i)) 10 (20 + i) = M 10 (20 + i) := cpy_out (M 10) (M 10) (by omega)
      rw [if_neg (show ¬ (140 : Int32) ≤ nI i from nI_ge (b := 140) (by omega) (by omega)), show (20 : Int32) = nI 20 from rfl, nI_add, if_pos (in_nI (by omega) (by omega)), if_pos (in_nI (by omega) (by omega)), nI_clamp (by omega), nI_clamp (by omega), show nI i + (1 : Int32) = nI (i + 1) from nI_1 i, e', sti_up]
      have := ih (i + 1) (by omega) (by omega)
      rw [← cpy_s, Nat.zero_add] at this
      exact this
  unfold fX11_note
  rw [e, if_pos (by rfl)]
  rw [cpy_0, up_self] at key
  refine Eq.trans key ?_
  unfold fX11_note_j39
  have e' : (va_up M 10 (va_cpy (M 10) (M 10) 20 0 140)) 11 0 = nI 8 := e
  rw [e', show nI 8 - (1 : Int32) = nI 7 from rfl, note_j49 (u := 7) (by omega) (by omega) rfl]
  congr 1
  funext a b
  unfold stf va_up
  by_cases h1 : a = 11
  · simp only [if_pos h1]
  · by_cases h2 : a = 10
    · simp only [if_neg h1, if_pos h2]; rfl
    · simp only [if_neg h1, if_neg h2]
theorem rem_j45 {N u : Nat} {S : St} {a b : Int32} (hu : u < 8) (e : S 0 0 = nI u) : fX4_remember_j45 N a b S = some (stf (sti (sti S 1 u a) 2 u b) 0 (nI (u + 1))) := by
  unfold fX4_remember_j45
  rw [e, if_pos (in_nI (by omega) (by omega)), nI_clamp (by omega)]
  have e1 : (sti S 1 u a) 0 0 = nI u := e
  rw [e1, if_pos (in_nI (by omega) (by omega)), nI_clamp (by omega)]
  have e2 : (sti (sti S 1 u a) 2 u b) 0 0 = nI u := e
  rw [e2, show nI u + (1 : Int32) = nI (u + 1) from nI_1 u]
theorem UC.push {c5 c6 m10 row : Nat → Int32} {u k k' : Nat} {si si' : Nat → Int32} {a b : Int32} (h : UC c5 c6 m10 u k si) (hF : FR k si row) (hs : US a b k' si' k si) : UC (upd c5 u a) (upd c6 u b) (va_cpy row m10 0 (20 * u) 20) (u + 1) k' si' := by
  refine ⟨k, si, hF.congr (fun _ _ => rfl) (fun x hx => ?_), ?_, UC.congr u k si si (fun j hj => upd_n _ _ (by omega)) (fun j hj => upd_n _ _ (by omega)) (fun j hj => cpy_out _ _ (by omega)) (fun _ _ => rfl) h⟩
  · show va_cpy row m10 0 (20 * u) 20 (20 * u + x) = row x
    rw [cpy_in _ _ (by omega)]
    congr 1
    omega
  · rw [upd_s, upd_s]; exact hs
theorem push_both {N u k k' : Nat} {T M : St} {si si' : Nat → Int32} {a b : Int32} (hN : 200 ≤ N) (hu : u ≤ 8) (eT : T 0 0 = nI u) (eM : M 11 0 = nI u) (h : UC (T 1) (T 2) (M 10) u k si) (hF : FR k si (M 9)) (hs : US a b k' si' k si) : ∃ T' m10 u', u' ≤ 8 ∧ fX4_remember N T a b = some T' ∧ T' 0 0 = nI u' ∧ fX11_note N M = some (stf (va_up M 10 m10) 11 (nI u')) ∧ UC (T' 1) (T' 2) m10 u' k' si' := by
  by_cases h8 : u < 8
  · refine ⟨stf (sti (sti T 1 u a) 2 u b) 0 (nI (u + 1)), va_cpy (M 9) (M 10) 0 (20 * u) 20, u + 1, by omega, ?_, rfl, ?_, h.push hF hs⟩
    · unfold fX4_remember
      rw [eT, if_pos (show nI u < (8 : Int32) from nI_lt (b := 8) (by omega) (by omega)), rem_j45 h8 eT]
    · unfold fX11_note
      rw [eM, if_neg (show ¬ nI u = (8 : Int32) from fun h => by have := nI_eq (a := u) (b := 8) (by omega) (by omega) |>.1 h; omega), note_j49 (by omega) h8 eM]
  · obtain rfl : u = 8 := by omega
    have h7 : UC (va_cpy (T 1) (T 1) 1 0 7) (va_cpy (T 2) (T 2) 1 0 7) (va_cpy (M 10) (M 10) 20 0 140) 7 k si := by
      refine UC.congr 7 k si si (fun j hj => ?_) (fun j hj => ?_) (fun j hj => ?_) (fun _ _ => rfl) (UC.shift 7 k si h)
      · rw [cpy_in _ _ (by omega)]; show T 1 (1 + (j - 0)) = T 1 (j + 1); congr 1; omega
      · rw [cpy_in _ _ (by omega)]; show T 2 (1 + (j - 0)) = T 2 (j + 1); congr 1; omega
      · rw [cpy_in _ _ (by omega)]; show M 10 (20 + (j - 0)) = M 10 (20 + j); congr 1
    refine ⟨stf (sti (sti (stf (va_up (va_up T 1 (va_cpy (T 1) (T 1) 1 0 7)) 2 (va_cpy (T 2) (T 2) 1 0 7)) 0 7) 1 7 a) 2 7 b) 0 (nI 8), va_cpy (M 9) (va_cpy (M 10) (M 10) 20 0 140) 0 (20 * 7) 20, 8, by omega, ?_, rfl, note_8 hN eM, h7.push hF hs⟩
    unfold fX4_remember
    rw [eT, if_neg (by decide), rem_j45 (u := 7) (by omega) rfl]
    rfl
theorem ob_standIn {N : Nat} (hN : 200 ≤ N) : OB_standIn N Rel := by
  intro S M p1 p2 hR
  rcases rng p1 (a := 0) (b := 9) (by omega) (by omega) with ⟨f, -, hf, rfl⟩ | h
  · have hb1 := rng_t (Nat.zero_le f) hf (by omega)
    rcases rng p2 (a := 0) (b := 9) (by omega) (by omega) with ⟨g, -, hg, rfl⟩ | h
    · have hb2 := rng_t (Nat.zero_le g) hg (by omega)
      obtain ⟨k, u, e2, hF, hu, u1, u2, hU⟩ := hR.2.1
      obtain ⟨h1, h2, g0, hg0, h3⟩ := hF.2 f (by omega)
      have hs : US (nI f) (S 3 f) k (upd (S 3) f (nI g)) k (S 3) := by
        refine Or.inr ⟨f, g0, by omega, hg0, rfl, by rw [h2, h3], rfl, fun x hx => ?_⟩
        by_cases hx : x = f
        · rw [if_pos hx, hx, h2, h3]
        · rw [if_neg hx, upd_n _ _ hx]
      obtain ⟨T', m10, u', hu', r1, r2, r3, r4⟩ := push_both (N := N) (T := sh (sti S 3 f (nI g)) 4) (M := M) hN hu u1 u2 hU hF hs
      refine ⟨S 3 f, pt (sti S 3 f (nI g)) 4 3 T', sti (stf (va_up M 10 m10) 11 (nI u')) 9 (10 + f) (nI g), ?_, ?_, ?_⟩
      · unfold fX10_standIn
        rw [isFig_X, if_pos hb1]
        simp only [Option.bind_some]
        rw [if_neg i10, isFig_X, if_pos hb2]
        simp only [Option.bind_some]
        rw [if_neg i10, if_pos (in_nI (by omega) (by omega)), nI_clamp (by omega)]
        have hq : ¬ (nI f < 0 ∨ 10 ≤ f) := by
          have := in_nI (n := f) (N := 10) (by omega) (by omega)
          rwa [nI_clamp (by omega)] at this
        rw [if_pos hq, r1]
        rfl
      · unfold fX11_standIn
        rw [isFig_M, if_pos hb1]
        simp only [Option.bind_some]
        rw [if_neg i10, isFig_M, if_pos hb2]
        simp only [Option.bind_some]
        rw [if_neg i10, r3]
        simp only [Option.bind_some]
        rw [show (10 : Int32) = nI 10 from rfl, nI_add, if_pos (in_nI (by omega) (by omega)), nI_clamp (by omega)]
        unfold nm
        have hq : ¬ (nI (10 + f) < 0 ∨ 20 ≤ 10 + f) := by
          have := in_nI (n := 10 + f) (N := 20) (by omega) (by omega)
          rwa [nI_clamp (by omega)] at this
        dsimp only
        rw [if_pos hq, h2]
        rfl
      · refine ⟨hR.1.congr rfl rfl rfl rfl, ⟨k, u', e2, ⟨hF.1, fun x hx => ?_⟩, hu', r2, rfl, ?_⟩, hR.2.2.1.congr rfl rfl rfl rfl rfl rfl rfl, hR.2.2.2.1.congr rfl rfl rfl rfl rfl rfl, hR.2.2.2.2.1.congr rfl rfl, hR.2.2.2.2.2.congr rfl rfl rfl rfl rfl rfl rfl rfl rfl rfl rfl rfl⟩
        · obtain ⟨y1, y2, gx, hgx, y3⟩ := hF.2 x hx
          show upd (M 9) (10 + f) (nI g) x = nI (bi k x) ∧ upd (S 3) f (nI g) x = upd (M 9) (10 + f) (nI g) (10 + x) ∧ ∃ g', g' < 10 ∧ upd (M 9) (10 + f) (nI g) (10 + x) = nI g'
          rw [upd_n _ _ (show x ≠ 10 + f by omega)]
          refine ⟨y1, ?_⟩
          by_cases hxf : x = f
          · subst hxf
            rw [upd_s, upd_s]
            exact ⟨rfl, g, by omega, rfl⟩
          · rw [upd_n _ _ hxf, upd_n _ _ (show 10 + x ≠ 10 + f by omega)]
            exact ⟨y2, gx, hgx, y3⟩
        · exact r4
    · refine ⟨-1, S, M, ?_, ?_, hR⟩
      · unfold fX10_standIn
        rw [isFig_X, if_pos hb1]
        simp only [Option.bind_some]
        rw [if_neg i10, isFig_X, if_neg h]; rfl
      · unfold fX11_standIn
        rw [isFig_M, if_pos hb1]
        simp only [Option.bind_some]
        rw [if_neg i10, isFig_M, if_neg h]; rfl
  · refine ⟨-1, S, M, ?_, ?_, hR⟩
    · unfold fX10_standIn
      rw [isFig_X, if_neg h]; rfl
    · unfold fX11_standIn
      rw [isFig_M, if_neg h]; rfl
theorem ob_strike {N : Nat} (hN : 200 ≤ N) : OB_strike N Rel := by
  intro S M p1 p2 hR
  rcases rng p1 (a := 0) (b := 9) (by omega) (by omega) with ⟨f, -, hf, rfl⟩ | h
  · have hb1 := rng_t (Nat.zero_le f) hf (by omega)
    rcases rng p2 (a := 0) (b := 1) (by omega) (by omega) with ⟨w, -, hw, rfl⟩ | h
    · have hb2 := rng_t (Nat.zero_le w) hw (by omega)
      have hb2' : (0 : Int32) ≤ nI w ∧ nI w ≤ (1 : Int32) := hb2
      obtain ⟨k, u, e2, hF, hu, u1, u2, hU⟩ := hR.2.1
      have hk := hF.1
      have hbl := bi_le k f
      obtain ⟨h1, h2, g0, hg0, h3⟩ := hF.2 f (by omega)
      have hX0 : fX10_strike N S (nI f) (nI w) = fX10_strike_j36 N (nI f) (nI w) (nI (bi k f)) (nI w) S := by
        unfold fX10_strike
        rw [isFig_X, if_pos hb1]
        simp only [Option.bind_some]
        rw [if_neg i10, within_eq, if_pos hb2']
        simp only [Option.bind_some]
        rw [if_neg i10, onStrike_X hk (by omega) (show sh S 2 0 0 = nI k from e2)]
        simp only [Option.bind_some]
        rcases (show w = 0 ∨ w = 1 by omega) with rfl | rfl
        · rw [if_neg (by decide)]; rfl
        · rw [if_pos (by rfl)]; rfl
      have hM0 : fX11_strike N M (nI f) (nI w) = if nI (bi k f) = nI w then some (-2, M) else Option.bind (fX11_note N M) (fun q7 => Option.bind (fX11_strikers N (sti q7 9 f (nI w))) (fun q9 => some (q9, sti q7 9 f (nI w)))) := by
        unfold fX11_strike
        rw [isFig_M, if_pos hb1]
        simp only [Option.bind_some]
        rw [if_neg i10, in_lit (nI w) 0 1 (by omega) (by omega), if_pos hb2]
        simp only [Option.bind_some]
        have hq : ¬ (nI f < 0 ∨ 20 ≤ f) := by
          have := in_nI (n := f) (N := 20) (by omega) (by omega)
          rwa [nI_clamp (by omega)] at this
        simp only [nI_clamp (show f < 2 ^ 31 by omega)]
        rw [if_neg i10, if_pos hq, h1]
        simp only [if_pos hq]
      by_cases hbw : bi k f = w
      · refine ⟨-2, S, M, ?_, ?_, hR⟩
        · rw [hX0]; unfold fX10_strike_j36; rw [if_pos (by rw [hbw])]
        · rw [hM0, if_pos (by rw [hbw])]
      · have hne : ¬ nI (bi k f) = nI w := fun h => hbw ((nI_eq (by omega) (by omega)).1 h)
        have hk' := xor_lt hk (show f < 10 by omega)
        have hs : US (nI f) (-1) (k ^^^ 2 ^ f) (S 3) k (S 3) := Or.inl ⟨f, by omega, rfl, rfl, (xor_xor' k f).symm, fun _ _ => rfl⟩
        obtain ⟨T', m10, u', hu', r1, r2, r3, r4⟩ := push_both (N := N) (T := sh (stf S 2 (nI (k ^^^ 2 ^ f))) 4) (M := M) hN hu u1 u2 hU hF hs
        have hw' : NW (k ^^^ 2 ^ f) (sti (stf (va_up M 10 m10) 11 (nI u')) 9 f (nI w)) := by
          intro x hx
          show upd (M 9) f (nI w) x = _
          rw [bi_xor]
          by_cases hxf : x = f
          · rw [if_pos hxf, hxf, upd_s]; congr 1; omega
          · rw [if_neg hxf, upd_n _ _ hxf]; exact (hF.2 x hx).1
        refine ⟨nI (pc (k ^^^ 2 ^ f)), pt (stf S 2 (nI (k ^^^ 2 ^ f))) 4 3 T', sti (stf (va_up M 10 m10) 11 (nI u')) 9 f (nI w), ?_, ?_, ?_⟩
        · rw [hX0]
          unfold fX10_strike_j36
          rw [if_neg hne, e2, xor_X (by omega), r1]
          simp only [Option.bind_some]
          rw [strikers_X hk' (show sh (pt (stf S 2 (nI (k ^^^ 2 ^ f))) 4 3 T') 2 0 0 = nI (k ^^^ 2 ^ f) from rfl)]
          rfl
        · rw [hM0, if_neg hne, r3]
          simp only [Option.bind_some]
          rw [strikers_M (by omega) hw']
          rfl
        · refine ⟨hR.1.congr rfl rfl rfl rfl, ⟨k ^^^ 2 ^ f, u', rfl, ⟨hk', fun x hx => ⟨hw' x hx, ?_⟩⟩, hu', r2, rfl, r4⟩, hR.2.2.1.congr rfl rfl rfl rfl rfl rfl rfl, hR.2.2.2.1.congr rfl rfl rfl rfl rfl rfl, hR.2.2.2.2.1.congr rfl rfl, hR.2.2.2.2.2.congr rfl rfl rfl rfl rfl rfl rfl rfl rfl rfl rfl rfl⟩
          show S 3 x = upd (M 9) f (nI w) (10 + x) ∧ ∃ g', g' < 10 ∧ upd (M 9) f (nI w) (10 + x) = nI g'
          rw [upd_n _ _ (show 10 + x ≠ f by omega)]
          exact (hF.2 x hx).2
    · refine ⟨-1, S, M, ?_, ?_, hR⟩
      · unfold fX10_strike
        rw [isFig_X, if_pos hb1]
        simp only [Option.bind_some]
        rw [if_neg i10, within_eq, if_neg (show ¬ ((0 : Int32) ≤ p2 ∧ p2 ≤ (1 : Int32)) from h)]; rfl
      · unfold fX11_strike
        rw [isFig_M, if_pos hb1]
        simp only [Option.bind_some]
        rw [if_neg i10, in_lit p2 0 1 (by omega) (by omega), if_neg h]; rfl
  · refine ⟨-1, S, M, ?_, ?_, hR⟩
    · unfold fX10_strike
      rw [isFig_X, if_neg h]; rfl
    · unfold fX11_strike
      rw [isFig_M, if_neg h]; rfl

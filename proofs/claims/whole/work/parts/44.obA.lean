/-! ===== what a change leaves alone ===== -/
theorem RT.congr {S M S' M' : St} (h : RT S M) (h0 : S' 0 = S 0) (h1 : S' 1 = S 1) (m0 : M' 0 = M 0) (m1 : M' 1 = M 1) : RT S' M' := by
  unfold RT at h ⊢
  rw [h0, h1, m0, m1]; exact h
theorem RF.congr {S M S' M' : St} (h : RF S M) (h2 : S' 2 = S 2) (h3 : S' 3 = S 3) (h4 : S' 4 = S 4) (h5 : S' 5 = S 5) (h6 : S' 6 = S 6) (m9 : M' 9 = M 9) (m10 : M' 10 = M 10) (m11 : M' 11 = M 11) : RF S' M' := by
  unfold RF at h ⊢
  rw [h2, h3, h4, h5, h6, m9, m10, m11]; exact h
theorem RK.congr {S M S' M' : St} (h : RK S M) (h7 : S' 7 = S 7) (h8 : S' 8 = S 8) (h9 : S' 9 = S 9) (h10 : S' 10 = S 10) (h11 : S' 11 = S 11) (m12 : M' 12 = M 12) (m13 : M' 13 = M 13) : RK S' M' := by
  obtain ⟨t, ht, e1, e2, hj⟩ := h
  refine ⟨t, ht, by rw [h7]; exact e1, by rw [m13]; exact e2, fun j hjt => ?_⟩
  obtain ⟨k, e3, e4⟩ := hj j hjt
  rcases (show j = 0 ∨ j = 1 by omega) with rfl | rfl
  · exact ⟨k, by show S' 8 0 = _; rw [h8]; exact e3, by show FR k (S' 9) (fun x => M' 12 (20 * 0 + x)); rw [h9, m12]; exact e4⟩
  · exact ⟨k, by show S' 10 0 = _; rw [h10]; exact e3, by show FR k (S' 11) (fun x => M' 12 (20 * 1 + x)); rw [h11, m12]; exact e4⟩
theorem RN.congr {S M S' M' : St} (h : RN S M) (h12 : S' 12 = S 12) (h13 : S' 13 = S 13) (h14 : S' 14 = S 14) (m14 : M' 14 = M 14) (m15 : M' 15 = M 15) (m16 : M' 16 = M 16) : RN S' M' := by
  unfold RN at h ⊢
  rw [h12, h13, h14, m14, m15, m16]; exact h
theorem RS.congr {S S' : St} (h : RS S) (h15 : S' 15 = S 15) (h21 : S' 21 = S 21) : RS S' := by
  unfold RS at h ⊢
  rw [h15, h21]; exact h
theorem RL0.congr {S M S' M' : St} (h : RL0 S M) (h23 : S' 23 = S 23) (h24 : S' 24 = S 24) (h25 : S' 25 = S 25) (h27 : S' 27 = S 27) (h30 : S' 30 = S 30) (h31 : S' 31 = S 31) (m3 : M' 3 = M 3) (m4 : M' 4 = M 4) (m5 : M' 5 = M 5) (m6 : M' 6 = M 6) (m7 : M' 7 = M 7) (m8 : M' 8 = M 8) : RL0 S' M' := by
  unfold RL0 at h ⊢
  rw [h23, h24, h25, h27, h30, h31, m3, m4, m5, m6, m7, m8]; exact h
theorem upd_s (f : Nat → Int32) (k : Nat) (x : Int32) : upd f k x k = x := pk_us
theorem upd_n (f : Nat → Int32) {k j : Nat} (x : Int32) (h : j ≠ k) : upd f k x j = f j := pk_un h
theorem byt_ok : ∀ c, c < 128 → vp_nar .byte (nI c).toInt8.toInt32 = nI c := by decide +kernel
theorem ob_wipe {N : Nat} : OB_wipe N Rel := by
  intro S M hR
  obtain ⟨n, hn, e1, e2, hj⟩ := hR.1
  refine ⟨nI n, pt S 0 2 (stf (sh S 0) 0 0), stf M 0 0, ?_, ?_, ?_⟩
  · unfold fX10_wipe fX7_clear
    simp only [Option.bind_some]
    rw [e1]
  · unfold fX11_wipe
    rw [e2]
  · exact ⟨⟨0, by omega, rfl, rfl, fun j h => absurd h (by omega)⟩, hR.2.1.congr rfl rfl rfl rfl rfl rfl rfl rfl, hR.2.2.1.congr rfl rfl rfl rfl rfl rfl rfl, hR.2.2.2.1.congr rfl rfl rfl rfl rfl rfl, hR.2.2.2.2.1.congr rfl rfl, hR.2.2.2.2.2.congr rfl rfl rfl rfl rfl rfl rfl rfl rfl rfl rfl rfl⟩
theorem i10 : ¬ (1 : Int32) = 0 := by decide
theorem i01 : ¬ (0 : Int32) = 1 := by decide
theorem ob_write {N : Nat} : OB_write N Rel := by
  intro S M p1 hR
  obtain ⟨n, hn, e1, e2, hj⟩ := hR.1
  rcases rng p1 (a := 32) (b := 126) (by omega) (by omega) with ⟨c, hc1, hc2, rfl⟩ | h
  · have hX0 : fX10_write N S (nI c) = Option.bind (fX7_append N (sh S 0) (nI c)) (fun q3 => if q3.1 = 0 then (some ((-3 : Int32), (pt S 0 2 q3.2))) else (some (((pt S 0 2 q3.2) 0 0), (pt S 0 2 q3.2)))) := by
      unfold fX10_write
      rw [if_neg (show ¬ nI c < (32 : Int32) from nI_nlt (b := 32) hc1 (by omega)), if_pos (show nI c ≤ (126 : Int32) from nI_le (b := 126) hc2 (by omega))]
    have e1' : sh S 0 0 0 = nI n := e1
    by_cases hf : n = 200
    · refine ⟨-3, pt S 0 2 (sh S 0), M, ?_, ?_, ?_⟩
      · rw [hX0]
        unfold fX7_append
        rw [e1', if_neg (show ¬ nI n < (200 : Int32) from nI_nlt (b := 200) (by omega) (by omega))]
        rfl
      · unfold fX11_write
        rw [in_lit (nI c) 32 126 (by omega) (by omega), if_pos (rng_t hc1 hc2 (by omega)), e2]
        simp only [Option.bind_some]
        rw [if_neg i10, if_pos (by rw [hf]; rfl)]
      · exact ⟨hR.1.congr rfl rfl rfl rfl, hR.2.1.congr rfl rfl rfl rfl rfl rfl rfl rfl, hR.2.2.1.congr rfl rfl rfl rfl rfl rfl rfl, hR.2.2.2.1.congr rfl rfl rfl rfl rfl rfl, hR.2.2.2.2.1.congr rfl rfl, hR.2.2.2.2.2.congr rfl rfl rfl rfl rfl rfl rfl rfl rfl rfl rfl rfl⟩
    · refine ⟨nI (n + 1), pt S 0 2 (stf (sti (sh S 0) 1 n (nI c)) 0 (nI (n + 1))), stf (sti M 1 n (nI c)) 0 (nI (n + 1)), ?_, ?_, ?_⟩
      · rw [hX0]
        unfold fX7_append
        have f1 : (sti (sh S 0) 1 n (nI c)) 0 0 = nI n := e1
        rw [e1', if_pos (show nI n < (200 : Int32) from nI_lt (b := 200) (by omega) (by omega)), if_pos (in_nI (by omega) (by omega)), byt_ok c (by omega), nI_clamp (by omega), f1, show nI n + (1 : Int32) = nI (n + 1) from nI_1 n]
        rfl
      · unfold fX11_write
        have f2 : (sti M 1 n (nI c)) 0 0 = nI n := e2
        rw [in_lit (nI c) 32 126 (by omega) (by omega), if_pos (rng_t hc1 hc2 (by omega)), e2]
        simp only [Option.bind_some]
        rw [if_neg i10, if_neg (show ¬ nI n = (200 : Int32) from fun h => hf ((nI_eq (b := 200) (by omega) (by omega)).mp h)), if_pos (in_nI (by omega) (by omega)), nI_clamp (by omega), f2, show nI n + (1 : Int32) = nI (n + 1) from nI_1 n]
        rfl
      · refine ⟨⟨n + 1, by omega, rfl, rfl, fun j hjn => ?_⟩, hR.2.1.congr rfl rfl rfl rfl rfl rfl rfl rfl, hR.2.2.1.congr rfl rfl rfl rfl rfl rfl rfl, hR.2.2.2.1.congr rfl rfl rfl rfl rfl rfl, hR.2.2.2.2.1.congr rfl rfl, hR.2.2.2.2.2.congr rfl rfl rfl rfl rfl rfl rfl rfl rfl rfl rfl rfl⟩
        by_cases hjn' : j = n
        · subst hjn'
          exact ⟨c, hc1, hc2, upd_s _ _ _, upd_s _ _ _⟩
        · obtain ⟨c', h1, h2, h3, h4⟩ := hj j (by omega)
          exact ⟨c', h1, h2, (upd_n _ _ hjn').trans h3, (upd_n _ _ hjn').trans h4⟩
  · refine ⟨-1, S, M, ?_, ?_, hR⟩
    · unfold fX10_write
      by_cases h1 : p1 < 32
      · rw [if_pos h1]
      · rw [if_neg h1, if_neg (show ¬ p1 ≤ (126 : Int32) from fun h2 => h ⟨Int32.not_lt.mp h1, h2⟩)]
    · unfold fX11_write
      rw [in_lit p1 32 126 (by omega) (by omega), if_neg h]
      rfl
theorem ob_forget {N : Nat} : OB_forget N Rel := by
  intro S M hR
  obtain ⟨d, hd, e1, e2, hj⟩ := hR.2.2.2.1
  refine ⟨nI d, stf S 12 0, stf M 14 0, ?_, ?_, ?_⟩
  · unfold fX10_forget
    rw [e1]
  · unfold fX11_forget
    rw [e2]
  · exact ⟨hR.1.congr rfl rfl rfl rfl, hR.2.1.congr rfl rfl rfl rfl rfl rfl rfl rfl, hR.2.2.1.congr rfl rfl rfl rfl rfl rfl rfl, ⟨0, by omega, rfl, rfl, fun j h => absurd h (by omega)⟩, hR.2.2.2.2.1.congr rfl rfl, hR.2.2.2.2.2.congr rfl rfl rfl rfl rfl rfl rfl rfl rfl rfl rfl rfl⟩
theorem isFig_X {N : Nat} (p : Int32) : fX10_isFigure N p = some (if nI 0 ≤ p ∧ p ≤ nI 9 then 1 else 0) := by
  unfold fX10_isFigure
  rw [show (0 : Int32) = nI 0 from rfl, show (9 : Int32) = nI 9 from rfl, within_eq]
  simp only [Option.bind_some]
  split <;> rfl
theorem isFig_M {N : Nat} (p : Int32) : fX11_isFigure N p = some (if nI 0 ≤ p ∧ p ≤ nI 9 then 1 else 0) := by
  unfold fX11_isFigure
  rw [in_lit p 0 9 (by omega) (by omega)]
  simp only [Option.bind_some]
  split <;> rfl
theorem onStrike_X {N k f : Nat} {F : St} (hk : k < 1024) (hf : f < 10) (e : F 0 0 = nI k) : fX0_isOnStrike N F (nI f) = some (nI (bi k f)) := by
  unfold fX0_isOnStrike
  rw [e, bit_X hk hf]
  have := bi_le k f
  rcases (show bi k f = 0 ∨ bi k f = 1 by omega) with h | h
  · rw [h]; rfl
  · rw [h]; rfl
theorem ob_figure {N : Nat} : OB_figure N Rel := by
  intro S M p1 p2 hR
  obtain ⟨k, hk, e2, hF, hw⟩ := hR.fig
  rcases rng p1 (a := 0) (b := 9) (by omega) (by omega) with ⟨f, -, hf, rfl⟩ | h
  · have hb1 := rng_t (Nat.zero_le f) hf (by omega)
    have hX0 : fX10_figure N S (nI f) p2 = Option.bind (fX10_isWithin N p2 (0 : Int32) (1 : Int32)) (fun q3 => if q3 = 0 then (some (-1 : Int32)) else (if p2 = 0 then (Option.bind (fX0_isOnStrike N (sh S 2) (nI f)) (fun q7 => if q7 = 0 then (some (0 : Int32)) else (some (1 : Int32)))) else (if ¬ (nI f < 0 ∨ 10 ≤ (nI f).toNatClampNeg) then (some ((S 3 (nI f).toNatClampNeg))) else none))) := by
      unfold fX10_figure
      rw [isFig_X, if_pos hb1]
      simp only [Option.bind_some]
      rw [if_neg i10]
    have hM0 : fX11_figure N M (nI f) p2 = Option.bind (fX11_in N p2.toInt64 (0 : Int64) (1 : Int64)) (fun q3 => if q3 = 0 then some (-1 : Int32) else (if ¬ ((((10 : Int32) * p2) + nI f) < 0 ∨ 20 ≤ ((((10 : Int32) * p2) + nI f)).toNatClampNeg) then (some ((M 9 (((((10 : Int32) * p2) + nI f)).toNatClampNeg)))) else none)) := by
      unfold fX11_figure fX11_figure_j17
      rw [isFig_M, if_pos hb1]
      simp only [Option.bind_some]
      rw [if_neg i10]
    rw [hX0, hM0, in_lit p2 0 1 (by omega) (by omega), within_eq]
    rcases rng p2 (a := 0) (b := 1) (by omega) (by omega) with ⟨w, -, hw1, rfl⟩ | h
    · obtain ⟨h1, h2, g, hg, h3⟩ := hF.2 f (by omega)
      have hb2 := rng_t (Nat.zero_le w) hw1 (by omega)
      have hb2' : (0 : Int32) ≤ nI w ∧ nI w ≤ (1 : Int32) := hb2
      rcases (show w = 0 ∨ w = 1 by omega) with rfl | rfl
      · refine ⟨nI (bi k f), ?_, ?_, hR⟩
        · rw [if_pos hb2']
          simp only [Option.bind_some]
          rw [if_neg i10, if_pos (by rfl), onStrike_X hk (by omega) (show sh S 2 0 0 = nI k from e2)]
          have := bi_le k f
          rcases (show bi k f = 0 ∨ bi k f = 1 by omega) with h | h <;> rw [h] <;> rfl
        · rw [if_pos hb2]
          simp only [Option.bind_some]
          rw [if_neg i10, show (10 : Int32) = nI 10 from rfl, pk_mul, nI_add, if_pos (in_nI (by omega) (by omega)), nI_clamp (by omega), show 10 * 0 + f = f by omega, h1]
      · refine ⟨M 9 (10 + f), ?_, ?_, hR⟩
        · rw [if_pos hb2']
          simp only [Option.bind_some]
          rw [if_neg i10, if_neg (by decide), if_pos (in_nI (by omega) (by omega)), nI_clamp (by omega), h2]
        · rw [if_pos hb2]
          simp only [Option.bind_some]
          rw [if_neg i10, show (10 : Int32) = nI 10 from rfl, pk_mul, nI_add, if_pos (in_nI (by omega) (by omega)), nI_clamp (by omega)]
    · refine ⟨-1, ?_, ?_, hR⟩
      · rw [if_neg (show ¬ ((0 : Int32) ≤ p2 ∧ p2 ≤ (1 : Int32)) from h)]; rfl
      · rw [if_neg h]; rfl
  · refine ⟨-1, ?_, ?_, hR⟩
    · unfold fX10_figure
      rw [isFig_X, if_neg h]; rfl
    · unfold fX11_figure fX11_figure_j17
      rw [isFig_M, if_neg h]; rfl
theorem ob_coin {N : Nat} : OB_coin N Rel := by
  intro S M p1 hR
  obtain ⟨c, hc, e1, e2, hj⟩ := hR.2.2.2.2.2.1
  have e : fX11_in N p1.toInt64 (0 : Int64) (nI c - 1).toInt64 = some (if (0 : Int32) ≤ p1 ∧ p1 ≤ nI c - 1 then 1 else 0) := in_eq p1 0 (nI c - 1)
  by_cases h : (0 : Int32) ≤ p1 ∧ p1 ≤ nI c - 1
  · obtain ⟨n, hn, rfl⟩ := nI_of (x := p1) (Int32.not_lt.mpr h.1)
    have hnc : n < c := by
      have h2 := Int32.le_iff_toInt_le.mp h.2
      have e9 : (nI c - nI 1).toInt = (c : Int) - (1 : Nat) := pk_sub_toInt (by omega) (by omega)
      have e8 : (nI c - 1).toInt = (c : Int) - (1 : Nat) := e9
      rw [e8, nI_toInt hn] at h2
      omega
    obtain ⟨w, -, -, h3, h4⟩ := hj n hnc
    refine ⟨nI w, ?_, ?_, hR⟩
    · unfold fX10_coin
      rw [e1, within_eq, if_pos h]
      simp only [Option.bind_some]
      rw [if_neg i10, if_pos (in_nI (by omega) (by omega)), nI_clamp (by omega), h3]
    · unfold fX11_coin
      rw [e2, e, if_pos h]
      simp only [Option.bind_some]
      rw [if_neg i10, if_pos (in_nI (by omega) (by omega)), nI_clamp (by omega), h4]
  · refine ⟨-1, ?_, ?_, hR⟩
    · unfold fX10_coin
      rw [e1, within_eq, if_neg h]; rfl
    · unfold fX11_coin
      rw [e2, e, if_neg h]; rfl

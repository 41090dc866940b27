/-! ===== sum ===== -/
def scN (L : List Nat) : Nat → Nat → Nat
  | 0, _ => 0
  | m + 1, s => bN (sg (L.getD s 0)) + scN L m (s + 1)
theorem numb_X {N : Nat} {S : St} {L : List Nat} (hN : 100 ≤ N) (hL : L.length ≤ 20) (e0 : S 0 0 = nI L.length) (e1 : ∀ j, j < L.length → S 1 j = nI (L.getD j 0)) (hlt : ∀ j, j < L.length → L.getD j 0 < 128) : fX6_numbers N S = some (nI ((if L.length = 0 then 0 else 1) + scN L L.length 0)) := by
  have st : ∀ y : Nat, fX6_numbers_j12 N S (nI y) = some (nI (y + scN L L.length 0)) := by
    intro y
    unfold fX6_numbers_j12 fX6_numbers_l15
    have key := lpN_ix (body := fun g q => fX6_numbers_b15 N S g q.1 q.2) (enc := fun i : Nat × Nat × Nat => (nI i.2.2, nI i.2.1)) (I := fun i => i.2.1 + i.1 = L.length) (μ := fun i => i.1) (f := fun i => some (nI (i.2.2 + scN L i.1 i.2.1))) ?_ N (L.length, 0, y) (by show 0 + L.length = L.length; omega) (by show L.length < N; omega)
    · exact key
    rintro g ⟨m, s, y⟩ hm ih
    dsimp only at hm ih ⊢
    unfold fX6_numbers_b15
    rw [e0]
    cases m with
    | zero => rw [if_pos (nI_le (by omega) (by omega))]; rfl
    | succ m =>
      rw [if_neg (nI_ge (by omega) (by omega)), if_pos (in_nI (by omega) (by omega)), nI_clamp (by omega), e1 s (by omega), sign_X (hlt s (by omega))]
      simp only [Option.bind_some]
      unfold fX6_numbers_j38
      rw [show nI s + (1 : Int32) = nI (s + 1) from nI_1 s, show nI y + (1 : Int32) = nI (y + 1) from nI_1 y]
      show _ = some (nI (y + (bN (sg (L.getD s 0)) + scN L m (s + 1))))
      rw [← Nat.add_assoc]
      cases sg (L.getD s 0) with
      | false => rw [if_pos (by rfl)]; exact ih (m, s + 1, y) (by show s + 1 + m = L.length; omega) (by show m < m + 1; omega)
      | true => rw [if_neg (by decide)]; exact ih (m, s + 1, y + 1) (by show s + 1 + m = L.length; omega) (by show m < m + 1; omega)
  unfold fX6_numbers
  rw [e0]
  by_cases h : L.length = 0
  · rw [if_pos (show nI L.length ≤ (0 : Int32) by rw [h]; decide), if_pos h]; exact st 0
  · rw [if_neg (nI_nle (by omega) (by omega)), if_neg h]; exact st 1
theorem numb_M {N : Nat} {M : St} {L : List Nat} {p1 : Int32} {y : Nat} (hN : 100 ≤ N) (hL : L.length ≤ 20) (e0 : M 8 0 = nI L.length) (e1 : ∀ j, j < L.length → M 7 j = nI (L.getD j 0)) (hlt : ∀ j, j < L.length → L.getD j 0 < 128) : fX11_sum_j28 N p1 (nI y) M = fX11_sum_j67 N p1 (nI (y + scN L L.length 0)) M := by
  unfold fX11_sum_j28 fX11_sum_l31
  have key := lpN_ix (body := fun g q => fX11_sum_b31 N p1 g q.1 q.2.1 q.2.2) (enc := fun i : Nat × Nat × Nat => (nI i.2.2, nI i.2.1, M)) (I := fun i => i.2.1 + i.1 = L.length) (μ := fun i => i.1) (f := fun i => fX11_sum_j67 N p1 (nI (i.2.2 + scN L i.1 i.2.1)) M) ?_ N (L.length, 0, y) (by show 0 + L.length = L.length; omega) (by show L.length < N; omega)
  · exact key
  rintro g ⟨m, s, y⟩ hm ih
  dsimp only at hm ih ⊢
  unfold fX11_sum_b31
  rw [e0]
  cases m with
  | zero => rw [if_pos (nI_le (by omega) (by omega))]; rfl
  | succ m =>
    rw [if_neg (nI_ge (by omega) (by omega)), if_pos (in_nI (by omega) (by omega)), nI_clamp (by omega), e1 s (by omega), sign_M (hlt s (by omega))]
    simp only [Option.bind_some]
    unfold fX11_sum_j59
    rw [show nI s + (1 : Int32) = nI (s + 1) from nI_1 s, show nI y + (1 : Int32) = nI (y + 1) from nI_1 y, show nI y + (0 : Int32) = nI (y + 0) from nI_add y 0]
    show _ = fX11_sum_j67 N p1 (nI (y + (bN (sg (L.getD s 0)) + scN L m (s + 1)))) M
    rw [← Nat.add_assoc]
    cases sg (L.getD s 0) with
    | false => rw [if_pos (by rfl)]; exact ih (m, s + 1, y + 0) (by show s + 1 + m = L.length; omega) (by show m < m + 1; omega)
    | true => rw [if_neg (by decide)]; exact ih (m, s + 1, y + 1) (by show s + 1 + m = L.length; omega) (by show m < m + 1; omega)
theorem bi_0 (d : Nat) : bi 0 d = 0 := by unfold bi; rw [Nat.zero_div]
theorem hd_0 (σ : Nat → Nat) (d : Nat) : hdN 0 σ d = d := by unfold hdN; rw [bi_0, if_neg (by omega)]
theorem Rel.us {S M : St} (h : Rel S M) (s : Nat) : Rel S (uS M s) := ⟨h.1.congr rfl rfl rfl rfl, h.2.1.congr rfl rfl rfl rfl rfl rfl rfl rfl, h.2.2.1.congr rfl rfl rfl rfl rfl rfl rfl, h.2.2.2.1.congr rfl rfl rfl rfl rfl rfl, h.2.2.2.2.1.congr rfl rfl, h.2.2.2.2.2.congr rfl rfl rfl rfl rfl rfl rfl rfl rfl rfl rfl rfl⟩
theorem ob_sum {N : Nat} (hN : 100 ≤ N) : OB_sum N Rel := by
  intro S M p1 hR
  obtain ⟨k, hk, e2, hF, hw⟩ := hR.fig
  obtain ⟨-, -, -, L, hL, hsum, e3, e4, e5⟩ := hR.2.2.2.2.2
  obtain ⟨r', hr⟩ : ∃ r', sumR L 0 = some r' := by
    rcases hsum with rfl | ⟨r, -, q⟩
    · exact ⟨0, rfl⟩
    · exact ⟨r, q⟩
  have hlt : ∀ j, j < L.length → L.getD j 0 < 128 := fun j hj => by have := sR_all L _ _ hr j hj; omega
  obtain ⟨σ, hσ⟩ := hF.sig
  have hx0 : (sh S 30) 0 0 = nI L.length := e3
  have hx1 : ∀ j, j < L.length → (sh S 30) 1 j = nI (L.getD j 0) := fun j hj => (e5 j hj).1
  have hm1 : ∀ j, j < L.length → M 7 j = nI (L.getD j 0) := fun j hj => (e5 j hj).2
  have hsi : ∀ f, f < 10 → (sh S 3) 0 f = nI (σ f) := fun f hf => (hσ f hf).2.1
  have h9 : ∀ f, f < 10 → σ f < 10 := fun f hf => (hσ f hf).1
  have cX : ∀ q, q < 1024 → fX6_comesTo N (sh S 30) (sh S 3) (nI q) = some (cF (hdN q σ) L 0 none 0 false).toInt32 := fun q hq => comes_X hN hL hr hx0 hx1 (fun f hf => ⟨hd_lt h9 hf, heardAs_X hq hf hsi⟩)
  have sF : SM M L false (hdN 0 σ) := ⟨hL, e4, hm1, fun f hf => ⟨hd_lt h9 hf, fun _ => hd_0 σ f, fun q => (by cases q)⟩⟩
  have sT : SM M L true (hdN k σ) := by
    refine ⟨hL, e4, hm1, fun f hf => ⟨hd_lt h9 hf, fun q => (by cases q), fun _ => ?_⟩⟩
    have := bi_le k f
    unfold hdN
    rw [hw f hf]
    by_cases c : bi k f = 1
    · rw [if_pos c, c]
      exact Or.inl ⟨rfl, (hσ f hf).2.2⟩
    · rw [if_neg c, show bi k f = 0 by omega]
      exact Or.inr ⟨by decide, rfl⟩
  have rM : fX11_sum N M p1 = Option.bind (fX11_in N p1.toInt64 ((0 : Int64)) ((2 : Int64))) (fun q1 => if q1 = 0 then (some ((-1 : Int32), M)) else fX11_sum_j67 N p1 (nI ((if L.length = 0 then 0 else 1) + scN L L.length 0)) M) := by
    unfold fX11_sum
    congr 1
    funext q1
    rw [e4]
    by_cases h : L.length = 0
    · rw [if_pos (show nI L.length ≤ (0 : Int32) by rw [h]; decide), if_pos h, show fX11_sum_j28 N p1 (0 : Int32) M = _ from numb_M (y := 0) hN hL e4 hm1 hlt]
    · rw [if_neg (nI_nle (by omega) (by omega)), if_neg h, show fX11_sum_j28 N p1 (1 : Int32) M = _ from numb_M (y := 1) hN hL e4 hm1 hlt]
  rw [rM, in_lit p1 0 2 (by omega) (by omega)]
  unfold fX10_sum
  rcases rng p1 (a := 0) (b := 2) (by omega) (by omega) with ⟨v, -, hv, rfl⟩ | h
  · rw [if_pos (rng_t (Nat.zero_le v) hv (by omega))]
    simp only [Option.bind_some]
    rw [if_neg i10]
    unfold fX11_sum_j67 fX11_sum_j87
    rcases (show v = 0 ∨ v = 1 ∨ v = 2 by omega) with rfl | rfl | rfl
    · obtain ⟨s, es⟩ := worth_M (N := N) hN sF hr
      rw [if_pos (show nI 0 = (0 : Int32) by rfl), if_neg (show ¬ nI 0 = (2 : Int32) by decide), if_neg (show ¬ nI 0 = (1 : Int32) by decide), show fX6_comesTo N (sh S 30) (sh S 3) (0 : Int32) = _ from cX 0 (by omega), show fX11_worth N M (0 : Int32) = _ from es]
      exact ⟨_, _, rfl, rfl, hR.us s⟩
    · obtain ⟨s, es⟩ := worth_M (N := N) hN sT hr
      rw [if_neg (show ¬ nI 1 = (0 : Int32) by decide), if_pos (show nI 1 = (1 : Int32) by rfl), if_neg (show ¬ nI 1 = (2 : Int32) by decide), if_pos (show nI 1 = (1 : Int32) by rfl), e2, cX k hk, show fX11_worth N M (1 : Int32) = _ from es]
      exact ⟨_, _, rfl, rfl, hR.us s⟩
    · rw [if_neg (show ¬ nI 2 = (0 : Int32) by decide), if_neg (show ¬ nI 2 = (1 : Int32) by decide), if_pos (show nI 2 = (2 : Int32) by rfl), if_pos (show nI 2 = (2 : Int32) by rfl), numb_X hN hL hx0 hx1 hlt]
      exact ⟨_, M, rfl, rfl, hR⟩
  · rw [if_neg h, if_neg (fun q => h (by rw [q]; decide)), if_neg (fun q => h (by rw [q]; decide)), if_neg (fun q => h (by rw [q]; decide))]
    exact ⟨-1, M, rfl, rfl, hR⟩

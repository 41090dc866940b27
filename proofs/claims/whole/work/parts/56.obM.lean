/-! ===== coins, the reference's side ===== -/
/-- the reference's state with its two rows of coins -/
def m2 (M : St) (a b : Nat → Int32) : St := va_up (va_up M 25 a) 26 b
theorem m2_25 (M : St) (a b : Nat → Int32) (j : Nat) (v : Int32) : sti (m2 M a b) 25 j v = m2 M (upd a j v) b := by
  funext i
  show (if i = 25 then upd a j v else if i = 26 then b else if i = 25 then a else M i) = if i = 26 then b else if i = 25 then upd a j v else M i
  by_cases h : i = 25
  · rw [if_pos h, if_neg (by omega), if_pos h]
  · rw [if_neg h, if_neg h, if_neg h]
theorem m2_26 (M : St) (a b : Nat → Int32) (j : Nat) (v : Int32) : sti (m2 M a b) 26 j v = m2 M a (upd b j v) := by
  funext i
  show (if i = 26 then upd b j v else if i = 26 then b else if i = 25 then a else M i) = if i = 26 then upd b j v else if i = 25 then a else M i
  by_cases h : i = 26
  · rw [if_pos h, if_pos h]
  · rw [if_neg h, if_neg h, if_neg h]
theorem m2_self (M : St) : m2 M (M 25) (M 26) = M := by
  funext i
  show (if i = 26 then M 26 else if i = 25 then M 25 else M i) = M i
  by_cases h : i = 26
  · rw [if_pos h, h]
  · rw [if_neg h]
    by_cases h2 : i = 25
    · rw [if_pos h2, h2]
    · rw [if_neg h2]
def gmN (F : Nat → Nat) (x : Nat) : Nat := if F x = 201 then 2000000000 else F x
def prN (r : Nat → Int32) (F : Nat → Nat) (i : Nat) : Nat → Int32 := fun x => if x < i then nI (F x) else r x
theorem pr_s {r : Nat → Int32} {F : Nat → Nat} {i : Nat} : upd (prN r F i) i (nI (F i)) = prN r F (i + 1) := by
  funext x
  show upd (prN r F i) i (nI (F i)) x = if x < i + 1 then nI (F x) else r x
  by_cases h : x = i
  · subst h; rw [upd_s, if_pos (by omega)]
  · rw [upd_n _ _ h]
    show (if x < i then nI (F x) else r x) = _
    by_cases h2 : x < i
    · rw [if_pos h2, if_pos (by omega)]
    · rw [if_neg h2, if_neg (by omega)]
theorem pr_end {r : Nat → Int32} {F : Nat → Nat} : prN r F 201 = cwN r F := by
  funext x
  show (if x < 201 then nI (F x) else r x) = if x ≤ 200 then nI (F x) else r x
  by_cases h : x ≤ 200
  · rw [if_pos h, if_pos (by omega)]
  · rw [if_neg h, if_neg (by omega)]
theorem pr_0 {r : Nat → Int32} {F : Nat → Nat} : prN r F 0 = r := by
  funext x
  exact if_neg (Nat.not_lt_zero x)
theorem go_start {N : Nat} {M : St} (hN : 300 ≤ N) : fX11_goCoins N M = fX11_goCoins_j46 N (m2 M (cwN (M 25) (gmN (s0N 0 201))) (cwN (M 26) (s0N 1 0))) := by
  unfold fX11_goCoins fX11_goCoins_l2
  have key := lpN_ix (body := fun g q => fX11_goCoins_b2 N g q.1 q.2) (enc := fun i : Nat => (nI i, m2 M (prN (M 25) (gmN (s0N 0 201)) i) (prN (M 26) (s0N 1 0) i))) (I := fun i => i ≤ 201) (μ := fun i => 201 - i) (f := fun _ => fX11_goCoins_j46 N (m2 M (cwN (M 25) (gmN (s0N 0 201))) (cwN (M 26) (s0N 1 0)))) ?_ N 0 (by omega) (by omega)
  · rw [pr_0, pr_0, m2_self] at key
    exact key
  intro g i hi ih
  dsimp only at ih ⊢
  unfold fX11_goCoins_b2
  by_cases h : 200 < i
  · rw [if_pos (show (200 : Int32) < nI i from nI_lt (a := 200) h (by omega)), show i = 201 by omega, pr_end, pr_end]
  · rw [if_neg (show ¬ (200 : Int32) < nI i from nI_nlt (a := 200) (by omega) (by omega))]
    unfold fX11_goCoins_j24 fX11_goCoins_j39
    have st := ih (i + 1) (by omega) (by omega)
    rw [← pr_s, ← pr_s] at st
    have hq : ¬ (nI i < 0 ∨ 201 ≤ i) := by
      have := in_nI (n := i) (N := 201) (by omega) (by omega)
      rwa [nI_clamp (by omega)] at this
    simp only [nI_clamp (show i < 2 ^ 31 by omega), m2_25, m2_26, show nI i + (1 : Int32) = nI (i + 1) from nI_1 i, if_pos hq]
    rcases Nat.eq_zero_or_pos i with rfl | hp
    · rw [if_pos (by rfl), if_pos (by rfl)]
      exact st
    · rw [if_neg (nI_ne0 hp (by omega)), if_neg (nI_ne0 hp (by omega))]
      have a1 : gmN (s0N 0 201) i = 2000000000 := by
        unfold gmN
        rw [show s0N 0 201 i = 201 from if_neg (by omega), if_pos rfl]
      have a2 : s0N 1 0 i = 0 := by
        unfold s0N
        rw [if_neg (by omega)]
      rw [a1, a2] at st
      exact st
theorem gm_step {c x : Nat} {F : Nat → Nat} (hF : FI F) (hc : 1 ≤ c) (hcx : c ≤ x) (hx : x ≤ 200) {r : Nat → Int32} : upd (cwN r (gmN F)) x (if nI (gmN F x) ≤ nI (gmN F (x - c)) + 1 then nI (gmN F x) else nI (gmN F (x - c)) + 1) = cwN r (gmN (sfN c F x)) := by
  have b1 := hF x hx
  have b2 := hF (x - c) (by omega)
  have e1 : nI (gmN F (x - c)) + (1 : Int32) = nI (gmN F (x - c) + 1) := nI_1 _
  have g1 : gmN F x ≤ 2000000000 := by unfold gmN; split <;> omega
  have g2 : gmN F (x - c) ≤ 2000000000 := by unfold gmN; split <;> omega
  have e2 : (if nI (gmN F x) ≤ nI (gmN F (x - c) + 1) then nI (gmN F x) else nI (gmN F (x - c) + 1)) = nI (gmN (sfN c F x) x) := by
    have e3 : sfN c F x x = if F (x - c) + 1 < F x then F (x - c) + 1 else F x := if_pos rfl
    by_cases h : gmN F x ≤ gmN F (x - c) + 1
    · rw [if_pos (nI_le h (by omega))]
      congr 1
      unfold gmN at h ⊢
      rw [e3]
      by_cases q1 : F x = 201 <;> by_cases q2 : F (x - c) = 201 <;> simp only [q1, q2, if_true, if_false] at h ⊢ <;> (repeat' split) <;> omega
    · rw [if_neg (nI_ge (by omega) (by omega))]
      congr 1
      unfold gmN at h ⊢
      rw [e3]
      by_cases q1 : F x = 201 <;> by_cases q2 : F (x - c) = 201 <;> simp only [q1, q2, if_true, if_false] at h ⊢ <;> (repeat' split) <;> omega
  rw [e1, e2, cw_u hx]
  funext y
  show (if y ≤ 200 then nI (uN (gmN F) x (gmN (sfN c F x) x) y) else r y) = if y ≤ 200 then nI (gmN (sfN c F x) y) else r y
  by_cases h : y = x
  · rw [show uN (gmN F) x (gmN (sfN c F x) x) y = gmN (sfN c F x) y by rw [h]; exact if_pos rfl]
  · rw [show uN (gmN F) x (gmN (sfN c F x) x) y = gmN F y from if_neg h, show gmN (sfN c F x) y = gmN F y by unfold gmN; rw [show sfN c F x y = F y from if_neg h]]

/-! ===== coins, the reference's side ===== -/
/-- the reference's state with its two rows of coins -/
def m2 (M : St) (a b : Nat → Int32) : St := va_up (va_up M 25 a) 26 b
theorem m2_25 (M : St) (a b : Nat → Int32) (j : Nat) (v : Int32) : sti (m2 M a b) 25 j v = m2 M (upd a j v) b := by
  funext i
  show (if i = 25 then upd a j v else if i = 26 then b else if i = 25 then a else M i) = if i = 26 then b else if i = 25 then upd a j v else M i
  by_cases h : i = 25
  · rw [if_pos h, if_neg (by omega), if_pos h]
  · rw [if_neg h, if_neg h, if_neg h]
theorem m2_26 (M : St) (a b : Nat → Int32) (j : Nat) (v : Int32) : sti (m2 M a b) 26 j v = m2 M a (upd b j v) := by
  funext i
  show (if i = 26 then upd b j v else if i = 26 then b else if i = 25 then a else M i) = if i = 26 then upd b j v else if i = 25 then a else M i
  by_cases h : i = 26
  · rw [if_pos h, if_pos h]
  · rw [if_neg h, if_neg h, if_neg h]
theorem m2_self (M : St) : m2 M (M 25) (M 26) = M := by
  funext i
  show (if i = 26 then M 26 else if i = 25 then M 25 else M i) = M i
  by_cases h : i = 26
  · rw [if_pos h, h]
  · rw [if_neg h]
    by_cases h2 : i = 25
    · rw [if_pos h2, h2]
    · rw [if_neg h2]
def gmN (F : Nat → Nat) (x : Nat) : Nat := if F x = 201 then 2000000000 else F x

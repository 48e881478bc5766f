def newB (v : Nat → Int32) (K m C : Nat) (x y : Int32) : Nat → Int32 := if K = 3 ∨ K = 4 then tbw (npt v m C x 1 y) m (C + 1) (fun k => nI (dbl (C - k))) else npt v m C x (if K = 2 then x else 1) 0
theorem vC_new (s : cS) {m C : Nat} (hm : m < 8) (x w b : Int32) : vC (cu (cu (cu (cu (cu s 6 m (nI (C + 1))) 10 (16 * m + C) x) 11 (16 * m + C) 0) 12 (16 * m + C) w) 13 (16 * m + C) b) = npt (vC s) m C x w b := by
  have e3 := vC_cp (cu (cu (cu (cu s 6 m (nI (C + 1))) 10 (16 * m + C) x) 11 (16 * m + C) 0) 12 (16 * m + C) w) m C (c := 3) (by omega) b
  have e2 := vC_cp (cu (cu (cu s 6 m (nI (C + 1))) 10 (16 * m + C) x) 11 (16 * m + C) 0) m C (c := 2) (by omega) w
  have e1 := vC_cp (cu (cu s 6 m (nI (C + 1))) 10 (16 * m + C) x) m C (c := 1) (by omega) 0
  have e0 := vC_cp (cu s 6 m (nI (C + 1))) m C (c := 0) (by omega) x
  simp only [Nat.reduceAdd, Nat.add_zero] at e0 e1 e2 e3
  rw [e3, e2, e1, e0, vC_c6 s hm]
  funext j
  have : 18 ≤ pa m C := by unfold pa; omega
  unfold vput npt
  by_cases h10 : j = 10 + m
  · rw [if_neg (show ¬ j = pa m C + 3 by omega), if_neg (show ¬ j = pa m C + 2 by omega), if_neg (show ¬ j = pa m C + 1 by omega), if_neg (show ¬ j = pa m C by omega), if_pos h10, if_pos h10]
  · rw [if_neg h10, if_neg h10]
    by_cases h3 : j = pa m C + 3
    · rw [if_pos h3, if_neg (show ¬ j = pa m C by omega), if_neg (show ¬ j = pa m C + 1 by omega), if_neg (show ¬ j = pa m C + 2 by omega), if_pos h3]
    · rw [if_neg h3, if_neg h3]
      by_cases h2 : j = pa m C + 2
      · rw [if_pos h2, if_neg (show ¬ j = pa m C by omega), if_neg (show ¬ j = pa m C + 1 by omega), if_pos h2]
      · rw [if_neg h2, if_neg h2]
        by_cases h1 : j = pa m C + 1
        · rw [if_pos h1, if_neg (show ¬ j = pa m C by omega), if_pos h1]
        · rw [if_neg h1, if_neg h1]

section O
variable {N : Nat} {s : cS} {t : mS}
theorem npt_mu (t : mS) {m C : Nat} (hm : m < 8) (hc : t 0 (10 + m) = nI C) (x w b : Int32) : mu (mu (mu (mu (mu t 0 (pa m C) x) 0 (pa m C + 1) 0) 0 (pa m C + 2) w) 0 (pa m C + 3) b) 0 (10 + m) (nI (C + 1)) 0 = npt (t 0) m C x w b := by
  rw [mu_vput, mu_vput, mu_vput, mu_vput, mu_vput]
  funext j
  have : 18 ≤ pa m C := by unfold pa; omega
  unfold vput npt
  by_cases h10 : j = 10 + m
  · rw [if_pos h10, if_pos h10]
  · rw [if_neg h10, if_neg h10]
    by_cases h3 : j = pa m C + 3
    · rw [if_pos h3, if_neg (show ¬ j = pa m C by omega), if_neg (show ¬ j = pa m C + 1 by omega), if_neg (show ¬ j = pa m C + 2 by omega), if_pos h3]
    · rw [if_neg h3, if_neg h3]
      by_cases h2 : j = pa m C + 2
      · rw [if_pos h2, if_neg (show ¬ j = pa m C by omega), if_neg (show ¬ j = pa m C + 1 by omega), if_pos h2]
      · rw [if_neg h2, if_neg h2]
        by_cases h1 : j = pa m C + 1
        · rw [if_pos h1, if_neg (show ¬ j = pa m C by omega), if_pos h1]
        · rw [if_neg h1, if_neg h1]
end O

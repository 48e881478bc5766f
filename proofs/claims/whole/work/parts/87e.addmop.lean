section O
variable {N : Nat} {s : cS} {t : mS}
theorem m_add (hN : 100 ≤ N) {m C K : Nat} (hm : m < 8) (hC : C < 16) (hc : t 0 (10 + m) = nI C) (hK : K ≤ 4) (hk : t 0 (2 + m) = nI K) (x y w : Int32) (hw : w = if K = 2 then x else 1) : ∃ t2, f9_part_b141 N (nI m) x y (nI C) (nI (pa m C)) w (nI (pa m C) + 2) (mu (mu t 0 (pa m C) x) 0 (pa m C + 1) 0) = some (nI (C + 1), t2) ∧ (∀ f, f ≠ 0 → t2 f = t f) ∧ t2 0 = newB (t 0) K m C x y := by
  have hp := pa_lt hm hC
  have hbig : 18 ≤ pa m C := by unfold pa; omega
  have j2 := ix (pa m C + 2) 530 (by omega) (by omega)
  have j3 := ix (pa m C + 3) 530 (by omega) (by omega)
  have i2 := ix (2 + m) 530 (by omega) (by omega)
  have i10 := ix (10 + m) 530 (by omega) (by omega)
  have a2 : nI (pa m C) + 2 = nI (pa m C + 2) := nI_add _ 2
  have a3 : nI (pa m C) + 3 = nI (pa m C + 3) := nI_add _ 3
  have k0 : mu (mu (mu t 0 (pa m C) x) 0 (pa m C + 1) 0) 0 (pa m C + 2) w 0 (2 + m) = nI K := by
    rw [mu_rd, if_neg (by omega), mu_rd, if_neg (by omega), mu_rd, if_neg (by omega)]; exact hk
  have n0 : ∀ b, mu (mu (mu (mu t 0 (pa m C) x) 0 (pa m C + 1) 0) 0 (pa m C + 2) w) 0 (pa m C + 3) b 0 (10 + m) = nI C := fun b => by
    rw [mu_rd, if_neg (by omega), mu_rd, if_neg (by omega), mu_rd, if_neg (by omega), mu_rd, if_neg (by omega)]; exact hc
  have k3 : ∀ b, mu (mu (mu (mu (mu t 0 (pa m C) x) 0 (pa m C + 1) 0) 0 (pa m C + 2) w) 0 (pa m C + 3) b) 0 (10 + m) (nI (C + 1)) 0 (2 + m) = nI K := fun b => by
    rw [mu_rd, if_neg (by omega), mu_rd, if_neg (by omega)]; exact k0
  have fr : ∀ b f, f ≠ 0 → mu (mu (mu (mu (mu t 0 (pa m C) x) 0 (pa m C + 1) 0) 0 (pa m C + 2) w) 0 (pa m C + 3) b) 0 (10 + m) (nI (C + 1)) f = t f := fun b f hf => by
    rw [mu_ne _ _ _ hf, mu_ne _ _ _ hf, mu_ne _ _ _ hf, mu_ne _ _ _ hf, mu_ne _ _ _ hf]
  unfold f9_part_b141 f9_part_b163 f9_isStaged newB
  rw [a2, a3, nI_lit2, nI_lit10, if_pos j2.1, if_pos i2.1, j2.2, i2.2, k0]
  by_cases hs : K = 3 ∨ K = 4
  · have h2 : ¬ nI K ≤ 2 := nI_ge (a := 2) (by omega) (by omega)
    rw [if_neg h2, if_pos hs]
    simp only [Option.bind_some]
    rw [if_neg (show ¬ (1 : Int32) = 0 by decide), if_pos j3.1, if_pos i10.1, j3.2, i10.2, n0, nI_1, if_pos i2.1, k3, if_neg h2]
    simp only [Option.bind_some]
    rw [if_neg (show ¬ (1 : Int32) = 0 by decide)]
    obtain ⟨t2, d1, d2, d3⟩ := m_double (N := N) (t := mu (mu (mu (mu (mu t 0 (pa m C) x) 0 (pa m C + 1) 0) 0 (pa m C + 2) w) 0 (pa m C + 3) y) 0 (10 + m) (nI (C + 1))) hN hm (show C + 1 ≤ 16 by omega) x y
    have hw1 : w = 1 := by rw [hw, if_neg (by omega)]
    exact ⟨t2, d1, fun f hf => by rw [d2 f hf, fr y f hf], by rw [d3, npt_mu t hm hc, hw1]⟩
  · have h2 : nI K ≤ 2 := nI_le (b := 2) (by omega) (by omega)
    rw [if_pos h2, if_neg hs]
    simp only [Option.bind_some]
    rw [if_pos trivial, if_pos j3.1, if_pos i10.1, j3.2, i10.2, n0, nI_1, if_pos i2.1, k3, if_pos h2]
    simp only [Option.bind_some]
    rw [if_pos trivial]
    exact ⟨_, rfl, fun f hf => fr 0 f hf, by rw [npt_mu t hm hc, hw]⟩
end O

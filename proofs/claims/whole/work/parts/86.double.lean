/-! STAGES of a doubling METER: WORTHS double from the last to the first -/
def dbl (d : Nat) : Nat := if d ≤ 12 then 2 ^ d else 8000
theorem dbl_le (d : Nat) : 1 ≤ dbl d ∧ dbl d ≤ 8000 := by
  unfold dbl
  split
  · rename_i h
    have h1 : 2 ^ d ≤ 2 ^ 12 := Nat.pow_le_pow_right (by omega) h
    have h2 : 1 ≤ 2 ^ d := Nat.one_le_two_pow
    have h3 : (2 : Nat) ^ 12 = 4096 := rfl
    omega
  · omega
theorem dbl_next (d : Nat) : jmin 8000 (nI (dbl d) * 2) = nI (dbl (d + 1)) := by
  have hd := dbl_le d
  rw [show nI (dbl d) * 2 = nI (dbl d * 2) from pk_mul _ 2]
  unfold jmin
  have hp : 2 ^ (d + 1) = 2 ^ d * 2 := Nat.pow_succ 2 d
  by_cases q : d + 1 ≤ 12
  · have h1 : 2 ^ (d + 1) ≤ 2 ^ 12 := Nat.pow_le_pow_right (by omega) q
    have h3 : (2 : Nat) ^ 12 = 4096 := rfl
    have e : dbl d * 2 = dbl (d + 1) := by
      unfold dbl; rw [if_pos (by omega), if_pos q, hp]
    rw [e]
    have : dbl (d + 1) < 8000 := by unfold dbl; rw [if_pos q]; omega
    rw [if_pos (show nI (dbl (d + 1)) < 8000 from nI_lt (b := 8000) this (by omega))]
  · have e : dbl (d + 1) = 8000 := by unfold dbl; rw [if_neg q]
    have h2 : 8000 ≤ dbl d * 2 := by
      unfold dbl
      by_cases z : d ≤ 12
      · rw [if_pos z]
        have : d = 12 := by omega
        subst this
        exact Nat.le_of_ble_eq_true rfl
      · rw [if_neg z]; omega
    rw [e, if_neg (show ¬ nI (dbl d * 2) < 8000 from nI_nlt (a := dbl d * 2) (b := 8000) h2 (by omega))]
    rfl
section O
variable {N : Nat} {s : cS} {t : mS}
theorem double_some (hN : 100 ≤ N) {m C : Nat} (hm : m < 8) (hC : C + 1 ≤ 16) (hc : s.1 6 m = nI (C + 1)) : ∃ s', f3_doubleWorths N m s = some s' ∧ (∀ f, f ≠ 12 → s'.1 f = s.1 f) ∧ s'.2 = s.2 ∧ ∀ i, s'.1 12 i = if 16 * m ≤ i ∧ i < 16 * m + (C + 1) then nI (dbl (C - (i - 16 * m))) else s.1 12 i := by
  unfold f3_doubleWorths
  rw [hc, nI_pred]
  have key : ∀ s', (∀ f, f ≠ 12 → s'.1 f = s.1 f) → s'.2 = s.2 → (∀ i, s'.1 12 i = if 16 * m + (C + 1 - 0) ≤ i ∧ i < 16 * m + (C + 1) then nI (dbl (C - (i - 16 * m))) else s.1 12 i) → ∃ s2, f3_doubleWorths_l9 N m N (nI (dbl 0)) (if 0 ≤ C then nI (C - 0) else -1) s' = some s2 ∧ (∀ f, f ≠ 12 → s2.1 f = s.1 f) ∧ s2.2 = s.2 ∧ ∀ i, s2.1 12 i = if 16 * m ≤ i ∧ i < 16 * m + (C + 1) then nI (dbl (C - (i - 16 * m))) else s.1 12 i := by
    refine iter_ind (P := fun d (f : Int32 → Int32 → cS → Option cS) => ∀ s', (∀ f, f ≠ 12 → s'.1 f = s.1 f) → s'.2 = s.2 → (∀ i, s'.1 12 i = if 16 * m + (C + 1 - d) ≤ i ∧ i < 16 * m + (C + 1) then nI (dbl (C - (i - 16 * m))) else s.1 12 i) → ∃ s2, f (nI (dbl d)) (if d ≤ C then nI (C - d) else -1) s' = some s2 ∧ (∀ f, f ≠ 12 → s2.1 f = s.1 f) ∧ s2.2 = s.2 ∧ ∀ i, s2.1 12 i = if 16 * m ≤ i ∧ i < 16 * m + (C + 1) then nI (dbl (C - (i - 16 * m))) else s.1 12 i) (e := C + 1) ?_ ?_ (show C + 1 < N by omega)
    · intro k s' e1 e2 e3
      unfold f3_doubleWorths_l9b
      rw [if_neg (show ¬ C + 1 ≤ C by omega), if_pos (show (-1 : Int32) < 0 by decide)]
      refine ⟨s', rfl, e1, e2, fun i => ?_⟩
      rw [e3 i, Nat.sub_self, Nat.add_zero]
    · intro d hd k ih s' e1 e2 e3
      unfold f3_doubleWorths_l9b
      rw [if_pos (show d ≤ C by omega), if_neg (nI_pos (by omega)), partAt_some (C := C + 1) hm (show C - d < C + 1 by omega) hC (by rw [e1 6 (by omega)]; exact hc)]
      simp only [Option.bind_some]
      rw [if_pos (show 16 * m + (C - d) < 128 by omega)]
      unfold f3_doubleWorths_b28
      rw [dbl_next]
      have nx := ih (cu s' 12 (16 * m + (C - d)) (nI (dbl d))) (fun f hf => by rw [cu_ne _ _ _ hf]; exact e1 f hf) e2 (fun i => by
        rw [cu_rd, e3 i]
        by_cases q : i = 16 * m + (C - d)
        · rw [if_pos ⟨rfl, q⟩, if_pos (by omega), q, show C - (16 * m + (C - d) - 16 * m) = d by omega]
        · rw [if_neg (fun z => q z.2)]
          by_cases z : 16 * m + (C + 1 - d) ≤ i ∧ i < 16 * m + (C + 1)
          · rw [if_pos z, if_pos (by omega)]
          · rw [if_neg z, if_neg (by omega)])
      have e4 : nI (C - d) + (-1) = if d + 1 ≤ C then nI (C - (d + 1)) else -1 := by
        by_cases q : d + 1 ≤ C
        · rw [if_pos q, show C - d = C - (d + 1) + 1 by omega, pk_m1]
        · rw [if_neg q, show C - d = 0 by omega]; decide
      rw [e4]
      exact nx
  have := key s (fun _ _ => rfl) rfl (fun i => by rw [if_neg (by omega)])
  rw [if_pos (Nat.zero_le C), Nat.sub_zero] at this
  exact this
theorem m_double (hN : 100 ≤ N) {m C : Nat} (hm : m < 8) (hC : C + 1 ≤ 16) (p2 p3 : Int32) : ∃ t2, f9_part_l188 N (nI m) p2 p3 N (nI C) 0 t = some (nI (C + 1), t2) ∧ (∀ f, f ≠ 0 → t2 f = t f) ∧ t2 0 = tbw (t 0) m (C + 1) (fun k => nI (dbl (C - k))) := by
  have key : ∀ t', (∀ f, f ≠ 0 → t' f = t f) → t' 0 = tbw (t 0) m 0 (fun k => nI (dbl (C - k))) → ∃ t2, f9_part_l188 N (nI m) p2 p3 N (nI C) (nI 0) t' = some (nI (C + 1), t2) ∧ (∀ f, f ≠ 0 → t2 f = t f) ∧ t2 0 = tbw (t 0) m (C + 1) (fun k => nI (dbl (C - k))) := by
    refine iter_ind (P := fun k (f : Int32 → Int32 → mS → Option (Int32 × mS)) => ∀ t', (∀ f, f ≠ 0 → t' f = t f) → t' 0 = tbw (t 0) m k (fun k => nI (dbl (C - k))) → ∃ t2, f (nI C) (nI k) t' = some (nI (C + 1), t2) ∧ (∀ f, f ≠ 0 → t2 f = t f) ∧ t2 0 = tbw (t 0) m (C + 1) (fun k => nI (dbl (C - k)))) (e := C + 1) ?_ ?_ (show C + 1 < N by omega)
    · intro k t' e1 e2
      unfold f9_part_l188b
      rw [if_pos (nI_lt (by omega) (by omega)), nI_1]
      exact ⟨t', rfl, e1, e2⟩
    · intro k hk f ih t' e1 e2
      have hp := pa_lt hm (show k < 16 by omega)
      have hi := ix (pa m k + 2) 530 (by omega) (by omega)
      unfold f9_part_l188b
      rw [if_neg (nI_nlt (by omega) (by omega)), at_nI, pk_sub (show k ≤ C by omega)]
      simp only [Option.bind_some]
      rw [show nI (pa m k) + 2 = nI (pa m k + 2) from nI_add _ 2, if_pos hi.1, if_pos hi.1, hi.2, nI_1]
      have nx := ih (mu t' 0 (pa m k + 2) (nI (dbl (C - k)))) (fun f hf => by rw [mu_ne _ _ _ hf]; exact e1 f hf) (by
        rw [mu_vput, e2]
        funext j
        unfold vput tbw
        by_cases q : j = pa m k + 2
        · rw [if_pos q, if_pos (show pa m 0 ≤ j ∧ j < pa m (k + 1) ∧ (j - 18) % 4 = 2 by unfold pa at q ⊢; omega), show (j - pa m 0) / 4 = k by unfold pa at q ⊢; omega]
        · rw [if_neg q]
          by_cases z : pa m 0 ≤ j ∧ j < pa m k ∧ (j - 18) % 4 = 2
          · rw [if_pos z, if_pos (show pa m 0 ≤ j ∧ j < pa m (k + 1) ∧ (j - 18) % 4 = 2 by unfold pa at z ⊢; omega)]
          · rw [if_neg z, if_neg (show ¬ (pa m 0 ≤ j ∧ j < pa m (k + 1) ∧ (j - 18) % 4 = 2) from fun y => by unfold pa at y q z; omega)])
      by_cases q : C - k ≤ 12
      · rw [if_pos (show nI (C - k) ≤ 12 from nI_le (b := 12) q (by omega)), bit_nI _ (by omega), show 2 ^ (C - k) = dbl (C - k) by unfold dbl; rw [if_pos q]]
        exact nx
      · rw [if_neg (show ¬ nI (C - k) ≤ 12 from nI_ge (a := 12) (by omega) (by omega))]
        have e : nI (dbl (C - k)) = 8000 := by unfold dbl; rw [if_neg q]; rfl
        rw [e] at nx
        exact nx
  refine key t (fun _ _ => rfl) ?_
  funext j
  unfold tbw
  rw [if_neg (by omega)]
end O

/-! all WORTHS of a METER: kept, given back, mended -/
theorem vC_w {s1 s2 : cS} {m C : Nat} {w : Nat → Int32} (h1 : ∀ f, f ≠ 12 → s2.1 f = s1.1 f) (h2 : ∀ i, s2.1 12 i = if 16 * m ≤ i ∧ i < 16 * m + C then w (i - 16 * m) else s1.1 12 i) : vC s2 = tbw (vC s1) m C w := by
  funext j
  unfold tbw
  rw [vC_def, vC_def s1, h1 0 (by omega), h1 1 (by omega), h1 5 (by omega), h1 6 (by omega)]
  by_cases q : j < 18
  · rw [if_neg (show ¬ (pa m 0 ≤ j ∧ j < pa m C ∧ (j - 18) % 4 = 2) from fun z => by unfold pa at z; omega)]
    by_cases h0 : j = 0
    · rw [if_pos h0, if_pos h0]
    · rw [if_neg h0, if_neg h0]
      by_cases h1 : j = 1
      · rw [if_pos h1, if_pos h1]
      · rw [if_neg h1, if_neg h1]
        by_cases h2 : j < 10
        · rw [if_pos h2, if_pos h2]
        · rw [if_neg h2, if_neg h2, if_pos q, if_pos q]
  · rw [if_neg (show ¬ j = 0 by omega), if_neg (show ¬ j = 1 by omega), if_neg (show ¬ j < 10 by omega), if_neg q, if_neg (show ¬ j = 0 by omega), if_neg (show ¬ j = 1 by omega), if_neg (show ¬ j < 10 by omega), if_neg q]
    by_cases c : (j - 18) % 4 = 2
    · rw [c, h2]
      by_cases z : 16 * m ≤ (j - 18) / 4 ∧ (j - 18) / 4 < 16 * m + C
      · have hz : pa m 0 ≤ j ∧ j < pa m C ∧ 2 = 2 := by unfold pa; omega
        rw [if_pos z, if_pos hz]
        congr 1
        unfold pa; omega
      · rw [if_neg z, if_neg (show ¬ (pa m 0 ≤ j ∧ j < pa m C ∧ 2 = 2) from fun y => z (by unfold pa at y; omega))]
    · rw [h1 (10 + (j - 18) % 4) (by omega), if_neg (show ¬ (pa m 0 ≤ j ∧ j < pa m C ∧ (j - 18) % 4 = 2) from fun y => c y.2.2)]
theorem cuw_1 (s : cS) (a j : Nat) (v : Int32) : (cuw s a j v).1 = s.1 ∧ (cuw s a j v).2.1 = s.2.1 := ⟨rfl, rfl⟩
theorem cuw_rd (s : cS) (a j : Nat) (v : Int32) (b i : Nat) : (cuw s a j v).2.2 b i = if b = a ∧ i = j then v else s.2.2 b i := rfl
section O
variable {N : Nat} {s : cS} {t : mS}
theorem keep_some (hN : 100 ≤ N) {m C nx : Nat} (hm : m < 8) (hC : C ≤ 16) (hc : s.1 6 m = nI C) (hx : nx < 60) : ∃ s', f3_keepWorths N m nx s = some s' ∧ s'.1 = s.1 ∧ s'.2.1 = s.2.1 ∧ (∀ a, a ≠ nx → s'.2.2 a = s.2.2 a) ∧ ∀ j, j < C → s'.2.2 nx j = s.1 12 (16 * m + j) := by
  have key : ∀ s', s'.1 = s.1 → s'.2.1 = s.2.1 → (∀ a, a ≠ nx → s'.2.2 a = s.2.2 a) → (∀ j, j < 0 → s'.2.2 nx j = s.1 12 (16 * m + j)) → ∃ s2, f3_keepWorths_l2 N m nx N (nI 0) s' = some s2 ∧ s2.1 = s.1 ∧ s2.2.1 = s.2.1 ∧ (∀ a, a ≠ nx → s2.2.2 a = s.2.2 a) ∧ ∀ j, j < C → s2.2.2 nx j = s.1 12 (16 * m + j) := by
    refine iter_ind (P := fun k (f : Int32 → cS → Option cS) => ∀ s', s'.1 = s.1 → s'.2.1 = s.2.1 → (∀ a, a ≠ nx → s'.2.2 a = s.2.2 a) → (∀ j, j < k → s'.2.2 nx j = s.1 12 (16 * m + j)) → ∃ s2, f (nI k) s' = some s2 ∧ s2.1 = s.1 ∧ s2.2.1 = s.2.1 ∧ (∀ a, a ≠ nx → s2.2.2 a = s.2.2 a) ∧ ∀ j, j < C → s2.2.2 nx j = s.1 12 (16 * m + j)) (e := C) ?_ ?_ (show C < N by omega)
    · intro k s' e1 e2 e3 e4
      unfold f3_keepWorths_l2b
      rw [e1, hc, if_pos (Int32.le_refl _)]
      exact ⟨s', rfl, e1, e2, e3, e4⟩
    · intro j hj k ih s' e1 e2 e3 e4
      have hji := ix j 16 (by omega) (by omega)
      unfold f3_keepWorths_l2b
      rw [e1, hc, if_neg (nI_ge hj (by omega)), if_pos hx, if_neg (show ¬ (16 : Int32) ≤ nI j from nI_ge (b := 16) (by omega) (by omega)), partAt_some hm hj hC (by rw [e1]; exact hc)]
      simp only [Option.bind_some]
      rw [if_pos (show 16 * m + j < 128 by omega), if_pos hji.1, hji.2, nI_1, e1]
      refine ih _ e1 e2 (fun a ha => ?_) (fun i hi => ?_)
      · funext i; rw [cuw_rd, if_neg (fun z => ha z.1), e3 a ha]
      · rw [cuw_rd]
        by_cases q : i = j
        · rw [if_pos ⟨rfl, q⟩, q]
        · rw [if_neg (fun z => q z.2)]; exact e4 i (by omega)
  exact key s rfl rfl (fun _ _ => rfl) (fun j hj => absurd hj (Nat.not_lt_zero j))
theorem give_some (hN : 100 ≤ N) {m C a : Nat} (hm : m < 8) (hC : C ≤ 16) (hc : s.1 6 m = nI C) (ha : a < 60) : ∃ s', f3_giveWorths N m a s = some s' ∧ (∀ f, f ≠ 12 → s'.1 f = s.1 f) ∧ s'.2 = s.2 ∧ ∀ i, s'.1 12 i = if 16 * m ≤ i ∧ i < 16 * m + C then s.2.2 a (i - 16 * m) else s.1 12 i := by
  have key : ∀ s', (∀ f, f ≠ 12 → s'.1 f = s.1 f) → s'.2 = s.2 → (∀ i, s'.1 12 i = if 16 * m ≤ i ∧ i < 16 * m + 0 then s.2.2 a (i - 16 * m) else s.1 12 i) → ∃ s2, f3_giveWorths_l2 N m a N (nI 0) s' = some s2 ∧ (∀ f, f ≠ 12 → s2.1 f = s.1 f) ∧ s2.2 = s.2 ∧ ∀ i, s2.1 12 i = if 16 * m ≤ i ∧ i < 16 * m + C then s.2.2 a (i - 16 * m) else s.1 12 i := by
    refine iter_ind (P := fun k (f : Int32 → cS → Option cS) => ∀ s', (∀ f, f ≠ 12 → s'.1 f = s.1 f) → s'.2 = s.2 → (∀ i, s'.1 12 i = if 16 * m ≤ i ∧ i < 16 * m + k then s.2.2 a (i - 16 * m) else s.1 12 i) → ∃ s2, f (nI k) s' = some s2 ∧ (∀ f, f ≠ 12 → s2.1 f = s.1 f) ∧ s2.2 = s.2 ∧ ∀ i, s2.1 12 i = if 16 * m ≤ i ∧ i < 16 * m + C then s.2.2 a (i - 16 * m) else s.1 12 i) (e := C) ?_ ?_ (show C < N by omega)
    · intro k s' e1 e2 e3
      unfold f3_giveWorths_l2b
      rw [e1 6 (by omega), hc, if_pos (Int32.le_refl _)]
      exact ⟨s', rfl, e1, e2, e3⟩
    · intro j hj k ih s' e1 e2 e3
      have hji := ix j 16 (by omega) (by omega)
      unfold f3_giveWorths_l2b
      rw [e1 6 (by omega), hc, if_neg (nI_ge hj (by omega)), if_pos ha, if_neg (show ¬ (16 : Int32) ≤ nI j from nI_ge (b := 16) (by omega) (by omega)), partAt_some hm hj hC (by rw [e1 6 (by omega)]; exact hc)]
      simp only [Option.bind_some]
      rw [if_pos hji.1, if_pos (show 16 * m + j < 128 by omega), hji.2, nI_1, e2]
      refine ih _ (fun f hf => by rw [cu_ne _ _ _ hf]; exact e1 f hf) e2 (fun i => ?_)
      rw [cu_rd, e3 i]
      by_cases q : i = 16 * m + j
      · rw [if_pos ⟨rfl, q⟩, if_pos (by omega), q, show 16 * m + j - 16 * m = j by omega]
      · rw [if_neg (fun z => q z.2)]
        by_cases z : 16 * m ≤ i ∧ i < 16 * m + j
        · rw [if_pos z, if_pos (by omega)]
        · rw [if_neg z, if_neg (by omega)]
  exact key s (fun _ _ => rfl) rfl (fun i => by rw [if_neg (by omega)])
theorem mend_some (hN : 100 ≤ N) {m C : Nat} (hm : m < 8) (hC : C ≤ 16) (hc : s.1 6 m = nI C) : ∃ s', f3_mendWorths N m s = some s' ∧ (∀ f, f ≠ 12 → s'.1 f = s.1 f) ∧ s'.2 = s.2 ∧ ∀ i, s'.1 12 i = if 16 * m ≤ i ∧ i < 16 * m + C then sis s m (i - 16 * m) else s.1 12 i := by
  have key : ∀ s', (∀ f, f ≠ 12 → s'.1 f = s.1 f) → s'.2 = s.2 → (∀ i, s'.1 12 i = if 16 * m ≤ i ∧ i < 16 * m + 0 then sis s m (i - 16 * m) else s.1 12 i) → ∃ s2, f3_mendWorths_l2 N m N (nI 0) s' = some s2 ∧ (∀ f, f ≠ 12 → s2.1 f = s.1 f) ∧ s2.2 = s.2 ∧ ∀ i, s2.1 12 i = if 16 * m ≤ i ∧ i < 16 * m + C then sis s m (i - 16 * m) else s.1 12 i := by
    refine iter_ind (P := fun k (f : Int32 → cS → Option cS) => ∀ s', (∀ f, f ≠ 12 → s'.1 f = s.1 f) → s'.2 = s.2 → (∀ i, s'.1 12 i = if 16 * m ≤ i ∧ i < 16 * m + k then sis s m (i - 16 * m) else s.1 12 i) → ∃ s2, f (nI k) s' = some s2 ∧ (∀ f, f ≠ 12 → s2.1 f = s.1 f) ∧ s2.2 = s.2 ∧ ∀ i, s2.1 12 i = if 16 * m ≤ i ∧ i < 16 * m + C then sis s m (i - 16 * m) else s.1 12 i) (e := C) ?_ ?_ (show C < N by omega)
    · intro k s' e1 e2 e3
      unfold f3_mendWorths_l2b
      rw [e1 6 (by omega), hc, if_pos (Int32.le_refl _)]
      exact ⟨s', rfl, e1, e2, e3⟩
    · intro j hj k ih s' e1 e2 e3
      unfold f3_mendWorths_l2b
      rw [e1 6 (by omega), hc, if_neg (nI_ge hj (by omega)), partAt_some hm hj hC (by rw [e1 6 (by omega)]; exact hc)]
      simp only [Option.bind_some, asItIs_some]
      rw [if_pos (show 16 * m + j < 128 by omega), nI_1, e1 10 (by omega), e1 11 (by omega)]
      refine ih _ (fun f hf => by rw [cu_ne _ _ _ hf]; exact e1 f hf) e2 (fun i => ?_)
      rw [cu_rd, e3 i]
      by_cases q : i = 16 * m + j
      · rw [if_pos ⟨rfl, q⟩, if_pos (by omega), q, show 16 * m + j - 16 * m = j by omega]
        rfl
      · rw [if_neg (fun z => q z.2)]
        by_cases z : 16 * m ≤ i ∧ i < 16 * m + j
        · rw [if_pos z, if_pos (by omega)]
        · rw [if_neg z, if_neg (by omega)]
  exact key s (fun _ _ => rfl) rfl (fun i => by rw [if_neg (by omega)])
end O

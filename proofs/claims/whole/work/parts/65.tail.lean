/-! balances: what lies together, TAIL; and how often a code is met -/
theorem iter_s {α : Type} (b : α → α) (z : α) {n : Nat} (h : 0 < n) : iter b z n = b (iter b z (n - 1)) := by
  obtain ⟨k, rfl⟩ : ∃ k, n = k + 1 := ⟨n - 1, by omega⟩
  rfl
def sumI (f : Nat → Int32) : Nat → Int32
  | 0 => 0
  | n + 1 => sumI f n + f n
section O
variable {N : Nat} {s : cS} {t : mS}
theorem isOf_some (N : Nat) (t : mS) {m k : Nat} (hm : m < 8) (hk : k < 16) : f9_isOf N (nI m) (nI k) t = some (vis (t 0) m k, t) := by
  have hp := pa_lt hm hk
  have e0 := ix (pa m k) 530 (by omega) (by omega)
  have e1 := ix (pa m k + 1) 530 (by omega) (by omega)
  unfold f9_isOf
  rw [at_nI]
  simp only [Option.bind_some]
  rw [if_pos e0.1, at_nI]
  simp only [Option.bind_some]
  rw [show nI (pa m k) + 1 = nI (pa m k + 1) from nI_add _ 1, if_pos e1.1, e0.2, e1.2]
  rfl
theorem sis_vis (h : RelA s t) {m k : Nat} (hm : m < vM (t 0)) (hk : k < vcn (t 0) m) : s.1 10 (16 * m + k) + s.1 11 (16 * m + k) = vis (t 0) m k := by
  have hp := h.part hm hk
  rw [hp.1, hp.2.1]; rfl
theorem together_some (hN : 100 ≤ N) (h : RelA s t) {m : Nat} (hm : m < vM (t 0)) : f3_together N m s = some (sumI (vis (t 0) m) (vcn (t 0) m), s) := by
  have hc := h.1.cn hm
  have hme := h.meter hm
  unfold f3_together
  refine iter_ind (P := fun j (f : Int32 → Int32 → cS → Option (Int32 × cS)) => f (sumI (vis (t 0) m) j) (nI j) s = some (sumI (vis (t 0) m) (vcn (t 0) m), s)) (e := vcn (t 0) m) ?_ ?_ (show vcn (t 0) m < N by omega)
  · intro k
    unfold f3_together_l4b
    rw [hme.2.2, hc.2, if_pos (Int32.le_refl _)]
  · intro j hj k ih
    unfold f3_together_l4b
    rw [hme.2.2, hc.2, if_neg (nI_ge hj (by omega)), partAt_some hme.1 hj hc.1 (by rw [hme.2.2]; exact hc.2)]
    simp only [Option.bind_some, asItIs_some]
    rw [if_pos (by omega), sis_vis h hm hj, nI_1]
    exact ih
/-- a balance, or trouble -/
theorem balance_of (N : Nat) (h : RelA s t) {m : Nat} (hm : m < vM (t 0)) : (f8_whyNoBalance N (some m) s = some (0, s) ∧ t 0 (2 + m) = 2) ∨ (f8_whyNoBalance N (some m) s = some (4, s) ∧ ¬ t 0 (2 + m) = 2) := by
  have hme := h.meter hm
  unfold f8_whyNoBalance
  simp only
  rw [if_pos hme.1, hme.2.1]
  by_cases q : t 0 (2 + m) = 2
  · left; rw [if_pos q]; exact ⟨rfl, q⟩
  · right; rw [if_neg q]; exact ⟨rfl, q⟩
theorem o_covered (hN : 100 ≤ N) (h : Rel s t) (p : Int32) : ∃ r s1 t1, f8_covered N p s = some (r, s1) ∧ f9_covered N p t = some (r, t1) ∧ Rel s1 t1 := by
  have h := h.thrown
  unfold f8_covered f9_covered
  generalize mu t 4 0 0 = t at h ⊢
  have k1 : ¬ (1 : Int32) = 0 := by decide
  rcases meter_of N h.1 p with ⟨h1, h2⟩ | ⟨m, hm, h8, rfl, h1, h2⟩
  · rw [h1, h2]
    exact ⟨_, _, _, rfl, rfl, h.tr 2⟩
  rw [h1, h2]
  simp only [Option.bind_some]
  have i2 := ix (2 + m) 530 (by omega) (by omega)
  rw [if_neg k1, nI_lit2, if_pos i2.1, i2.2]
  rcases balance_of N h.1 hm with ⟨b1, b2⟩ | ⟨b1, b2⟩
  · rw [b1, if_pos b2]
    simp only [Option.bind_some]
    rw [cu_at, if_pos rfl, if_pos h8]
    replace h := h.tr 0
    replace hm : m < vM (mu t 3 0 0 0) := hm
    generalize cu s 3 0 0 = s at h ⊢
    generalize mu t 3 0 0 = t at h hm ⊢
    have hc := h.1.1.cn hm
    have hme := h.1.meter hm
    have i10 := ix (10 + m) 530 (by omega) (by omega)
    unfold f3_firstUncovered
    rw [together_some hN h.1 hm]
    simp only [Option.bind_some]
    have inner : ∀ (kk : Int32 → mS → Option (Int32 × mS)) (a : Nat), a < vcn (t 0) m → f9_covered_l64 N (nI m) kk N (nI a) 1 (nI (a + 1)) t = if vis (t 0) m a < 0 ∨ 1 + (sumI (vis (t 0) m) (vcn (t 0) m) - sumI (vis (t 0) m) (a + 1)) < vis (t 0) m a then some (nI a, t) else kk (nI (a + 1)) t := by
      intro kk a ha
      have key : f9_covered_l64 N (nI m) kk N (nI a) (1 + (sumI (vis (t 0) m) (a + 1 + 0) - sumI (vis (t 0) m) (a + 1))) (nI (a + 1 + 0)) t = if vis (t 0) m a < 0 ∨ 1 + (sumI (vis (t 0) m) (vcn (t 0) m) - sumI (vis (t 0) m) (a + 1)) < vis (t 0) m a then some (nI a, t) else kk (nI (a + 1)) t := by
        refine iter_ind (P := fun j (f : Int32 → Int32 → Int32 → mS → Option (Int32 × mS)) => f (nI a) (1 + (sumI (vis (t 0) m) (a + 1 + j) - sumI (vis (t 0) m) (a + 1))) (nI (a + 1 + j)) t = if vis (t 0) m a < 0 ∨ 1 + (sumI (vis (t 0) m) (vcn (t 0) m) - sumI (vis (t 0) m) (a + 1)) < vis (t 0) m a then some (nI a, t) else kk (nI (a + 1)) t) (e := vcn (t 0) m - (a + 1)) ?_ ?_ (show vcn (t 0) m - (a + 1) < N by omega)
        · intro k
          unfold f9_covered_l64b f9_in
          rw [show a + 1 + (vcn (t 0) m - (a + 1)) = vcn (t 0) m by omega, nI_lit10, if_pos i10.1, i10.2, hc.2, if_pos (Int32.le_refl _), isOf_some N t h8 (by omega)]
          simp only [Option.bind_some]
          by_cases z : vis (t 0) m a < 0
          · rw [if_pos z, if_pos (Or.inl z)]; rfl
          · rw [if_neg z]
            by_cases y : 1 + (sumI (vis (t 0) m) (vcn (t 0) m) - sumI (vis (t 0) m) (a + 1)) < vis (t 0) m a
            · rw [if_pos y, if_pos (Or.inr y)]; rfl
            · rw [if_neg y, if_neg (fun q => q.elim z y)]
              simp only [Option.bind_some]
              rw [if_neg k1, nI_1]
        · intro j hj k ih
          unfold f9_covered_l64b
          rw [nI_lit10, if_pos i10.1, i10.2, hc.2, if_neg (nI_ge (by omega) (by omega)), isOf_some N t h8 (by omega)]
          simp only [Option.bind_some]
          rw [nI_1]
          have e : 1 + (sumI (vis (t 0) m) (a + 1 + j) - sumI (vis (t 0) m) (a + 1)) + vis (t 0) m (a + 1 + j) = 1 + (sumI (vis (t 0) m) (a + 1 + (j + 1)) - sumI (vis (t 0) m) (a + 1)) := by
            show _ = 1 + ((sumI (vis (t 0) m) (a + 1 + j) + vis (t 0) m (a + 1 + j)) - sumI (vis (t 0) m) (a + 1))
            grind
          rw [e]
          exact ih
      have e0 : (1 : Int32) + (sumI (vis (t 0) m) (a + 1 + 0) - sumI (vis (t 0) m) (a + 1)) = 1 := by
        rw [Nat.add_zero, Int32.sub_self]; decide
      rw [e0] at key
      exact key
    have key : ∃ r, f3_firstUncovered_l7 N m N (sumI (vis (t 0) m) (vcn (t 0) m) - sumI (vis (t 0) m) 0) (nI 0) s = some (r, s) ∧ f9_covered_l44 N (nI m) N (nI 0) t = some (r, t) := by
      refine iter_ind2 (P := fun j (f : Int32 → Int32 → cS → Option (Int32 × cS)) (g : Int32 → mS → Option (Int32 × mS)) => ∃ r, f (sumI (vis (t 0) m) (vcn (t 0) m) - sumI (vis (t 0) m) j) (nI j) s = some (r, s) ∧ g (nI j) t = some (r, t)) (e := vcn (t 0) m) ?_ ?_ (by omega) (by omega)
      · intro k k'
        unfold f3_firstUncovered_l7b f9_covered_l44b
        rw [hme.2.2, hc.2, if_pos (Int32.le_refl _), nI_lit10, if_pos i10.1, i10.2, hc.2, if_pos (Int32.le_refl _)]
        exact ⟨_, rfl, rfl⟩
      · intro j hj k k' ih
        unfold f3_firstUncovered_l7b f9_covered_l44b
        rw [hme.2.2, hc.2, if_neg (nI_ge hj (by omega)), partAt_some hme.1 hj hc.1 (by rw [hme.2.2]; exact hc.2), nI_lit10, if_pos i10.1, i10.2, hc.2, if_neg (nI_ge hj (by omega)), nI_1, inner k' j hj]
        simp only [Option.bind_some, asItIs_some]
        rw [if_pos (by omega), sis_vis h.1 hm hj]
        unfold f3_firstUncovered_b33
        have e1 : sumI (vis (t 0) m) (vcn (t 0) m) - sumI (vis (t 0) m) j - vis (t 0) m j = sumI (vis (t 0) m) (vcn (t 0) m) - sumI (vis (t 0) m) (j + 1) := by
          show _ = sumI (vis (t 0) m) (vcn (t 0) m) - (sumI (vis (t 0) m) j + vis (t 0) m j)
          grind
        rw [e1, Int32.add_comm _ 1, nI_1]
        by_cases z : vis (t 0) m j < 0
        · rw [if_pos z, if_pos (Or.inl z)]; exact ⟨_, rfl, rfl⟩
        · rw [if_neg z]
          by_cases y : 1 + (sumI (vis (t 0) m) (vcn (t 0) m) - sumI (vis (t 0) m) (j + 1)) < vis (t 0) m j
          · rw [if_pos (Or.inr y), if_neg (fa_of_lt y).2.1]; exact ⟨_, rfl, rfl⟩
          · rw [if_pos (fa_of_nlt y), if_neg (fun q => q.elim z y)]
            exact ih
    obtain ⟨r, r1, r2⟩ := key
    rw [show sumI (vis (t 0) m) 0 = 0 from rfl, Int32.sub_zero] at r1
    rw [show f3_firstUncovered_l7 N m N (sumI (vis (t 0) m) (vcn (t 0) m)) 0 s = some (r, s) from r1, show f9_covered_l44 N (nI m) N 0 t = some (r, t) from r2]
    exact ⟨_, _, _, rfl, rfl, h⟩
  · rw [b1, if_neg b2]
    simp only [Option.bind_some]
    rw [cu_at, if_neg (show ¬ (4 : Int32) = 0 by decide)]
    exact ⟨_, _, _, rfl, rfl, h.tr 4⟩
theorem o_tail (hN : 5000 ≤ N) (h : Rel s t) (p : Int32) : ∃ r s1 t1, f8_tail N p s = some (r, s1) ∧ f9_tail N p t = some (r, t1) ∧ Rel s1 t1 := by
  have h := h.thrown
  unfold f8_tail f9_tail
  generalize mu t 4 0 0 = t at h ⊢
  have k1 : ¬ (1 : Int32) = 0 := by decide
  rcases meter_of N h.1 p with ⟨h1, h2⟩ | ⟨m, hm, h8, rfl, h1, h2⟩
  · rw [h1, h2]
    exact ⟨_, _, _, rfl, rfl, h.tr 2⟩
  rw [h1, h2]
  simp only [Option.bind_some]
  have i2 := ix (2 + m) 530 (by omega) (by omega)
  rw [if_neg k1, nI_lit2, if_pos i2.1, i2.2]
  rcases balance_of N h.1 hm with ⟨b1, b2⟩ | ⟨b1, b2⟩
  · rw [b1, if_pos b2]
    simp only [Option.bind_some]
    rw [cu_at, if_pos rfl, if_pos h8]
    replace h := h.tr 0
    replace hm : m < vM (mu t 3 0 0 0) := hm
    generalize cu s 3 0 0 = s at h ⊢
    generalize mu t 3 0 0 = t at h hm ⊢
    obtain ⟨T, M, hT1, hT2, hM, e1, e2, e3, e4, e5, e6⟩ := h.1.base
    have hc := h.1.1.cn hm
    have hme := h.1.meter hm
    have i10 := ix (10 + m) 530 (by omega) (by omega)
    rw [together_some (by omega) h.1 hm]
    simp only [Option.bind_some]
    obtain ⟨s1, a1, a2, -, -⟩ := c_code (N := N) (by omega) h.1 hm (num_bnd (show 0 ≤ 4095 by omega)) (Sc.rf s)
    rw [show f3_codeOf N m 0 s = some ((cdq (t 0) m (nI 0)).1, s1) from a2]
    simp only [Option.bind_some]
    -- the limit
    have lim2 : ∃ L, L ≤ T ∧ jmax 0 (jmin (s.1 0 0) (sumI (vis (t 0) m) (vcn (t 0) m))) = nI L ∧ ∀ f : Int32 → Option (Int32 × mS), (if 0 ≤ sumI (vis (t 0) m) (vcn (t 0) m) then (if t 0 0 ≤ sumI (vis (t 0) m) (vcn (t 0) m) then f (t 0 0) else f (sumI (vis (t 0) m) (vcn (t 0) m))) else f 0) = f (nI L) := by
      rw [e1, e2]
      generalize sumI (vis (t 0) m) (vcn (t 0) m) = S
      have hTI : (nI T).toInt = T := nI_toInt (by omega)
      by_cases z : 0 ≤ S
      · have z' := (fa_le _ _).mp z
        rw [i0] at z'
        by_cases y : nI T ≤ S
        · refine ⟨T, Nat.le_refl _, ?_, fun f => by rw [if_pos z, if_pos y]⟩
          unfold jmin
          rw [if_neg (Int32.not_lt.mpr y)]
          unfold jmax
          rw [if_pos (show (0 : Int32) < nI T from nI_lt (a := 0) (by omega) (by omega))]
        · obtain ⟨L, hL, rfl⟩ := nI_of (x := S) (by rw [fa_lt, i0]; omega)
          have hLT : L < T := by
            rcases Nat.lt_or_ge L T with q | q
            · exact q
            · exact absurd (nI_le q hL) y
          refine ⟨L, by omega, ?_, fun f => by rw [if_pos z, if_neg y]⟩
          unfold jmin
          rw [if_pos (nI_lt hLT (by omega))]
          unfold jmax
          by_cases w : (0 : Int32) < nI L
          · rw [if_pos w]
          · rw [if_neg w]
            have : L = 0 := by
              rcases Nat.eq_zero_or_pos L with q | q
              · exact q
              · exact absurd (nI_lt (a := 0) q hL) w
            rw [this]; rfl
      · refine ⟨0, Nat.zero_le _, ?_, fun f => by rw [if_neg z]; rfl⟩
        have z' : S.toInt < 0 := by
          have : ¬ (0 : Int32).toInt ≤ S.toInt := fun q => z ((fa_le _ _).mpr q)
          rw [i0] at this; omega
        unfold jmin
        rw [if_pos (by rw [fa_lt, hTI]; omega)]
        unfold jmax
        rw [if_neg (by rw [fa_lt, i0]; omega)]
        rfl
    obtain ⟨L, hL, l1, l2⟩ := lim2
    rw [l1]
    have sum : f9_tail_l46 N (nI m) N 0 0 t = f9_tail_l110 N (nI m) N (nI L) (-2147483648) 0 t := by
      show f9_tail_l46 N (nI m) N (sumI (vis (t 0) m) 0) (nI 0) t = _
      refine iter_ind (P := fun j (f : Int32 → Int32 → mS → Option (Int32 × mS)) => f (sumI (vis (t 0) m) j) (nI j) t = f9_tail_l110 N (nI m) N (nI L) (-2147483648) 0 t) (e := vcn (t 0) m) ?_ ?_ (show vcn (t 0) m < N by omega)
      · intro k
        unfold f9_tail_l46b
        rw [nI_lit10, if_pos i10.1, i10.2, hc.2, if_pos (Int32.le_refl _), tc0]
        exact l2 (fun x => f9_tail_l110 N (nI m) N x (-2147483648) 0 t)
      · intro j hj k ih
        unfold f9_tail_l46b
        rw [nI_lit10, if_pos i10.1, i10.2, hc.2, if_neg (nI_ge hj (by omega)), isOf_some N t h8 (by omega)]
        simp only [Option.bind_some]
        rw [nI_1]
        exact ih
    have key : ∀ a s' t', Sc s s' → Sm t t' → ∃ r s1 t1, f8_tail_l54 N (nI m) N m (nI L) a (nI (0 + 1)) s' = some (r, s1) ∧ iter (fun k => f9_tail_l110b N (nI m) k) (fun _ _ _ _ => none) (N - 1) (nI L) a (nI (0 + 1)) t' = some (r, t1) ∧ Sc s s1 ∧ Sm t t1 := by
      refine iter_ind2 (P := fun j (f : Nat → Int32 → Int32 → Int32 → cS → Option (Int32 × cS)) (g : Int32 → Int32 → Int32 → mS → Option (Int32 × mS)) => ∀ a s' t', Sc s s' → Sm t t' → ∃ r s1 t1, f m (nI L) a (nI (j + 1)) s' = some (r, s1) ∧ g (nI L) a (nI (j + 1)) t' = some (r, t1) ∧ Sc s s1 ∧ Sm t t1) (e := L) ?_ ?_ (by omega) (by omega)
      · intro k k' a s' t' hs ht
        unfold f8_tail_l54b f9_tail_l110b
        rw [if_pos (nI_lt (by omega) (by omega)), if_pos (nI_lt (by omega) (by omega))]
        exact ⟨_, _, _, rfl, rfl, hs, ht⟩
      · intro j hj k k' ih a s' t' hs ht
        obtain ⟨s2, c1, c2, -, -⟩ := c_code (N := N) (by omega) h.1 hm (num_bnd (show j + 1 ≤ 4095 by omega)) hs
        obtain ⟨t2, d1, d2⟩ := m_code (N := N) (by omega) (wf_mOk h.1.1 hm) (nI (j + 1)) ht
        unfold f8_tail_l54b f9_tail_l110b
        rw [if_neg (nI_nlt (by omega) (by omega)), if_neg (nI_nlt (by omega) (by omega)), if_pos h8, c2, d2]
        simp only [Option.bind_some]
        rw [nI_1]
        unfold jmax
        by_cases z : a < nI (j + 1) - (cdq (t 0) m (nI (j + 1))).1
        · rw [if_pos z, if_neg (fa_of_lt z).2.1]
          exact ih _ s2 t2 c1 d1
        · rw [if_neg z, if_pos (fa_of_nlt z)]
          exact ih _ s2 t2 c1 d1
    obtain ⟨t2, d1, d2⟩ := m_code (N := N) (by omega) (wf_mOk h.1.1 hm) (nI 0) (Sm.rf t)
    obtain ⟨r, s3, t3, x1, x2, x3, x4⟩ := key (-(cdq (t 0) m (nI 0)).1) s1 t2 a1 d1
    have fst : f9_tail_l110 N (nI m) N (nI L) (-2147483648) 0 t = some (r, t3) := by
      unfold f9_tail_l110
      rw [iter_s _ _ (show 0 < N by omega)]
      show f9_tail_l110b N (nI m) _ (nI L) (-2147483648) (nI 0) t = _
      unfold f9_tail_l110b
      rw [if_neg (nI_nlt (by omega) (by omega)), d2]
      simp only [Option.bind_some]
      obtain ⟨q1, q2⟩ := code_bnd h.1.1 hm (nI 0)
      have e0 : nI 0 - (cdq (t 0) m (nI 0)).1 = -(cdq (t 0) m (nI 0)).1 := by
        show 0 - (cdq (t 0) m (nI 0)).1 = _
        rw [Int32.zero_sub]
      rw [e0, if_neg (by
        rw [fa_le, fb_negI (by omega), show (-2147483648 : Int32).toInt = -2147483648 by decide +kernel]
        omega), nI_1]
      exact x2
    rw [sum, fst]
    refine ⟨r, s3, t3, x1, rfl, h.sc x3 x4⟩
  · rw [b1, if_neg b2]
    simp only [Option.bind_some]
    rw [cu_at, if_neg (show ¬ (4 : Int32) = 0 by decide)]
    exact ⟨_, _, _, rfl, rfl, h.tr 4⟩
end O

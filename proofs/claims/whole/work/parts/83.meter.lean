section O
variable {N : Nat} {s : cS} {t : mS}
theorem o_meter (hN : 40000 ≤ N) (h : Rel s t) (p : Int32) : ∃ r s1 t1, f8_meter N p s = some (r, s1) ∧ f9_meter N p t = some (r, t1) ∧ Rel s1 t1 := by
  have h := h.thrown
  unfold f8_meter f9_meter f9_in
  generalize mu t 4 0 0 = t at h ⊢
  have k1 : ¬ (1 : Int32) = 0 := by decide
  have k3 : ¬ (3 : Int32) = 0 := by decide
  have bad : f8_meter_b28 N p 1 s = some (-1, cu s 3 0 1) := by unfold f8_meter_b28; rw [cu_at, if_neg k1]
  have bad3 : f8_meter_b28 N p 3 s = some (-1, cu s 3 0 3) := by unfold f8_meter_b28; rw [cu_at, if_neg k3]
  unfold f9_no
  by_cases q0 : p < 0
  · rw [if_pos q0, if_pos q0, bad]
    exact ⟨_, _, _, rfl, rfl, h.tr 1⟩
  by_cases q1 : 4 < p
  · rw [if_neg q0, if_neg (fa_of_lt q1).2.1, if_neg q0, if_pos q1, bad]
    exact ⟨_, _, _, rfl, rfl, h.tr 1⟩
  rw [if_neg q0, if_pos (fa_of_nlt q1), if_neg q0, if_neg q1]
  simp only [Option.bind_some]
  rw [if_neg k1, tc1]
  obtain ⟨T, M, hT1, hT2, hM, e1, e2, e3, e4, e5, e6⟩ := h.1.base
  rw [e3, e4]
  by_cases z : M = 8
  · subst z
    rw [if_neg (show ¬ nI 8 < 8 by decide), if_pos (show nI 8 = 8 from rfl), bad3]
    exact ⟨_, _, _, rfl, rfl, h.tr 3⟩
  rw [if_pos (show nI M < 8 from nI_lt (b := 8) (by omega) (by omega)), if_neg (show ¬ nI M = (8 : Int32) from fun e => z ((nI_eq (b := 8) (by omega) (by omega)).mp e))]
  unfold f8_meter_b28
  rw [cu_at, if_pos rfl]
  obtain ⟨nx, s1, t1, hx, a1, b1, a2, a3, b2, b3, a7, a8, a9, fin⟩ := act_rel hN h 1 (nI M) (-1)
  rw [show (cu s 3 0 0).1 1 0 = nI M by rw [cu_ne _ _ _ (show 1 ≠ 3 by omega)]; exact e3, a1, b1]
  simp only [Option.bind_some]
  have s1M : s1.1 1 0 = nI M := by rw [a2 1 (by omega) (by omega) (by omega) (by omega) (by omega) (by omega) (by omega)]; exact e3
  have t1M : t1 0 1 = nI M := by rw [b2 0 (by omega) (by omega) (by omega)]; exact e4
  have c1 : (cu s1 1 0 (nI (M + 1))).1 1 0 = nI (M + 1) := cu_at _ _ _ _
  have i8 := ix M 8 (by omega) (by omega)
  have i2 := ix (2 + M) 530 (by omega) (by omega)
  have i10 := ix (10 + M) 530 (by omega) (by omega)
  rw [s1M, t1M, nI_1, c1, nI_pred]
  have hmt : f8_meterAt N (nI M) (cu s1 1 0 (nI (M + 1))) = some (some M, cu s1 1 0 (nI (M + 1))) := by
    unfold f8_meterAt
    rw [if_neg (nI_pos (by omega)), c1, if_neg (nI_ge (by omega) (by omega)), if_neg (show ¬ (8 : Int32) ≤ nI M from nI_ge (b := 8) (by omega) (by omega)), if_pos i8.1, i8.2]
  rw [hmt]
  simp only [Option.bind_some]
  have d1 : mu t1 0 (2 + M) p 0 1 = nI M := by rw [mu_rd, if_neg (by omega)]; exact t1M
  have d2 : mu (mu t1 0 (2 + M) p) 0 (10 + M) 0 0 1 = nI M := by rw [mu_rd, if_neg (by omega)]; exact d1
  rw [if_pos (show M < 8 by omega), nI_lit2, if_pos i2.1, i2.2, d1, nI_lit10, if_pos i10.1, i10.2, d2, mu_at, nI_1, nI_pred]
  unfold f3_begin
  simp only [Option.bind_some]
  rw [cu_ne _ _ _ (show 1 ≠ 6 by omega), cu_ne _ _ _ (show 1 ≠ 5 by omega), c1, nI_pred]
  have ef : ∀ f, f ≠ 1 → f ≠ 5 → f ≠ 6 → (cu (cu (cu s1 1 0 (nI (M + 1))) 5 M p) 6 M 0).1 f = s1.1 f := fun f x1 x2 x3 => by rw [cu_ne _ _ _ x3, cu_ne _ _ _ x2, cu_ne _ _ _ x1]
  have ev : vC (cu (cu (cu s1 1 0 (nI (M + 1))) 5 M p) 6 M 0) = vput (vput (vput (vC s) 1 (nI (M + 1))) (2 + M) p) (10 + M) 0 := by
    rw [vC_c6 _ (by omega), vC_c5 _ (by omega), vC_c1, vC_fr (s := s) (fun f hf => a2 f (by omega) (by omega) (by omega) (by omega) (by omega) (by omega) (by omega))]
  have et : mu (mu (mu t1 0 (2 + M) p) 0 (10 + M) 0) 0 1 (nI (M + 1)) 0 = vput (vput (vput (t 0) (2 + M) p) (10 + M) 0) 1 (nI (M + 1)) := by
    rw [mu_vput, mu_vput, mu_vput, b2 0 (by omega) (by omega) (by omega)]
  have u0 := (fa_le _ _).mp (fa_of_nlt q0)
  have u1 := (fa_le _ _).mp (fa_of_nlt q1)
  rw [i0] at u0
  rw [show (4 : Int32).toInt = 4 by decide +kernel] at u1
  obtain ⟨K, hK, eK⟩ := nI_of (x := p) q0
  have hK4 : K ≤ 4 := by rw [eK, nI_toInt hK] at u1; omega
  -- entries of the new benches
  have rC : ∀ j, vput (vput (vput (vC s) 1 (nI (M + 1))) (2 + M) p) (10 + M) 0 j = if j = 10 + M then 0 else if j = 2 + M then p else if j = 1 then nI (M + 1) else vC s j := fun j => rfl
  have rT : ∀ j, vput (vput (vput (t 0) (2 + M) p) (10 + M) 0) 1 (nI (M + 1)) j = if j = 1 then nI (M + 1) else if j = 10 + M then 0 else if j = 2 + M then p else t 0 j := fun j => rfl
  have vMT : vM (vput (vput (vput (t 0) (2 + M) p) (10 + M) 0) 1 (nI (M + 1))) = M + 1 := by unfold vM; rw [rT, if_pos rfl, nI_clamp (by omega)]
  have vcT : ∀ m, m < M → vcn (vput (vput (vput (t 0) (2 + M) p) (10 + M) 0) 1 (nI (M + 1))) m = vcn (t 0) m := fun m hm => by
    unfold vcn; rw [rT, if_neg (by omega), if_neg (by omega), if_neg (by omega)]
  have vcM : vcn (vput (vput (vput (t 0) (2 + M) p) (10 + M) 0) 1 (nI (M + 1))) M = 0 := by
    unfold vcn; rw [rT, if_neg (by omega), if_pos rfl]; exact tc0
  have bigT : ∀ m k c, vput (vput (vput (t 0) (2 + M) p) (10 + M) 0) 1 (nI (M + 1)) (pa m k + c) = t 0 (pa m k + c) := fun m k c => by
    have := pa_big m k c
    rw [rT, if_neg (by omega), if_neg (by omega), if_neg (by omega)]
  have bigC : ∀ m k c, vput (vput (vput (vC s) 1 (nI (M + 1))) (2 + M) p) (10 + M) 0 (pa m k + c) = vC s (pa m k + c) := fun m k c => by
    have := pa_big m k c
    rw [rC, if_neg (by omega), if_neg (by omega), if_neg (by omega)]
  have hl := h.1.2.1
  have lv : Lv (vput (vput (vput (vC s) 1 (nI (M + 1))) (2 + M) p) (10 + M) 0) (vput (vput (vput (t 0) (2 + M) p) (10 + M) 0) 1 (nI (M + 1))) := by
    refine ⟨?_, ?_, fun m hm => ?_⟩
    · rw [rC, rT, if_neg (by omega), if_neg (by omega), if_neg (by omega), if_neg (by omega), if_neg (by omega), if_neg (by omega)]; exact hl.1
    · rw [rC, rT, if_neg (by omega), if_neg (by omega), if_pos rfl, if_pos rfl]
    · rw [vMT] at hm
      by_cases q : m = M
      · subst q
        refine ⟨?_, ?_, fun k hk => ?_⟩
        · rw [rC, rT, if_neg (by omega), if_pos rfl, if_neg (by omega), if_neg (by omega), if_pos rfl]
        · rw [rC, rT, if_pos rfl, if_neg (by omega), if_pos rfl]
        · rw [vcM] at hk; exact absurd hk (Nat.not_lt_zero k)
      · obtain ⟨l1, l2, l3⟩ := hl.2.2 m (by rw [e5]; omega)
        refine ⟨?_, ?_, fun k hk c hc => ?_⟩
        · rw [rC, rT, if_neg (by omega), if_neg (by omega), if_neg (by omega), if_neg (by omega), if_neg (by omega), if_neg (by omega)]; exact l1
        · rw [rC, rT, if_neg (by omega), if_neg (by omega), if_neg (by omega), if_neg (by omega), if_neg (by omega), if_neg (by omega)]; exact l2
        · rw [vcT m (by omega)] at hk
          rw [bigC, bigT]; exact l3 k hk c hc
  refine ⟨_, _, _, rfl, rfl, fin _ _ (fun f hf => ef f (by omega) (by omega) (by omega)) (fun a _ => ⟨by rw [ef 34 (by omega) (by omega) (by omega)], rfl⟩) (fun f hf => by rw [mu_ne _ _ _ hf, mu_ne _ _ _ hf, mu_ne _ _ _ hf]) ?_ ?_ (fun m hm => ?_) ?_ ?_ ?_⟩
  · rw [et]
    obtain ⟨w1, w2, w3⟩ := h.1.1
    refine ⟨?_, ⟨M + 1, by omega, by rw [rT, if_pos rfl]⟩, fun m hm => ?_⟩
    · obtain ⟨T', x1, x2, x3⟩ := w1
      exact ⟨T', x1, x2, by rw [rT, if_neg (by omega), if_neg (by omega), if_neg (by omega)]; exact x3⟩
    · rw [vMT] at hm
      by_cases q : m = M
      · subst q
        refine ⟨⟨K, hK4, by rw [rT, if_neg (by omega), if_neg (by omega), if_pos rfl]; exact eK⟩, ⟨0, by omega, by rw [rT, if_neg (by omega), if_pos rfl]; rfl⟩, fun k hk => ?_⟩
        rw [vcM] at hk; exact absurd hk (Nat.not_lt_zero k)
      · obtain ⟨r1, r2, r3⟩ := w3 m (by rw [e5]; omega)
        refine ⟨by rw [rT, if_neg (by omega), if_neg (by omega), if_neg (by omega)]; exact r1, by rw [rT, if_neg (by omega), if_neg (by omega), if_neg (by omega)]; exact r2, fun k hk => ?_⟩
        rw [vcT m (by omega)] at hk
        have b0 : vput (vput (vput (t 0) (2 + M) p) (10 + M) 0) 1 (nI (M + 1)) (pa m k) = t 0 (pa m k) := bigT m k 0
        rw [b0, bigT, bigT, bigT]
        exact r3 k hk
  · rw [ev, et]; exact lv
  · rw [et, vMT]
    rw [e5] at hm
    exact ⟨by omega, by rw [vcT m hm]; exact Nat.le_refl _⟩
  · rw [ef 31 (by omega) (by omega) (by omega), a7, ev]
    refine Or.inr (Or.inl ⟨rfl, ?_⟩)
    rw [lv.m, vMT]; omega
  · unfold ActN
    rw [ef 31 (by omega) (by omega) (by omega), a7]
    exact Or.inr (Or.inl rfl)
  · unfold tbS tb
    rw [ef 31 (by omega) (by omega) (by omega), a7, if_neg k1, if_pos rfl, ev]
    have eq1 : vput (vput (vput (vC s) 1 (nI (M + 1))) (2 + M) p) (10 + M) 0 1 - 1 = nI M := by
      rw [rC, if_neg (by omega), if_neg (by omega), if_pos rfl, nI_pred]
    rw [eq1]
    refine ⟨?_, ?_, fun m hm => ?_⟩
    · rw [vput_ne _ _ (show 0 ≠ 1 by omega), rC, if_neg (by omega), if_neg (by omega), if_neg (by omega)]; exact hl.1
    · rw [vput_at]; exact e4.symm
    · have hm' : m < M := by rw [← e5]; exact hm
      obtain ⟨l1, l2, l3⟩ := hl.2.2 m hm
      refine ⟨?_, ?_, fun k hk c hc => ?_⟩
      · rw [vput_ne _ _ (show 2 + m ≠ 1 by omega), rC, if_neg (by omega), if_neg (by omega), if_neg (by omega)]; exact l1
      · rw [vput_ne _ _ (show 10 + m ≠ 1 by omega), rC, if_neg (by omega), if_neg (by omega), if_neg (by omega)]; exact l2
      · have := pa_big m k c
        rw [vput_ne _ _ (show pa m k + c ≠ 1 by omega), bigC]; exact l3 k hk c hc
end O

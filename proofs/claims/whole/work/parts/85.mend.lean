theorem wf_tbw {b : Nat → Int32} (h : Wf b) {m C : Nat} (hC : C ≤ 16) {w : Nat → Int32} (hw : ∀ k, k < C → bnd 8500 (w k)) : Wf (tbw b m C w) := by
  obtain ⟨⟨T, hT1, hT2, eT⟩, ⟨M, hM, eM⟩, hb⟩ := id h
  have em : vM (tbw b m C w) = vM b := by unfold vM; rw [tbw_lo b m C w (by omega)]
  refine ⟨⟨T, hT1, hT2, by rw [tbw_lo b m C w (by omega)]; exact eT⟩, ⟨M, hM, by rw [tbw_lo b m C w (by omega)]; exact eM⟩, fun m' hm' => ?_⟩
  rw [em] at hm'
  have hM8 := h.wk.m.1
  obtain ⟨⟨K, hK, eK⟩, ⟨C', hC', eC⟩, hbb⟩ := hb m' hm'
  refine ⟨⟨K, hK, by rw [tbw_lo b m C w (by omega)]; exact eK⟩, ⟨C', hC', by rw [tbw_lo b m C w (by omega)]; exact eC⟩, fun k hk => ?_⟩
  have hk : k < vcn b m' := by
    unfold vcn at hk ⊢
    rw [tbw_lo b m C w (by omega)] at hk; exact hk
  have h16 := (h.cn hm').1
  obtain ⟨b0, b1, b2, b3⟩ := hbb k hk
  have e0 := tbw_at b (m := m) hC w (m' := m') (k := k) (c := 0) (by omega) (by omega)
  simp only [Nat.add_zero] at e0
  rw [e0, tbw_at b hC w (by omega) (by omega), tbw_at b hC w (by omega) (by omega), tbw_at b hC w (by omega) (by omega), if_neg (by omega), if_neg (by omega), if_neg (show ¬ (m' = m ∧ k < C ∧ 3 = 2) by omega)]
  refine ⟨b0, b1, ?_, b3⟩
  split
  · rename_i q; exact hw k q.2.1
  · exact b2
section O
variable {N : Nat} {s : cS} {t : mS}
theorem m_mend (hN : 100 ≤ N) {m C : Nat} (hm : m < 8) (hC : C ≤ 16) (hc : t 0 (10 + m) = nI C) : ∃ t2, f9_mend_l43 N (nI m) N 0 t = some (1, t2) ∧ (∀ f, f ≠ 0 → t2 f = t f) ∧ t2 0 = tbw (t 0) m C (vis (t 0) m) := by
  have i10 := ix (10 + m) 530 (by omega) (by omega)
  have key : ∀ t', (∀ f, f ≠ 0 → t' f = t f) → t' 0 = tbw (t 0) m 0 (vis (t 0) m) → ∃ t2, f9_mend_l43 N (nI m) N (nI 0) t' = some (1, t2) ∧ (∀ f, f ≠ 0 → t2 f = t f) ∧ t2 0 = tbw (t 0) m C (vis (t 0) m) := by
    refine iter_ind (P := fun k (f : Int32 → mS → Option (Int32 × mS)) => ∀ t', (∀ f, f ≠ 0 → t' f = t f) → t' 0 = tbw (t 0) m k (vis (t 0) m) → ∃ t2, f (nI k) t' = some (1, t2) ∧ (∀ f, f ≠ 0 → t2 f = t f) ∧ t2 0 = tbw (t 0) m C (vis (t 0) m)) (e := C) ?_ ?_ (show C < N by omega)
    · intro k t' e1 e2
      unfold f9_mend_l43b
      rw [nI_lit10, if_pos i10.1, i10.2, e2, tbw_lo _ _ _ _ (by omega), hc, if_pos (Int32.le_refl _)]
      exact ⟨t', rfl, e1, e2⟩
    · intro k hk f ih t' e1 e2
      have hp := pa_lt hm (show k < 16 by omega)
      have hi := ix (pa m k + 2) 530 (by omega) (by omega)
      unfold f9_mend_l43b
      rw [nI_lit10, if_pos i10.1, i10.2, show t' 0 (10 + m) = nI C by rw [e2, tbw_lo _ _ _ _ (by omega)]; exact hc, if_neg (nI_ge hk (by omega)), at_nI]
      simp only [Option.bind_some]
      rw [isOf_some N t' hm (by omega)]
      simp only [Option.bind_some]
      rw [show nI (pa m k) + 2 = nI (pa m k + 2) from nI_add _ 2, if_pos hi.1, hi.2, nI_1]
      have ev : vis (t' 0) m k = vis (t 0) m k := by
        unfold vis
        have e0 := tbw_at (t 0) (m := m) (C := k) (by omega) (vis (t 0) m) (m' := m) (k := k) (c := 0) (by omega) (by omega)
        simp only [Nat.add_zero] at e0
        rw [e2, e0, tbw_at (t 0) (by omega) (vis (t 0) m) (by omega) (by omega), if_neg (by omega), if_neg (by omega)]
      rw [ev]
      refine ih _ (fun f hf => by rw [mu_ne _ _ _ hf]; exact e1 f hf) ?_
      rw [mu_vput, e2]
      funext j
      unfold vput tbw
      by_cases q : j = pa m k + 2
      · rw [if_pos q, if_pos (show pa m 0 ≤ j ∧ j < pa m (k + 1) ∧ (j - 18) % 4 = 2 by unfold pa at q ⊢; omega), show (j - pa m 0) / 4 = k by unfold pa at q ⊢; omega]
      · rw [if_neg q]
        by_cases z : pa m 0 ≤ j ∧ j < pa m k ∧ (j - 18) % 4 = 2
        · rw [if_pos z, if_pos (show pa m 0 ≤ j ∧ j < pa m (k + 1) ∧ (j - 18) % 4 = 2 by unfold pa at z ⊢; omega)]
        · rw [if_neg z, if_neg (show ¬ (pa m 0 ≤ j ∧ j < pa m (k + 1) ∧ (j - 18) % 4 = 2) from fun y => by unfold pa at y q z; omega)]
  refine key t (fun _ _ => rfl) ?_
  funext j
  unfold tbw
  rw [if_neg (by omega)]
theorem o_mend (hN : 40000 ≤ N) (h : Rel s t) (p : Int32) : ∃ r s1 t1, f8_mend N p s = some (r, s1) ∧ f9_mend N p t = some (r, t1) ∧ Rel s1 t1 := by
  have h := h.thrown
  unfold f8_mend f9_mend
  generalize mu t 4 0 0 = t at h ⊢
  have k1 : ¬ (1 : Int32) = 0 := by decide
  unfold f9_not
  rcases meter_of N h.1 p with ⟨h1, h2⟩ | ⟨m, hm, h8, rfl, h1, h2⟩
  · rw [h1, h2]
    exact ⟨_, _, _, rfl, rfl, h.tr 2⟩
  rw [h1, h2]
  simp only [Option.bind_some]
  have i2 := ix (2 + m) 530 (by omega) (by omega)
  rw [if_neg k1, nI_lit2, if_pos i2.1, i2.2]
  rcases balance_of N h.1 hm with ⟨b1, b2⟩ | ⟨b1, b2⟩
  · rw [b1, if_pos b2]
    simp only [Option.bind_some]
    rw [cu_at, if_pos rfl]
    obtain ⟨nx, s1, t1, hx, a1, b1', a2, a3, c2, c3, a7, a8, a9, fin⟩ := act_rel hN h 5 (nI m) (-1)
    have hc := h.1.1.cn hm
    have hme := h.1.meter hm
    rw [a1, b1']
    simp only [Option.bind_some]
    rw [if_pos hx, if_pos h8]
    have s6 : s1.1 6 m = nI (vcn (t 0) m) := by rw [a2 6 (by omega) (by omega) (by omega) (by omega) (by omega) (by omega) (by omega), hme.2.2]; exact hc.2
    obtain ⟨s2, d1, d2, d3, d4, d5⟩ := keep_some (N := N) (by omega) h8 hc.1 s6 hx
    rw [d1]
    simp only [Option.bind_some]
    unfold f8_mend_b47
    rw [if_pos h8]
    obtain ⟨s3, g1, g2, g3, g4⟩ := mend_some (N := N) (s := s2) (by omega) h8 hc.1 (by rw [d2]; exact s6)
    have t10 : t1 0 = t 0 := c2 0 (by omega) (by omega) (by omega)
    obtain ⟨t2, m1, m2, m3⟩ := m_mend (N := N) (t := t1) (by omega) h8 hc.1 (by rw [t10]; exact hc.2)
    rw [g1, m1]
    rw [t10] at m3
    have sf : ∀ f, f ≠ 12 → s3.1 f = s1.1 f := fun f hf => by rw [g2 f hf, d2]
    have hsis : ∀ k, k < vcn (t 0) m → sis s2 m k = vis (t 0) m k := by
      intro k hk
      unfold sis
      rw [d2, a2 10 (by omega) (by omega) (by omega) (by omega) (by omega) (by omega) (by omega), a2 11 (by omega) (by omega) (by omega) (by omega) (by omega) (by omega) (by omega)]
      exact sis_vis h.1 hm hk
    have ev : vC s3 = tbw (vC s) m (vcn (t 0) m) (vis (t 0) m) := by
      rw [← vC_fr (s := s) (s' := s1) (fun f hf => a2 f (by omega) (by omega) (by omega) (by omega) (by omega) (by omega) (by omega))]
      refine vC_w sf (fun i => ?_)
      rw [g4 i, d2]
      by_cases q : 16 * m ≤ i ∧ i < 16 * m + vcn (t 0) m
      · rw [if_pos q, if_pos q]; exact hsis _ (by omega)
      · rw [if_neg q, if_neg q]
    have lv : Lv (vC s3) (t2 0) := by rw [ev, m3]; exact lv_tbw h.1.2.1 h.1.1.wk m _ hc.1 _
    have vM2 : vM (t2 0) = vM (t 0) := by rw [m3]; unfold vM; rw [tbw_lo _ _ _ _ (by omega)]
    have vc2 : ∀ m', m' < 8 → vcn (t2 0) m' = vcn (t 0) m' := fun m' hm' => by rw [m3]; unfold vcn; rw [tbw_lo _ _ _ _ (by omega)]
    have hM8 := h.1.1.wk.m.1
    have e31 : s3.1 31 nx = 5 := by rw [sf 31 (by omega)]; exact a7
    have e32 : s3.1 32 nx = nI m := by rw [sf 32 (by omega)]; exact a8
    have eam : am s3 nx = m := by unfold am; rw [e32, nI_clamp (by omega)]
    refine ⟨_, s3, t2, rfl, rfl, fin s3 t2 (fun f hf => sf f (by omega)) (fun a ha => ⟨by rw [sf 34 (by omega)], by rw [g3, d4 a ha]⟩) m2 ?_ lv (fun m' hm' => ?_) ?_ ?_ ?_⟩
    · rw [m3]
      refine wf_tbw h.1.1 hc.1 (fun k hk => ?_)
      obtain ⟨⟨q1, q2⟩, ⟨q3, q4⟩, -⟩ := (h.1.1.2.2 m hm).2.2 k hk
      unfold vis bnd
      rw [fb_addI (by omega) (by omega)]
      omega
    · rw [vM2, vc2 m' (by omega)]
      exact ⟨hm', Nat.le_refl _⟩
    · rw [e31, eam]
      refine Or.inr (Or.inr (Or.inr (Or.inr ⟨rfl, ?_⟩)))
      rw [lv.m, vM2]; exact hm
    · unfold ActN
      rw [e31, e32, eam]
      exact Or.inr (Or.inr ⟨rfl, Or.inr (Or.inl rfl)⟩)
    · unfold tbS tb
      rw [e31, eam, if_neg (show ¬ (5 : Int32) = 0 by decide), if_neg (show ¬ (5 : Int32) = 1 by decide), if_neg (show ¬ (5 : Int32) = 2 by decide), if_neg (show ¬ (5 : Int32) = 3 by decide), if_neg (show ¬ (5 : Int32) = 4 by decide)]
      have ec : vcn (vC s3) m = vcn (t 0) m := by rw [lv.c (by rw [vM2]; exact hm), vc2 m h8]
      rw [ec, ev]
      have back : tbw (tbw (vC s) m (vcn (t 0) m) (vis (t 0) m)) m (vcn (t 0) m) (s3.2.2 nx) = vC s := by
        funext j
        unfold tbw
        by_cases q : pa m 0 ≤ j ∧ j < pa m (vcn (t 0) m) ∧ (j - 18) % 4 = 2
        · rw [if_pos q]
          have hk : (j - pa m 0) / 4 < vcn (t 0) m := by unfold pa at q ⊢; omega
          rw [g3, d5 _ hk, a2 12 (by omega) (by omega) (by omega) (by omega) (by omega) (by omega) (by omega)]
          have := vC_pa s m ((j - pa m 0) / 4) 2 (by omega)
          rw [show pa m ((j - pa m 0) / 4) + 2 = j by unfold pa at q ⊢; omega] at this
          exact this.symm
        · rw [if_neg q, if_neg q]
      rw [back]
      exact h.1.2.1
  · rw [b1, if_neg b2]
    simp only [Option.bind_some]
    rw [cu_at, if_neg (show ¬ (4 : Int32) = 0 by decide)]
    exact ⟨_, _, _, rfl, rfl, h.tr 4⟩
end O

/-! a fault put on and taken off -/
/-- the code of x by the METER of fault i, with the fault -/
def fm (t : mS) (i : Nat) : Nat := (t 7 i).toNatClampNeg
def fp (t : mS) (i : Nat) : Nat := pa (fm t i) (t 8 i).toNatClampNeg + 1
def fcd (t : mS) (i : Nat) (x : Int32) : Int32 := (cdq (vput (t 0) (fp t i) (t 9 i)) (fm t i) x).1
theorem vput_ne (v : Nat → Int32) {i j : Nat} (x : Int32) (h : j ≠ i) : vput v i x j = v j := by unfold vput; rw [if_neg h]
theorem vput_at (v : Nat → Int32) (i : Nat) (x : Int32) : vput v i x i = x := by unfold vput; rw [if_pos rfl]
section O
variable {N : Nat} {s : cS} {t : mS}
theorem faulty_some (hN : 100 ≤ N) (h : RelA s t) {F : Nat} (hF : t 11 0 = nI F) (hF2 : F ≤ 10) {i : Nat} (hi : i < F) {x : Nat} (hx : x ≤ 4095) {s' : cS} {t' : mS} (hs : Sc s s') (ht : Sm t t') : fm t i < vM (t 0) ∧ fm t i < 8 ∧ t 7 i = nI (fm t i) ∧ (∃ s'', Sc s s'' ∧ f8_codeWith N i (nI x) s' = some (fcd t i (nI x), s'')) ∧ ∃ t'', Sm t t'' ∧ f9_faulty N (nI i) (nI x) t' = some (fcd t i (nI x), t'') := by
  obtain ⟨F', hF', f1, f2, f3⟩ := h.2.2.2.2.1
  have : F' = F := (nI_eq (by omega) (by omega)).mp (f2.symm.trans hF)
  subst this
  obtain ⟨g1, g2, g3, ⟨g4, g4'⟩, m, k, g5, g6, hm, hk⟩ := f3 i hi
  have hme := h.meter hm
  have hc := h.1.cn hm
  have hp := pa_lt hme.1 (show k < 16 by omega)
  have em : fm t i = m := by unfold fm; rw [g5, nI_clamp (by omega)]
  have ep : fp t i = pa m k + 1 := by unfold fp; rw [em, g6, nI_clamp (by omega)]
  have hr := h.sc hs ht
  have hs19 : s'.1 19 i = nI m := by rw [hs.1 19 (by omega) (by omega) (by omega), g1, g5]
  have hs20 : s'.1 20 i = nI k := by rw [hs.1 20 (by omega) (by omega) (by omega), g2, g6]
  have hs21 : s'.1 21 i = t 9 i := by rw [hs.1 21 (by omega) (by omega) (by omega), g3]
  have t0 : t' 0 = t 0 := ht 0 (by omega) (by omega) (by omega) (by omega)
  have t7 : t' 7 = t 7 := ht 7 (by omega) (by omega) (by omega) (by omega)
  have t8 : t' 8 = t 8 := ht 8 (by omega) (by omega) (by omega) (by omega)
  have t9 : t' 9 = t 9 := ht 9 (by omega) (by omega) (by omega) (by omega)
  have hm' : m < vM (t' 0) := by rw [t0]; exact hm
  have hk' : k < vcn (t' 0) m := by rw [t0]; exact hk
  rw [em]
  refine ⟨hm, hme.1, g5, ?_, ?_⟩
  · -- the class
    have hcs := sc_cOk hs (relA_cOk h hm)
    have hp' := h.part hm hk
    -- with the fault
    have ok : cOk (cu s' 11 (16 * m + k) (t 9 i)) m (vcn (t 0) m) := by
      obtain ⟨q1, q2, q3, q4, q5⟩ := hcs
      refine ⟨q1, q2, by rw [cu_ne _ _ _ (show 6 ≠ 11 by omega)]; exact q3, by rw [cu_ne _ _ _ (show 5 ≠ 11 by omega)]; exact q4, fun j hj => ?_⟩
      have q5 := q5 j hj
      unfold sis at q5 ⊢
      rw [cu_ne _ _ _ (show 10 ≠ 11 by omega), cu_rd]
      by_cases z : j = k
      · subst z
        rw [if_pos ⟨rfl, rfl⟩, hs.1 10 (by omega) (by omega) (by omega), hp'.1]
        obtain ⟨⟨b1, b2⟩, -⟩ := (h.1.2.2 m hm).2.2 j hk
        rw [fb_addI (by omega) (by omega)]
        omega
      · rw [if_neg (fun q => z (by omega))]
        exact q5
    have ev : ccq (cu s' 11 (16 * m + k) (t 9 i)) m (vcn (t 0) m) (nI x) = cdq (vput (t 0) (fp t i) (t 9 i)) m (nI x) := by
      unfold ccq cdq
      have ecn : vcn (vput (t 0) (fp t i) (t 9 i)) m = vcn (t 0) m := by
        unfold vcn
        rw [vput_ne _ _ (by rw [ep]; unfold pa; omega)]
      rw [ecn, cu_ne _ _ _ (show 5 ≠ 11 by omega), hs.1 5 (by omega) (by omega) (by omega), hme.2.1, vput_ne _ _ (show 2 + m ≠ fp t i by rw [ep]; unfold pa; omega)]
      refine rdS_congr _ _ _ (fun j hj => ?_)
      have hpj := h.part hm hj
      refine ⟨?_, ?_, ?_⟩
      · unfold sis vis
        rw [cu_ne _ _ _ (show 10 ≠ 11 by omega), cu_rd, hs.1 10 (by omega) (by omega) (by omega), hs.1 11 (by omega) (by omega) (by omega), hpj.1, vput_ne _ _ (show pa m j ≠ fp t i by rw [ep]; unfold pa; omega)]
        by_cases z : j = k
        · subst z
          rw [if_pos ⟨rfl, rfl⟩, ← ep, vput_at]
        · rw [if_neg (fun q => z (by omega)), hpj.2.1, vput_ne _ _ (show pa m j + 1 ≠ fp t i by rw [ep]; unfold pa; omega)]
      · unfold swo vwo
        rw [cu_ne _ _ _ (show 12 ≠ 11 by omega), hs.1 12 (by omega) (by omega) (by omega), hpj.2.2.1, vput_ne _ _ (show pa m j + 2 ≠ fp t i by rw [ep]; unfold pa; omega)]
      · unfold sbo vbo
        rw [cu_ne _ _ _ (show 13 ≠ 11 by omega), hs.1 13 (by omega) (by omega) (by omega), hpj.2.2.2, vput_ne _ _ (show pa m j + 3 ≠ fp t i by rw [ep]; unfold pa; omega)]
    have hcode := codeOf_some hN ok (num_bnd hx)
    rw [ev] at hcode
    rcases meter_of N hr (nI m) with ⟨h1, -⟩ | ⟨m', hm2, h8, e, h1, -⟩
    · exfalso
      have hmt := h.base
      rcases part_of N hr (nI m) (nI k) with ⟨h3, -⟩ | ⟨m2, k2, -, -, -, -, e2, e3, h3, -⟩
      · unfold f8_meterAt at h1
        obtain ⟨T, M, hT1, hT2, hM, e1, e2, e3, e4, e5, e6⟩ := hr.base
        have hi8 := ix m 8 (by omega) (by omega)
        rw [e3, if_neg (nI_pos (by omega)), if_neg (nI_ge (by omega) (by omega)), if_neg (show ¬ (8 : Int32) ≤ nI m from nI_ge (b := 8) (by omega) (by omega)), if_pos hi8.1] at h1
        have := congrArg (fun o => (o.getD (none, s')).1.isSome) h1
        simp at this
      · unfold f8_partAt at h3
        rw [h1] at h3
        have := congrArg (fun o => (o.getD (none, s')).1.isSome) h3
        simp at this
    · have : m' = m := (nI_eq (by omega) (by omega)).mp e.symm
      subst this
      have h3 : f8_partAt N (nI m') (nI k) s' = some (some (16 * m' + k), s') := by
        unfold f8_partAt
        rw [h1]
        simp only [Option.bind_some]
        rw [if_pos h8, partAt_some h8 hk hc.1 hcs.2.2.1]
        rfl
      unfold f8_codeWith
      rw [if_pos (by omega), hs19, h1]
      simp only [Option.bind_some]
      rw [hs19, hs20, h3]
      simp only [Option.bind_some]
      rw [if_pos (by omega), if_pos h8, hs21, hcode]
      simp only [Option.bind_some]
      refine ⟨_, ?_, by unfold fcd; rw [em]⟩
      refine hs.tr ⟨fun f x7 x8 x9 => ?_, ?_⟩
      · funext j
        rw [cu_rd]
        by_cases z : f = 11 ∧ j = 16 * m' + k
        · rw [if_pos z, z.1, z.2]
        · rw [if_neg z, c3_o _ _ _ _ _ (by omega), cu_rd, if_neg z]
      · rw [cu_2, c3_2, cu_2]
  · -- the reference
    have hi10 := ix i 10 (by omega) (by omega)
    have hi530 := ix (pa m k + 1) 530 (by omega) (by omega)
    unfold f9_faulty
    rw [if_pos hi10.1, hi10.2, t7, t8, g5, g6, at_nI]
    simp only [Option.bind_some]
    rw [show nI (pa m k) + 1 = nI (pa m k + 1) from nI_add _ 1, if_pos hi530.1, hi530.2, t9, mu_ne _ _ _ (show 7 ≠ 0 by omega), t7, g5]
    have e0 : mu t' 0 (pa m k + 1) (t 9 i) 0 = vput (t 0) (fp t i) (t 9 i) := by
      funext j
      rw [mu_rd, ep, t0]
      unfold vput
      by_cases z : j = pa m k + 1
      · rw [if_pos ⟨rfl, z⟩, if_pos z]
      · rw [if_neg (fun q => z q.2), if_neg z]
    have ok : mOk (mu t' 0 (pa m k + 1) (t 9 i) 0) m := by
      have := wf_mOk h.1 hm
      rw [e0, ep]
      obtain ⟨q1, q2, q3⟩ := this
      exact ⟨q1, by rw [vput_ne _ _ (show 2 + m ≠ pa m k + 1 by unfold pa; omega)]; exact q2, by rw [vput_ne _ _ (show 10 + m ≠ pa m k + 1 by unfold pa; omega)]; exact q3⟩
    rw [mcode_some hN ok]
    simp only [Option.bind_some]
    rw [e0]
    refine ⟨_, ?_, by unfold fcd; rw [em]⟩
    refine ht.tr (fun f x4 x12 x13 x14 => ?_)
    funext j
    rw [mu_rd]
    by_cases z : f = 0 ∧ j = pa m k + 1
    · rw [if_pos z, z.1, z.2]
    · rw [if_neg z, m3_o _ _ _ _ (by omega), mu_rd, if_neg z]
end O

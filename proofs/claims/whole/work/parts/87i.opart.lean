section O
variable {N : Nat} {s : cS} {t : mS}
theorem o_part (hN : 40000 ≤ N) (h : Rel s t) (p1 p2 p3 : Int32) : ∃ r s1 t1, f8_part N p1 p2 p3 s = some (r, s1) ∧ f9_part N p1 p2 p3 t = some (r, t1) ∧ Rel s1 t1 := by
  have h := h.thrown
  unfold f8_part f9_part
  generalize mu t 4 0 0 = t at h ⊢
  have k1 : ¬ (1 : Int32) = 0 := by decide
  have k3 : ¬ (3 : Int32) = 0 := by decide
  unfold f8_whyNoPart
  rcases meter_of N h.1 p1 with ⟨h1, h2⟩ | ⟨m, hm, h8, rfl, h1, h2⟩
  · rw [h1, h2]
    unfold f9_no
    exact ⟨_, _, _, rfl, rfl, h.tr 2⟩
  rw [h1, h2]
  simp only [Option.bind_some]
  rw [if_neg k1]
  have hc := h.1.1.cn hm
  have hme := h.1.meter hm
  obtain ⟨-, ⟨K, hK, eK⟩, -⟩ := wf_mOk h.1.1 hm
  have i2 := ix (2 + m) 530 (by omega) (by omega)
  have i10 := ix (10 + m) 530 (by omega) (by omega)
  rcases within_of N s t p2 8000 with ⟨w1, w2⟩ | ⟨v1, v2, w1, w2⟩
  · rw [w1, w2]
    simp only [Option.bind_some]
    unfold f9_part_b55 f9_no
    rw [if_pos trivial, if_pos trivial]
    simp only [Option.bind_some]
    rw [cu_at, if_neg k1]
    exact ⟨_, _, _, rfl, rfl, h.tr 1⟩
  rw [w1, w2]
  simp only [Option.bind_some]
  rw [if_neg k1, if_neg k1, if_pos h8]
  have bx := bnd_of (B := 8000) (by omega) v1 v2
  -- full, or not
  have last : (K = 3 ∨ K = 4 → bnd 8000 p3) → ∃ r s1 t1, ((f8_whyNoPart_b35 N (some m) p2 p3 m s).bind fun (r12, s12) => (if ((cu s12 3 0 r12).1 3 0) = 0 then (if m < 8 then ((f8_newAct N 2 (nI m) ((cu s12 3 0 r12).1 6 m) (cu s12 3 0 r12)).bind fun (r40, s40) => match r40 with | none => (f8_part_b60 N (nI m) p2 p3 m s40) | some w47 => (if w47 < 60 then ((f3_keepWorths N m w47 s40).bind fun s57 => f8_part_b60 N (nI m) p2 p3 m s57) else none)) else none) else (some ((-1), (cu s12 3 0 r12))))) = some (r, s1) ∧ f9_part_b61 N (nI m) p2 p3 t = some (r, t1) ∧ Rel s1 t1 := by
    intro hy
    unfold f8_whyNoPart_b35 f9_part_b61
    rw [if_pos h8, hme.2.2, nI_lit10, if_pos i10.1, i10.2, hc.2]
    by_cases z : vcn (t 0) m = 16
    · rw [z, if_neg (show ¬ nI 16 < 16 by decide), if_pos (show nI 16 = 16 from rfl)]
      unfold f9_no
      simp only [Option.bind_some]
      rw [cu_at, if_neg k3]
      exact ⟨_, _, _, rfl, rfl, h.tr 3⟩
    · have hC : vcn (t 0) m < 16 := by omega
      rw [if_pos (show nI (vcn (t 0) m) < 16 from nI_lt (b := 16) hC (by omega)), if_neg (show ¬ nI (vcn (t 0) m) = (16 : Int32) from fun e => z ((nI_eq (b := 16) (by omega) (by omega)).mp e))]
      simp only [Option.bind_some]
      obtain ⟨nx, s1, s2, s3, t1, t2, hx60, a1, a2, a3, a4, b1, b2, b3, hr⟩ := add_act hN h hm hC hK eK bx hy
      have hp := pa_lt h8 hC
      have ip := ix (pa m (vcn (t 0) m)) 530 (by omega) (by omega)
      have ip1 := ix (pa m (vcn (t 0) m) + 1) 530 (by omega) (by omega)
      have e6 : (cu s 3 0 0).1 6 m = nI (vcn (t 0) m) := by rw [cu_ne _ _ _ (show 6 ≠ 3 by omega), hme.2.2]; exact hc.2
      rw [cu_at, if_pos rfl, if_pos h8, e6, a1, b1]
      simp only [Option.bind_some]
      rw [if_pos hx60, a2, at_nI]
      simp only [Option.bind_some]
      unfold f8_part_b60
      have ek : mu (mu t1 0 (pa m (vcn (t 0) m)) p2) 0 (pa m (vcn (t 0) m) + 1) 0 0 (2 + m) = nI K := by
        have : 18 ≤ pa m (vcn (t 0) m) := by unfold pa; omega
        rw [mu_rd, if_neg (by omega), mu_rd, if_neg (by omega), b3 0 (by omega) (by omega) (by omega)]; exact eK
      rw [if_pos h8, a3, if_pos ip.1, show nI (pa m (vcn (t 0) m)) + 1 = nI (pa m (vcn (t 0) m) + 1) from nI_add _ 1, if_pos ip1.1, nI_lit2, if_pos i2.1, ip.2, ip1.2, i2.2, ek]
      simp only [Option.bind_some]
      rw [a4]
      have e2 : (if nI K = 2 then f9_part_b141 N (nI m) p2 p3 (nI (vcn (t 0) m)) (nI (pa m (vcn (t 0) m))) p2 (nI (pa m (vcn (t 0) m)) + 2) (mu (mu t1 0 (pa m (vcn (t 0) m)) p2) 0 (pa m (vcn (t 0) m) + 1) 0) else f9_part_b141 N (nI m) p2 p3 (nI (vcn (t 0) m)) (nI (pa m (vcn (t 0) m))) 1 (nI (pa m (vcn (t 0) m)) + 2) (mu (mu t1 0 (pa m (vcn (t 0) m)) p2) 0 (pa m (vcn (t 0) m) + 1) 0)) = some (nI (vcn (t 0) m + 1), t2) := by
        rw [← b2]
        by_cases q : K = 2
        · rw [if_pos q, if_pos (show nI K = 2 by rw [q]; rfl)]
        · rw [if_neg q, if_neg (show ¬ nI K = (2 : Int32) from fun e => q ((nI_eq (b := 2) (by omega) (by omega)).mp e))]
      rw [e2]
      exact ⟨_, s3, t2, rfl, rfl, hr⟩
  have st8 : f3_isStaged N m s = some (if K = 3 ∨ K = 4 then 1 else 0, s) := by
    unfold f3_isStaged
    rw [hme.2.1, eK]
    rcases (show K = 0 ∨ K = 1 ∨ K = 2 ∨ K = 3 ∨ K = 4 by omega) with rfl | rfl | rfl | rfl | rfl <;> rfl
  have st9 : f9_isStaged N (nI m) t = some (if K = 3 ∨ K = 4 then 1 else 0, t) := by
    unfold f9_isStaged
    rw [nI_lit2, if_pos i2.1, i2.2, eK]
    rcases (show K = 0 ∨ K = 1 ∨ K = 2 ∨ K = 3 ∨ K = 4 by omega) with rfl | rfl | rfl | rfl | rfl <;> rfl
  rw [st8, st9]
  simp only [Option.bind_some]
  by_cases hs : K = 3 ∨ K = 4
  · rw [if_pos hs, if_neg k1, if_neg k1]
    rcases within_of N s t p3 8000 with ⟨y1, y2⟩ | ⟨u1, u2, y1, y2⟩
    · rw [y1, y2]
      simp only [Option.bind_some]
      unfold f9_part_b55 f9_no
      rw [if_pos trivial, if_pos trivial]
      simp only [Option.bind_some]
      rw [cu_at, if_neg k1]
      exact ⟨_, _, _, rfl, rfl, h.tr 1⟩
    · rw [y1, y2]
      simp only [Option.bind_some]
      rw [if_neg k1, if_neg k1]
      exact last (fun _ => bnd_of (B := 8000) (by omega) u1 u2)
  · rw [if_neg hs, if_pos rfl, if_pos rfl]
    exact last (fun q => absurd q hs)
end O

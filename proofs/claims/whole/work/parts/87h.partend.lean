section O
variable {N : Nat} {s : cS} {t : mS}
/-- both add the PART -/
theorem add_act (hN : 40000 ≤ N) (h : Rel s t) {m K : Nat} (hm : m < vM (t 0)) (hC : vcn (t 0) m < 16) (hK : K ≤ 4) (hk : t 0 (2 + m) = nI K) {x y : Int32} (hx : bnd 8000 x) (hy : K = 3 ∨ K = 4 → bnd 8000 y) : ∃ nx s1 s2 s3 t1 t2, nx < 60 ∧ f8_newAct N 2 (nI m) (nI (vcn (t 0) m)) (cu s 3 0 0) = some (some nx, s1) ∧ f3_keepWorths N m nx s1 = some s2 ∧ f3_addPart N m x y s2 = some s3 ∧ s3.1 6 m = nI (vcn (t 0) m + 1) ∧ f9_act N t = some t1 ∧ f9_part_b141 N (nI m) x y (nI (vcn (t 0) m)) (nI (pa m (vcn (t 0) m))) (if K = 2 then x else 1) (nI (pa m (vcn (t 0) m)) + 2) (mu (mu t1 0 (pa m (vcn (t 0) m)) x) 0 (pa m (vcn (t 0) m) + 1) 0) = some (nI (vcn (t 0) m + 1), t2) ∧ (∀ f, f ≠ 1 → f ≠ 2 → f ≠ 3 → t1 f = t f) ∧ Rel s3 t2 := by
  have hc := h.1.1.cn hm
  have hme := h.1.meter hm
  have h8 := hme.1
  obtain ⟨nx, s1, t1, hx60, a1, b1, a2, a3, c2, c3, a7, a8, a9, fin⟩ := act_rel hN h 2 (nI m) (nI (vcn (t 0) m))
  have sf1 : ∀ f, f = 5 ∨ f = 6 ∨ (10 ≤ f ∧ f < 14) ∨ f = 0 ∨ f = 1 → s1.1 f = s.1 f := fun f hf => a2 f (by omega) (by omega) (by omega) (by omega) (by omega) (by omega) (by omega)
  have s6 : s1.1 6 m = nI (vcn (t 0) m) := by rw [sf1 6 (by omega), hme.2.2]; exact hc.2
  obtain ⟨s2, d1, d2, d3, d4, d5⟩ := keep_some (N := N) (by omega) h8 hc.1 s6 hx60
  obtain ⟨s3, g1, g2, g3, g4, g5⟩ := addPart_some (N := N) (s := s2) (K := K) (by omega) h8 hC (by rw [d2]; exact s6) hK (by rw [d2, sf1 5 (by omega), hme.2.1]; exact hk) x y
  have t10 : t1 0 = t 0 := c2 0 (by omega) (by omega) (by omega)
  obtain ⟨t2, m1, m2, m3⟩ := m_add (N := N) (t := t1) (K := K) (by omega) h8 hC (by rw [t10]; exact hc.2) hK (by rw [t10]; exact hk) x y (if K = 2 then x else 1) rfl
  refine ⟨nx, s1, s2, s3, t1, t2, hx60, a1, d1, g1, g4, b1, m1, c2, ?_⟩
  rw [t10] at m3
  have ev2 : vC s2 = vC s := vC_fr (fun f hf => by rw [d2]; exact sf1 f (by omega))
  rw [ev2] at g5
  have lv : Lv (vC s3) (t2 0) := by rw [g5, m3]; exact newB_lv h.1.2.1 h.1.1 hm rfl hC x y
  have sf : ∀ f, f ≠ 6 → f ≠ 10 → f ≠ 11 → f ≠ 12 → f ≠ 13 → s3.1 f = s1.1 f := fun f x6 x10 x11 x12 x13 => by rw [g3 f x6 x10 x11 x12 x13, d2]
  have hM8 := h.1.1.wk.m.1
  have e31 : s3.1 31 nx = 2 := by rw [sf 31 (by omega) (by omega) (by omega) (by omega) (by omega)]; exact a7
  have e32 : s3.1 32 nx = nI m := by rw [sf 32 (by omega) (by omega) (by omega) (by omega) (by omega)]; exact a8
  have eam : am s3 nx = m := by unfold am; rw [e32, nI_clamp (by omega)]
  have vM2 : vM (t2 0) = vM (t 0) := by rw [m3, newB_vM]
  have vc2 : ∀ m', m' < 8 → vcn (t2 0) m' = if m' = m then vcn (t 0) m + 1 else vcn (t 0) m' := fun m' hm' => by rw [m3, newB_vc _ _ h8 hC x y hm']
  have vc3 : vcn (vC s3) m = vcn (t 0) m + 1 := by rw [lv.c (by rw [vM2]; exact hm), vc2 m h8, if_pos rfl]
  refine fin s3 t2 (fun f hf => sf f (by omega) (by omega) (by omega) (by omega) (by omega)) (fun a ha => ⟨by rw [sf 34 (by omega) (by omega) (by omega) (by omega) (by omega)], by rw [g2, d4 a ha]⟩) m2 ?_ lv (fun m' hm' => ?_) ?_ ?_ ?_
  · rw [m3]; exact newB_wf h.1.1 hm rfl hC hx hy
  · rw [vM2, vc2 m' (by omega)]
    refine ⟨hm', ?_⟩
    split
    · rename_i q; rw [q]; omega
    · exact Nat.le_refl _
  · rw [e31, eam]
    refine Or.inr (Or.inr (Or.inl ⟨rfl, ?_, ?_⟩))
    · rw [lv.m, vM2]; exact hm
    · rw [vc3]; omega
  · unfold ActN
    rw [e31, e32, eam]
    exact Or.inr (Or.inr ⟨rfl, Or.inl rfl⟩)
  · unfold tbS tb
    rw [e31, eam, if_neg (show ¬ (2 : Int32) = 0 by decide), if_neg (show ¬ (2 : Int32) = 1 by decide), if_pos rfl, vc3, Nat.add_sub_cancel, g5, newB_10 _ _ h8, nI_pred]
    refine newB_back h.1.2.1 h.1.1 hm rfl hC x y (fun k hk => ?_)
    rw [g2, d5 k hk, sf1 12 (by omega)]
    exact (vC_pa s m k 2 (by omega)).symm
end O

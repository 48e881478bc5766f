theorem vput_vput (v : Nat → Int32) (i : Nat) (x y : Int32) : vput (vput v i x) i y = vput v i y := by
  funext j; unfold vput; split <;> rfl
theorem vput_self (v : Nat → Int32) (i : Nat) : vput v i (v i) = v := by
  funext j; unfold vput
  by_cases q : j = i
  · rw [if_pos q, q]
  · rw [if_neg q]
theorem mu_vput (t : mS) (i : Nat) (x : Int32) : mu t 0 i x 0 = vput (t 0) i x := by
  funext j; rw [mu_rd]; unfold vput
  by_cases q : j = i
  · rw [if_pos ⟨rfl, q⟩, if_pos q]
  · rw [if_neg (fun z => q z.2), if_neg q]
theorem vC_def (s : cS) (j : Nat) : vC s j = if j = 0 then s.1 0 0 else if j = 1 then s.1 1 0 else if j < 10 then s.1 5 (j - 2) else if j < 18 then s.1 6 (j - 10) else s.1 (10 + (j - 18) % 4) ((j - 18) / 4) := rfl
theorem vC_c0 (s : cS) (x : Int32) : vC (cu s 0 0 x) = vput (vC s) 0 x := by
  funext j
  show vC (cu s 0 0 x) j = if j = 0 then x else vC s j
  rw [vC_def, vC_def s]
  by_cases q : j = 0
  · rw [if_pos q, if_pos q, cu_at]
  · rw [if_neg q, if_neg q, cu_ne _ _ _ (show 1 ≠ 0 by omega), cu_ne _ _ _ (show 5 ≠ 0 by omega), cu_ne _ _ _ (show 6 ≠ 0 by omega), cu_ne _ _ _ (show 10 + (j - 18) % 4 ≠ 0 by omega), if_neg q]
theorem vC_c1 (s : cS) (x : Int32) : vC (cu s 1 0 x) = vput (vC s) 1 x := by
  funext j
  show vC (cu s 1 0 x) j = if j = 1 then x else vC s j
  rw [vC_def, vC_def s]
  rw [cu_ne _ _ _ (show 0 ≠ 1 by omega), cu_ne _ _ _ (show 5 ≠ 1 by omega), cu_ne _ _ _ (show 6 ≠ 1 by omega), cu_ne _ _ _ (show 10 + (j - 18) % 4 ≠ 1 by omega)]
  by_cases q : j = 1
  · rw [if_neg (show ¬ j = 0 by omega), if_pos q, if_pos q, cu_at]
  · rw [if_neg q, if_neg q, if_neg q]
theorem vC_c5 (s : cS) {m : Nat} (hm : m < 8) (x : Int32) : vC (cu s 5 m x) = vput (vC s) (2 + m) x := by
  funext j
  show vC (cu s 5 m x) j = if j = 2 + m then x else vC s j
  rw [vC_def, vC_def s]
  rw [cu_ne _ _ _ (show 0 ≠ 5 by omega), cu_ne _ _ _ (show 1 ≠ 5 by omega), cu_ne _ _ _ (show 6 ≠ 5 by omega), cu_ne _ _ _ (show 10 + (j - 18) % 4 ≠ 5 by omega), cu_rd]
  by_cases q : j = 2 + m
  · rw [if_pos q, if_neg (show ¬ j = 0 by omega), if_neg (show ¬ j = 1 by omega), if_pos (show j < 10 by omega), if_pos ⟨rfl, by omega⟩]
  · rw [if_neg q]
    by_cases h0 : j = 0
    · rw [if_pos h0, if_pos h0]
    · rw [if_neg h0, if_neg h0]
      by_cases h1 : j = 1
      · rw [if_pos h1, if_pos h1]
      · rw [if_neg h1, if_neg h1]
        by_cases h2 : j < 10
        · rw [if_pos h2, if_pos h2, if_neg (by omega)]
        · rw [if_neg h2, if_neg h2]
theorem vC_c6 (s : cS) {m : Nat} (hm : m < 8) (x : Int32) : vC (cu s 6 m x) = vput (vC s) (10 + m) x := by
  funext j
  show vC (cu s 6 m x) j = if j = 10 + m then x else vC s j
  rw [vC_def, vC_def s]
  rw [cu_ne _ _ _ (show 0 ≠ 6 by omega), cu_ne _ _ _ (show 1 ≠ 6 by omega), cu_ne _ _ _ (show 5 ≠ 6 by omega), cu_ne _ _ _ (show 10 + (j - 18) % 4 ≠ 6 by omega), cu_rd]
  by_cases q : j = 10 + m
  · rw [if_pos q, if_neg (show ¬ j = 0 by omega), if_neg (show ¬ j = 1 by omega), if_neg (show ¬ j < 10 by omega), if_pos (show j < 18 by omega), if_pos ⟨rfl, by omega⟩]
  · rw [if_neg q]
    by_cases h0 : j = 0
    · rw [if_pos h0, if_pos h0]
    · rw [if_neg h0, if_neg h0]
      by_cases h1 : j = 1
      · rw [if_pos h1, if_pos h1]
      · rw [if_neg h1, if_neg h1]
        by_cases h2 : j < 10
        · rw [if_pos h2, if_pos h2]
        · rw [if_neg h2, if_neg h2]
          by_cases h3 : j < 18
          · rw [if_pos h3, if_pos h3, if_neg (by omega)]
          · rw [if_neg h3, if_neg h3]
theorem vC_cp (s : cS) (m k : Nat) {c : Nat} (hc : c < 4) (x : Int32) : vC (cu s (10 + c) (16 * m + k) x) = vput (vC s) (pa m k + c) x := by
  funext j
  show vC (cu s (10 + c) (16 * m + k) x) j = if j = pa m k + c then x else vC s j
  rw [vC_def, vC_def s]
  rw [cu_ne _ _ _ (show 0 ≠ 10 + c by omega), cu_ne _ _ _ (show 1 ≠ 10 + c by omega), cu_ne _ _ _ (show 5 ≠ 10 + c by omega), cu_ne _ _ _ (show 6 ≠ 10 + c by omega), cu_rd]
  by_cases h3 : j < 18
  · rw [if_neg (show ¬ j = pa m k + c by unfold pa; omega)]
    by_cases h0 : j = 0
    · rw [if_pos h0, if_pos h0]
    · rw [if_neg h0, if_neg h0]
      by_cases h1 : j = 1
      · rw [if_pos h1, if_pos h1]
      · rw [if_neg h1, if_neg h1]
        by_cases h2 : j < 10
        · rw [if_pos h2, if_pos h2]
        · rw [if_neg h2, if_neg h2, if_pos h3, if_pos h3]
  · rw [if_neg (show ¬ j = 0 by omega), if_neg (show ¬ j = 1 by omega), if_neg (show ¬ j < 10 by omega), if_neg h3, if_neg (show ¬ j = 0 by omega), if_neg (show ¬ j = 1 by omega), if_neg (show ¬ j < 10 by omega), if_neg h3]
    by_cases q : j = pa m k + c
    · rw [if_pos q, if_pos (by unfold pa at q; omega)]
    · rw [if_neg q, if_neg (fun z => q (by unfold pa; omega))]
theorem wf_put {b : Nat → Int32} (h : Wf b) {m k c : Nat} (hk : k < 16) (hc : c < 4) {x : Int32} (h0 : c = 0 → bnd 8000 x) (h1 : c = 1 → bnd 500 x) (h2 : c = 2 → bnd 8500 x) (h3 : c = 3 → bnd 8000 x) : Wf (vput b (pa m k + c) x) := by
  have big := pa_big m k c
  obtain ⟨⟨T, hT1, hT2, eT⟩, ⟨M, hM, eM⟩, hb⟩ := id h
  have em : vM (vput b (pa m k + c) x) = vM b := by unfold vM; rw [vput_ne _ _ (show 1 ≠ pa m k + c by omega)]
  refine ⟨⟨T, hT1, hT2, by rw [vput_ne _ _ (show 0 ≠ pa m k + c by omega)]; exact eT⟩, ⟨M, hM, by rw [vput_ne _ _ (show 1 ≠ pa m k + c by omega)]; exact eM⟩, fun m' hm' => ?_⟩
  rw [em] at hm'
  have hM8 := h.wk.m.1
  obtain ⟨⟨K, hK, eK⟩, ⟨C, hC, eC⟩, hbb⟩ := hb m' hm'
  refine ⟨⟨K, hK, by rw [vput_ne _ _ (show 2 + m' ≠ pa m k + c by omega)]; exact eK⟩, ⟨C, hC, by rw [vput_ne _ _ (show 10 + m' ≠ pa m k + c by omega)]; exact eC⟩, fun k' hk' => ?_⟩
  have hk' : k' < vcn b m' := by
    unfold vcn at hk' ⊢
    rw [vput_ne _ _ (show 10 + m' ≠ pa m k + c by omega)] at hk'; exact hk'
  have h16 := (h.cn hm').1
  obtain ⟨b0, b1, b2, b3⟩ := hbb k' hk'
  have e : ∀ c', c' < 4 → vput b (pa m k + c) x (pa m' k' + c') = if m' = m ∧ k' = k ∧ c' = c then x else b (pa m' k' + c') := by
    intro c' hc'
    unfold vput
    by_cases q : m' = m ∧ k' = k ∧ c' = c
    · obtain ⟨rfl, rfl, rfl⟩ := q
      rw [if_pos rfl, if_pos ⟨rfl, rfl, rfl⟩]
    · rw [if_neg q, if_neg (fun z => q (pa_pa (by omega) hk hc' hc z))]
  have e0 := e 0 (by omega)
  rw [Nat.add_zero] at e0
  rw [e0, e 1 (by omega), e 2 (by omega), e 3 (by omega)]
  refine ⟨?_, ?_, ?_, ?_⟩
  · split
    · rename_i q; exact h0 q.2.2.symm
    · exact b0
  · split
    · rename_i q; exact h1 q.2.2.symm
    · exact b1
  · split
    · rename_i q; exact h2 q.2.2.symm
    · exact b2
  · split
    · rename_i q; exact h3 q.2.2.symm
    · exact b3
section O
variable {N : Nat} {s : cS} {t : mS}
theorem o_range (hN : 40000 ≤ N) (h : Rel s t) (p : Int32) : ∃ r s1 t1, f8_range N p s = some (r, s1) ∧ f9_range N p t = some (r, t1) ∧ Rel s1 t1 := by
  have h := h.thrown
  unfold f8_range f9_range f9_in
  generalize mu t 4 0 0 = t at h ⊢
  have k1 : ¬ (1 : Int32) = 0 := by decide
  have bad : f8_range_b18 N p 1 s = some (0, cu s 3 0 1) := by
    unfold f8_range_b18; rw [cu_at, if_neg k1]
  unfold f9_not
  by_cases q0 : p < 1
  · rw [if_pos q0, if_pos q0, bad]
    exact ⟨_, _, _, rfl, rfl, h.tr 1⟩
  by_cases q1 : 4095 < p
  · rw [if_neg q0, if_neg (fa_of_lt q1).2.1, if_neg q0, if_pos q1, bad]
    exact ⟨_, _, _, rfl, rfl, h.tr 1⟩
  rw [if_neg q0, if_pos (fa_of_nlt q1), if_neg q0, if_neg q1]
  simp only [Option.bind_some]
  rw [if_neg k1, tc0]
  unfold f8_range_b18
  rw [cu_at, if_pos rfl]
  obtain ⟨nx, s1, t1, hx, a1, b1, a2, a3, b2, b3, a7, a8, a9, fin⟩ := act_rel hN h 0 (-1) (-1)
  rw [a1, b1]
  simp only [Option.bind_some]
  rw [if_pos hx]
  have u0 := (fa_le _ _).mp (fa_of_nlt q0)
  have u1 := (fa_le _ _).mp (fa_of_nlt q1)
  rw [i1] at u0
  rw [show (4095 : Int32).toInt = 4095 by decide +kernel] at u1
  obtain ⟨P, hP, rfl⟩ := nI_of (x := p) (by rw [fa_lt, i0]; omega)
  rw [nI_toInt hP] at u0 u1
  have e34 : (cu (cu s1 34 nx (s1.1 0 0)) 0 0 (nI P)).1 34 nx = s.1 0 0 := by
    rw [cu_ne _ _ _ (show 34 ≠ 0 by omega), cu_at, a2 0 (by omega) (by omega) (by omega) (by omega) (by omega) (by omega) (by omega)]
  have e31 : (cu (cu s1 34 nx (s1.1 0 0)) 0 0 (nI P)).1 31 nx = 0 := by
    rw [cu_ne _ _ _ (show 31 ≠ 0 by omega), cu_ne _ _ _ (show 31 ≠ 34 by omega)]; exact a7
  have ev : vC (cu (cu s1 34 nx (s1.1 0 0)) 0 0 (nI P)) = vput (vC s) 0 (nI P) := by
    rw [vC_c0, vC_fr (s := s1) (fun f hf => cu_ne _ _ _ (by omega)), vC_fr (s := s) (fun f hf => a2 f (by omega) (by omega) (by omega) (by omega) (by omega) (by omega) (by omega))]
  have et : mu t1 0 0 (nI P) 0 = vput (t 0) 0 (nI P) := by rw [mu_vput, b2 0 (by omega) (by omega) (by omega)]
  have lv : ∀ x, Lv (vput (vC s) 0 x) (vput (t 0) 0 x) := fun x => by
    have := tb_lv (old := x) (m := 0) (k := 0) (w := fun _ => 0) (what := 0) h.1.2.1 h.1.1.wk (Or.inl rfl)
    unfold tb at this
    rw [if_pos rfl, if_pos rfl] at this
    exact this
  refine ⟨_, _, _, rfl, rfl, fin _ _ (fun f hf => ?_) (fun a ha => ?_) (fun f hf => mu_ne _ _ _ hf) ?_ ?_ (fun m hm => ?_) (Or.inl e31) (Or.inl e31) ?_⟩
  · rw [cu_ne _ _ _ (show f ≠ 0 by omega), cu_ne _ _ _ (show f ≠ 34 by omega)]
  · rw [cu_ne _ _ _ (show 34 ≠ 0 by omega), cu_rd, if_neg (fun z => ha z.2)]
    exact ⟨rfl, rfl⟩
  · rw [et]
    obtain ⟨-, w2, w3⟩ := h.1.1
    refine ⟨⟨P, by omega, by omega, vput_at _ _ _⟩, by rw [vput_ne _ _ (show 1 ≠ 0 by omega)]; exact w2, fun m hm => ?_⟩
    obtain ⟨r1, r2, r3⟩ := w3 m hm
    refine ⟨by rw [vput_ne _ _ (show 2 + m ≠ 0 by omega)]; exact r1, by rw [vput_ne _ _ (show 10 + m ≠ 0 by omega)]; exact r2, fun k hk => ?_⟩
    have hk : k < vcn (t 0) m := by
      unfold vcn at hk ⊢
      rw [vput_ne _ _ (show 10 + m ≠ 0 by omega)] at hk; exact hk
    rw [vput_ne _ _ (show pa m k ≠ 0 by unfold pa; omega), vput_ne _ _ (show pa m k + 1 ≠ 0 by omega), vput_ne _ _ (show pa m k + 2 ≠ 0 by omega), vput_ne _ _ (show pa m k + 3 ≠ 0 by omega)]
    exact r3 k hk
  · rw [ev, et]; exact lv _
  · rw [et]
    refine ⟨hm, ?_⟩
    unfold vcn
    rw [vput_ne _ _ (show 10 + m ≠ 0 by omega)]
    exact Nat.le_refl _
  · unfold tbS tb
    rw [e31, if_pos rfl, e34, ev, vput_vput]
    have : s.1 0 0 = vC s 0 := rfl
    rw [this, vput_self]
    exact h.1.2.1
end O

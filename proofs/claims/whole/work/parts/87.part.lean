/-- the bench with a new PART at METER m's place C -/
def npt (v : Nat → Int32) (m C : Nat) (x w b : Int32) : Nat → Int32 := fun j => if j = 10 + m then nI (C + 1) else if j = pa m C then x else if j = pa m C + 1 then 0 else if j = pa m C + 2 then w else if j = pa m C + 3 then b else v j
theorem npt_lo (v : Nat → Int32) {m C : Nat} (x w b : Int32) {j : Nat} (hj : j < 18) (h : j ≠ 10 + m) : npt v m C x w b j = v j := by
  unfold npt
  rw [if_neg h, if_neg (show ¬ j = pa m C by unfold pa; omega), if_neg (show ¬ j = pa m C + 1 by unfold pa; omega), if_neg (show ¬ j = pa m C + 2 by unfold pa; omega), if_neg (show ¬ j = pa m C + 3 by unfold pa; omega)]
theorem npt_10 (v : Nat → Int32) (m C : Nat) (x w b : Int32) : npt v m C x w b (10 + m) = nI (C + 1) := by unfold npt; rw [if_pos rfl]
theorem npt_old (v : Nat → Int32) {m C : Nat} (x w b : Int32) (hm : m < 8) {m' k c : Nat} (hk : k < 16) (hC : C < 16) (hc : c < 4) (h : ¬ (m' = m ∧ k = C)) : npt v m C x w b (pa m' k + c) = v (pa m' k + c) := by
  unfold npt
  rw [if_neg (show ¬ pa m' k + c = 10 + m by unfold pa; omega), if_neg (show ¬ pa m' k + c = pa m C by unfold pa; omega), if_neg (show ¬ pa m' k + c = pa m C + 1 by unfold pa; omega), if_neg (show ¬ pa m' k + c = pa m C + 2 by unfold pa; omega), if_neg (show ¬ pa m' k + c = pa m C + 3 by unfold pa; omega)]
theorem npt_new (v : Nat → Int32) {m C : Nat} (x w b : Int32) (hm : m < 8) : npt v m C x w b (pa m C) = x ∧ npt v m C x w b (pa m C + 1) = 0 ∧ npt v m C x w b (pa m C + 2) = w ∧ npt v m C x w b (pa m C + 3) = b := by
  unfold npt
  have : pa m C ≠ 10 + m := by unfold pa; omega
  have : 18 ≤ pa m C := by unfold pa; omega
  refine ⟨?_, ?_, ?_, ?_⟩
  · rw [if_neg (by omega), if_pos rfl]
  · rw [if_neg (by omega), if_neg (by omega), if_pos rfl]
  · rw [if_neg (by omega), if_neg (by omega), if_neg (by omega), if_pos rfl]
  · rw [if_neg (by omega), if_neg (by omega), if_neg (by omega), if_neg (by omega), if_pos rfl]
theorem npt_vM {v : Nat → Int32} {m C : Nat} (x w b : Int32) : vM (npt v m C x w b) = vM v := by unfold vM; rw [npt_lo v x w b (by omega) (by omega)]
theorem npt_vc {v : Nat → Int32} {m C : Nat} (hC : C < 16) (x w b : Int32) {m' : Nat} (hm' : m' < 8) : vcn (npt v m C x w b) m' = if m' = m then C + 1 else vcn v m' := by
  unfold vcn
  by_cases q : m' = m
  · rw [if_pos q, q, npt_10, nI_clamp (by omega)]
  · rw [if_neg q, npt_lo v x w b (by omega) (by omega)]
theorem npt_lv {a v : Nat → Int32} (l : Lv a v) (wk : Wk v) {m C : Nat} (hm : m < vM v) (hC : C = vcn v m) (hC2 : C < 16) (x w b : Int32) : Lv (npt a m C x w b) (npt v m C x w b) := by
  have hM := wk.m.1
  refine ⟨by rw [npt_lo a x w b (by omega) (by omega), npt_lo v x w b (by omega) (by omega)]; exact l.1, by rw [npt_lo a x w b (by omega) (by omega), npt_lo v x w b (by omega) (by omega)]; exact l.2.1, fun m' hm' => ?_⟩
  rw [npt_vM] at hm'
  obtain ⟨l1, l2, l3⟩ := l.2.2 m' hm'
  refine ⟨by rw [npt_lo a x w b (by omega) (by omega), npt_lo v x w b (by omega) (by omega)]; exact l1, ?_, fun k hk c hc => ?_⟩
  · by_cases q : m' = m
    · rw [q, npt_10, npt_10]
    · rw [npt_lo a x w b (by omega) (by omega), npt_lo v x w b (by omega) (by omega)]; exact l2
  · rw [npt_vc hC2 x w b (by omega)] at hk
    have h16 := (wk.c hm').1
    by_cases q : m' = m ∧ k = C
    · obtain ⟨rfl, rfl⟩ := q
      obtain ⟨a0, a1, a2, a3⟩ := npt_new a (m := m') (C := k) x w b (by omega)
      obtain ⟨b0, b1, b2, b3⟩ := npt_new v (m := m') (C := k) x w b (by omega)
      rcases (show c = 0 ∨ c = 1 ∨ c = 2 ∨ c = 3 by omega) with rfl | rfl | rfl | rfl
      · rw [Nat.add_zero, a0, b0]
      · rw [a1, b1]
      · rw [a2, b2]
      · rw [a3, b3]
    · have hk2 : k < vcn v m' := by
        by_cases z : m' = m
        · rw [if_pos z] at hk
          have : k ≠ C := fun y => q ⟨z, y⟩
          rw [z, ← hC]; omega
        · rw [if_neg z] at hk; exact hk
      rw [npt_old a x w b (by omega) (by omega) hC2 hc q, npt_old v x w b (by omega) (by omega) hC2 hc q]
      exact l3 k hk2 c hc
theorem npt_wf {v : Nat → Int32} (h : Wf v) {m C : Nat} (hm : m < vM v) (hC : C = vcn v m) (hC2 : C < 16) {x w b : Int32} (hx : bnd 8000 x) (hw : bnd 8500 w) (hb : bnd 8000 b) : Wf (npt v m C x w b) := by
  have hM := h.wk.m.1
  obtain ⟨⟨T, hT1, hT2, eT⟩, ⟨M, hM8, eM⟩, hbb⟩ := id h
  refine ⟨⟨T, hT1, hT2, by rw [npt_lo v x w b (by omega) (by omega)]; exact eT⟩, ⟨M, hM8, by rw [npt_lo v x w b (by omega) (by omega)]; exact eM⟩, fun m' hm' => ?_⟩
  rw [npt_vM] at hm'
  obtain ⟨⟨K, hK, eK⟩, ⟨C', hC', eC⟩, h3⟩ := hbb m' hm'
  have h16 := (h.cn hm').1
  refine ⟨⟨K, hK, by rw [npt_lo v x w b (by omega) (by omega)]; exact eK⟩, ?_, fun k hk => ?_⟩
  · by_cases q : m' = m
    · exact ⟨C + 1, by omega, by rw [q, npt_10]⟩
    · exact ⟨C', hC', by rw [npt_lo v x w b (by omega) (by omega)]; exact eC⟩
  · rw [npt_vc hC2 x w b (by omega)] at hk
    by_cases q : m' = m ∧ k = C
    · obtain ⟨rfl, rfl⟩ := q
      obtain ⟨b0, b1, b2, b3⟩ := npt_new v (m := m') (C := k) x w b (by omega)
      rw [b0, b1, b2, b3]
      exact ⟨hx, by unfold bnd; rw [i0]; omega, hw, hb⟩
    · have hk2 : k < vcn v m' := by
        by_cases z : m' = m
        · rw [if_pos z] at hk
          have : k ≠ C := fun y => q ⟨z, y⟩
          rw [z, ← hC]; omega
        · rw [if_neg z] at hk; exact hk
      have e0 := npt_old v x w b (m := m) (C := C) (by omega) (show k < 16 by omega) hC2 (show 0 < 4 by omega) q
      simp only [Nat.add_zero] at e0
      rw [e0, npt_old v x w b (by omega) (by omega) hC2 (by omega) q, npt_old v x w b (by omega) (by omega) hC2 (by omega) q, npt_old v x w b (by omega) (by omega) hC2 (by omega) q]
      exact h3 k hk2

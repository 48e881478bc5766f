theorem npt_wk {v : Nat → Int32} (h : Wf v) {m C : Nat} (hm : m < vM v) (hC : C = vcn v m) (hC2 : C < 16) (x w b : Int32) : Wk (npt v m C x w b) := by
  have hM := h.wk.m.1
  obtain ⟨-, ⟨M, hM8, eM⟩, -⟩ := id h
  refine ⟨⟨M, hM8, by rw [npt_lo v x w b (by omega) (by omega)]; exact eM⟩, fun m' hm' => ?_⟩
  rw [npt_vM] at hm'
  by_cases q : m' = m
  · exact ⟨C + 1, by omega, by rw [q, npt_10]⟩
  · have := h.cn hm'
    exact ⟨_, this.1, by rw [npt_lo v x w b (by omega) (by omega)]; exact this.2⟩
theorem newB_lv {a v : Nat → Int32} (l : Lv a v) (h : Wf v) {m C K : Nat} (hm : m < vM v) (hC : C = vcn v m) (hC2 : C < 16) (x y : Int32) : Lv (newB a K m C x y) (newB v K m C x y) := by
  unfold newB
  by_cases hs : K = 3 ∨ K = 4
  · rw [if_pos hs, if_pos hs]
    exact lv_tbw (npt_lv l h.wk hm hC hC2 x 1 y) (npt_wk h hm hC hC2 x 1 y) m (C + 1) (by omega) _
  · rw [if_neg hs, if_neg hs]
    exact npt_lv l h.wk hm hC hC2 x _ 0
theorem newB_wf {v : Nat → Int32} (h : Wf v) {m C K : Nat} (hm : m < vM v) (hC : C = vcn v m) (hC2 : C < 16) {x y : Int32} (hx : bnd 8000 x) (hy : K = 3 ∨ K = 4 → bnd 8000 y) : Wf (newB v K m C x y) := by
  have b1 : bnd 8500 (1 : Int32) := by unfold bnd; rw [i1]; omega
  unfold newB
  by_cases hs : K = 3 ∨ K = 4
  · rw [if_pos hs]
    refine wf_tbw (npt_wf h hm hC hC2 hx b1 (hy hs)) (by omega) (fun k _ => ?_)
    have := dbl_le (C - k)
    unfold bnd
    rw [nI_toInt (by omega)]
    omega
  · rw [if_neg hs]
    refine npt_wf h hm hC hC2 hx ?_ (by unfold bnd; rw [i0]; omega)
    split
    · obtain ⟨q1, q2⟩ := hx; exact ⟨by omega, by omega⟩
    · exact b1

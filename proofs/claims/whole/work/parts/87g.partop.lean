theorem newB_lo (v : Nat → Int32) (K : Nat) {m C : Nat} (x y : Int32) {j : Nat} (hj : j < 18) (h : j ≠ 10 + m) : newB v K m C x y j = v j := by
  unfold newB
  split
  · rw [tbw_lo _ _ _ _ hj, npt_lo v x 1 y hj h]
  · rw [npt_lo v x _ 0 hj h]
theorem newB_10 (v : Nat → Int32) (K : Nat) {m C : Nat} (hm : m < 8) (x y : Int32) : newB v K m C x y (10 + m) = nI (C + 1) := by
  unfold newB
  split
  · rw [tbw_lo _ _ _ _ (by omega), npt_10]
  · rw [npt_10]
theorem newB_old (v : Nat → Int32) (K : Nat) {m C : Nat} (x y : Int32) (hm : m < 8) {m' k c : Nat} (hk : k < 16) (hC : C < 16) (hc : c < 4) (h : ¬ (m' = m ∧ k = C)) (h2 : ¬ (m' = m ∧ k < C ∧ c = 2)) : newB v K m C x y (pa m' k + c) = v (pa m' k + c) := by
  unfold newB
  split
  · rw [tbw_at _ (by omega) _ hk hc, if_neg (fun z => by
      by_cases q : k = C
      · exact h ⟨z.1, q⟩
      · exact h2 ⟨z.1, by omega, z.2.2⟩), npt_old v x 1 y hm hk hC hc h]
  · rw [npt_old v x _ 0 hm hk hC hc h]
theorem newB_vM (v : Nat → Int32) (K : Nat) {m C : Nat} (x y : Int32) : vM (newB v K m C x y) = vM v := by unfold vM; rw [newB_lo v K x y (by omega) (by omega)]
theorem newB_vc (v : Nat → Int32) (K : Nat) {m C : Nat} (hm : m < 8) (hC : C < 16) (x y : Int32) {m' : Nat} (hm' : m' < 8) : vcn (newB v K m C x y) m' = if m' = m then C + 1 else vcn v m' := by
  unfold vcn
  by_cases q : m' = m
  · rw [if_pos q, q, newB_10 v K hm, nI_clamp (by omega)]
  · rw [if_neg q, newB_lo v K x y (by omega) (by omega)]
/-- the new PART taken back -/
theorem newB_back {a v : Nat → Int32} (l : Lv a v) (h : Wf v) {m C K : Nat} (hm : m < vM v) (hC : C = vcn v m) (hC2 : C < 16) (x y : Int32) {w : Nat → Int32} (hw : ∀ k, k < C → w k = a (pa m k + 2)) : Lv (tbw (vput (newB a K m C x y) (10 + m) (nI C)) m C w) v := by
  have hM := h.wk.m.1
  refine ⟨?_, ?_, fun m' hm' => ?_⟩
  · rw [tbw_lo _ _ _ _ (by omega), vput_ne _ _ (show 0 ≠ 10 + m by omega), newB_lo a K x y (by omega) (by omega)]; exact l.1
  · rw [tbw_lo _ _ _ _ (by omega), vput_ne _ _ (show 1 ≠ 10 + m by omega), newB_lo a K x y (by omega) (by omega)]; exact l.2.1
  · obtain ⟨l1, l2, l3⟩ := l.2.2 m' hm'
    have h16 := (h.cn hm').1
    refine ⟨?_, ?_, fun k hk c hc => ?_⟩
    · rw [tbw_lo _ _ _ _ (by omega), vput_ne _ _ (show 2 + m' ≠ 10 + m by omega), newB_lo a K x y (by omega) (by omega)]; exact l1
    · rw [tbw_lo _ _ _ _ (by omega)]
      by_cases q : m' = m
      · rw [q, vput_at, (h.cn hm).2, hC]
      · rw [vput_ne _ _ (show 10 + m' ≠ 10 + m by omega), newB_lo a K x y (by omega) (by omega)]; exact l2
    · have := pa_big m' k c
      rw [tbw_at _ (by omega) _ (by omega) hc, vput_ne _ _ (show pa m' k + c ≠ 10 + m by omega)]
      by_cases q : m' = m ∧ k < C ∧ c = 2
      · rw [if_pos q, hw k q.2.1, ← l3 k hk c hc, q.1, q.2.2]
      · rw [if_neg q, newB_old a K x y (by omega) (by omega) hC2 hc (fun z => by rw [z.1, ← hC] at hk; omega) q]
        exact l3 k hk c hc

/-! acts: benches that agree, and what taking back does to them -/
/-- a bench within its bounds -/
def Wk (v : Nat → Int32) : Prop := (∃ M : Nat, M ≤ 8 ∧ v 1 = nI M) ∧ ∀ m : Nat, m < vM v → ∃ C : Nat, C ≤ 16 ∧ v (10 + m) = nI C
theorem Wf.wk {v : Nat → Int32} (h : Wf v) : Wk v := ⟨h.2.1, fun m hm => (h.2.2 m hm).2.1⟩
theorem Wk.m {v : Nat → Int32} (h : Wk v) : vM v ≤ 8 ∧ v 1 = nI (vM v) := by
  obtain ⟨⟨M, hM, e⟩, -⟩ := h
  unfold vM
  rw [e, nI_clamp (by omega)]
  exact ⟨hM, rfl⟩
theorem Wk.c {v : Nat → Int32} (h : Wk v) {m : Nat} (hm : m < vM v) : vcn v m ≤ 16 ∧ v (10 + m) = nI (vcn v m) := by
  obtain ⟨C, hC, e⟩ := h.2 m hm
  unfold vcn
  rw [e, nI_clamp (by omega)]
  exact ⟨hC, rfl⟩
theorem Lv.m {a b : Nat → Int32} (h : Lv a b) : vM a = vM b := by unfold vM; rw [h.2.1]
theorem Lv.c {a b : Nat → Int32} (h : Lv a b) {m : Nat} (hm : m < vM b) : vcn a m = vcn b m := by unfold vcn; rw [(h.2.2 m hm).2.1]
theorem Lv.rf (a : Nat → Int32) : Lv a a := ⟨rfl, rfl, fun _ _ => ⟨rfl, rfl, fun _ _ _ _ => rfl⟩⟩
theorem Lv.sy {a b : Nat → Int32} (h : Lv a b) : Lv b a :=
  ⟨h.1.symm, h.2.1.symm, fun m hm => by
    rw [h.m] at hm
    obtain ⟨h1, h2, h3⟩ := h.2.2 m hm
    refine ⟨h1.symm, h2.symm, fun k hk c hc => ?_⟩
    rw [h.c hm] at hk
    exact (h3 k hk c hc).symm⟩
theorem Lv.tr {a b c : Nat → Int32} (h : Lv a b) (g : Lv b c) : Lv a c :=
  ⟨h.1.trans g.1, h.2.1.trans g.2.1, fun m hm => by
    have hm' : m < vM b := by rw [g.m]; exact hm
    obtain ⟨h1, h2, h3⟩ := h.2.2 m hm'
    obtain ⟨g1, g2, g3⟩ := g.2.2 m hm
    refine ⟨h1.trans g1, h2.trans g2, fun k hk c hc => ?_⟩
    have hk' : k < vcn b m := by rw [g.c hm]; exact hk
    exact (h3 k hk' c hc).trans (g3 k hk c hc)⟩
theorem Wk.lv {a b : Nat → Int32} (h : Wk b) (l : Lv a b) : Wk a := by
  refine ⟨?_, fun m hm => ?_⟩
  · obtain ⟨M, hM, e⟩ := h.1
    exact ⟨M, hM, l.2.1.trans e⟩
  · rw [l.m] at hm
    obtain ⟨C, hC, e⟩ := h.2 m hm
    exact ⟨C, hC, (l.2.2 m hm).2.1.trans e⟩
theorem ActOk.lv {a b : Nat → Int32} {w : Int32} {m k : Nat} (h : ActOk b w m k) (l : Lv a b) : ActOk a w m k := by
  unfold ActOk at h ⊢
  rw [l.m]
  rcases h with h | h | ⟨h1, h2, h3⟩ | ⟨h1, h2, h3⟩ | h
  · exact Or.inl h
  · exact Or.inr (Or.inl h)
  · exact Or.inr (Or.inr (Or.inl ⟨h1, h2, by rw [l.c h2]; exact h3⟩))
  · exact Or.inr (Or.inr (Or.inr (Or.inl ⟨h1, h2, by rw [l.c h2]; exact h3⟩)))
  · exact Or.inr (Or.inr (Or.inr (Or.inr h)))
theorem pa_pa {m k c m' k' c' : Nat} (hk : k < 16) (hk' : k' < 16) (hc : c < 4) (hc' : c' < 4) (h : pa m k + c = pa m' k' + c') : m = m' ∧ k = k' ∧ c = c' := by
  unfold pa at h; omega
theorem pa_big (m k c : Nat) : 18 ≤ pa m k + c := by unfold pa; omega
/-- Lv, entry by entry -/
theorem Lv.put {a b : Nat → Int32} (l : Lv a b) (w : Wk b) {i : Nat} (hi : 18 ≤ i) (x : Int32) : Lv (vput a i x) (vput b i x) := by
  have e1 : ∀ (v : Nat → Int32) (j : Nat), j < 18 → vput v i x j = v j := fun v j hj => vput_ne v x (by omega)
  have eM : vM (vput b i x) = vM b := by unfold vM; rw [e1 b 1 (by omega)]
  refine ⟨by rw [e1 a 0 (by omega), e1 b 0 (by omega)]; exact l.1, by rw [e1 a 1 (by omega), e1 b 1 (by omega)]; exact l.2.1, fun m hm => ?_⟩
  rw [eM] at hm
  have hM := w.m.1
  obtain ⟨h1, h2, h3⟩ := l.2.2 m hm
  refine ⟨by rw [e1 a _ (by omega), e1 b _ (by omega)]; exact h1, by rw [e1 a _ (by omega), e1 b _ (by omega)]; exact h2, fun k hk c hc => ?_⟩
  have hk : k < vcn b m := by
    unfold vcn at hk ⊢
    rw [e1 b _ (by omega)] at hk; exact hk
  unfold vput
  by_cases q : pa m k + c = i
  · rw [if_pos q, if_pos q]
  · rw [if_neg q, if_neg q]; exact h3 k hk c hc
theorem tbw_lo (v : Nat → Int32) (m C : Nat) (w : Nat → Int32) {j : Nat} (hj : j < 18) : tbw v m C w j = v j := by
  unfold tbw; rw [if_neg (by unfold pa; omega)]
theorem tbw_at (v : Nat → Int32) {m C : Nat} (hC : C ≤ 16) (w : Nat → Int32) {m' k c : Nat} (hk : k < 16) (hc : c < 4) : tbw v m C w (pa m' k + c) = if m' = m ∧ k < C ∧ c = 2 then w k else v (pa m' k + c) := by
  unfold tbw
  by_cases q : m' = m ∧ k < C ∧ c = 2
  · have hr : pa m 0 ≤ pa m' k + c ∧ pa m' k + c < pa m C ∧ (pa m' k + c - 18) % 4 = 2 := by unfold pa; omega
    rw [if_pos hr, if_pos q]
    congr 1
    unfold pa; omega
  · rw [if_neg (show ¬ (pa m 0 ≤ pa m' k + c ∧ pa m' k + c < pa m C ∧ (pa m' k + c - 18) % 4 = 2) from fun z => q (by unfold pa at z; omega)), if_neg q]
theorem lv_tbw {a b : Nat → Int32} (l : Lv a b) (wk : Wk b) (m C : Nat) (hC : C ≤ 16) (w : Nat → Int32) : Lv (tbw a m C w) (tbw b m C w) := by
  have eM : vM (tbw b m C w) = vM b := by unfold vM; rw [tbw_lo b m C w (by omega)]
  refine ⟨by rw [tbw_lo a m C w (by omega), tbw_lo b m C w (by omega)]; exact l.1, by rw [tbw_lo a m C w (by omega), tbw_lo b m C w (by omega)]; exact l.2.1, fun m' hm => ?_⟩
  rw [eM] at hm
  have hM := wk.m.1
  obtain ⟨h1, h2, h3⟩ := l.2.2 m' hm
  refine ⟨by rw [tbw_lo a m C w (by omega), tbw_lo b m C w (by omega)]; exact h1, by rw [tbw_lo a m C w (by omega), tbw_lo b m C w (by omega)]; exact h2, fun k hk c hc => ?_⟩
  have hk : k < vcn b m' := by
    unfold vcn at hk ⊢
    rw [tbw_lo b m C w (by omega)] at hk; exact hk
  have := (wk.c hm).1
  rw [tbw_at a hC w (by omega) hc, tbw_at b hC w (by omega) hc, h3 k hk c hc]
/-- the bench but for its number of METERS -/
theorem Lv.drop1 {a b : Nat → Int32} (l : Lv a b) (wk : Wk b) (h0 : 0 < vM b) : Lv (vput a 1 (a 1 - 1)) (vput b 1 (b 1 - 1)) := by
  obtain ⟨hM, eM⟩ := wk.m
  have e : b 1 - 1 = nI (vM b - 1) := by rw [eM, show vM b = vM b - 1 + 1 by omega, nI_pred]; simp
  have e' : vM (vput b 1 (b 1 - 1)) = vM b - 1 := by
    unfold vM
    rw [vput_at, e, nI_clamp (by omega)]; rfl
  refine ⟨by rw [vput_ne _ _ (show 0 ≠ 1 by omega), vput_ne _ _ (show 0 ≠ 1 by omega)]; exact l.1, by rw [vput_at, vput_at, l.2.1], fun m hm => ?_⟩
  rw [e'] at hm
  obtain ⟨h1, h2, h3⟩ := l.2.2 m (by omega)
  refine ⟨by rw [vput_ne _ _ (show 2 + m ≠ 1 by omega), vput_ne _ _ (show 2 + m ≠ 1 by omega)]; exact h1, by rw [vput_ne _ _ (show 10 + m ≠ 1 by omega), vput_ne _ _ (show 10 + m ≠ 1 by omega)]; exact h2, fun k hk c hc => ?_⟩
  have hk : k < vcn b m := by
    unfold vcn at hk ⊢
    rw [vput_ne _ _ (show 10 + m ≠ 1 by omega)] at hk; exact hk
  have := pa_big m k c
  rw [vput_ne _ _ (show pa m k + c ≠ 1 by omega), vput_ne _ _ (show pa m k + c ≠ 1 by omega)]
  exact h3 k hk c hc
/-- the bench but for METER m's number of PARTS -/
theorem Lv.drop2 {a b : Nat → Int32} (l : Lv a b) (wk : Wk b) {m : Nat} (hm : m < vM b) (h0 : 0 < vcn b m) : Lv (vput a (10 + m) (a (10 + m) - 1)) (vput b (10 + m) (b (10 + m) - 1)) ∧ Wk (vput b (10 + m) (b (10 + m) - 1)) := by
  obtain ⟨hM, eM⟩ := wk.m
  obtain ⟨hC, eC⟩ := wk.c hm
  have e : b (10 + m) - 1 = nI (vcn b m - 1) := by
    rw [eC]
    obtain ⟨C, hC⟩ : ∃ C, vcn b m = C + 1 := ⟨vcn b m - 1, by omega⟩
    rw [hC, nI_pred, Nat.add_sub_cancel]
  have e' : vM (vput b (10 + m) (b (10 + m) - 1)) = vM b := by
    unfold vM
    rw [vput_ne _ _ (show 1 ≠ 10 + m by omega)]
  refine ⟨⟨by rw [vput_ne _ _ (show 0 ≠ 10 + m by omega), vput_ne _ _ (show 0 ≠ 10 + m by omega)]; exact l.1, by rw [vput_ne _ _ (show 1 ≠ 10 + m by omega), vput_ne _ _ (show 1 ≠ 10 + m by omega)]; exact l.2.1, fun m' hm' => ?_⟩, ?_, fun m' hm' => ?_⟩
  · rw [e'] at hm'
    obtain ⟨h1, h2, h3⟩ := l.2.2 m' hm'
    refine ⟨by rw [vput_ne _ _ (show 2 + m' ≠ 10 + m by omega), vput_ne _ _ (show 2 + m' ≠ 10 + m by omega)]; exact h1, ?_, fun k hk c hc => ?_⟩
    · by_cases q : m' = m
      · subst q; rw [vput_at, vput_at, h2]
      · rw [vput_ne _ _ (show 10 + m' ≠ 10 + m by omega), vput_ne _ _ (show 10 + m' ≠ 10 + m by omega)]; exact h2
    · have hk : k < vcn b m' := by
        by_cases q : m' = m
        · subst q
          unfold vcn at hk
          rw [vput_at, e, nI_clamp (by omega)] at hk
          omega
        · unfold vcn at hk ⊢
          rw [vput_ne _ _ (show 10 + m' ≠ 10 + m by omega)] at hk; exact hk
      have := pa_big m' k c
      rw [vput_ne _ _ (show pa m' k + c ≠ 10 + m by omega), vput_ne _ _ (show pa m' k + c ≠ 10 + m by omega)]
      exact h3 k hk c hc
  · obtain ⟨M, hM, eM⟩ := wk.1
    exact ⟨M, hM, by rw [vput_ne _ _ (show 1 ≠ 10 + m by omega)]; exact eM⟩
  · rw [e'] at hm'
    by_cases q : m' = m
    · subst q
      exact ⟨vcn b m' - 1, by omega, by rw [vput_at, e]⟩
    · obtain ⟨C, hC, eC⟩ := wk.2 m' hm'
      exact ⟨C, hC, by rw [vput_ne _ _ (show 10 + m' ≠ 10 + m by omega)]; exact eC⟩
/-- taking back respects what is there -/
theorem tb_lv {a b : Nat → Int32} (l : Lv a b) (wk : Wk b) {what old : Int32} {m k : Nat} {w : Nat → Int32} (h : ActOk b what m k) : Lv (tb a what m k old w) (tb b what m k old w) := by
  unfold tb
  by_cases q0 : what = 0
  · rw [if_pos q0, if_pos q0]
    refine ⟨by rw [vput_at, vput_at], by rw [vput_ne _ _ (show 1 ≠ 0 by omega), vput_ne _ _ (show 1 ≠ 0 by omega)]; exact l.2.1, fun m' hm => ?_⟩
    have hm : m' < vM b := hm
    obtain ⟨h1, h2, h3⟩ := l.2.2 m' hm
    refine ⟨by rw [vput_ne _ _ (show 2 + m' ≠ 0 by omega), vput_ne _ _ (show 2 + m' ≠ 0 by omega)]; exact h1, by rw [vput_ne _ _ (show 10 + m' ≠ 0 by omega), vput_ne _ _ (show 10 + m' ≠ 0 by omega)]; exact h2, fun k hk c hc => ?_⟩
    have hk : k < vcn b m' := by
      unfold vcn at hk ⊢
      rw [vput_ne _ _ (show 10 + m' ≠ 0 by omega)] at hk; exact hk
    have := pa_big m' k c
    rw [vput_ne _ _ (show pa m' k + c ≠ 0 by omega), vput_ne _ _ (show pa m' k + c ≠ 0 by omega)]
    exact h3 k hk c hc
  rw [if_neg q0, if_neg q0]
  by_cases q1 : what = 1
  · rw [if_pos q1, if_pos q1]
    refine l.drop1 wk ?_
    rcases h with h | h | h | h | h
    · exact absurd h q0
    · exact h.2
    · rw [q1] at h; exact absurd h.1 (by decide)
    · rw [q1] at h; exact h.1.elim (fun z => absurd z (by decide)) (fun z => absurd z (by decide))
    · rw [q1] at h; exact absurd h.1 (by decide)
  rw [if_neg q1, if_neg q1]
  by_cases q2 : what = 2
  · rw [if_pos q2, if_pos q2]
    have hh : m < vM b ∧ 0 < vcn b m := by
      rcases h with h | h | h | h | h
      · exact absurd h q0
      · exact absurd h.1 q1
      · exact h.2
      · rw [q2] at h; exact h.1.elim (fun z => absurd z (by decide)) (fun z => absurd z (by decide))
      · rw [q2] at h; exact absurd h.1 (by decide)
    rw [l.c hh.1]
    obtain ⟨l2, w2⟩ := l.drop2 wk hh.1 hh.2
    have := (wk.c hh.1).1
    exact lv_tbw l2 w2 m (vcn b m - 1) (by omega) w
  rw [if_neg q2, if_neg q2]
  by_cases q3 : what = 3
  · rw [if_pos q3, if_pos q3]
    exact l.put wk (by have := pa_big m k 1; omega) old
  rw [if_neg q3, if_neg q3]
  by_cases q4 : what = 4
  · rw [if_pos q4, if_pos q4]
    exact l.put wk (by have := pa_big m k 2; omega) old
  rw [if_neg q4, if_neg q4]
  have hm : m < vM b := by
    rcases h with h | h | h | h | h
    · exact absurd h q0
    · exact absurd h.1 q1
    · exact absurd h.1 q2
    · exact h.2.1
    · exact h.2
  rw [l.c hm]
  exact lv_tbw l wk m (vcn b m) (wk.c hm).1 w

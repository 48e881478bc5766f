/-! undo: what the class takes back -/
section O
variable {N : Nat} {s : cS} {t : mS}
theorem dropPart_some (N : Nat) {m C : Nat} (hc : s.1 6 m = nI (C + 1)) (hC : C < 16) : f3_dropPart N m s = some (cu s 6 m (nI C)) := by
  unfold f3_dropPart
  rw [hc, if_neg (show ¬ nI (C + 1) ≤ (0 : Int32) from nI_ge (a := 0) (by omega) (by omega)), nI_pred]
theorem part_is (N : Nat) (h : RelA s t) {m k : Nat} (hm : m < vM (t 0)) (hk : k < vcn (t 0) m) : f8_partAt N (nI m) (nI k) s = some (some (16 * m + k), s) := by
  have hc := h.1.cn hm
  have hme := h.meter hm
  unfold f8_partAt
  rw [meter_is N h hm]
  simp only [Option.bind_some]
  rw [if_pos hme.1, partAt_some hme.1 hk hc.1 (by rw [hme.2.2]; exact hc.2)]
  rfl
theorem take_some (hN : 100 ≤ N) (h : RelA s t) {a : Nat} (ha : a < 60) (ok : ActOk (vC s) (s.1 31 a) (am s a) (ak s a)) (an : ActN s a) : ∃ s', f8_takeBack N a s = some s' ∧ (∀ f, f ≠ 0 → f ≠ 1 → f ≠ 6 → f ≠ 11 → f ≠ 12 → s'.1 f = s.1 f) ∧ s'.2 = s.2 ∧ vC s' = tbS s (vC s) a := by
  have hl := h.2.1
  unfold f8_takeBack tbS tb
  rw [if_pos ha]
  obtain ⟨q, hq⟩ : ∃ q, f8_meterAt N (s.1 32 a) s = some (q, s) := by
    rcases meter_of N h (s.1 32 a) with ⟨h1, -⟩ | ⟨m, -, -, -, h1, -⟩
    · exact ⟨_, h1⟩
    · exact ⟨_, h1⟩
  obtain ⟨r, hr⟩ : ∃ r, f8_partAt N (s.1 32 a) (s.1 33 a) s = some (r, s) := by
    rcases part_of N h (s.1 32 a) (s.1 33 a) with ⟨h1, -⟩ | ⟨m, k, -, -, -, -, -, -, h1, -⟩
    · exact ⟨_, h1⟩
    · exact ⟨_, h1⟩
  rw [hq]
  simp only [Option.bind_some]
  rw [hr]
  simp only [Option.bind_some]
  by_cases q0 : s.1 31 a = 0
  · rw [if_pos q0, if_pos q0]
    exact ⟨_, rfl, fun f x0 _ _ _ _ => cu_ne _ _ _ x0, rfl, vC_c0 _ _⟩
  rw [if_neg q0, if_neg q0]
  by_cases q1 : s.1 31 a = 1
  · have hM : 0 < vM (vC s) := by
      rcases ok with z | z | z | z | z
      · exact absurd z q0
      · exact z.2
      · rw [q1] at z; exact absurd z.1 (by decide)
      · rw [q1] at z; exact z.1.elim (fun y => absurd y (by decide)) (fun y => absurd y (by decide))
      · rw [q1] at z; exact absurd z.1 (by decide)
    obtain ⟨T, M, hT1, hT2, hM8, e1, e2, e3, e4, e5, e6⟩ := h.base
    rw [hl.m, e5] at hM
    have hp : ¬ s.1 1 0 ≤ 0 := by rw [e3]; exact nI_ge (a := 0) hM (by omega)
    rw [if_pos q1, if_pos q1, if_neg hp]
    exact ⟨_, rfl, fun f _ x1 _ _ _ => cu_ne _ _ _ x1, rfl, vC_c1 _ _⟩
  rw [if_neg q1, if_neg q1]
  have hm : am s a < vM (t 0) := by
    rw [← hl.m]
    rcases ok with z | z | z | z | z
    · exact absurd z q0
    · exact absurd z.1 q1
    · exact z.2.1
    · exact z.2.1
    · exact z.2
  have h32 : s.1 32 a = nI (am s a) := by
    rcases an with z | z | z
    · exact absurd z q0
    · exact absurd z q1
    · exact z.1
  have hqm : q = some (am s a) := by
    rw [h32, meter_is N h hm] at hq
    exact (congrArg Prod.fst (Option.some.inj hq)).symm
  have hrk : ∀ k, k < vcn (t 0) (am s a) → s.1 33 a = nI k → r = some (16 * am s a + k) := by
    intro k hk e
    rw [h32, e, part_is N h hm hk] at hr
    exact (congrArg Prod.fst (Option.some.inj hr)).symm
  have hk3 : s.1 31 a = 3 ∨ s.1 31 a = 4 → ak s a < vcn (t 0) (am s a) ∧ s.1 33 a = nI (ak s a) := by
    intro y
    refine ⟨?_, ?_⟩
    · rw [← hl.c hm]
      rcases ok with z | z | z | z | z
      · exact absurd z q0
      · exact absurd z.1 q1
      · rw [z.1] at y; exact y.elim (fun y => absurd y (by decide)) (fun y => absurd y (by decide))
      · exact z.2.2
      · rw [z.1] at y; exact y.elim (fun y => absurd y (by decide)) (fun y => absurd y (by decide))
    · rcases an with z | z | ⟨-, z | z | z⟩
      · exact absurd z q0
      · exact absurd z q1
      · rw [z] at y; exact y.elim (fun y => absurd y (by decide)) (fun y => absurd y (by decide))
      · rw [z] at y; exact y.elim (fun y => absurd y (by decide)) (fun y => absurd y (by decide))
      · exact z
  generalize hmm : am s a = m at hm h32 hqm hrk hk3 ok ⊢
  have hc := h.1.cn hm
  have hme := h.meter hm
  have h8 := hme.1
  have s6 : s.1 6 m = nI (vcn (t 0) m) := by rw [hme.2.2]; exact hc.2
  subst hqm
  unfold f8_takeBack_b68
  rw [if_pos ha]
  by_cases q2 : s.1 31 a = 2
  · have h0 : 0 < vcn (t 0) m := by
      rw [← hl.c hm]
      rcases ok with z | z | z | z | z
      · exact absurd z q0
      · exact absurd z.1 q1
      · exact z.2.2
      · rw [q2] at z; exact z.1.elim (fun y => absurd y (by decide)) (fun y => absurd y (by decide))
      · rw [q2] at z; exact absurd z.1 (by decide)
    obtain ⟨C, hC⟩ : ∃ C, vcn (t 0) m = C + 1 := ⟨vcn (t 0) m - 1, by omega⟩
    rw [hC] at s6
    rw [if_pos q2, if_pos q2]
    simp only []
    rw [if_pos h8, dropPart_some N s6 (by omega)]
    simp only [Option.bind_some]
    obtain ⟨s', g1, g2, g3, g4⟩ := give_some (N := N) (s := cu s 6 m (nI C)) (a := a) (C := C) hN h8 (by omega) (cu_at _ _ _ _) ha
    rw [g1]
    refine ⟨s', rfl, fun f x0 x1 x6 x11 x12 => ?_, ?_, ?_⟩
    · rw [g2 f x12, cu_ne _ _ _ x6]
    · rw [g3]; rfl
    · rw [vC_w (s1 := cu s 6 m (nI C)) (m := m) (C := C) (w := s.2.2 a) g2 (fun i => g4 i), vC_c6 _ h8, hl.c hm, hC, Nat.add_sub_cancel, vC_10 s h8, s6, nI_pred]
  rw [if_neg q2, if_neg q2]
  unfold f8_takeBack_b95
  rw [if_pos ha]
  by_cases q3 : s.1 31 a = 3
  · obtain ⟨k1, k2⟩ := hk3 (Or.inl q3)
    have e := hrk _ k1 k2
    subst e
    have hc16 := hc.1
    rw [if_pos q3, if_pos q3]
    simp only []
    rw [if_pos (show 16 * m + ak s a < 128 by omega)]
    exact ⟨_, rfl, fun f _ _ _ x11 _ => cu_ne _ _ _ x11, rfl, vC_cp s m (ak s a) (c := 1) (by omega) _⟩
  rw [if_neg q3, if_neg q3]
  unfold f8_takeBack_b118
  rw [if_pos ha]
  by_cases q4 : s.1 31 a = 4
  · obtain ⟨k1, k2⟩ := hk3 (Or.inr q4)
    have e := hrk _ k1 k2
    subst e
    have hc16 := hc.1
    rw [if_pos q4, if_pos q4]
    simp only []
    rw [if_pos (show 16 * m + ak s a < 128 by omega)]
    exact ⟨_, rfl, fun f _ _ _ _ x12 => cu_ne _ _ _ x12, rfl, vC_cp s m (ak s a) (c := 2) (by omega) _⟩
  rw [if_neg q4, if_neg q4]
  have q5 : s.1 31 a = 5 := by
    rcases ok with z | z | z | z | z
    · exact absurd z q0
    · exact absurd z.1 q1
    · exact absurd z.1 q2
    · exact z.1.elim (fun y => absurd y q3) (fun y => absurd y q4)
    · exact z.1
  unfold f8_takeBack_b141
  rw [if_pos ha, if_pos q5]
  simp only []
  rw [if_pos h8]
  obtain ⟨s', g1, g2, g3, g4⟩ := give_some (N := N) (s := s) (a := a) (C := vcn (t 0) m) hN h8 hc.1 s6 ha
  rw [g1]
  refine ⟨s', rfl, fun f x0 x1 x6 x11 x12 => g2 f x12, g3, ?_⟩
  rw [vC_w (s1 := s) (m := m) (C := vcn (t 0) m) (w := s.2.2 a) g2 g4, hl.c hm]
end O

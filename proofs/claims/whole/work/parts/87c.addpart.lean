section O
variable {N : Nat} {s : cS} {t : mS}
theorem addPart_some (hN : 100 ≤ N) {m C K : Nat} (hm : m < 8) (hC : C < 16) (h6 : s.1 6 m = nI C) (hK : K ≤ 4) (h5 : s.1 5 m = nI K) (x y : Int32) : ∃ s', f3_addPart N m x y s = some s' ∧ s'.2 = s.2 ∧ (∀ f, f ≠ 6 → f ≠ 10 → f ≠ 11 → f ≠ 12 → f ≠ 13 → s'.1 f = s.1 f) ∧ s'.1 6 m = nI (C + 1) ∧ vC s' = newB (vC s) K m C x y := by
  unfold f3_addPart
  have c6 : (cu s 6 m (nI (C + 1))).1 6 m = nI (C + 1) := cu_at _ _ _ _
  rw [h6, if_pos (show nI C < 16 from nI_lt (b := 16) hC (by omega)), nI_1, c6, nI_pred, partAt_some (C := C + 1) hm (by omega) (by omega) c6]
  simp only [Option.bind_some]
  have c5 : (cu (cu (cu s 6 m (nI (C + 1))) 10 (16 * m + C) x) 11 (16 * m + C) 0).1 5 m = nI K := by
    rw [cu_ne _ _ _ (show 5 ≠ 11 by omega), cu_ne _ _ _ (show 5 ≠ 10 by omega), cu_ne _ _ _ (show 5 ≠ 6 by omega)]; exact h5
  rw [if_pos (show 16 * m + C < 128 by omega), c5]
  have fr : ∀ w b f, f ≠ 6 → f ≠ 10 → f ≠ 11 → f ≠ 12 → f ≠ 13 → (cu (cu (cu (cu (cu s 6 m (nI (C + 1))) 10 (16 * m + C) x) 11 (16 * m + C) 0) 12 (16 * m + C) w) 13 (16 * m + C) b).1 f = s.1 f := fun w b f x6 x10 x11 x12 x13 => by
    rw [cu_ne _ _ _ x13, cu_ne _ _ _ x12, cu_ne _ _ _ x11, cu_ne _ _ _ x10, cu_ne _ _ _ x6]
  have f6 : ∀ w b, (cu (cu (cu (cu (cu s 6 m (nI (C + 1))) 10 (16 * m + C) x) 11 (16 * m + C) 0) 12 (16 * m + C) w) 13 (16 * m + C) b).1 6 m = nI (C + 1) := fun w b => by
    rw [cu_ne _ _ _ (show 6 ≠ 13 by omega), cu_ne _ _ _ (show 6 ≠ 12 by omega), cu_ne _ _ _ (show 6 ≠ 11 by omega), cu_ne _ _ _ (show 6 ≠ 10 by omega), cu_at]
  have st1 : ∀ w, (cu (cu (cu (cu s 6 m (nI (C + 1))) 10 (16 * m + C) x) 11 (16 * m + C) 0) 12 (16 * m + C) w).1 5 m = nI K := fun w => by rw [cu_ne _ _ _ (show 5 ≠ 12 by omega)]; exact c5
  have st2 : ∀ w b, (cu (cu (cu (cu (cu s 6 m (nI (C + 1))) 10 (16 * m + C) x) 11 (16 * m + C) 0) 12 (16 * m + C) w) 13 (16 * m + C) b).1 5 m = nI K := fun w b => by rw [cu_ne _ _ _ (show 5 ≠ 13 by omega)]; exact st1 w
  unfold f3_addPart_b63 f3_addPart_b79 f3_isStaged newB
  simp only [st1, st2]
  rw [if_pos (show 16 * m + C < 128 by omega), if_pos (show 16 * m + C < 128 by omega)]
  by_cases hs : K = 3 ∨ K = 4
  · rw [if_pos hs]
    obtain ⟨s', d1, d2, d3, d4⟩ := double_some (N := N) (s := cu (cu (cu (cu (cu s 6 m (nI (C + 1))) 10 (16 * m + C) x) 11 (16 * m + C) 0) 12 (16 * m + C) 1) 13 (16 * m + C) y) hN hm (show C + 1 ≤ 16 by omega) (f6 1 y)
    have ev : vC s' = tbw (npt (vC s) m C x 1 y) m (C + 1) (fun k => nI (dbl (C - k))) := by
      rw [← vC_new s hm x 1 y]
      exact vC_w d2 d4
    refine ⟨s', ?_, by rw [d3]; rfl, fun f x6 x10 x11 x12 x13 => by rw [d2 f x12, fr 1 y f x6 x10 x11 x12 x13], by rw [d2 6 (by omega), f6], ev⟩
    rcases hs with rfl | rfl
    · simp [d1, st1, st2, show ¬ nI 3 = (2 : Int32) by decide, show nI 3 = (3 : Int32) from rfl, show 16 * m + C < 128 by omega]
    · simp [d1, st1, st2, show ¬ nI 4 = (2 : Int32) by decide, show ¬ nI 4 = (3 : Int32) by decide, show nI 4 = (4 : Int32) from rfl, show 16 * m + C < 128 by omega]
  · rw [if_neg hs]
    refine ⟨_, ?_, ?_, fun f x6 x10 x11 x12 x13 => fr (if K = 2 then x else 1) 0 f x6 x10 x11 x12 x13, f6 (if K = 2 then x else 1) 0, vC_new s hm x _ 0⟩
    · rcases (show K = 0 ∨ K = 1 ∨ K = 2 by omega) with rfl | rfl | rfl
      · simp [st1, st2, show ¬ nI 0 = (2 : Int32) by decide, show ¬ nI 0 = (3 : Int32) by decide, show ¬ nI 0 = (4 : Int32) by decide, show 16 * m + C < 128 by omega]
      · simp [st1, st2, show ¬ nI 1 = (2 : Int32) by decide, show ¬ nI 1 = (3 : Int32) by decide, show ¬ nI 1 = (4 : Int32) by decide, show 16 * m + C < 128 by omega]
      · simp [st1, st2, show nI 2 = (2 : Int32) from rfl, show 16 * m + C < 128 by omega]
    · rfl
end O

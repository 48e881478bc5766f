section R
variable {N T : Nat} {c : Nat → Int32} {s : cS} {t : mS}
theorem o_lacks (hN : 5000 ≤ N) (h : Rel s t) (p : Int32) : ∃ r s1 t1, f8_lacks N p s = some (r, s1) ∧ f9_lacks N p t = some (r, t1) ∧ Rel s1 t1 := by
  have h := h.thrown
  unfold f8_lacks f9_lacks
  generalize mu t 4 0 0 = t at h ⊢
  rcases tabled hN h p with ⟨s1, a1, a2, a3⟩ | ⟨T, c, s1, t1, a1, a2, a3, a4, a5⟩
  · rw [a1, a2]; exact ⟨_, _, _, rfl, rfl, a3⟩
  rw [a1, a2]
  simp only [Option.bind_some]
  rw [if_neg (show ¬ (1 : Int32) = 0 by decide), if_neg (show ¬ (1 : Int32) = 0 by decide), a3]
  have hT := a5.2.1
  obtain ⟨g, g1, g2, g3⟩ := great_some hN a5
  obtain ⟨s2, b1, b2⟩ := unlike_some hN a5 0
  obtain ⟨t2, c1, c2, c3, c4⟩ := sort_some hN hT a5.2.2.2.1
  rw [g2]
  simp only [Option.bind_some]
  rw [b1, c1]
  simp only [Option.bind_some]
  have hin : ∀ x, x < T + 1 → ∃ y, y ≤ T ∧ t2 16 x = c y := by
    intro x hx
    obtain ⟨y, -, y2, y3⟩ := (c4 _).mp ⟨x, Nat.zero_le x, hx, rfl⟩
    exact ⟨y, by omega, by rw [← y3, a5.2.2.2.2.2.1 y (by omega)]⟩
  have hS : ∀ v, St c 0 (T + 1) v ↔ St (t2 16) 0 (T + 1) v := fun v => by
      rw [c4 v]
      exact St_cong (fun x _ hx => (a5.2.2.2.2.2.1 x (by omega)).symm) v
  have hD : fb_ct (fmb c 0) (T + 1) = fb_ct (fmb (t2 16) 0) (T + 1) :=
    d_eq 0 (fun x _ => a5.2.2.2.2.2.2 x) (fun x hx => by obtain ⟨y, -, e⟩ := hin x hx; rw [e]; exact a5.2.2.2.2.2.2 y) hS
  -- the greatest of both
  have hG : t2 16 T = c g := by
    obtain ⟨y, y1, y2⟩ := hin T (by omega)
    have u1 := g3 y y1
    obtain ⟨x, -, x1, x2⟩ := (hS (c g)).mp ⟨g, Nat.zero_le g, by omega, rfl⟩
    have u2 := sorted_le c3 (T - x) x (by omega)
    rw [show x + (T - x) = T by omega, x2] at u2
    rw [← y2] at u1
    rw [fa_le] at u1 u2; rw [fa_eq]; omega
  have h0 : t2 0 0 = nI T := by rw [c2 0 (by omega) (by omega)]; exact a5.2.2.2.1
  have hr : Rel s2 t2 := ⟨(a4.sb b2).1.of (fun _ _ => rfl) rfl (fun f hf => c2 f (by have := hf.1; omega) (by have := hf.1; omega)), (a4.sb b2).2.fr (fun _ _ => rfl) (c2 0 (by omega) (by omega))⟩
  have iT := ix T 4096 (by omega) (by omega)
  rw [tc0, h0, if_pos iT.1, iT.2, hG]
  obtain ⟨q1, q2⟩ := a5.2.2.2.2.2.2 g
  have hg1 : (c g + 1).toInt = (c g).toInt + 1 := by rw [fb_addI (by rw [i1]; omega) (by rw [i1]; omega), i1]
  by_cases z : 0 ≤ c g
  · rw [if_pos z]
    have z' : 0 ≤ (c g).toInt := by have := (fa_le _ _).mp z; rw [i0] at this; exact this
    have hj : jmax 0 (c g + 1) = c g + 1 := by
      unfold jmax
      rw [if_pos (by rw [fa_lt, i0, hg1]; omega)]
    rw [hj]
    have key : f9_lacks_l56 N p N (c g) (nI (fb_ct (fmb (t2 16) 0) 0)) (nI 0) t2 = some (c g + 1 - nI (fb_ct (fmb (t2 16) 0) (T + 1)), t2) := by
      refine iter_ind (P := fun j (f : Int32 → Int32 → Int32 → mS → Option (Int32 × mS)) => f (c g) (nI (fb_ct (fmb (t2 16) 0) j)) (nI j) t2 = some (c g + 1 - nI (fb_ct (fmb (t2 16) 0) (T + 1)), t2)) (e := T + 1) ?_ ?_ (by omega)
      · intro k
        unfold f9_lacks_l56b
        rw [tc0, h0, if_pos (nI_lt (by omega) (by omega))]
      · intro j hj k ih
        have hi := ix j 4096 (by omega) (by omega)
        unfold f9_lacks_l56b
        rw [tc0, h0, if_neg (nI_nlt (by omega) (by omega)), if_pos hi.1, hi.2]
        rw [fb_ct_succ] at ih
        by_cases y : t2 16 j < 0
        · rw [if_pos y, Int32.add_zero, nI_1]
          have : fmb (t2 16) 0 j = false := by unfold fmb; simp [y]
          rw [this] at ih
          exact ih
        · rw [if_neg y]
          cases j with
          | zero =>
            have : fmb (t2 16) 0 0 = true := by unfold fmb prs; simp [y]
            rw [this, if_pos rfl] at ih
            rw [if_pos (show nI 0 = 0 from rfl), nI_1, nI_1]
            exact ih
          | succ x =>
            have hi2 := ix x 4096 (by omega) (by omega)
            have e := fmb_sorted c3 0 (show x + 1 ≤ T by omega)
            rw [decide_eq_false y] at e
            rw [if_neg (nI_ne0 (by omega) (by omega)), nI_pred, if_pos hi2.1, hi2.2]
            by_cases w : t2 16 (x + 1) = t2 16 x
            · rw [if_pos w, Int32.add_zero, nI_1]
              rw [e, decide_eq_true w] at ih
              exact ih
            · rw [if_neg w, nI_1, nI_1]
              rw [e, decide_eq_false w] at ih
              exact ih
    refine ⟨_, s2, t2, rfl, ?_, hr⟩
    rw [hD]
    exact key
  · rw [if_neg z]
    have z' : (c g).toInt < 0 := by
      have : ¬ (0 : Int32).toInt ≤ (c g).toInt := fun q => z ((fa_le _ _).mpr q)
      rw [i0] at this; omega
    have hj : jmax 0 (c g + 1) = 0 := by
      unfold jmax
      rw [if_neg (by rw [fa_lt, i0, hg1]; omega)]
    have hz : fb_ct (fmb c 0) (T + 1) = 0 := by
      refine fb_ct_zero.mpr (fun x hx => ?_)
      have := g3 x (by omega)
      have y : c x < 0 := by rw [fa_lt, i0]; rw [fa_le] at this; omega
      unfold fmb
      simp [y]
    rw [hj, hz]
    exact ⟨0, s2, t2, rfl, rfl, hr⟩
end R

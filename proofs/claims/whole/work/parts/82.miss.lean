section O
variable {N : Nat} {s : cS} {t : mS}
theorem put_act (hN : 40000 ≤ N) (h : Rel s t) {m k c : Nat} (hm : m < vM (t 0)) (hk : k < vcn (t 0) m) (hc : c = 1 ∨ c = 2) {x what : Int32} (hw : (what = 3 ∧ c = 1) ∨ (what = 4 ∧ c = 2)) (h1 : c = 1 → bnd 500 x) (h2 : c = 2 → bnd 8500 x) : ∃ nx s1 t1, nx < 60 ∧ f8_newAct N what (nI m) (nI k) (cu s 3 0 0) = some (some nx, s1) ∧ f9_act N t = some t1 ∧ Rel (cu (cu s1 34 nx (s1.1 (10 + c) (16 * m + k))) (10 + c) (16 * m + k) x) (mu t1 0 (pa m k + c) x) := by
  obtain ⟨nx, s1, t1, hx, a1, b1, a2, a3, b2, b3, a7, a8, a9, fin⟩ := act_rel hN h what (nI m) (nI k)
  have hc16 := (h.1.1.cn hm).1
  have hM := h.1.1.wk.m.1
  have big := pa_big m k c
  refine ⟨nx, s1, t1, hx, a1, b1, ?_⟩
  have e34 : (cu (cu s1 34 nx (s1.1 (10 + c) (16 * m + k))) (10 + c) (16 * m + k) x).1 34 nx = s.1 (10 + c) (16 * m + k) := by
    rw [cu_ne _ _ _ (show 34 ≠ 10 + c by omega), cu_at, a2 _ (by omega) (by omega) (by omega) (by omega) (by omega) (by omega) (by omega)]
  have ef : ∀ f, f ≠ 10 + c → f ≠ 34 → (cu (cu s1 34 nx (s1.1 (10 + c) (16 * m + k))) (10 + c) (16 * m + k) x).1 f = s1.1 f := fun f x1 x2 => by rw [cu_ne _ _ _ x1, cu_ne _ _ _ x2]
  have e31 : (cu (cu s1 34 nx (s1.1 (10 + c) (16 * m + k))) (10 + c) (16 * m + k) x).1 31 nx = what := by rw [ef 31 (by omega) (by omega)]; exact a7
  have e32 : (cu (cu s1 34 nx (s1.1 (10 + c) (16 * m + k))) (10 + c) (16 * m + k) x).1 32 nx = nI m := by rw [ef 32 (by omega) (by omega)]; exact a8
  have e33 : (cu (cu s1 34 nx (s1.1 (10 + c) (16 * m + k))) (10 + c) (16 * m + k) x).1 33 nx = nI k := by rw [ef 33 (by omega) (by omega)]; exact a9
  have ev : vC (cu (cu s1 34 nx (s1.1 (10 + c) (16 * m + k))) (10 + c) (16 * m + k) x) = vput (vC s) (pa m k + c) x := by
    rw [vC_cp _ m k (by omega), vC_fr (s := s1) (fun f hf => cu_ne _ _ _ (by omega)), vC_fr (s := s) (fun f hf => a2 f (by omega) (by omega) (by omega) (by omega) (by omega) (by omega) (by omega))]
  have et : mu t1 0 (pa m k + c) x 0 = vput (t 0) (pa m k + c) x := by rw [mu_vput, b2 0 (by omega) (by omega) (by omega)]
  have eam : am (cu (cu s1 34 nx (s1.1 (10 + c) (16 * m + k))) (10 + c) (16 * m + k) x) nx = m := by unfold am; rw [e32, nI_clamp (by omega)]
  have eak : ak (cu (cu s1 34 nx (s1.1 (10 + c) (16 * m + k))) (10 + c) (16 * m + k) x) nx = k := by unfold ak; rw [e33, nI_clamp (by omega)]
  have lv := h.1.2.1.put h.1.1.wk (show 18 ≤ pa m k + c from big) x
  have hvM : vM (vput (t 0) (pa m k + c) x) = vM (t 0) := by unfold vM; rw [vput_ne _ _ (show 1 ≠ pa m k + c by omega)]
  have hvc : ∀ m', m' < 8 → vcn (vput (t 0) (pa m k + c) x) m' = vcn (t 0) m' := fun m' hm' => by unfold vcn; rw [vput_ne _ _ (show 10 + m' ≠ pa m k + c by omega)]
  refine fin _ _ (fun f hf => ef f (by omega) (by omega)) (fun a ha => ?_) (fun f hf => mu_ne _ _ _ hf) ?_ ?_ (fun m' hm' => ?_) ?_ ?_ ?_
  · rw [cu_ne _ _ _ (show 34 ≠ 10 + c by omega), cu_rd, if_neg (fun z => ha z.2)]
    exact ⟨rfl, rfl⟩
  · rw [et]
    exact wf_put h.1.1 (by omega) (by omega) (by omega) h1 h2 (by omega)
  · rw [ev, et]; exact lv
  · rw [et, hvM, hvc m' (by omega)]
    exact ⟨hm', Nat.le_refl _⟩
  · rw [e31, eam, eak, ev]
    refine ActOk.lv (b := vput (t 0) (pa m k + c) x) ?_ lv
    unfold ActOk
    rw [hvM, hvc m (by omega)]
    rcases hw with ⟨w, -⟩ | ⟨w, -⟩
    · exact Or.inr (Or.inr (Or.inr (Or.inl ⟨Or.inl w, hm, hk⟩)))
    · exact Or.inr (Or.inr (Or.inr (Or.inl ⟨Or.inr w, hm, hk⟩)))
  · unfold ActN
    rw [e32, e33, eam, eak]
    exact Or.inr (Or.inr ⟨rfl, Or.inr (Or.inr rfl)⟩)
  · unfold tbS
    rw [e31, eam, eak, e34, ev]
    have eo : s.1 (10 + c) (16 * m + k) = vC s (pa m k + c) := (vC_pa s m k c (by omega)).symm
    rw [eo]
    unfold tb
    rcases hw with ⟨w, c1⟩ | ⟨w, c1⟩
    · subst c1
      rw [w, if_neg (show ¬ (3 : Int32) = 0 by decide), if_neg (show ¬ (3 : Int32) = 1 by decide), if_neg (show ¬ (3 : Int32) = 2 by decide), if_pos rfl, vput_vput, vput_self]
      exact h.1.2.1
    · subst c1
      rw [w, if_neg (show ¬ (4 : Int32) = 0 by decide), if_neg (show ¬ (4 : Int32) = 1 by decide), if_neg (show ¬ (4 : Int32) = 2 by decide), if_neg (show ¬ (4 : Int32) = 3 by decide), if_pos rfl, vput_vput, vput_self]
      exact h.1.2.1
theorem o_miss (hN : 40000 ≤ N) (h : Rel s t) (p1 p2 p3 : Int32) : ∃ r s1 t1, f8_miss N p1 p2 p3 s = some (r, s1) ∧ f9_miss N p1 p2 p3 t = some (r, t1) ∧ Rel s1 t1 := by
  have h := h.thrown
  unfold f8_miss f9_miss
  generalize mu t 4 0 0 = t at h ⊢
  have k1 : ¬ (1 : Int32) = 0 := by decide
  unfold f9_not
  rcases part_of N h.1 p1 p2 with ⟨h1, h2⟩ | ⟨m, k, hm, h8, hk, hk16, rfl, rfl, h1, h2⟩
  · rw [h1, h2]
    exact ⟨_, _, _, rfl, rfl, h.tr 2⟩
  rw [h1, h2]
  simp only [Option.bind_some]
  rw [if_neg k1]
  rcases within_of N s t p3 500 with ⟨w1, w2⟩ | ⟨v1, v2, w1, w2⟩
  · rw [w1, w2]
    simp only [Option.bind_some]
    unfold f8_miss_b33
    simp only [cu_at]
    rw [if_pos trivial, if_neg k1]
    exact ⟨_, _, _, rfl, rfl, h.tr 1⟩
  rw [w1, w2]
  simp only [Option.bind_some]
  rw [if_neg k1, if_neg k1]
  unfold f8_miss_b33
  simp only [cu_at]
  rw [if_pos trivial]
  obtain ⟨nx, s1, t1, hx, a1, b1, hr⟩ := put_act hN h hm hk (c := 1) (Or.inl rfl) (what := 3) (Or.inl ⟨rfl, rfl⟩) (fun _ => bnd_of (B := 500) (by omega) v1 v2) (fun q => absurd q (by omega))
  have hl := pa_lt h8 hk16
  have hi := ix (pa m k + 1) 530 (by omega) (by omega)
  rw [a1, b1]
  simp only [Option.bind_some]
  rw [if_pos (show 16 * m + k < 128 by omega), if_pos hx, at_nI]
  simp only [Option.bind_some]
  rw [show nI (pa m k) + 1 = nI (pa m k + 1) from nI_add _ 1, if_pos hi.1, hi.2]
  exact ⟨_, _, _, rfl, rfl, hr⟩
theorem o_worth (hN : 40000 ≤ N) (h : Rel s t) (p1 p2 p3 : Int32) : ∃ r s1 t1, f8_worth N p1 p2 p3 s = some (r, s1) ∧ f9_worth N p1 p2 p3 t = some (r, t1) ∧ Rel s1 t1 := by
  have h := h.thrown
  unfold f8_worth f9_worth
  generalize mu t 4 0 0 = t at h ⊢
  have k1 : ¬ (1 : Int32) = 0 := by decide
  have k2 : ¬ (2 : Int32) = 0 := by decide
  have k4 : ¬ (4 : Int32) = 0 := by decide
  unfold f9_not
  rcases part_of N h.1 p1 p2 with ⟨h1, h2⟩ | ⟨m, k, hm, h8, hk, hk16, rfl, rfl, h1, h2⟩
  · rw [h2]
    rcases meter_of N h.1 p1 with ⟨g1, g2⟩ | ⟨m, hm, h8, rfl, g1, g2⟩
    · rw [g1]
      simp only [Option.bind_some]
      rw [h1]
      exact ⟨_, _, _, rfl, rfl, h.tr 2⟩
    · rw [g1]
      simp only [Option.bind_some]
      rw [h1]
      exact ⟨_, _, _, rfl, rfl, h.tr 2⟩
  rw [meter_is N h.1 hm]
  simp only [Option.bind_some]
  rw [h1, h2]
  simp only [Option.bind_some]
  have i2 := ix (2 + m) 530 (by omega) (by omega)
  have hme := h.1.meter hm
  rw [if_neg k1, if_pos h8, nI_lit2, if_pos i2.1, i2.2, hme.2.1]
  obtain ⟨-, ⟨K, hK, eK⟩, -⟩ := wf_mOk h.1.1 hm
  rw [eK]
  by_cases z : 2 ≤ K
  · rw [if_neg (nI_ne0 (by omega) (by omega)), if_neg (show ¬ nI K = (1 : Int32) from fun e => by have := (nI_eq (b := 1) (by omega) (by omega)).mp e; omega), if_pos (show (2 : Int32) ≤ nI K from nI_le (a := 2) z (by omega))]
    rcases within_of N s t p3 8000 with ⟨w1, w2⟩ | ⟨v1, v2, w1, w2⟩
    · rw [w1, w2]
      simp only [Option.bind_some]
      unfold f8_worth_b66
      simp only [cu_at]
      rw [if_pos trivial, if_neg k1]
      exact ⟨_, _, _, rfl, rfl, h.tr 1⟩
    rw [w1, w2]
    simp only [Option.bind_some]
    rw [if_neg k1, if_neg k1]
    unfold f8_worth_b66
    simp only [cu_at]
    rw [if_pos trivial]
    obtain ⟨b1, b2⟩ := bnd_of (B := 8000) (by omega) v1 v2
    obtain ⟨nx, s1, t1, hx, a1, b1, hr⟩ := put_act hN h hm hk (c := 2) (Or.inr rfl) (what := 4) (Or.inr ⟨rfl, rfl⟩) (fun q => absurd q (by omega)) (fun _ => (⟨by omega, by omega⟩ : bnd 8500 p3))
    have hl := pa_lt h8 hk16
    have hi := ix (pa m k + 2) 530 (by omega) (by omega)
    rw [a1, b1]
    simp only [Option.bind_some]
    rw [if_pos (show 16 * m + k < 128 by omega), if_pos hx, at_nI]
    simp only [Option.bind_some]
    rw [show nI (pa m k) + 2 = nI (pa m k + 2) from nI_add _ 2, if_pos hi.1, hi.2]
    exact ⟨_, _, _, rfl, rfl, hr⟩
  · have bad : f8_worth_b66 N (nI m) (nI k) p3 (some (16 * m + k)) 4 s = some (0, cu s 3 0 4) := by
      unfold f8_worth_b66
      simp only [cu_at]
      rw [if_neg k4]
    rw [if_neg (show ¬ (2 : Int32) ≤ nI K from nI_ge (b := 2) (by omega) (by omega)), bad]
    rcases (show K = 0 ∨ K = 1 by omega) with rfl | rfl
    · rw [if_pos (show nI 0 = 0 from rfl)]
      exact ⟨_, _, _, rfl, rfl, h.tr 4⟩
    · rw [if_neg (show ¬ nI 1 = 0 by decide), if_pos (show nI 1 = 1 from rfl)]
      exact ⟨_, _, _, rfl, rfl, h.tr 4⟩
end O

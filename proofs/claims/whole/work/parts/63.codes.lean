section R
variable {N T : Nat} {c : Nat → Int32} {s : cS} {t : mS}
/-- bits aside -/
def Sb (s s' : cS) : Prop := s'.1 = s.1 ∧ s'.2.2 = s.2.2
theorem Row.sb {s' : cS} (h : Row s t T c) (e : Sb s s') : Row s' t T c := by
  unfold Row
  rw [e.1]
  exact h
theorem Rel.sb {s' : cS} (h : Rel s t) (e : Sb s s') : Rel s' t :=
  ⟨h.1.of (fun f _ => by rw [e.1]) e.2 (fun _ _ => rfl), h.2.fr (fun f _ => by rw [e.1]) rfl⟩
theorem unlike_some (hN : 5000 ≤ N) (h : Row s t T c) (p : Int32) : ∃ s', f7_unlikeFrom N p s = some (nI (fb_ct (fmb c p) (T + 1)), s') ∧ Sb s s' := by
  have hT := h.2.1
  unfold f7_unlikeFrom
  have key : ∀ s', Sb s s' → (∀ u, u < 272001 → (btu s'.2.1 u = true ↔ ¬ off u < p ∧ St c 0 0 (off u))) → ∃ s'', f7_unlikeFrom_l12 N p N (nI (fb_ct (fmb c p) 0)) (nI 0) s' = some (nI (fb_ct (fmb c p) (T + 1)), s'') ∧ Sb s s'' := by
    refine iter_ind (P := fun j (f : Int32 → Int32 → cS → Option (Int32 × cS)) => ∀ s', Sb s s' → (∀ u, u < 272001 → (btu s'.2.1 u = true ↔ ¬ off u < p ∧ St c 0 j (off u))) → ∃ s'', f (nI (fb_ct (fmb c p) j)) (nI j) s' = some (nI (fb_ct (fmb c p) (T + 1)), s'') ∧ Sb s s'') (e := T + 1) ?_ ?_ (by omega)
    · intro k s' hs hb
      unfold f7_unlikeFrom_l12b
      rw [(h.sb hs).2.2.1, if_pos (nI_lt (by omega) (by omega))]
      exact ⟨s', rfl, hs⟩
    · intro j hj k ih s' hs hb
      have hr := h.sb hs
      unfold f7_unlikeFrom_l12b
      rw [hr.2.2.1, if_neg (nI_nlt (by omega) (by omega)), codeAt_some hr (by omega)]
      simp only [Option.bind_some]
      by_cases z : c j < p
      · rw [if_pos z, nI_1]
        have e : fb_ct (fmb c p) (j + 1) = fb_ct (fmb c p) j := by
          rw [fb_ct_succ]; unfold fmb; simp [z]
        have nx := ih s' hs (fun u hu => by
          rw [hb u hu, St_succ (Nat.zero_le j)]
          constructor
          · exact fun q => ⟨q.1, Or.inl q.2⟩
          · rintro ⟨q1, q2 | q2⟩
            · exact ⟨q1, q2⟩
            · rw [← q2] at q1; exact absurd z q1)
        rw [e] at nx
        exact nx
      · rw [if_neg z, codeAt_some hr (by omega)]
        simp only [Option.bind_some]
        obtain ⟨u, hu, h1, s2, a1, a2, a3, a4⟩ := first_some N (h.2.2.2.2.2.2 j) s'
        rw [a1]
        simp only [Option.bind_some]
        have hs2 : Sb s s2 := ⟨a2.trans hs.1, a3.trans hs.2⟩
        have hb2 : ∀ u, u < 272001 → (btu s2.2.1 u = true ↔ ¬ off u < p ∧ St c 0 (j + 1) (off u)) := by
          intro v hv
          rw [a4, Bool.or_eq_true, hb v hv, St_succ (Nat.zero_le j), decide_eq_true_iff]
          constructor
          · rintro (q | q)
            · exact ⟨q.1, Or.inl q.2⟩
            · rw [q, h1]; exact ⟨z, Or.inr rfl⟩
          · rintro ⟨q1, q2 | q2⟩
            · exact Or.inl ⟨q1, q2⟩
            · exact Or.inr (off_inj (by omega) (by omega) (by rw [h1, q2]))
        have nx := ih s2 hs2 hb2
        have e0 := hb u hu
        rw [h1] at e0
        by_cases y : btu s'.2.1 u = true
        · rw [if_pos y, if_pos rfl, nI_1]
          have e : fb_ct (fmb c p) (j + 1) = fb_ct (fmb c p) j := by
            rw [fb_ct_succ]; unfold fmb
            rw [prs_iff.mpr (e0.mp y).2]; simp
          rw [e] at nx
          exact nx
        · rw [if_neg y, if_neg (show ¬ (1 : Int32) = 0 by decide), nI_1, nI_1]
          have e : fb_ct (fmb c p) (j + 1) = fb_ct (fmb c p) j + 1 := by
            rw [fb_ct_succ]; unfold fmb
            have : prs c (c j) j = false := by
              cases q : prs c (c j) j with
              | false => rfl
              | true => exact absurd (e0.mpr ⟨z, prs_iff.mp q⟩) y
            rw [this]; simp [z]
          rw [e] at nx
          exact nx
  refine key (cfl s 0) ⟨rfl, rfl⟩ (fun u hu => ?_)
  constructor
  · intro q
    unfold btu cfl at q
    simp only at q
    rw [if_pos (by omega)] at q
    have : (0 : Int64).toBitVec.getLsbD (u % 64) = false := by
      show (0#64).getLsbD (u % 64) = false
      exact BitVec.getLsbD_zero
    rw [this] at q
    exact absurd q (by decide)
  · intro q; exact absurd q.2 (St_0 _ _ _)
theorem sorted_le {d : Nat → Int32} (hd : ∀ x, x < T → d x ≤ d (x + 1)) : ∀ k x, x + k ≤ T → d x ≤ d (x + k) := by
  intro k
  induction k with
  | zero => intro x _; exact Int32.le_refl _
  | succ k ih => intro x hx; exact Int32.le_trans (ih x (by omega)) (hd (x + k) (by omega))
theorem fmb_sorted {d : Nat → Int32} (hd : ∀ x, x < T → d x ≤ d (x + 1)) (p : Int32) {x : Nat} (hx : x + 1 ≤ T) : fmb d p (x + 1) = (!decide (d (x + 1) < p) && !decide (d (x + 1) = d x)) := by
  unfold fmb
  congr 2
  refine Bool.eq_iff_iff.mpr ?_
  rw [prs_iff, decide_eq_true_iff]
  constructor
  · rintro ⟨y, -, h2, h3⟩
    have a := sorted_le hd (x - y) y (by omega)
    rw [show y + (x - y) = x by omega] at a
    have b := hd x (by omega)
    rw [h3] at a
    rw [fa_le] at a b; rw [fa_eq]; omega
  · intro e
    exact ⟨x, Nat.zero_le x, by omega, e.symm⟩
theorem o_codes (hN : 5000 ≤ N) (h : Rel s t) (p : Int32) : ∃ r s1 t1, f8_codes N p s = some (r, s1) ∧ f9_codes N p t = some (r, t1) ∧ Rel s1 t1 := by
  have h := h.thrown
  unfold f8_codes f9_codes
  generalize mu t 4 0 0 = t at h ⊢
  rcases tabled hN h p with ⟨s1, a1, a2, a3⟩ | ⟨T, c, s1, t1, a1, a2, a3, a4, a5⟩
  · rw [a1, a2]; exact ⟨_, _, _, rfl, rfl, a3⟩
  rw [a1, a2]
  simp only [Option.bind_some]
  rw [if_neg (show ¬ (1 : Int32) = 0 by decide), if_neg (show ¬ (1 : Int32) = 0 by decide), a3]
  have hT := a5.2.1
  obtain ⟨s2, b1, b2⟩ := unlike_some hN a5 (-136000)
  obtain ⟨t2, c1, c2, c3, c4⟩ := sort_some hN hT a5.2.2.2.1
  simp only [Option.bind_some]
  rw [b1, c1]
  simp only [Option.bind_some]
  have hin : ∀ x, x < T + 1 → bnd 136000 (t2 16 x) := by
    intro x hx
    obtain ⟨y, -, y2, y3⟩ := (c4 _).mp ⟨x, Nat.zero_le x, hx, rfl⟩
    rw [← y3, a5.2.2.2.2.2.1 y (by omega)]
    exact a5.2.2.2.2.2.2 y
  have hD : fb_ct (fmb c (-136000)) (T + 1) = fb_ct (fmb (t2 16) (-136000)) (T + 1) :=
    d_eq (-136000) (fun x _ => a5.2.2.2.2.2.2 x) hin (fun v => by
      rw [c4 v]
      exact St_cong (fun x _ hx => (a5.2.2.2.2.2.1 x (by omega)).symm) v)
  have hp : ∀ x, x < T + 1 → ¬ t2 16 x < -136000 := by
    intro x hx q
    have := (hin x hx).1
    rw [fa_lt, show (-136000 : Int32).toInt = -136000 by decide +kernel] at q
    omega
  have h0 : t2 0 0 = nI T := by rw [c2 0 (by omega) (by omega)]; exact a5.2.2.2.1
  have hr : Rel s2 t2 := (a4.sb b2).1.of (fun _ _ => rfl) rfl (fun f hf => c2 f (by have := hf.1; omega) (by have := hf.1; omega)) |> fun r => ⟨r, (a4.sb b2).2.fr (fun _ _ => rfl) (c2 0 (by omega) (by omega))⟩
  have key : f9_codes_l37 N p N (nI (fb_ct (fmb (t2 16) (-136000)) (0 + 1))) (nI (0 + 1)) t2 = some (nI (fb_ct (fmb (t2 16) (-136000)) (T + 1)), t2) := by
    refine iter_ind (P := fun j (g : Int32 → Int32 → mS → Option (Int32 × mS)) => g (nI (fb_ct (fmb (t2 16) (-136000)) (j + 1))) (nI (j + 1)) t2 = some (nI (fb_ct (fmb (t2 16) (-136000)) (T + 1)), t2)) (e := T) ?_ ?_ (by omega)
    · intro k
      unfold f9_codes_l37b
      rw [tc0, h0, if_pos (nI_lt (by omega) (by omega))]
    · intro j hj k ih
      have hi := ix (j + 1) 4096 (by omega) (by omega)
      have hi2 := ix j 4096 (by omega) (by omega)
      unfold f9_codes_l37b
      rw [tc0, h0, if_neg (nI_nlt (by omega) (by omega)), if_pos hi.1, nI_pred, if_pos hi2.1, hi.2, hi2.2]
      have e := fmb_sorted c3 (-136000) (show j + 1 ≤ T by omega)
      rw [decide_eq_false (hp (j + 1) (by omega))] at e
      by_cases z : t2 16 (j + 1) = t2 16 j
      · rw [if_pos z, Int32.add_zero, nI_1]
        rw [fb_ct_succ, e, decide_eq_true z] at ih
        exact ih
      · rw [if_neg z, nI_1, nI_1]
        rw [fb_ct_succ, e, decide_eq_false z] at ih
        exact ih
  have e1 : fb_ct (fmb (t2 16) (-136000)) (0 + 1) = 1 := by
    rw [fb_ct_succ]
    unfold fmb
    rw [decide_eq_false (hp 0 (by omega))]
    rfl
  rw [e1] at key
  refine ⟨_, s2, t2, rfl, ?_, hr⟩
  rw [hD]
  exact key
end R

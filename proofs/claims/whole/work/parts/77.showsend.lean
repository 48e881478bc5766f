section O
variable {N : Nat} {s : cS} {t : mS}
theorem Cv.sc {t : mS} {F X : Nat} {s' s2 : cS} (h : Cv t F X s') (e : Sc s' s2) : Cv t F X s2 := by
  obtain ⟨c, L, g1, g2, g3, g4, g5, g6, g7, g8⟩ := h
  refine ⟨c, L, g1, g2, ?_, ?_, ?_, ?_, g7, ?_⟩
  · rw [e.1 24 (by omega) (by omega) (by omega)]; exact g3
  · rw [e.1 25 (by omega) (by omega) (by omega)]; exact g4
  · rw [e.1 27 (by omega) (by omega) (by omega)]; exact g5
  · rw [e.1 28 (by omega) (by omega) (by omega)]; exact g6
  · rw [e.1 26 (by omega) (by omega) (by omega)]; exact g8
theorem c_shows (hN : 5000 ≤ N) (h : Rel s t) {F T : Nat} (hF : t 11 0 = nI F) (hF2 : F ≤ 10) (hT : T ≤ 4095) (h0 : s.1 0 0 = nI T) {s1 : cS} (hs : Sk s s1) (hc : Cv t F 0 s1) : ∃ s2, Sk s s2 ∧ f8_shows_l18 N N 0 s1 = some (nI (big (dp (flg t F (T + 1)) (al t F (T + 1)) (al t F (T + 1)))), s2) := by
  have key : ∀ s1, Sk s s1 → Cv t F 0 s1 → ∃ s2, Sk s s2 ∧ f8_shows_l18 N N (nI 0) s1 = some (nI (big (dp (flg t F (T + 1)) (al t F (T + 1)) (al t F (T + 1)))), s2) := by
    refine iter_ind (P := fun x (f : Int32 → cS → Option (Int32 × cS)) => ∀ s1, Sk s s1 → Cv t F x s1 → ∃ s2, Sk s s2 ∧ f (nI x) s1 = some (nI (big (dp (flg t F (T + 1)) (al t F (T + 1)) (al t F (T + 1)))), s2)) (e := T + 1) ?_ ?_ (show T + 1 < N by omega)
    · intro k s1 hs hc
      obtain ⟨s2, a1, a2⟩ := fewest_some hN hF2 hc
      unfold f8_shows_l18b
      rw [hs.1 0 (by omega) (by omega) (by omega) (by omega), h0, if_pos (nI_lt (by omega) (by omega)), a1]
      exact ⟨s2, ⟨fun f a b c d => (a2.1 f a b c d).trans (hs.1 f a b c d), a2.2.trans hs.2⟩, rfl⟩
    · intro x hx k ih s1 hs hc
      unfold f8_shows_l18b
      rw [hs.1 0 (by omega) (by omega) (by omega) (by omega), h0, if_neg (nI_nlt (by omega) (by omega))]
      obtain ⟨⟨s2, a1, a2⟩, -⟩ := bits_some (N := N) (by omega) (hs.rel h).1 hF hF2 (show x ≤ 4095 by omega) (Sc.rf s1) (Sm.rf t)
      rw [a2]
      simp only [Option.bind_some]
      obtain ⟨s3, b1, b2, b3⟩ := addMask_some N hF2 (hc.sc a1)
      rw [b1]
      simp only [Option.bind_some]
      rw [nI_1]
      refine ih s3 ⟨fun f a b c d => ?_, ?_⟩ b3
      · rw [b2.1 f a b c d, a1.1 f a b c, hs.1 f a b c d]
      · rw [b2.2, a1.2, hs.2]
  exact key s1 hs hc
/-- what the reference knows of the sets met below X -/
def Mv (t : mS) (F X : Nat) (t' : mS) : Prop := (∀ M, 0 < M → M < 1024 → t' 18 M = if flg t F X M = true then 1 else 0) ∧ ∀ S, S < 1024 → t' 19 S = nI (if S = 0 then 0 else 100)
theorem m_shows (hN : 5000 ≤ N) (h : Rel s t) {F T : Nat} (hF : t 11 0 = nI F) (hF2 : F ≤ 10) (hT : T ≤ 4095) (h0 : t 0 0 = nI T) : ∃ t2, Sn t t2 ∧ f9_shows_l9 N N 0 0 t = some (nI (dp (flg t F (T + 1)) (al t F (T + 1)) (al t F (T + 1))), t2) := by
  have mid : ∀ t', Sn t t' → Mv t F 0 t' → ∃ t2, Sn t t2 ∧ f9_shows_l47 N N (nI (al t F 0)) (nI 0) t' = some (nI (dp (flg t F (T + 1)) (al t F (T + 1)) (al t F (T + 1))), t2) := by
    refine iter_ind (P := fun x (f : Int32 → Int32 → mS → Option (Int32 × mS)) => ∀ t', Sn t t' → Mv t F x t' → ∃ t2, Sn t t2 ∧ f (nI (al t F x)) (nI x) t' = some (nI (dp (flg t F (T + 1)) (al t F (T + 1)) (al t F (T + 1))), t2)) (e := T + 1) ?_ ?_ (show T + 1 < N by omega)
    · intro k t' ht hm
      obtain ⟨t2, a1, a2⟩ := sets_m hN hF2 hm.1 hm.2
      unfold f9_shows_l47b
      rw [tc0, ht 0 (by omega) (by omega) (by omega) (by omega) (by omega) (by omega), h0, if_pos (nI_lt (by omega) (by omega)), a1]
      exact ⟨t2, fun f a b c d e g => (a2 f g).trans (ht f a b c d e g), rfl⟩
    · intro x hx k ih t' ht hm
      unfold f9_shows_l47b
      rw [tc0, ht 0 (by omega) (by omega) (by omega) (by omega) (by omega) (by omega), h0, if_neg (nI_nlt (by omega) (by omega))]
      have hrel : RelA s t' := h.1.of (fun _ _ => rfl) rfl (fun f hf => ht f hf.2 (by have := hf.1; omega) (by have := hf.1; omega) (by have := hf.1; omega) (by have := hf.1; omega) (by have := hf.1; omega))
      obtain ⟨-, t3, b1, b2⟩ := bits_some (N := N) (x := x) (by omega) hrel (by rw [ht 11 (by omega) (by omega) (by omega) (by omega) (by omega) (by omega)]; exact hF) hF2 (by omega) (Sc.rf s) (Sm.rf t')
      have em : ∀ i, msk t' x i = msk t x i := by
        intro i
        induction i with
        | zero => rfl
        | succ i ih =>
          simp only [msk, ih]
          have : shw t' i x = shw t i x := by
            unfold shw fcd fp fm
            rw [ht 0 (by omega) (by omega) (by omega) (by omega) (by omega) (by omega), ht 7 (by omega) (by omega) (by omega) (by omega) (by omega) (by omega), ht 8 (by omega) (by omega) (by omega) (by omega) (by omega) (by omega), ht 9 (by omega) (by omega) (by omega) (by omega) (by omega) (by omega)]
          rw [this]
      rw [em] at b2
      have hm1 := msk1024 (t := t) hF2 x
      have hmi := ix (msk t x F) 1024 hm1 (by omega)
      rw [b2]
      simp only [Option.bind_some]
      rw [if_pos hmi.1, hmi.2, fa_or, nI_1]
      refine ih _ (fun f a b c d e g => ?_) ⟨fun M hM hM2 => ?_, fun S hS => ?_⟩
      · rw [mu_ne _ _ _ e, b1 f a b c d, ht f a b c d e g]
      · have efl : flg t F (x + 1) M = (flg t F x M || decide (msk t x F = M)) := by
          show (decide (0 < M) && (sn t F M x || decide (msk t x F = M))) = ((decide (0 < M) && sn t F M x) || decide (msk t x F = M))
          rw [decide_eq_true hM, Bool.true_and, Bool.true_and]
        rw [mu_rd]
        by_cases z : msk t x F = M
        · rw [if_pos (show 18 = 18 ∧ M = msk t x F from ⟨rfl, z.symm⟩), if_pos (by rw [efl, decide_eq_true z, Bool.or_true])]
        · rw [if_neg (fun w => z w.2.symm), b1 18 (by omega) (by omega) (by omega) (by omega), hm.1 M hM hM2]
          have : flg t F (x + 1) M = flg t F x M := by rw [efl, decide_eq_false z, Bool.or_false]
          rw [this]
      · rw [mu_ne _ _ _ (show 19 ≠ 18 by omega), b1 19 (by omega) (by omega) (by omega) (by omega)]
        exact hm.2 S hS
  have key : ∀ t', Sn t t' → (∀ M, M < 0 → t' 18 M = 0 ∧ t' 19 M = nI (if M = 0 then 0 else 100)) → ∃ t2, Sn t t2 ∧ f9_shows_l9 N N (nI 0) (nI 0) t' = some (nI (dp (flg t F (T + 1)) (al t F (T + 1)) (al t F (T + 1))), t2) := by
    refine iter_ind (P := fun x (f : Int32 → Int32 → mS → Option (Int32 × mS)) => ∀ t', Sn t t' → (∀ M, M < x → t' 18 M = 0 ∧ t' 19 M = nI (if M = 0 then 0 else 100)) → ∃ t2, Sn t t2 ∧ f (nI 0) (nI x) t' = some (nI (dp (flg t F (T + 1)) (al t F (T + 1)) (al t F (T + 1))), t2)) (e := 1024) ?_ ?_ (show 1024 < N by omega)
    · intro k t' ht hm
      unfold f9_shows_l9b
      rw [if_pos (show (1024 : Int32) ≤ nI 1024 from Int32.le_refl _)]
      refine mid t' ht ⟨fun M h1 h2 => ?_, fun S hS => (hm S hS).2⟩
      rw [(hm M h2).1, if_neg (by unfold flg; simp [sn])]
    · intro x hx k ih t' ht hm
      have hxi := ix x 1024 (by omega) (by omega)
      unfold f9_shows_l9b
      rw [if_neg (show ¬ (1024 : Int32) ≤ nI x from nI_ge (b := 1024) (by omega) (by omega)), if_pos hxi.1, hxi.2, nI_1]
      have nx : ∀ v : Int32, v = nI (if x = 0 then 0 else 100) → ∃ t2, Sn t t2 ∧ k (nI 0) (nI (x + 1)) (mu (mu t' 18 x 0) 19 x v) = some (nI (dp (flg t F (T + 1)) (al t F (T + 1)) (al t F (T + 1))), t2) := by
        intro v hv
        refine ih _ (fun f a b c d e g => by rw [mu_ne _ _ _ g, mu_ne _ _ _ e]; exact ht f a b c d e g) (fun M hM => ?_)
        rw [mu_ne _ _ _ (show 18 ≠ 19 by omega)]
        by_cases z : M = x
        · rw [z, mu_at, mu_at]; exact ⟨rfl, hv⟩
        · rw [mu_rd, if_neg (fun w => z w.2), mu_rd, if_neg (fun w => z w.2), mu_ne _ _ _ (show 19 ≠ 18 by omega)]
          exact hm M (by omega)
      by_cases z : x = 0
      · rw [if_pos (show nI x = 0 by rw [z]; rfl)]
        exact nx 0 (by rw [if_pos z]; rfl)
      · rw [if_neg (nI_ne0 (by omega) (by omega))]
        exact nx 100 (by rw [if_neg z]; rfl)
  exact key t (fun _ _ _ _ _ _ _ => rfl) (fun M hM => absurd hM (Nat.not_lt_zero M))
theorem o_shows (hN : 5000 ≤ N) (h : Rel s t) : ∃ r s1 t1, f8_shows N s = some (r, s1) ∧ f9_shows N t = some (r, t1) ∧ Rel s1 t1 := by
  have h := h.thrown
  unfold f8_shows f9_shows
  generalize mu t 4 0 0 = t at h ⊢
  obtain ⟨T, M, hT1, hT2, hM, e1, e2, e3, e4, e5, e6⟩ := h.1.base
  obtain ⟨F, hF, f1, f2, f3⟩ := h.1.2.2.2.2.1
  obtain ⟨t2, b1, b2⟩ := m_shows hN h f2 hF hT2 e2
  have ht : ∀ s1 : cS, Rel s1 t → Rel s1 t2 := fun s1 hr => ⟨hr.1.of (fun _ _ => rfl) rfl (fun f hf => b1 f hf.2 (by have := hf.1; omega) (by have := hf.1; omega) (by have := hf.1; omega) (by have := hf.1; omega) (by have := hf.1; omega)), hr.2.fr (fun _ _ => rfl) (b1 0 (by omega) (by omega) (by omega) (by omega) (by omega) (by omega))⟩
  rw [b2, f1]
  by_cases z : F = 0
  · subst z
    rw [if_pos (show nI 0 = 0 from rfl)]
    have a0 : ∀ X, al t 0 X = 0 := by
      intro X
      induction X with
      | zero => rfl
      | succ X ih => show al t 0 X ||| 0 = 0; rw [ih, Nat.or_zero]
    rw [a0]
    exact ⟨0, s, t2, rfl, rfl, ht s h⟩
  · rw [if_neg (nI_ne0 (by omega) (by omega))]
    have hr := reach (t := t) (F := F) (X := T + 1) hF (T + 1) (Nat.le_refl _)
    unfold f1_begin
    simp only [Option.bind_some]
    rw [tc0]
    have hfi : ∀ (a : cS) (f n : Nat) (v : Int32) (g j : Nat), (cfi a f n v).1 g j = if g = f ∧ j < n then v else a.1 g j := fun _ _ _ _ _ _ => rfl
    obtain ⟨s2, c1, c2⟩ := c_shows (s1 := cu (cu (cu (cfi (cfi s 26 1024 1000) 28 1024 0) 26 0 0) 24 0 0) 25 0 0) hN h f2 hF hT2 e1 (by
      refine ⟨fun f a b c d => ?_, rfl⟩
      rw [cu_ne _ _ _ (show f ≠ 25 by omega), cu_ne _ _ _ (show f ≠ 24 by omega), cu_ne _ _ _ (show f ≠ 26 by omega)]
      funext j
      rw [hfi, if_neg (by omega), hfi, if_neg (by omega)]) (by
      refine ⟨0, fun _ => 0, fun j hj => absurd hj (Nat.not_lt_zero j), fun i j _ hj => absurd hj (Nat.not_lt_zero j), ?_, cu_at _ _ _ _, fun j hj => absurd hj (Nat.not_lt_zero j), fun M hM => ?_, fun M => ?_, fun S hS => ?_⟩
      · rw [cu_ne _ _ _ (show 24 ≠ 25 by omega), cu_at]; rfl
      · rw [cu_ne _ _ _ (show 28 ≠ 25 by omega), cu_ne _ _ _ (show 28 ≠ 24 by omega), cu_ne _ _ _ (show 28 ≠ 26 by omega), hfi, if_pos ⟨rfl, hM⟩, if_neg (by unfold flg; simp [sn])]
      · constructor
        · intro w; unfold flg at w; simp [sn] at w
        · rintro ⟨j, hj, _⟩; exact absurd hj (Nat.not_lt_zero j)
      · rw [cu_ne _ _ _ (show 26 ≠ 25 by omega), cu_ne _ _ _ (show 26 ≠ 24 by omega), cu_rd]
        by_cases w : S = 0
        · rw [if_pos ⟨rfl, w⟩, if_pos w]; rfl
        · rw [if_neg (fun q => w q.2), if_neg w, hfi, if_neg (by omega), hfi, if_pos ⟨rfl, hS⟩]; rfl)
    rw [c2]
    have hb : big (dp (flg t F (T + 1)) (al t F (T + 1)) (al t F (T + 1))) = dp (flg t F (T + 1)) (al t F (T + 1)) (al t F (T + 1)) := by
      unfold big; rw [if_neg hr]
    rw [hb]
    exact ⟨_, s2, t2, rfl, rfl, ht s2 (c1.rel h)⟩
end O

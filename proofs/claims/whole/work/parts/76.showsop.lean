section O
variable {N : Nat} {s : cS} {t : mS}
/-- the class grows the sets -/
theorem fewest_some (hN : 5000 ≤ N) {F X : Nat} (hF : F ≤ 10) {s' : cS} (h : Cv t F X s') : ∃ s2, f1_fewest N s' = some (nI (big (dp (flg t F X) (al t F X) (al t F X))), s2) ∧ Sk s' s2 := by
  obtain ⟨c, L, g1, g2, g3, g4, g5, g6, g7, g8⟩ := h
  have hc := cv_c g1 g2
  have hal := al_lt (t := t) hF X
  have hfl : ∀ M, M < 1024 → flg t F X M = true → M ||| al t F X = al t F X := by
    intro M _ h
    unfold flg at h
    rw [Bool.and_eq_true] at h
    rw [Nat.or_comm]; exact al_in X M h.2
  have hinv := fun a ha => dp_inv hal hfl a ha
  unfold f1_fewest
  have key : ∀ s1, (∀ f, f ≠ 26 → s1.1 f = s'.1 f) → s1.2 = s'.2 → (∀ S, S < 1024 → s1.1 26 S = nI (big (dp (flg t F X) 0 S))) → ∃ s2, f1_fewest_l2 N N (nI 0) s1 = some (nI (big (dp (flg t F X) (al t F X) (al t F X))), s2) ∧ Sk s' s2 := by
    refine iter_ind (P := fun a (f : Int32 → cS → Option (Int32 × cS)) => ∀ s1, (∀ f, f ≠ 26 → s1.1 f = s'.1 f) → s1.2 = s'.2 → (∀ S, S < 1024 → s1.1 26 S = nI (big (dp (flg t F X) a S))) → ∃ s2, f (nI a) s1 = some (nI (big (dp (flg t F X) (al t F X) (al t F X))), s2) ∧ Sk s' s2) (e := al t F X) ?_ ?_ (show al t F X < N by omega)
    · intro k s1 e1 e2 e3
      have hai := ix (al t F X) 1024 hal (by omega)
      unfold f1_fewest_l2b f1_fewest_b42
      rw [e1 25 (by omega), g4, if_pos (Int32.le_refl _), if_neg (nI_pos (by omega)), if_neg (show ¬ (1024 : Int32) ≤ nI (al t F X) from nI_ge (b := 1024) hal (by omega)), if_pos hai.1, hai.2, e3 _ hal]
      exact ⟨s1, rfl, fun f a b c d => e1 f (by omega), e2⟩
    · intro a ha k ih s1 e1 e2 e3
      have hai := ix a 1024 (by omega) (by omega)
      obtain ⟨v1, v2⟩ := hinv a (by omega) a (by omega)
      have hp := pc_le a
      unfold f1_fewest_l2b
      rw [e1 25 (by omega), g4, if_neg (nI_ge ha (by omega)), if_neg (show ¬ (1024 : Int32) ≤ nI a from nI_ge (b := 1024) (by omega) (by omega)), if_pos hai.1, hai.2, e3 a (by omega), nI_1]
      by_cases z : dp (flg t F X) a a = 100
      · rw [show big (dp (flg t F X) a a) = 1000 by unfold big; rw [if_pos z], if_pos (show (1000 : Int32) ≤ nI 1000 from Int32.le_refl _)]
        refine ih s1 e1 e2 (fun S hS => ?_)
        simp only [dp]
        rw [if_pos z]; exact e3 S hS
      · rw [show big (dp (flg t F X) a a) = dp (flg t F X) a a by unfold big; rw [if_neg z], if_neg (show ¬ (1000 : Int32) ≤ nI (dp (flg t F X) a a) from nI_ge (b := 1000) (by omega) (by omega))]
        obtain ⟨s2, b1, b2, b3, b4⟩ := grow_c (V := dp (flg t F X) a) (va := dp (flg t F X) a a) hN hc (fun j hj => (g1 j hj).2) (show a < 1024 by omega) (by omega) rfl (by rw [e1 24 (by omega)]; exact g3) (fun j hj => by rw [e1 27 (by omega)]; exact g5 j hj) (fun S hS => by
          have := (hinv a (by omega) S hS).1
          have := pc_le S
          omega) e3
        rw [b1]
        simp only [Option.bind_some]
        refine ih s2 (fun f hf => by rw [b2 f hf, e1 f hf]) (by rw [b3, e2]) (fun S hS => ?_)
        rw [b4 S hS]
        simp only [dp]
        rw [if_neg z]
        have eh : hitL L a S c = hit (flg t F X) a S 1024 := by
          refine Bool.eq_iff_iff.mpr ?_
          rw [hitL_iff, hit_iff]
          constructor
          · rintro ⟨j, hj, e⟩
            exact ⟨L j, (g1 j hj).2, (g7 _).mpr ⟨j, hj, rfl⟩, e⟩
          · rintro ⟨M, hM, hM2, e⟩
            obtain ⟨j, hj, e'⟩ := (g7 M).mp hM2
            exact ⟨j, hj, by rw [e']; exact e⟩
        unfold grw
        simp only [eh]
  refine key s' (fun _ _ => rfl) rfl (fun S hS => ?_)
  rw [g8 S hS]
  show _ = nI (big (if S = 0 then 0 else 100))
  by_cases z : S = 0
  · rw [if_pos z, if_pos z]; rfl
  · rw [if_neg z, if_neg z]; rfl
/-- but for the reference's sets and what reading leaves -/
def Sn (t t' : mS) : Prop := ∀ f, f ≠ 4 → f ≠ 12 → f ≠ 13 → f ≠ 14 → f ≠ 18 → f ≠ 19 → t' f = t f
theorem grow_m (hN : 5000 ≤ N) {fl : Nat → Bool} {a va al : Nat} {V : Nat → Nat} (hfl0 : fl 0 = false) (ha : a < 1024) (hva : va ≤ 10) (hVa : V a = va) (k82 : Int32 → Int32 → mS → Option (Int32 × mS)) {t1 : mS} (h18 : ∀ M, 0 < M → M < 1024 → t1 18 M = if fl M = true then 1 else 0) (hV : ∀ S, S < 1024 → V S ≤ 100) (h19 : ∀ S, S < 1024 → t1 19 S = nI (V S)) : ∃ t2, f9_shows_l105 N k82 N (nI al) (nI a) 1 t1 = k82 (nI al) (nI (a + 1)) t2 ∧ (∀ f, f ≠ 19 → t2 f = t1 f) ∧ ∀ S, S < 1024 → t2 19 S = nI (grw (fun S => hit fl a S 1024) va V S) := by
  have key : ∀ t', (∀ f, f ≠ 19 → t' f = t1 f) → (∀ S, S < 1024 → t' 19 S = nI (grw (fun S => hit fl a S (0 + 1)) va V S)) → ∃ t2, f9_shows_l105 N k82 N (nI al) (nI a) (nI (0 + 1)) t' = k82 (nI al) (nI (a + 1)) t2 ∧ (∀ f, f ≠ 19 → t2 f = t1 f) ∧ ∀ S, S < 1024 → t2 19 S = nI (grw (fun S => hit fl a S 1024) va V S) := by
    refine iter_ind (P := fun M (f : Int32 → Int32 → Int32 → mS → Option (Int32 × mS)) => ∀ t', (∀ f, f ≠ 19 → t' f = t1 f) → (∀ S, S < 1024 → t' 19 S = nI (grw (fun S => hit fl a S (M + 1)) va V S)) → ∃ t2, f (nI al) (nI a) (nI (M + 1)) t' = k82 (nI al) (nI (a + 1)) t2 ∧ (∀ f, f ≠ 19 → t2 f = t1 f) ∧ ∀ S, S < 1024 → t2 19 S = nI (grw (fun S => hit fl a S 1024) va V S)) (e := 1023) ?_ ?_ (show 1023 < N by omega)
    · intro k t' e1 e2
      unfold f9_shows_l105b
      rw [if_pos (show (1024 : Int32) ≤ nI (1023 + 1) from Int32.le_refl _), nI_1]
      exact ⟨t', rfl, e1, e2⟩
    · intro M hM k ih t' e1 e2
      have hmi := ix (M + 1) 1024 (by omega) (by omega)
      have hai := ix a 1024 ha (by omega)
      have hS0 : a ||| (M + 1) < 1024 := Nat.or_lt_two_pow (n := 10) ha (show M + 1 < 2 ^ 10 by omega)
      have hsi := ix (a ||| (M + 1)) 1024 hS0 (by omega)
      unfold f9_shows_l105b
      rw [if_neg (show ¬ (1024 : Int32) ≤ nI (M + 1) from nI_ge (b := 1024) (by omega) (by omega)), if_pos hmi.1, hmi.2, e1 18 (by omega), h18 (M + 1) (by omega) (by omega), fa_or, nI_1]
      by_cases q : fl (M + 1) = true
      · rw [if_pos q, if_neg (show ¬ (1 : Int32) = 0 by decide), if_pos hsi.1, if_pos hai.1, hsi.2, hai.2]
        obtain ⟨g1, g2⟩ := grw_step (h := fun S => hit fl a S (M + 1)) (h' := fun S => hit fl a S (M + 1 + 1)) (va := va) (V := V) (S0 := a ||| (M + 1)) (fun S => by
          show (hit fl a S (M + 1) || (fl (M + 1) && decide (a ||| (M + 1) = S))) = _
          rw [q, Bool.true_and])
        have hWa : grw (fun S => hit fl a S (M + 1)) va V a = va := by
          unfold grw
          rw [if_neg (fun w => by have := w.2; omega)]; exact hVa
        have hW : grw (fun S => hit fl a S (M + 1)) va V (a ||| (M + 1)) ≤ 100 := by
          unfold grw
          split
          · omega
          · exact hV _ hS0
        rw [e2 _ hS0, e2 a ha, hWa, nI_1]
        by_cases z : grw (fun S => hit fl a S (M + 1)) va V (a ||| (M + 1)) ≤ va + 1
        · rw [if_pos (nI_le z (by omega))]
          exact ih t' e1 (fun S hS => by rw [g1 z S]; exact e2 S hS)
        · rw [if_neg (nI_ge (by omega) (by omega))]
          refine ih _ (fun f hf => by rw [mu_ne _ _ _ hf]; exact e1 f hf) (fun S hS => ?_)
          rw [g2 z S, mu_rd]
          by_cases y : S = a ||| (M + 1)
          · rw [if_pos ⟨rfl, y⟩, if_pos y]
          · rw [if_neg (fun w => y w.2), if_neg y]; exact e2 S hS
      · rw [if_neg q, if_pos rfl]
        refine ih t' e1 (fun S hS => ?_)
        rw [e2 S hS]
        have : ∀ S, hit fl a S (M + 1 + 1) = hit fl a S (M + 1) := fun S => by
          show (hit fl a S (M + 1) || (fl (M + 1) && decide (a ||| (M + 1) = S))) = _
          have : fl (M + 1) = false := by simpa using q
          rw [this, Bool.false_and, Bool.or_false]
        simp only [this]
  refine key t1 (fun _ _ => rfl) (fun S hS => ?_)
  rw [h19 S hS]
  unfold grw
  rw [if_neg (fun w => by
    have w1 := w.1
    simp [hit, hfl0] at w1)]
/-- the reference grows them -/
theorem sets_m (hN : 5000 ≤ N) {F X : Nat} (hF : F ≤ 10) {t1 : mS} (h18 : ∀ M, 0 < M → M < 1024 → t1 18 M = if flg t F X M = true then 1 else 0) (h19 : ∀ S, S < 1024 → t1 19 S = nI (if S = 0 then 0 else 100)) : ∃ t2, f9_shows_l82 N N (nI (al t F X)) 0 t1 = some (nI (dp (flg t F X) (al t F X) (al t F X)), t2) ∧ ∀ f, f ≠ 19 → t2 f = t1 f := by
  have hal := al_lt (t := t) hF X
  have hfl : ∀ M, M < 1024 → flg t F X M = true → M ||| al t F X = al t F X := by
    intro M _ h
    unfold flg at h
    rw [Bool.and_eq_true] at h
    rw [Nat.or_comm]; exact al_in X M h.2
  have key : ∀ t', (∀ f, f ≠ 19 → t' f = t1 f) → (∀ S, S < 1024 → t' 19 S = nI (dp (flg t F X) 0 S)) → ∃ t2, f9_shows_l82 N N (nI (al t F X)) (nI 0) t' = some (nI (dp (flg t F X) (al t F X) (al t F X)), t2) ∧ ∀ f, f ≠ 19 → t2 f = t1 f := by
    refine iter_ind (P := fun a (f : Int32 → Int32 → mS → Option (Int32 × mS)) => ∀ t', (∀ f, f ≠ 19 → t' f = t1 f) → (∀ S, S < 1024 → t' 19 S = nI (dp (flg t F X) a S)) → ∃ t2, f (nI (al t F X)) (nI a) t' = some (nI (dp (flg t F X) (al t F X) (al t F X)), t2) ∧ ∀ f, f ≠ 19 → t2 f = t1 f) (e := 1024) ?_ ?_ (show 1024 < N by omega)
    · intro k t' e1 e2
      have hai := ix (al t F X) 1024 hal (by omega)
      unfold f9_shows_l82b
      rw [if_pos (show (1024 : Int32) ≤ nI 1024 from Int32.le_refl _), if_pos hai.1, hai.2, e2 _ hal]
      have := dp_last hal hfl (1024 - al t F X) (by omega)
      rw [show al t F X + (1024 - al t F X) = 1024 by omega] at this
      rw [this]
      exact ⟨t', rfl, e1⟩
    · intro a ha k ih t' e1 e2
      have hai := ix a 1024 ha (by omega)
      obtain ⟨v1, v2⟩ := dp_inv hal hfl a (by omega) a ha
      have hp := pc_le a
      unfold f9_shows_l82b
      rw [if_neg (show ¬ (1024 : Int32) ≤ nI a from nI_ge (b := 1024) ha (by omega)), if_pos hai.1, hai.2, e2 a ha]
      by_cases z : dp (flg t F X) a a = 100
      · rw [z, if_pos (show nI 100 = 100 from rfl), nI_1]
        refine ih t' e1 (fun S hS => ?_)
        simp only [dp]
        rw [if_pos z]; exact e2 S hS
      · rw [if_neg (show ¬ nI (dp (flg t F X) a a) = (100 : Int32) from fun e => z ((nI_eq (b := 100) (by omega) (by omega)).mp e))]
        obtain ⟨t2, b1, b2, b3⟩ := grow_m (V := dp (flg t F X) a) (va := dp (flg t F X) a a) (al := al t F X) hN (show flg t F X 0 = false from rfl) ha (by omega) rfl k (fun M h1 h2 => by rw [e1 18 (by omega)]; exact h18 M h1 h2) (fun S hS => by
          have := (dp_inv hal hfl a (by omega) S hS).1
          have := pc_le S
          omega) e2
        rw [b1]
        refine ih t2 (fun f hf => by rw [b2 f hf, e1 f hf]) (fun S hS => ?_)
        rw [b3 S hS]
        simp only [dp]
        rw [if_neg z]
  exact key t1 (fun _ _ => rfl) h19
end O

/-- the sets of faults that some number below X shows -/
def sn (t : mS) (F M : Nat) : Nat → Bool
  | 0 => false
  | x + 1 => sn t F M x || decide (msk t x F = M)
theorem sn_iff {t : mS} {F M : Nat} : ∀ {n : Nat}, sn t F M n = true ↔ ∃ x, x < n ∧ msk t x F = M := by
  intro n
  induction n with
  | zero => exact ⟨fun h => by simp [sn] at h, fun ⟨M, h, _⟩ => absurd h (Nat.not_lt_zero M)⟩
  | succ n ih =>
    simp only [sn]
    rw [Bool.or_eq_true, ih, decide_eq_true_iff]
    constructor
    · rintro (⟨x, h1, h3⟩ | h3)
      · exact ⟨x, by omega, h3⟩
      · exact ⟨n, by omega, h3⟩
    · rintro ⟨x, h1, h3⟩
      by_cases q : x = n
      · rw [q] at h3; exact Or.inr h3
      · exact Or.inl ⟨x, by omega, h3⟩
/-- all of them together -/
def al (t : mS) (F : Nat) : Nat → Nat
  | 0 => 0
  | x + 1 => al t F x ||| msk t x F
theorem msk1024 {t : mS} {F : Nat} (hF : F ≤ 10) (x : Nat) : msk t x F < 1024 := Nat.lt_of_lt_of_le (msk_lt t x F hF) (Nat.pow_le_pow_right (n := 2) (by omega) hF : 2 ^ F ≤ 2 ^ 10)
theorem al_lt {t : mS} {F : Nat} (hF : F ≤ 10) : ∀ X, al t F X < 1024 := by
  intro X
  induction X with
  | zero => exact Nat.succ_pos _
  | succ X ih => exact Nat.or_lt_two_pow (n := 10) ih (msk1024 hF X)
theorem al_in {t : mS} {F : Nat} : ∀ X M, sn t F M X = true → al t F X ||| M = al t F X := by
  intro X
  induction X with
  | zero => intro M h; simp [sn] at h
  | succ X ih =>
    intro M h
    simp only [sn] at h
    show (al t F X ||| msk t X F) ||| M = al t F X ||| msk t X F
    rw [Bool.or_eq_true, decide_eq_true_iff] at h
    rcases h with h | h
    · rw [Nat.or_assoc, Nat.or_comm (msk t X F) M, ← Nat.or_assoc, ih M h]
    · rw [← h, Nat.or_assoc, Nat.or_self]
def flg (t : mS) (F X M : Nat) : Bool := decide (0 < M) && sn t F M X
/-- every fault that a number shows is reached -/
theorem reach {t : mS} {F X : Nat} (hF : F ≤ 10) : ∀ Y, Y ≤ X → dp (flg t F X) (al t F Y) (al t F Y) ≠ 100 := by
  have hfl : ∀ M, M < 1024 → flg t F X M = true → M ||| al t F X = al t F X := by
    intro M _ h
    unfold flg at h
    rw [Bool.and_eq_true] at h
    rw [Nat.or_comm]; exact al_in X M h.2
  intro Y
  induction Y with
  | zero => intro _; show (if (0 : Nat) = 0 then 0 else 100) ≠ 100; decide
  | succ Y ih =>
    intro hY
    have h1 := ih (by omega)
    by_cases q : al t F (Y + 1) = al t F Y
    · rw [q]; exact h1
    · have hm : msk t Y F ≠ 0 := fun w => q (by show al t F Y ||| msk t Y F = al t F Y; rw [w, Nat.or_zero])
      have hle : al t F Y ≤ al t F (Y + 1) := Nat.left_le_or
      have hlt := al_lt (t := t) hF (Y + 1)
      have h2 : dp (flg t F X) (al t F Y + 1) (al t F (Y + 1)) ≠ 100 := by
        simp only [dp]
        rw [if_neg h1]
        unfold grw
        have hh : hit (flg t F X) (al t F Y) (al t F (Y + 1)) 1024 = true := by
          refine hit_iff.mpr ⟨msk t Y F, msk1024 hF Y, ?_, rfl⟩
          unfold flg
          rw [decide_eq_true (by omega), Bool.true_and]
          exact sn_iff.mpr ⟨Y, by omega, rfl⟩
        have hp := (dp_inv (al_lt (t := t) hF X) hfl (al t F Y) (by omega) (al t F Y) (by omega)).1
        have := pc_le (al t F Y)
        by_cases z : dp (flg t F X) (al t F Y) (al t F Y) + 1 < dp (flg t F X) (al t F Y) (al t F (Y + 1))
        · rw [if_pos ⟨hh, z⟩]; omega
        · rw [if_neg (fun w => z w.2)]; omega
      have h3 := dp_keep (al_lt (t := t) hF X) hfl hlt (al t F (Y + 1) - (al t F Y + 1)) (al t F Y + 1) (by omega) h2
      rw [show al t F Y + 1 + (al t F (Y + 1) - (al t F Y + 1)) = al t F (Y + 1) by omega] at h3
      exact h3
/-- what the class knows of the sets met below X -/
def Cv (t : mS) (F X : Nat) (s' : cS) : Prop := ∃ (c : Nat) (L : Nat → Nat), (∀ j, j < c → 0 < L j ∧ L j < 1024) ∧ (∀ i j, i < j → j < c → L i ≠ L j) ∧ s'.1 24 0 = nI c ∧ s'.1 25 0 = nI (al t F X) ∧ (∀ j, j < c → s'.1 27 j = nI (L j)) ∧ (∀ M, M < 1024 → s'.1 28 M = if flg t F X M = true then 1 else 0) ∧ (∀ M, flg t F X M = true ↔ ∃ j, j < c ∧ L j = M) ∧ ∀ S, S < 1024 → s'.1 26 S = nI (if S = 0 then 0 else 1000)
section O
variable {N : Nat} {s : cS} {t : mS}
theorem cv_c {c : Nat} {L : Nat → Nat} (h1 : ∀ j, j < c → 0 < L j ∧ L j < 1024) (h2 : ∀ i j, i < j → j < c → L i ≠ L j) : c ≤ 1023 :=
  fb_holes 1023 c (fun j => L j - 1) (fun i hi => by have := h1 i hi; omega) (fun i j hij hj e => h2 i j hij hj (by have := h1 i (by omega); have := h1 j hj; omega))
theorem addMask_some (N : Nat) {F x : Nat} (hF : F ≤ 10) {s' : cS} (h : Cv t F x s') : ∃ s2, f1_addMask N (nI (msk t x F)) s' = some s2 ∧ Sk s' s2 ∧ Cv t F (x + 1) s2 := by
  obtain ⟨c, L, g1, g2, g3, g4, g5, g6, g7, g8⟩ := h
  have hm := msk1024 (t := t) hF x
  have hc := cv_c g1 g2
  have hal := al_lt (t := t) hF x
  have hmi := ix (msk t x F) 1024 hm (by omega)
  unfold f1_addMask
  -- nothing new
  have old : al t F x ||| msk t x F = al t F x → (∀ M, flg t F (x + 1) M = flg t F x M) → Cv t F (x + 1) s' := by
    intro e1 e2
    refine ⟨c, L, g1, g2, g3, ?_, g5, fun M hM => by rw [e2]; exact g6 M hM, fun M => by rw [e2]; exact g7 M, g8⟩
    show s'.1 25 0 = nI (al t F x ||| msk t x F)
    rw [e1]; exact g4
  by_cases q0 : msk t x F = 0
  · rw [q0, if_pos (show nI 0 ≤ 0 from Int32.le_refl _)]
    refine ⟨s', rfl, ⟨fun _ _ _ _ _ => rfl, rfl⟩, old (by rw [q0, Nat.or_zero]) (fun M => ?_)⟩
    unfold flg
    simp only [sn]
    by_cases z : 0 < M
    · rw [decide_eq_false (show ¬ msk t x F = M by omega), Bool.or_false]
    · rw [decide_eq_false z, Bool.false_and, Bool.false_and]
  rw [if_neg (show ¬ nI (msk t x F) ≤ 0 from nI_nle (by omega) (by omega)), if_neg (show ¬ (1024 : Int32) ≤ nI (msk t x F) from nI_ge (b := 1024) hm (by omega)), if_pos hmi.1, hmi.2, g6 _ hm]
  by_cases q1 : flg t F x (msk t x F) = true
  · rw [if_pos q1, if_neg (show ¬ (1 : Int32) = 0 by decide)]
    have q2 : sn t F (msk t x F) x = true := by unfold flg at q1; rw [Bool.and_eq_true] at q1; exact q1.2
    refine ⟨s', rfl, ⟨fun _ _ _ _ _ => rfl, rfl⟩, old (al_in x _ q2) (fun M => ?_)⟩
    unfold flg
    simp only [sn]
    by_cases z : msk t x F = M
    · rw [← z, q2, Bool.true_or]
    · rw [decide_eq_false z, Bool.or_false]
  · have hci := ix c 1024 (by omega) (by omega)
    rw [if_neg q1, if_pos rfl, g3, if_neg (nI_pos (by omega)), if_pos (show nI c < 1024 from nI_lt (b := 1024) (by omega) (by omega))]
    have e1 : (cu s' 28 (msk t x F) 1).1 24 0 = nI c := by rw [cu_ne _ _ _ (show 24 ≠ 28 by omega)]; exact g3
    have e2 : (cu (cu s' 28 (msk t x F) 1) 27 c (nI (msk t x F))).1 24 0 = nI c := by rw [cu_ne _ _ _ (show 24 ≠ 27 by omega)]; exact e1
    have e3 : (cu (cu (cu s' 28 (msk t x F) 1) 27 c (nI (msk t x F))) 24 0 (nI c + 1)).1 25 0 = nI (al t F x) := by
      rw [cu_ne _ _ _ (show 25 ≠ 24 by omega), cu_ne _ _ _ (show 25 ≠ 27 by omega), cu_ne _ _ _ (show 25 ≠ 28 by omega)]; exact g4
    rw [e1, if_pos hci.1, hci.2, e2, e3, fa_or, nI_1]
    have ff : ∀ f, f ≠ 24 → f ≠ 25 → f ≠ 27 → f ≠ 28 → (cu (cu (cu (cu s' 28 (msk t x F) 1) 27 c (nI (msk t x F))) 24 0 (nI (c + 1))) 25 0 (nI (al t F x ||| msk t x F))).1 f = s'.1 f := fun f a b c d => by rw [cu_ne _ _ _ b, cu_ne _ _ _ a, cu_ne _ _ _ c, cu_ne _ _ _ d]
    have hfl : ∀ M, flg t F (x + 1) M = true ↔ flg t F x M = true ∨ msk t x F = M := by
      intro M
      unfold flg
      simp only [sn]
      rw [Bool.and_eq_true, Bool.and_eq_true, Bool.or_eq_true, decide_eq_true_iff, decide_eq_true_iff]
      constructor
      · rintro ⟨a, b | b⟩
        · exact Or.inl ⟨a, b⟩
        · exact Or.inr b
      · rintro (⟨a, b⟩ | b)
        · exact ⟨a, Or.inl b⟩
        · exact ⟨by omega, Or.inr b⟩
    refine ⟨_, rfl, ⟨fun f a b c d => ff f (by omega) (by omega) (by omega) (by omega), rfl⟩, c + 1, fun j => if j = c then msk t x F else L j, fun j hj => ?_, fun i j hij hj => ?_, ?_, ?_, fun j hj => ?_, fun M hM => ?_, fun M => ?_, fun S hS => ?_⟩
    · simp only
      split
      · exact ⟨by omega, hm⟩
      · exact g1 j (by omega)
    · simp only
      rw [if_neg (show ¬ i = c by omega)]
      by_cases z : j = c
      · rw [if_pos z]
        intro e
        exact q1 ((g7 _).mpr ⟨i, by omega, e⟩)
      · rw [if_neg z]; exact g2 i j hij (by omega)
    · rw [cu_ne _ _ _ (show 24 ≠ 25 by omega), cu_at]
    · rw [cu_at]; rfl
    · show _ = nI (if j = c then msk t x F else L j)
      rw [cu_ne _ _ _ (show 27 ≠ 25 by omega), cu_ne _ _ _ (show 27 ≠ 24 by omega), cu_rd]
      by_cases z : j = c
      · rw [if_pos ⟨rfl, z⟩, if_pos z]
      · rw [if_neg (fun w => z w.2), if_neg z, cu_ne _ _ _ (show 27 ≠ 28 by omega)]
        exact g5 j (by omega)
    · rw [cu_ne _ _ _ (show 28 ≠ 25 by omega), cu_ne _ _ _ (show 28 ≠ 24 by omega), cu_ne _ _ _ (show 28 ≠ 27 by omega), cu_rd]
      by_cases z : M = msk t x F
      · rw [if_pos ⟨rfl, z⟩, if_pos ((hfl M).mpr (Or.inr z.symm))]
      · rw [if_neg (fun w => z w.2), g6 M hM]
        by_cases y : flg t F x M = true
        · rw [if_pos y, if_pos ((hfl M).mpr (Or.inl y))]
        · rw [if_neg y, if_neg (fun w => ((hfl M).mp w).elim y (fun w => z w.symm))]
    · rw [hfl M, g7 M]
      constructor
      · rintro (⟨j, hj, e⟩ | e)
        · exact ⟨j, by omega, by simp only; rw [if_neg (by omega)]; exact e⟩
        · exact ⟨c, by omega, by simp only; rw [if_pos trivial]; exact e⟩
      · rintro ⟨j, hj, e⟩
        simp only at e
        by_cases z : j = c
        · rw [if_pos z] at e; exact Or.inr e
        · rw [if_neg z] at e; exact Or.inl ⟨j, by omega, e⟩
    · rw [ff 26 (by omega) (by omega) (by omega) (by omega)]; exact g8 S hS
end O

/-! a new sum of noise, a new fault -/
section O
variable {N : Nat} {s : cS} {t : mS}
theorem o_noise (h : Rel s t) (p1 p2 : Int32) : ∃ r s1 t1, f8_noise N p1 p2 s = some (r, s1) ∧ f9_noise N p1 p2 t = some (r, t1) ∧ Rel s1 t1 := by
  have h := h.thrown
  unfold f8_noise f9_noise
  generalize mu t 4 0 0 = t at h ⊢
  have k1 : ¬ (1 : Int32) = 0 := by decide
  have bad : f8_noise_b26 N p1 p2 0 s = some (-1, cu s 3 0 1) ∧ f9_noise_b29 N p1 p2 t = some (-1, mu t 3 0 1) := by
    unfold f8_noise_b26 f8_noise_b53 f9_noise_b29 f9_no
    rw [if_pos rfl, cu_at, if_neg k1]
    exact ⟨rfl, rfl⟩
  rcases within_of N s t p1 100 with ⟨w1, w2⟩ | ⟨v1, v2, w1, w2⟩
  · rw [w1, w2]
    simp only [Option.bind_some]
    rw [if_pos trivial, if_pos trivial, bad.1, bad.2]
    exact ⟨_, _, _, rfl, rfl, h.tr 1⟩
  rw [w1, w2]
  simp only [Option.bind_some]
  rw [if_neg k1, if_neg k1]
  unfold f9_in
  by_cases q1 : p2 < 1
  · rw [if_pos q1, if_pos q1]
    simp only [Option.bind_some]
    rw [if_pos trivial, bad.1, bad.2]
    exact ⟨_, _, _, rfl, rfl, h.tr 1⟩
  by_cases q2 : 1000 < p2
  · rw [if_neg q1, if_pos q2, if_neg q1, if_pos q2]
    simp only [Option.bind_some]
    rw [if_pos trivial, bad.1, bad.2]
    exact ⟨_, _, _, rfl, rfl, h.tr 1⟩
  rw [if_neg q1, if_neg q2, if_neg q1, if_neg q2]
  simp only [Option.bind_some]
  rw [if_neg k1]
  unfold f8_noise_b26
  rw [if_neg k1]
  obtain ⟨n, hn, n1, n2, n3⟩ := h.1.2.2.2.1
  rw [n1, n2]
  by_cases z : n = 8
  · subst z
    rw [if_neg (show ¬ nI 8 < 8 by decide), if_pos (show nI 8 = 8 from rfl)]
    unfold f8_noise_b53 f9_no
    rw [cu_at, if_neg (show ¬ (3 : Int32) = 0 by decide)]
    exact ⟨_, _, _, rfl, rfl, h.tr 3⟩
  have hi := ix n 8 (by omega) (by omega)
  rw [if_pos (show nI n < 8 from nI_lt (b := 8) (by omega) (by omega)), if_neg (show ¬ nI n = (8 : Int32) from fun e => z ((nI_eq (b := 8) (by omega) (by omega)).mp e))]
  unfold f8_noise_b53
  rw [cu_at, if_pos rfl]
  replace h := h.tr 0
  replace n1 : (cu s 3 0 0).1 16 0 = nI n := n1
  replace n2 : mu t 3 0 0 10 0 = nI n := n2
  replace n3 : ∀ i, i < n → (cu s 3 0 0).1 17 i = mu t 3 0 0 5 i ∧ (cu s 3 0 0).1 18 i = mu t 3 0 0 6 i ∧ bnd 100 (mu t 3 0 0 5 i) ∧ 1 ≤ (mu t 3 0 0 6 i).toInt ∧ (mu t 3 0 0 6 i).toInt ≤ 1000 := n3
  generalize cu s 3 0 0 = s at *
  generalize mu t 3 0 0 = t at *
  unfold f4_addSum
  have g1 : (cu s 17 n p1).1 16 0 = nI n := by rw [cu_ne s n p1 (show 16 ≠ 17 by omega)]; exact n1
  have g2 : (cu (cu s 17 n p1) 18 n p2).1 16 0 = nI n := by rw [cu_ne _ n p2 (show 16 ≠ 18 by omega)]; exact g1
  have g3 : mu t 5 n p1 10 0 = nI n := by rw [mu_ne t n p1 (show 10 ≠ 5 by omega)]; exact n2
  have g4 : mu (mu t 5 n p1) 6 n p2 10 0 = nI n := by rw [mu_ne _ n p2 (show 10 ≠ 6 by omega)]; exact g3
  rw [n1, n2, if_neg (nI_pos (by omega)), if_neg (show ¬ (8 : Int32) ≤ nI n from nI_ge (b := 8) (by omega) (by omega)), if_pos (show nI n < 8 from nI_lt (b := 8) (by omega) (by omega)), if_pos hi.1, if_pos hi.1, hi.2, g1, g3, if_pos hi.1, if_pos hi.1, hi.2, g2, g4]
  simp only [Option.bind_some]
  rw [cu_at, mu_at]
  obtain ⟨⟨r1, r2, r3, r4, r5, r6⟩, r7⟩ := h
  have e : ∀ f, f ≠ 16 → f ≠ 17 → f ≠ 18 → (cu (cu (cu s 17 n p1) 18 n p2) 16 0 (nI n + 1)).1 f = s.1 f := fun f a b c => by rw [cu_ne _ _ _ a, cu_ne _ _ _ c, cu_ne _ _ _ b]
  have e' : ∀ f, f ≠ 10 → f ≠ 5 → f ≠ 6 → mu (mu (mu t 5 n p1) 6 n p2) 10 0 (nI n + 1) f = t f := fun f a b c => by rw [mu_ne _ _ _ a, mu_ne _ _ _ c, mu_ne _ _ _ b]
  refine ⟨_, _, _, rfl, rfl, ⟨?_, ?_, ?_, ⟨n + 1, by omega, by rw [cu_at, nI_1], by rw [mu_at, nI_1], fun i hi' => ?_⟩, r5.fr (fun f hf => e f (by omega) (by omega) (by omega)) (fun f hf => e' f (by omega) (by omega) (by omega)), r6.fr (fun f hf => e f (by omega) (by omega) (by omega)) rfl (e' 1 (by omega) (by omega) (by omega)) (e' 2 (by omega) (by omega) (by omega))⟩, r7.fr (fun f hf => e f (by omega) (by omega) (by omega)) (e' 0 (by omega) (by omega) (by omega))⟩
  · rw [e' 0 (by omega) (by omega) (by omega)]; exact r1
  · rw [e' 0 (by omega) (by omega) (by omega), vC_fr (fun f hf => e f (by omega) (by omega) (by omega))]; exact r2
  · rw [e 3 (by omega) (by omega) (by omega), e' 3 (by omega) (by omega) (by omega)]; exact r3
  · rw [cu_ne _ _ _ (show 17 ≠ 16 by omega), cu_ne _ _ _ (show 18 ≠ 16 by omega), mu_ne _ _ _ (show 5 ≠ 10 by omega), mu_ne _ _ _ (show 6 ≠ 10 by omega), cu_ne _ _ _ (show 17 ≠ 18 by omega), mu_ne _ _ _ (show 5 ≠ 6 by omega)]
    by_cases q : i = n
    · subst q
      rw [cu_at, cu_at, mu_at, mu_at]
      have a1 := (fa_le _ _).mp (fa_of_nlt q1)
      have a2 := (fa_le _ _).mp (fa_of_nlt q2)
      rw [i1] at a1
      rw [show (1000 : Int32).toInt = 1000 by decide +kernel] at a2
      exact ⟨rfl, rfl, bnd_of (B := 100) (by omega) v1 v2, a1, a2⟩
    · rw [cu_rd, if_neg (fun z => q z.2), cu_rd, if_neg (fun z => q z.2), mu_rd, if_neg (fun z => q z.2), mu_rd, if_neg (fun z => q z.2), cu_ne _ _ _ (show 18 ≠ 17 by omega), mu_ne _ _ _ (show 6 ≠ 5 by omega)]
      exact n3 i (by omega)
theorem o_fault (h : Rel s t) (p1 p2 p3 : Int32) : ∃ r s1 t1, f8_fault N p1 p2 p3 s = some (r, s1) ∧ f9_fault N p1 p2 p3 t = some (r, t1) ∧ Rel s1 t1 := by
  have h := h.thrown
  unfold f8_fault f9_fault
  generalize mu t 4 0 0 = t at h ⊢
  have k1 : ¬ (1 : Int32) = 0 := by decide
  rcases part_of N h.1 p1 p2 with ⟨h1, h2⟩ | ⟨m, k, hm, h8, hk, hk16, rfl, rfl, h1, h2⟩
  · rw [h1, h2]
    simp only [Option.bind_some]
    unfold f8_fault_b42 f9_no
    rw [cu_at, if_neg (show ¬ (2 : Int32) = 0 by decide)]
    exact ⟨_, _, _, rfl, rfl, h.tr 2⟩
  rw [h1, h2]
  simp only [Option.bind_some]
  rw [if_neg k1]
  rcases within_of N s t p3 500 with ⟨w1, w2⟩ | ⟨v1, v2, w1, w2⟩
  · rw [w1, w2]
    simp only [Option.bind_some]
    unfold f8_fault_b42 f9_no
    rw [if_pos trivial, cu_at, if_neg k1]
    exact ⟨_, _, _, rfl, rfl, h.tr 1⟩
  rw [w1, w2]
  simp only [Option.bind_some]
  rw [if_neg k1, if_neg k1]
  obtain ⟨n, hn, n1, n2, n3⟩ := h.1.2.2.2.2.1
  rw [n1, n2]
  by_cases z : n = 10
  · subst z
    rw [if_neg (show ¬ nI 10 < 10 by decide), if_pos (show nI 10 = 10 from rfl)]
    unfold f8_fault_b42 f9_no
    rw [cu_at, if_neg (show ¬ (3 : Int32) = 0 by decide)]
    exact ⟨_, _, _, rfl, rfl, h.tr 3⟩
  have hi := ix n 10 (by omega) (by omega)
  rw [if_pos (show nI n < 10 from nI_lt (b := 10) (by omega) (by omega)), if_neg (show ¬ nI n = (10 : Int32) from fun e => z ((nI_eq (b := 10) (by omega) (by omega)).mp e))]
  unfold f8_fault_b42
  rw [cu_at, if_pos rfl]
  replace h := h.tr 0
  replace hm : m < vM (mu t 3 0 0 0) := hm
  replace hk : k < vcn (mu t 3 0 0 0) m := hk
  replace n1 : (cu s 3 0 0).1 2 0 = nI n := n1
  replace n2 : mu t 3 0 0 11 0 = nI n := n2
  replace n3 : ∀ i, i < n → (cu s 3 0 0).1 19 i = mu t 3 0 0 7 i ∧ (cu s 3 0 0).1 20 i = mu t 3 0 0 8 i ∧ (cu s 3 0 0).1 21 i = mu t 3 0 0 9 i ∧ bnd 500 (mu t 3 0 0 9 i) ∧ ∃ m k : Nat, mu t 3 0 0 7 i = nI m ∧ mu t 3 0 0 8 i = nI k ∧ m < vM (mu t 3 0 0 0) ∧ k < vcn (mu t 3 0 0 0) m := n3
  clear h1 h2 w1 w2
  generalize cu s 3 0 0 = s at *
  generalize mu t 3 0 0 = t at *
  rw [n1, n2, cu_at, nI_1, nI_pred]
  unfold f8_faultAt f2_become
  have g1 : (cu s 2 0 (nI (n + 1))).1 2 0 = nI (n + 1) := cu_at _ _ _ _
  rw [if_neg (nI_pos (by omega)), g1, if_neg (nI_ge (by omega) (by omega)), if_neg (show ¬ (10 : Int32) ≤ nI n from nI_ge (b := 10) (by omega) (by omega)), if_pos hi.1, hi.2]
  have g3 : mu t 7 n (nI m) 11 0 = nI n := by rw [mu_ne t n _ (show 11 ≠ 7 by omega)]; exact n2
  have g4 : mu (mu t 7 n (nI m)) 8 n (nI k) 11 0 = nI n := by rw [mu_ne _ n _ (show 11 ≠ 8 by omega)]; exact g3
  have g5 : mu (mu (mu t 7 n (nI m)) 8 n (nI k)) 9 n p3 11 0 = nI n := by rw [mu_ne _ n _ (show 11 ≠ 9 by omega)]; exact g4
  rw [if_pos hi.1, g3, if_pos hi.1, hi.2, g4, if_pos hi.1, hi.2, g5, mu_at]
  simp only [Option.bind_some]
  rw [if_pos (by omega), cu_ne _ _ _ (show 2 ≠ 21 by omega), cu_ne _ _ _ (show 2 ≠ 20 by omega), cu_ne _ _ _ (show 2 ≠ 19 by omega), g1, nI_1]
  obtain ⟨⟨r1, r2, r3, r4, r5, r6⟩, r7⟩ := h
  have e : ∀ f, f ≠ 2 → f ≠ 19 → f ≠ 20 → f ≠ 21 → (cu (cu (cu (cu s 2 0 (nI (n + 1))) 19 n (nI m)) 20 n (nI k)) 21 n p3).1 f = s.1 f := fun f a b c d => by rw [cu_ne _ _ _ d, cu_ne _ _ _ c, cu_ne _ _ _ b, cu_ne _ _ _ a]
  have e' : ∀ f, f ≠ 7 → f ≠ 8 → f ≠ 9 → f ≠ 11 → mu (mu (mu (mu t 7 n (nI m)) 8 n (nI k)) 9 n p3) 11 0 (nI (n + 1)) f = t f := fun f a b c d => by rw [mu_ne _ _ _ d, mu_ne _ _ _ c, mu_ne _ _ _ b, mu_ne _ _ _ a]
  refine ⟨_, _, _, rfl, rfl, ⟨?_, ?_, ?_, r4.fr (fun f hf => e f (by omega) (by omega) (by omega) (by omega)) (fun f hf => e' f (by omega) (by omega) (by omega) (by omega)), ⟨n + 1, by omega, ?_, by rw [mu_at], fun i hi' => ?_⟩, r6.fr (fun f hf => e f (by omega) (by omega) (by omega) (by omega)) rfl (e' 1 (by omega) (by omega) (by omega) (by omega)) (e' 2 (by omega) (by omega) (by omega) (by omega))⟩, r7.fr (fun f hf => e f (by omega) (by omega) (by omega) (by omega)) (e' 0 (by omega) (by omega) (by omega) (by omega))⟩
  · rw [e' 0 (by omega) (by omega) (by omega) (by omega)]; exact r1
  · rw [e' 0 (by omega) (by omega) (by omega) (by omega), vC_fr (fun f hf => e f (by omega) (by omega) (by omega) (by omega))]; exact r2
  · rw [e 3 (by omega) (by omega) (by omega) (by omega), e' 3 (by omega) (by omega) (by omega) (by omega)]; exact r3
  · rw [cu_ne _ _ _ (show 2 ≠ 21 by omega), cu_ne _ _ _ (show 2 ≠ 20 by omega), cu_ne _ _ _ (show 2 ≠ 19 by omega), cu_at]
  · rw [e' 0 (by omega) (by omega) (by omega) (by omega), mu_ne _ _ _ (show 7 ≠ 11 by omega), mu_ne _ _ _ (show 8 ≠ 11 by omega), mu_ne _ _ _ (show 9 ≠ 11 by omega), mu_ne _ _ _ (show 7 ≠ 9 by omega), mu_ne _ _ _ (show 8 ≠ 9 by omega), mu_ne _ _ _ (show 7 ≠ 8 by omega), cu_ne _ _ _ (show 19 ≠ 21 by omega), cu_ne _ _ _ (show 20 ≠ 21 by omega), cu_ne _ _ _ (show 19 ≠ 20 by omega)]
    by_cases q : i = n
    · subst q
      rw [cu_at, cu_at, cu_at, mu_at, mu_at, mu_at]
      exact ⟨rfl, rfl, rfl, bnd_of (B := 500) (by omega) v1 v2, m, k, rfl, rfl, hm, hk⟩
    · have c1 : ∀ (s : cS) (f : Nat) (v : Int32), (cu s f n v).1 f i = s.1 f i := fun s f v => by rw [cu_rd, if_neg (fun z => q z.2)]
      have c2 : ∀ (s : mS) (f : Nat) (v : Int32), mu s f n v f i = s f i := fun s f v => by rw [mu_rd, if_neg (fun z => q z.2)]
      rw [c1, c1, c1, c2, c2, c2, cu_ne _ _ _ (show 19 ≠ 2 by omega), cu_ne _ _ _ (show 20 ≠ 19 by omega), cu_ne _ _ _ (show 20 ≠ 2 by omega), cu_ne _ _ _ (show 21 ≠ 20 by omega), cu_ne _ _ _ (show 21 ≠ 19 by omega), cu_ne _ _ _ (show 21 ≠ 2 by omega), mu_ne _ _ _ (show 8 ≠ 7 by omega), mu_ne _ _ _ (show 9 ≠ 8 by omega), mu_ne _ _ _ (show 9 ≠ 7 by omega)]
      exact n3 i (by omega)
end O

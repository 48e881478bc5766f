/-! what both ask first: is the METER, the PART, the number there? -/
theorem tc0 : (0 : Int32).toNatClampNeg = 0 := by decide +kernel
theorem tc1 : (1 : Int32).toNatClampNeg = 1 := by decide +kernel
theorem i0 : (0 : Int32).toInt = 0 := by decide +kernel
theorem i1 : (1 : Int32).toInt = 1 := by decide +kernel
theorem m1I {M : Nat} (h : M < 2 ^ 29) : (nI M - 1).toInt = (M : Int) - 1 := by
  rw [show (1 : Int32) = nI 1 from rfl, pk_sub_toInt (by omega) (by omega)]; rfl
/-- in its place, or not -/
theorem lim (x : Int32) {M : Nat} (hM : M < 2 ^ 29) : (x < 0) ∨ (¬ x < 0 ∧ nI M ≤ x ∧ nI M - 1 < x) ∨ ∃ m : Nat, m < M ∧ x = nI m ∧ ¬ nI m < 0 ∧ ¬ nI M ≤ nI m ∧ ¬ nI M - 1 < nI m := by
  rcases pk_ix x (show M < 2 ^ 31 by omega) with h | h | ⟨m, hm, rfl⟩
  · exact Or.inl h
  · right; left
    have h' := (fa_le _ _).mp h
    rw [nI_toInt (by omega)] at h'
    refine ⟨fun q => ?_, h, ?_⟩
    · have := (fa_lt _ _).mp q; rw [i0] at this; omega
    · rw [fa_lt, m1I hM]; omega
  · right; right
    refine ⟨m, hm, rfl, nI_pos (by omega), nI_ge hm (by omega), ?_⟩
    rw [fa_lt, m1I hM, nI_toInt (by omega)]; omega
theorem meter_of (N : Nat) {s : cS} {t : mS} (h : RelA s t) (x : Int32) : (f8_meterAt N x s = some (none, s) ∧ f9_isMeter N x t = some (0, t)) ∨ ∃ m : Nat, m < vM (t 0) ∧ m < 8 ∧ x = nI m ∧ f8_meterAt N x s = some (some m, s) ∧ f9_isMeter N x t = some (1, t) := by
  obtain ⟨T, M, hT1, hT2, hM, e1, e2, e3, e4, e5, e6⟩ := h.base
  unfold f8_meterAt f9_isMeter f9_in
  rw [tc1, e3, e4, e5]
  rcases lim x (show M < 2 ^ 29 by omega) with h1 | ⟨h1, h2, h3⟩ | ⟨m, hm, rfl, h1, h2, h3⟩
  · left; rw [if_pos h1, if_pos h1]; exact ⟨rfl, rfl⟩
  · left; rw [if_neg h1, if_pos h2, if_neg h1, if_pos h3]; exact ⟨rfl, rfl⟩
  · right
    have hi := ix m 8 (by omega) (by omega)
    refine ⟨m, hm, by omega, rfl, ?_, ?_⟩
    · rw [if_neg h1, if_neg h2, if_neg (show ¬ (8 : Int32) ≤ nI m from nI_ge (b := 8) (by omega) (by omega)), if_pos hi.1, hi.2]
    · rw [if_neg h1, if_neg h3]; rfl
theorem number_of (N : Nat) {s : cS} {t : mS} (h : RelA s t) (x : Int32) : (f8_isNumber N x s = some (0, s) ∧ f9_isNumber N x t = some (0, t)) ∨ ∃ j : Nat, j ≤ (t 0 0).toNatClampNeg ∧ j ≤ 4095 ∧ x = nI j ∧ f8_isNumber N x s = some (1, s) ∧ f9_isNumber N x t = some (1, t) := by
  obtain ⟨T, M, hT1, hT2, hM, e1, e2, e3, e4, e5, e6⟩ := h.base
  unfold f8_isNumber f9_isNumber f9_in
  rw [tc0, e1, e2, ← e2, e6, e2]
  rcases lim x (show T + 1 < 2 ^ 29 by omega) with h1 | ⟨h1, h2, h3⟩ | ⟨m, hm, rfl, h1, h2, h3⟩
  · left; rw [if_pos h1, if_pos h1]; exact ⟨rfl, rfl⟩
  · rw [nI_pred] at h3
    left; rw [if_neg h1, if_pos h3, if_neg h1, if_pos h3]; exact ⟨rfl, rfl⟩
  · rw [nI_pred] at h3
    right
    exact ⟨m, by omega, by omega, rfl, by rw [if_neg h1, if_neg h3], by rw [if_neg h1, if_neg h3]; rfl⟩
theorem part_of (N : Nat) {s : cS} {t : mS} (h : RelA s t) (x y : Int32) : (f8_partAt N x y s = some (none, s) ∧ f9_isPart N x y t = some (0, t)) ∨ ∃ m k : Nat, m < vM (t 0) ∧ m < 8 ∧ k < vcn (t 0) m ∧ k < 16 ∧ x = nI m ∧ y = nI k ∧ f8_partAt N x y s = some (some (16 * m + k), s) ∧ f9_isPart N x y t = some (1, t) := by
  unfold f8_partAt f9_isPart
  rcases meter_of N h x with ⟨h1, h2⟩ | ⟨m, hm, h8, rfl, h1, h2⟩
  · left; rw [h1, h2]; exact ⟨rfl, rfl⟩
  · rw [h1, h2]
    have hc := h.1.cn hm
    have hme := h.meter hm
    have hi := ix (10 + m) 530 (by omega) (by omega)
    simp only [Option.bind_some]
    rw [if_pos h8, if_neg (show ¬ (1 : Int32) = 0 by decide), nI_lit10, if_pos hi.1, hi.2]
    unfold f3_partAt f9_in
    rw [hme.2.2, hc.2]
    rcases lim y (show vcn (t 0) m < 2 ^ 29 by omega) with q1 | ⟨q1, q2, q3⟩ | ⟨k, hk, rfl, q1, q2, q3⟩
    · left; rw [if_pos q1, if_pos q1]; exact ⟨rfl, rfl⟩
    · left; rw [if_neg q1, if_pos q2, if_neg q1, if_pos q3]; exact ⟨rfl, rfl⟩
    · right
      have hk16 : k < 16 := by omega
      have hj := ix k 16 hk16 (by omega)
      refine ⟨m, k, hm, h8, hk, hk16, rfl, rfl, ?_, ?_⟩
      · rw [if_neg q1, if_neg q2, if_neg (show ¬ (16 : Int32) ≤ nI k from nI_ge (b := 16) (by omega) (by omega)), if_pos hj.1, hj.2]; rfl
      · rw [if_neg q1, if_neg q3]; rfl
theorem within_of (N : Nat) (s : cS) (t : mS) (x B : Int32) : (f8_isWithin N x B s = some (0, s) ∧ f9_in N x (-B) B t = some (0, t)) ∨ (¬ x < -B ∧ ¬ B < x ∧ f8_isWithin N x B s = some (1, s) ∧ f9_in N x (-B) B t = some (1, t)) := by
  unfold f8_isWithin f9_in
  by_cases h1 : x < -B
  · left; rw [if_pos h1, if_pos h1]; exact ⟨rfl, rfl⟩
  · by_cases h2 : B < x
    · left; rw [if_neg h1, if_pos h2, if_neg h1, if_pos h2]; exact ⟨rfl, rfl⟩
    · right; exact ⟨h1, h2, by rw [if_neg h1, if_neg h2], by rw [if_neg h1, if_neg h2]⟩
theorem bnd_of {B : Nat} (hB : B < 2 ^ 30) {x : Int32} (h1 : ¬ x < -nI B) (h2 : ¬ nI B < x) : bnd B x := by
  have a1 := (fa_le _ _).mp (fa_of_nlt h1)
  have a2 := (fa_le _ _).mp (fa_of_nlt h2)
  rw [sb_negT (by omega)] at a1
  rw [nI_toInt (by omega)] at a2
  exact ⟨a1, a2⟩
theorem num_bnd {j : Nat} (h : j ≤ 4095) : -1000000 ≤ (nI j).toInt ∧ (nI j).toInt ≤ 1000000 := by
  rw [nI_toInt (by omega)]; omega
theorem cu_ne (s : cS) {f g : Nat} (i : Nat) (v : Int32) (h : f ≠ g) : (cu s g i v).1 f = s.1 f := by
  funext j; rw [cu_rd, if_neg (fun q => h q.1)]
theorem mu_ne (t : mS) {f g : Nat} (i : Nat) (v : Int32) (h : f ≠ g) : mu t g i v f = t f := by
  funext j; rw [mu_rd, if_neg (fun q => h q.1)]
theorem cu_at (s : cS) (f i : Nat) (v : Int32) : (cu s f i v).1 f i = v := by rw [cu_rd, if_pos ⟨rfl, rfl⟩]
theorem mu_at (t : mS) (f i : Nat) (v : Int32) : mu t f i v f i = v := by rw [mu_rd, if_pos ⟨rfl, rfl⟩]
-- what the pieces of the relation look at
theorem vC_fr {s s' : cS} (e : ∀ f, f = 0 ∨ f = 1 ∨ f = 5 ∨ f = 6 ∨ (10 ≤ f ∧ f < 14) → s'.1 f = s.1 f) : vC s' = vC s := by
  funext j
  unfold vC
  rw [e 0 (by omega), e 1 (by omega), e 5 (by omega), e 6 (by omega), e (10 + (j - 18) % 4) (by omega)]
theorem RNoise.fr {s s' : cS} {t t' : mS} (h : RNoise s t) (e : ∀ f, f = 16 ∨ f = 17 ∨ f = 18 → s'.1 f = s.1 f) (e' : ∀ f, f = 10 ∨ f = 5 ∨ f = 6 → t' f = t f) : RNoise s' t' := by
  obtain ⟨n, hn⟩ := h
  refine ⟨n, ?_⟩
  rw [e 16 (by omega), e 17 (by omega), e 18 (by omega), e' 10 (by omega), e' 5 (by omega), e' 6 (by omega)]
  exact hn
theorem RFault.fr {s s' : cS} {t t' : mS} (h : RFault s t) (e : ∀ f, f = 2 ∨ f = 19 ∨ f = 20 ∨ f = 21 → s'.1 f = s.1 f) (e' : ∀ f, f = 0 ∨ f = 11 ∨ f = 7 ∨ f = 8 ∨ f = 9 → t' f = t f) : RFault s' t' := by
  obtain ⟨n, hn⟩ := h
  refine ⟨n, ?_⟩
  rw [e 2 (by omega), e 19 (by omega), e 20 (by omega), e 21 (by omega), e' 0 (by omega), e' 11 (by omega), e' 7 (by omega), e' 8 (by omega), e' 9 (by omega)]
  exact hn
theorem hV_fr {s s' : cS} (e : ∀ f, 31 ≤ f ∧ f ≤ 34 → s'.1 f = s.1 f) (hw : s'.2.2 = s.2.2) (v : Nat → Int32) (nx : Nat) : ∀ i, hV s' v nx i = hV s v nx i := by
  intro i
  induction i with
  | zero => rfl
  | succ i ih =>
    simp only [hV, tbS, am, ak]
    rw [ih, hw, e 31 (by omega), e 32 (by omega), e 33 (by omega), e 34 (by omega)]
theorem Hist.fr {s s' : cS} {t t' : mS} (h : Hist s t) (e : ∀ f, f = 0 ∨ f = 1 ∨ f = 5 ∨ f = 6 ∨ (10 ≤ f ∧ f < 14) ∨ (29 ≤ f ∧ f ≤ 34) → s'.1 f = s.1 f) (hw : s'.2.2 = s.2.2) (e1 : t' 1 = t 1) (e2 : t' 2 = t 2) : Hist s' t' := by
  obtain ⟨hh, nx, hH⟩ := h
  refine ⟨hh, nx, ?_⟩
  have hrow : row t' = row t := by funext r j; unfold row; rw [e1]
  have hc : vC s' = vC s := vC_fr (fun f hf => e f (by omega))
  unfold ActN am ak
  simp only [hc, hV_fr (fun f hf => e f (by omega)) hw, e 29 (by omega), e 30 (by omega), e 31 (by omega), e 32 (by omega), e 33 (by omega), e2, hrow]
  exact hH
theorem Tab.fr {s s' : cS} {t t' : mS} (h : Tab s t) (e : ∀ f, f = 4 ∨ f = 14 ∨ f = 15 → s'.1 f = s.1 f) (e0 : t' 0 = t 0) : Tab s' t' := by
  unfold Tab at h ⊢
  rw [e 4 (by omega), e 14 (by omega), e 15 (by omega), e0]
  exact h
/-- what went wrong last -/
theorem Rel.tr {s : cS} {t : mS} (h : Rel s t) (v : Int32) : Rel (cu s 3 0 v) (mu t 3 0 v) := by
  obtain ⟨⟨h1, h2, h3, h4, h5, h6⟩, h7⟩ := h
  have e : ∀ f, f ≠ 3 → (cu s 3 0 v).1 f = s.1 f := fun f hf => cu_ne s 0 v hf
  have e' : ∀ f, f ≠ 3 → mu t 3 0 v f = t f := fun f hf => mu_ne t 0 v hf
  refine ⟨⟨?_, ?_, ?_, h4.fr (fun f hf => e f (by omega)) (fun f hf => e' f (by omega)), h5.fr (fun f hf => e f (by omega)) (fun f hf => e' f (by omega)), h6.fr (fun f hf => e f (by omega)) rfl (e' 1 (by omega)) (e' 2 (by omega))⟩, h7.fr (fun f hf => e f (by omega)) (e' 0 (by omega))⟩
  · rw [e' 0 (by omega)]; exact h1
  · rw [e' 0 (by omega), vC_fr (fun f hf => e f (by omega))]; exact h2
  · rw [cu_at, mu_at]
theorem Rel.thrown {s : cS} {t : mS} (h : Rel s t) : Rel s (mu t 4 0 0) := h.sc (Sc.rf s) (Sm.thrown t 0)
/-! the questions that ask one METER or nothing -/
section O
variable {N : Nat} {s : cS} {t : mS}
theorem o_size (h : Rel s t) (p : Int32) : ∃ r s1 t1, f8_size N p s = some (r, s1) ∧ f9_size N p t = some (r, t1) ∧ Rel s1 t1 := by
  have h := h.thrown
  unfold f8_size f9_size
  generalize mu t 4 0 0 = t at h ⊢
  obtain ⟨T, M, -, -, -, e1, e2, e3, e4, -, -⟩ := h.1.base
  obtain ⟨-, -, -, ⟨n, -, n1, n2, -⟩, ⟨F, -, f1, f2, -⟩, ⟨hh, nx, -, -, g1, -, g2, -⟩⟩ := h.1
  rw [tc0, tc1, e1, e2, e3, e4, n1, n2, f1, f2, g1, g2]
  by_cases q0 : p = 0
  · rw [if_pos q0, if_pos q0]; exact ⟨_, _, _, rfl, rfl, h⟩
  rw [if_neg q0, if_neg q0]
  by_cases q1 : p = 1
  · rw [if_pos q1, if_pos q1]; exact ⟨_, _, _, rfl, rfl, h⟩
  rw [if_neg q1, if_neg q1]
  by_cases q2 : p = 2
  · rw [if_pos q2, if_pos q2]; exact ⟨_, _, _, rfl, rfl, h⟩
  rw [if_neg q2, if_neg q2]
  by_cases q3 : p = 3
  · rw [if_pos q3, if_pos q3]; exact ⟨_, _, _, rfl, rfl, h⟩
  rw [if_neg q3, if_neg q3]
  by_cases q4 : p = 4
  · rw [if_pos q4, if_pos q4]; exact ⟨_, _, _, rfl, rfl, h⟩
  rw [if_neg q4, if_neg q4]; exact ⟨_, _, _, rfl, rfl, h⟩
theorem o_trouble (h : Rel s t) : ∃ r s1 t1, f8_trouble N s = some (r, s1) ∧ f9_trouble N t = some (r, t1) ∧ Rel s1 t1 := by
  have h := h.thrown
  refine ⟨_, _, _, rfl, ?_, h⟩
  unfold f9_trouble
  rw [h.1.2.2.1]
theorem o_kind (h : Rel s t) (p q : Int32) : ∃ r s1 t1, f8_kind N p q s = some (r, s1) ∧ f9_kind N p q t = some (r, t1) ∧ Rel s1 t1 := by
  have h := h.thrown
  unfold f8_kind f9_kind
  generalize mu t 4 0 0 = t at h ⊢
  rcases meter_of N h.1 p with ⟨h1, h2⟩ | ⟨m, hm, h8, rfl, h1, h2⟩
  · rw [h1, h2]; exact ⟨_, _, _, rfl, rfl, h⟩
  · rw [h1, h2]
    have hme := h.1.meter hm
    have a1 := ix (2 + m) 530 (by omega) (by omega)
    have a2 := ix (10 + m) 530 (by omega) (by omega)
    simp only [Option.bind_some]
    rw [if_neg (show ¬ (1 : Int32) = 0 by decide), nI_lit10, nI_lit2, if_pos a1.1, if_pos a2.1, a1.2, a2.2, if_pos h8, if_pos h8, hme.2.1, hme.2.2]
    by_cases q0 : q = 0
    · subst q0; exact ⟨_, _, _, rfl, rfl, h⟩
    · by_cases q1 : q = 1
      · subst q1; exact ⟨_, _, _, rfl, rfl, h⟩
      · rw [if_neg q0, if_neg q1, if_neg q0]
        refine ⟨_, _, _, ?_, rfl, h⟩
        by_cases q2 : q < 0
        · rw [if_pos q2]
        · rw [if_neg q2, if_neg]
          intro q3
          rw [fa_le, i1] at q3; rw [fa_lt, i0] at q2; rw [fa_eq, i0] at q0; rw [fa_eq, i1] at q1
          omega
end O

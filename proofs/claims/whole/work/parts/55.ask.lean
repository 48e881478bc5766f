/-- two loops side by side -/
theorem iter_ind2 {α β : Type} {b : α → α} {z : α} {b' : β → β} {z' : β} {P : Nat → α → β → Prop} {e : Nat} (hx : ∀ k k', P e (b k) (b' k')) (hs : ∀ j, j < e → ∀ k k', P (j + 1) k k' → P j (b k) (b' k')) {n n' : Nat} (hn : e < n) (hn' : e < n') : P 0 (iter b z n) (iter b' z' n') := by
  have key : ∀ d j n n', j + d = e → d < n → d < n' → P j (iter b z n) (iter b' z' n') := by
    intro d
    induction d with
    | zero =>
      intro j n n' h1 h2 h3
      have h1 : j = e := by omega
      subst h1
      obtain ⟨n, rfl⟩ : ∃ q, n = q + 1 := ⟨n - 1, by omega⟩
      obtain ⟨n', rfl⟩ : ∃ q, n' = q + 1 := ⟨n' - 1, by omega⟩
      exact hx _ _
    | succ d ih =>
      intro j n n' h1 h2 h3
      obtain ⟨n, rfl⟩ : ∃ q, n = q + 1 := ⟨n - 1, by omega⟩
      obtain ⟨n', rfl⟩ : ∃ q, n' = q + 1 := ⟨n' - 1, by omega⟩
      exact hs j (by omega) _ _ (ih (j + 1) n n' (by omega) (by omega) (by omega))
  exact key e 0 n n' (by omega) hn hn'
theorem number_m (N : Nat) {t t' : mS} (e : t' 0 = t 0) {x r : Int32} (h : f9_isNumber N x t = some (r, t)) : f9_isNumber N x t' = some (r, t') := by
  unfold f9_isNumber f9_in at h ⊢
  rw [e]
  by_cases h1 : x < 0
  · rw [if_pos h1] at h ⊢
    have q : r = 0 := (congrArg (fun o => (o.getD (0, t)).1) h).symm
    subst q; rfl
  · rw [if_neg h1] at h ⊢
    by_cases h2 : t 0 (0 : Int32).toNatClampNeg < x
    · rw [if_pos h2] at h ⊢
      have q : r = 0 := (congrArg (fun o => (o.getD (0, t)).1) h).symm
      subst q; rfl
    · rw [if_neg h2] at h ⊢
      have q : r = 1 := (congrArg (fun o => (o.getD (0, t)).1) h).symm
      subst q; rfl
theorem Sm.mu {t t' : mS} (h : Sm t t') (f i : Nat) (v : Int32) : Sm (mu t f i v) (mu t' f i v) := by
  intro g h1 h2 h3 h4
  funext j
  rw [mu_rd, mu_rd, h g h1 h2 h3 h4]
section O
variable {N : Nat} {s : cS} {t : mS}
theorem o_partOf (h : Rel s t) (p q w : Int32) : ∃ r s1 t1, f8_partOf N p q w s = some (r, s1) ∧ f9_partOf N p q w t = some (r, t1) ∧ Rel s1 t1 := by
  have h := h.thrown
  unfold f8_partOf f9_partOf
  generalize mu t 4 0 0 = t at h ⊢
  rcases part_of N h.1 p q with ⟨h1, h2⟩ | ⟨m, k, hm, h8, hk, hk16, rfl, rfl, h1, h2⟩
  · rw [h1, h2]; exact ⟨_, _, _, rfl, rfl, h⟩
  · rw [h1, h2]
    have hp := h.1.part hm hk
    have hl := pa_lt h8 hk16
    have hi : 16 * m + k < 128 := by omega
    simp only [Option.bind_some, at_nI]
    rw [if_neg (show ¬ (1 : Int32) = 0 by decide)]
    unfold f9_in
    rcases lim w (show 4 < 2 ^ 29 by omega) with q1 | ⟨q1, q2, q3⟩ | ⟨c, hc, rfl, q1, q2, q3⟩
    · rw [if_pos q1]
      rw [if_neg (fun e => by rw [e] at q1; exact absurd q1 (by decide)), if_neg (fun e => by rw [e] at q1; exact absurd q1 (by decide)), if_neg (fun e => by rw [e] at q1; exact absurd q1 (by decide)), if_neg (fun e => by rw [e] at q1; exact absurd q1 (by decide))]
      exact ⟨_, _, _, rfl, rfl, h⟩
    · rw [if_neg q1, if_pos (show (3 : Int32) < w from q3)]
      rw [if_neg (fun e => by rw [e] at q2; exact absurd q2 (by decide)), if_neg (fun e => by rw [e] at q2; exact absurd q2 (by decide)), if_neg (fun e => by rw [e] at q2; exact absurd q2 (by decide)), if_neg (fun e => by rw [e] at q2; exact absurd q2 (by decide))]
      exact ⟨_, _, _, rfl, rfl, h⟩
    · rw [if_neg q1, if_neg (show ¬ (3 : Int32) < nI c from q3)]
      simp only [Option.bind_some]
      rw [if_neg (show ¬ (1 : Int32) = 0 by decide), nI_add]
      have a := ix (pa m k + c) 530 (by omega) (by omega)
      rw [if_pos a.1, a.2]
      rcases (show c = 0 ∨ c = 1 ∨ c = 2 ∨ c = 3 by omega) with rfl | rfl | rfl | rfl
      · rw [if_pos (show nI 0 = 0 from rfl), if_pos hi, hp.1]; exact ⟨_, _, _, rfl, rfl, h⟩
      · rw [if_neg (show ¬ nI 1 = 0 by decide), if_pos (show nI 1 = 1 from rfl), if_pos hi, hp.2.1]; exact ⟨_, _, _, rfl, rfl, h⟩
      · rw [if_neg (show ¬ nI 2 = 0 by decide), if_neg (show ¬ nI 2 = 1 by decide), if_pos (show nI 2 = 2 from rfl), if_pos hi, hp.2.2.1]; exact ⟨_, _, _, rfl, rfl, h⟩
      · rw [if_neg (show ¬ nI 3 = 0 by decide), if_neg (show ¬ nI 3 = 1 by decide), if_neg (show ¬ nI 3 = 2 by decide), if_pos (show nI 3 = 3 from rfl), if_pos hi, hp.2.2.2]; exact ⟨_, _, _, rfl, rfl, h⟩
theorem o_read (hN : 100 ≤ N) (h : Rel s t) (p q : Int32) : ∃ r s1 t1, f8_read N p q s = some (r, s1) ∧ f9_read N p q t = some (r, t1) ∧ Rel s1 t1 := by
  have h := h.thrown
  unfold f8_read f9_read
  generalize mu t 4 0 0 = t at h ⊢
  rcases meter_of N h.1 p with ⟨h1, h2⟩ | ⟨m, hm, h8, rfl, h1, h2⟩
  · rw [h1, h2]; exact ⟨_, _, _, rfl, rfl, h⟩
  rw [h1, h2]
  rcases number_of N h.1 q with ⟨g1, g2⟩ | ⟨j, hj, hj2, rfl, g1, g2⟩
  · simp only [Option.bind_some]
    rw [if_neg (show ¬ (1 : Int32) = 0 by decide), g1, g2]; exact ⟨_, _, _, rfl, rfl, h⟩
  obtain ⟨s1, a1, a2, -, -⟩ := c_code hN h.1 hm (num_bnd hj2) (Sc.rf s)
  obtain ⟨t1, b1, b2⟩ := m_code hN (wf_mOk h.1.1 hm) (nI j) (Sm.rf t)
  simp only [Option.bind_some]
  rw [if_neg (show ¬ (1 : Int32) = 0 by decide), g1, g2]
  simp only [Option.bind_some]
  rw [if_neg (show ¬ (1 : Int32) = 0 by decide), if_pos h8, a2, b2]
  exact ⟨_, _, _, rfl, rfl, h.sc a1 b1⟩
theorem o_trail (hN : 100 ≤ N) (h : Rel s t) (p q : Int32) : ∃ r s1 t1, f8_trail N p q s = some (r, s1) ∧ f9_trail N p q t = some (r, t1) ∧ Rel s1 t1 := by
  have h := h.thrown
  unfold f8_trail f9_trail
  generalize mu t 4 0 0 = t at h ⊢
  rcases meter_of N h.1 p with ⟨h1, h2⟩ | ⟨m, hm, h8, rfl, h1, h2⟩
  · rw [h1, h2]; exact ⟨_, _, _, rfl, rfl, h⟩
  rw [h1, h2]
  rcases number_of N h.1 q with ⟨g1, g2⟩ | ⟨j, hj, hj2, rfl, g1, g2⟩
  · simp only [Option.bind_some]
    rw [if_neg (show ¬ (1 : Int32) = 0 by decide), g1, g2]; exact ⟨_, _, _, rfl, rfl, h⟩
  obtain ⟨s1, a1, a2, a3, -⟩ := c_code hN h.1 hm (num_bnd hj2) (Sc.rf s)
  obtain ⟨t1, b1, b2, -, b3, -⟩ := m_reads hN (wf_mOk h.1.1 hm) (nI j) (Sm.rf t)
  simp only [Option.bind_some]
  rw [if_neg (show ¬ (1 : Int32) = 0 by decide), g1, g2]
  simp only [Option.bind_some]
  rw [if_neg (show ¬ (1 : Int32) = 0 by decide), if_pos h8, a2, b2]
  simp only [Option.bind_some, a3, b3]
  exact ⟨_, _, _, rfl, rfl, h.sc a1 b1⟩
theorem o_rest (hN : 100 ≤ N) (h : Rel s t) (p q : Int32) : ∃ r s1 t1, f8_rest N p q s = some (r, s1) ∧ f9_rest N p q t = some (r, t1) ∧ Rel s1 t1 := by
  have h := h.thrown
  unfold f8_rest f9_rest
  generalize mu t 4 0 0 = t at h ⊢
  rcases meter_of N h.1 p with ⟨h1, h2⟩ | ⟨m, hm, h8, rfl, h1, h2⟩
  · rw [h1, h2]; exact ⟨_, _, _, rfl, rfl, h⟩
  rw [h1, h2]
  rcases number_of N h.1 q with ⟨g1, g2⟩ | ⟨j, hj, hj2, rfl, g1, g2⟩
  · simp only [Option.bind_some]
    rw [if_neg (show ¬ (1 : Int32) = 0 by decide), g1, g2]; exact ⟨_, _, _, rfl, rfl, h⟩
  obtain ⟨s1, a1, a2, -, a3⟩ := c_code hN h.1 hm (num_bnd hj2) (Sc.rf s)
  obtain ⟨t1, b1, b2, -, -, b3⟩ := m_reads hN (wf_mOk h.1.1 hm) (nI j) (Sm.rf t)
  simp only [Option.bind_some]
  rw [if_neg (show ¬ (1 : Int32) = 0 by decide), g1, g2]
  simp only [Option.bind_some]
  rw [if_neg (show ¬ (1 : Int32) = 0 by decide), if_pos h8, a2, b2]
  simp only [Option.bind_some, a3, b3]
  exact ⟨_, _, _, rfl, rfl, h.sc a1 b1⟩
theorem o_still (h : Rel s t) : ∃ r s1 t1, f8_still N s = some (r, s1) ∧ f9_still N t = some (r, t1) ∧ Rel s1 t1 := by
  have h := h.thrown
  unfold f8_still f9_still
  generalize mu t 4 0 0 = t at h ⊢
  have hn := h.1.2.2.2.1
  obtain ⟨⟨h1, h2, h3, ⟨n, hn, n1, n2, -⟩, h5, h6⟩, h7⟩ := h
  rw [n1, n2]
  have e : ∀ f, f ≠ 16 → (cu s 16 0 0).1 f = s.1 f := fun f hf => cu_ne s 0 0 hf
  have e' : ∀ f, f ≠ 10 → mu t 10 0 0 f = t f := fun f hf => mu_ne t 0 0 hf
  refine ⟨_, _, _, rfl, rfl, ⟨?_, ?_, ?_, ⟨0, by omega, cu_at _ _ _ _, mu_at _ _ _ _, fun i hi => absurd hi (Nat.not_lt_zero i)⟩, h5.fr (fun f hf => e f (by omega)) (fun f hf => e' f (by omega)), h6.fr (fun f hf => e f (by omega)) rfl (e' 1 (by omega)) (e' 2 (by omega))⟩, h7.fr (fun f hf => e f (by omega)) (e' 0 (by omega))⟩
  · rw [e' 0 (by omega)]; exact h1
  · rw [e' 0 (by omega), vC_fr (fun f hf => e f (by omega))]; exact h2
  · rw [e 3 (by omega), e' 3 (by omega)]; exact h3
theorem o_clear (h : Rel s t) : ∃ r s1 t1, f8_clear N s = some (r, s1) ∧ f9_clear N t = some (r, t1) ∧ Rel s1 t1 := by
  have h := h.thrown
  unfold f8_clear f9_clear
  generalize mu t 4 0 0 = t at h ⊢
  obtain ⟨⟨h1, h2, h3, h4, ⟨n, hn, n1, n2, -⟩, h6⟩, h7⟩ := h
  rw [n1, n2]
  have e : ∀ f, f ≠ 2 → (cu s 2 0 0).1 f = s.1 f := fun f hf => cu_ne s 0 0 hf
  have e' : ∀ f, f ≠ 11 → mu t 11 0 0 f = t f := fun f hf => mu_ne t 0 0 hf
  refine ⟨_, _, _, rfl, rfl, ⟨?_, ?_, ?_, h4.fr (fun f hf => e f (by omega)) (fun f hf => e' f (by omega)), ⟨0, by omega, cu_at _ _ _ _, mu_at _ _ _ _, fun i hi => absurd hi (Nat.not_lt_zero i)⟩, h6.fr (fun f hf => e f (by omega)) rfl (e' 1 (by omega)) (e' 2 (by omega))⟩, h7.fr (fun f hf => e f (by omega)) (e' 0 (by omega))⟩
  · rw [e' 0 (by omega)]; exact h1
  · rw [e' 0 (by omega), vC_fr (fun f hf => e f (by omega))]; exact h2
  · rw [e 3 (by omega), e' 3 (by omega)]; exact h3
theorem o_beyond (hN : 5000 ≤ N) (h : Rel s t) (p : Int32) : ∃ r s1 t1, f8_beyond N p s = some (r, s1) ∧ f9_beyond N p t = some (r, t1) ∧ Rel s1 t1 := by
  have h := h.thrown
  unfold f8_beyond f9_beyond
  generalize mu t 4 0 0 = t at h ⊢
  rcases meter_of N h.1 p with ⟨h1, h2⟩ | ⟨m, hm, h8, rfl, h1, h2⟩
  · rw [h1, h2]
    unfold f9_no
    exact ⟨_, _, _, rfl, rfl, h.tr 2⟩
  rw [h1, h2]
  simp only [Option.bind_some]
  rw [if_neg (show ¬ (1 : Int32) = 0 by decide)]
  unfold f8_beyond_b16
  replace h := h.tr 0
  replace hm : m < vM (mu t 3 0 0 0) := hm
  generalize cu s 3 0 0 = s at h ⊢
  generalize mu t 3 0 0 = t at h hm ⊢
  obtain ⟨T, M, hT1, hT2, hM, e1, e2, e3, e4, e5, e6⟩ := h.1.base
  suffices q : ∀ s' t', Sc s s' → Sm t t' → ∃ r s1 t1, f8_beyond_l27 N (nI m) N m (nI 0) s' = some (r, s1) ∧ f9_beyond_l26 N (nI m) N (nI 0) t' = some (r, t1) ∧ Sc s s1 ∧ Sm t t1 by
    obtain ⟨r, s1, t1, a1, a2, a3, a4⟩ := q s t (Sc.rf s) (Sm.rf t)
    exact ⟨r, s1, t1, a1, a2, h.sc a3 a4⟩
  refine iter_ind2 (P := fun j (f : Nat → Int32 → cS → Option (Int32 × cS)) (g : Int32 → mS → Option (Int32 × mS)) => ∀ s' t', Sc s s' → Sm t t' → ∃ r s1 t1, f m (nI j) s' = some (r, s1) ∧ g (nI j) t' = some (r, t1) ∧ Sc s s1 ∧ Sm t t1) (e := T + 1) ?_ ?_ (by omega) (by omega)
  · intro k k' s' t' hs ht
    have r' := h.sc hs ht
    obtain ⟨-, -, -, -, -, -, -, -⟩ := r'.1.base
    have q1 : s'.1 0 0 = nI T := by rw [hs.1 0 (by omega) (by omega) (by omega)]; exact e1
    have q2 : t' 0 0 = nI T := by rw [ht 0 (by omega) (by omega) (by omega) (by omega)]; exact e2
    have q3 : nI T < nI (T + 1) := nI_lt (by omega) (by omega)
    unfold f8_beyond_l27b f9_beyond_l26b
    rw [tc0, q1, q2, if_pos q3, if_pos q3]
    exact ⟨_, _, _, rfl, rfl, hs, ht⟩
  · intro j hj k k' ih s' t' hs ht
    have q1 : s'.1 0 0 = nI T := by rw [hs.1 0 (by omega) (by omega) (by omega)]; exact e1
    have q2 : t' 0 0 = nI T := by rw [ht 0 (by omega) (by omega) (by omega) (by omega)]; exact e2
    have q3 : ¬ nI T < nI j := nI_nlt (by omega) (by omega)
    obtain ⟨s1, a1, a2, -, a3⟩ := c_code (N := N) (by omega) h.1 hm (num_bnd (show j ≤ 4095 by omega)) hs
    obtain ⟨t1, b1, b2, -, -, b3⟩ := m_reads (N := N) (by omega) (wf_mOk h.1.1 hm) (nI j) ht
    have r1 := h.sc a1 b1
    unfold f8_beyond_l27b f9_beyond_l26b
    rw [tc0, q1, q2, if_neg q3, if_neg q3, if_pos h8, a2, b2]
    simp only [Option.bind_some, a3, b3]
    rcases number_of N r1.1 (cdq (t 0) m (nI j)).2.2.1 with ⟨g1, g2⟩ | ⟨x, -, -, -, g1, g2⟩
    · rw [g1, g2]; exact ⟨_, _, _, rfl, rfl, a1, b1⟩
    · rw [g1, g2]
      simp only [Option.bind_some]
      rw [if_neg (show ¬ (1 : Int32) = 0 by decide), if_neg (show ¬ (1 : Int32) = 0 by decide), nI_1]
      exact ih s1 t1 a1 b1
theorem o_joined (hN : 100 ≤ N) (h : Rel s t) (p1 p2 p3 p4 : Int32) : ∃ r s1 t1, f8_joined N p1 p2 p3 p4 s = some (r, s1) ∧ f9_joined N p1 p2 p3 p4 t = some (r, t1) ∧ Rel s1 t1 := by
  have h := h.thrown
  unfold f8_joined f9_joined
  generalize mu t 4 0 0 = t at h ⊢
  have k2 : ¬ (2 : Int32) = 0 := by decide
  have k1 : ¬ (1 : Int32) = 0 := by decide
  rcases meter_of N h.1 p1 with ⟨h1, h2⟩ | ⟨m, hm, h8, rfl, h1, h2⟩
  · rw [h1, h2]
    simp only [Option.bind_some]
    rcases meter_of N h.1 p2 with ⟨g1, g2⟩ | ⟨m2, hm2, h82, rfl, g1, g2⟩
    all_goals
      rw [g1]
      exact ⟨_, _, _, rfl, rfl, h.tr 2⟩
  rw [h1, h2]
  simp only [Option.bind_some]
  rw [if_neg k1]
  rcases meter_of N h.1 p2 with ⟨g1, g2⟩ | ⟨m2, hm2, h82, rfl, g1, g2⟩
  · rw [g1, g2]; exact ⟨_, _, _, rfl, rfl, h.tr 2⟩
  rw [g1, g2]
  simp only [Option.bind_some]
  rw [if_neg k1]
  rcases number_of N h.1 p4 with ⟨i1, i2⟩ | ⟨j, hj, hj2, rfl, i1, i2⟩
  · rw [i1, i2]
    simp only [Option.bind_some, f8_joined_b53, cu_at]
    rw [if_neg k2]
    exact ⟨_, _, _, rfl, rfl, h.tr 2⟩
  rw [i1, i2]
  simp only [Option.bind_some]
  rw [if_neg k1, if_neg k1]
  obtain ⟨t1, b1, b2, b4, -, b3⟩ := m_reads hN (wf_mOk h.1.1 hm) (nI j) (Sm.rf t)
  rw [b2]
  simp only [Option.bind_some]
  have hq := h.sc (Sc.rf s) b1
  rcases within_of N s t1 p3 1000 with ⟨w1, w2⟩ | ⟨-, -, w1, w2⟩
  · rw [w1, w2]
    simp only [Option.bind_some, f8_joined_b53, cu_at]
    rw [if_neg k1]
    exact ⟨_, _, _, rfl, rfl, hq.tr 1⟩
  rw [w1, w2]
  simp only [Option.bind_some, f8_joined_b53, cu_at]
  rw [if_neg k1, if_neg k1, if_pos trivial, if_pos h8]
  have hz := h.tr 0
  obtain ⟨s1, a1, a2, -, a3⟩ := c_code hN hz.1 (t := mu t 3 0 0) hm (num_bnd hj2) (Sc.rf (cu s 3 0 0))
  replace a2 : f3_codeOf N m (nI j) (cu s 3 0 0) = some ((cdq (t 0) m (nI j)).1, s1) := a2
  replace a3 : s1.1 9 m = (cdq (t 0) m (nI j)).2.2.1 := a3
  rw [a2]
  simp only [Option.bind_some, a3, b3, b4]
  have hb := b1.mu 3 0 0
  have r1 := hz.sc a1 hb
  have h0 : (mu t1 3 0 0) 0 = t1 0 := mu_ne t1 0 0 (by omega)
  rcases number_of N r1.1 (cdq (t 0) m (nI j)).2.2.1 with ⟨g1, g2⟩ | ⟨x, -, hx, ex, g1, g2⟩
  · rw [g1, number_m N h0.symm g2]
    have := r1.tr 1
    rw [mu_mu] at this
    exact ⟨_, _, _, rfl, rfl, this⟩
  · rw [g1, number_m N h0.symm g2]
    simp only [Option.bind_some]
    rw [if_neg k1, if_neg k1, if_pos h82]
    obtain ⟨s2, c1, c2, -, -⟩ := c_code hN hz.1 (t := mu t 3 0 0) hm2 (x := (cdq (t 0) m (nI j)).2.2.1) (by rw [ex]; exact num_bnd hx) a1
    obtain ⟨t2, d1, d2⟩ := m_code hN (t := mu t 3 0 0) (wf_mOk hz.1.1 hm2) (cdq (t 0) m (nI j)).2.2.1 hb
    rw [c2, d2]
    exact ⟨_, _, _, rfl, rfl, hz.sc c1 d1⟩
end O

theorem rst_code (kd isk wok bok x kk : Int32) (q : Int32 × Int32 × Int32 × Int32 × Int32) : (rst kd isk wok bok x kk q).1 = q.1 ∨ (rst kd isk wok bok x kk q).1 = q.1 + 1 ∨ (rst kd isk wok bok x kk q).1 = q.1 + wok := by
  unfold rst
  repeat' split
  all_goals first | exact Or.inl rfl | exact Or.inr (Or.inl rfl) | exact Or.inr (Or.inr rfl)
theorem rdS_bnd (kd : Int32) (is wo bo : Nat → Int32) (x : Int32) : ∀ n : Nat, n ≤ 16 → (∀ k, k < n → bnd 8500 (wo k)) → bnd (8500 * n) (rdS kd is wo bo x n).1 := by
  intro n
  induction n with
  | zero => intro _ _; unfold bnd rdS; rw [i0]; omega
  | succ n ih =>
    intro hn hw
    obtain ⟨a1, a2⟩ := ih (by omega) (fun k hk => hw k (by omega))
    obtain ⟨b1, b2⟩ := hw n (by omega)
    simp only [rdS]
    unfold bnd
    rcases rst_code kd (is n) (wo n) (bo n) x (nI n) (rdS kd is wo bo x n) with e | e | e
    · rw [e]; omega
    · rw [e, fb_addI (by rw [i1]; omega) (by rw [i1]; omega), i1]; omega
    · rw [e, fb_addI (by omega) (by omega)]; omega
theorem code_bnd {v : Nat → Int32} (h : Wf v) {m : Nat} (hm : m < vM v) (x : Int32) : bnd 136000 (cdq v m x).1 := by
  have hc := (h.cn hm).1
  obtain ⟨a1, a2⟩ := rdS_bnd (v (2 + m)) (vis v m) (vwo v m) (vbo v m) x (vcn v m) hc (fun k hk => ((h.2.2 m hm).2.2 k hk).2.2.1)
  unfold cdq
  exact ⟨by omega, by omega⟩
/-- both hold the same row of codes c, 0 to T -/
def Row (s : cS) (t : mS) (T : Nat) (c : Nat → Int32) : Prop := 1 ≤ T ∧ T ≤ 4095 ∧ s.1 14 0 = nI T ∧ t 0 0 = nI T ∧ (∀ x : Nat, x ≤ T → s.1 15 x = c x) ∧ (∀ x : Nat, x ≤ T → t 15 x = c x) ∧ ∀ x : Nat, bnd 136000 (c x)
theorem tabled {N : Nat} (hN : 5000 ≤ N) {s : cS} {t : mS} (h : Rel s t) (p : Int32) : (∃ s1, f8_isTabled N p s = some (0, s1) ∧ f9_isMeter N p t = some (0, t) ∧ Rel s1 (mu t 3 0 2)) ∨ ∃ T c s1 t1, f8_isTabled N p s = some (1, s1) ∧ f9_isMeter N p t = some (1, t) ∧ f9_readAll N p (mu t 3 0 0) = some t1 ∧ Rel s1 t1 ∧ Row s1 t1 T c := by
  unfold f8_isTabled
  rcases meter_of N h.1 p with ⟨h1, h2⟩ | ⟨m, hm, h8, rfl, h1, h2⟩
  · left
    have : f8_fillTable N p s = some (0, s) := by unfold f8_fillTable; rw [h1]; rfl
    rw [this]
    exact ⟨_, rfl, h2, h.tr 2⟩
  · right
    obtain ⟨T, M, hT1, hT2, hM, e1, e2, e3, e4, e5, e6⟩ := h.1.base
    obtain ⟨s1, a1, a2, a3, a4⟩ := fill_some hN h hm
    obtain ⟨t1, b1, b2, b3⟩ := readAll_some hN (h.tr 0) (m := m) hm
    have hw := h.1.1
    replace b3 : ∀ x : Nat, x ≤ (t 0 0).toNatClampNeg → t1 15 x = (cdq (t 0) m (nI x)).1 := b3
    have r1 := a2.tr 0
    have t0 : t1 0 = t 0 := b2 0 (by omega) (by omega) (by omega) (by omega) (by omega)
    rw [a1]
    refine ⟨T, fun x => (cdq (t 0) m (nI x)).1, cu s1 3 0 0, t1, rfl, h2, b1, ⟨b2.rel r1.1, r1.2.fr (fun _ _ => rfl) (b2 0 (by omega) (by omega) (by omega) (by omega) (by omega))⟩, hT1, hT2, ?_, ?_, ?_, ?_, fun x => code_bnd hw hm _⟩
    · rw [cu_ne s1 0 0 (by omega), a3, e2]
    · rw [t0, e2]
    · intro x hx; rw [cu_ne s1 0 0 (by omega)]; exact a4 x (by omega)
    · intro x hx; exact b3 x (by omega)
section R
variable {N T : Nat} {c : Nat → Int32} {s : cS} {t : mS}
theorem codeAt_some (h : Row s t T c) {x : Nat} (hx : x ≤ T) : f7_codeAt N (nI x) s = some (c x, s) := by
  obtain ⟨h1, h2, h3, h4, h5, h6, -⟩ := h
  have hi := ix x 4096 (by omega) (by omega)
  unfold f7_codeAt
  rw [if_neg (nI_pos (by omega)), if_neg (show ¬ (4096 : Int32) ≤ nI x from nI_ge (b := 4096) (by omega) (by omega)), if_pos hi.1, hi.2, h5 x hx]
/-- a span ends at x -/
abbrev en (T : Nat) (c : Nat → Int32) (x : Nat) : Prop := x = T ∨ c (x + 1) ≠ c x
theorem ends_some (h : Row s t T c) {x : Nat} (hx : x ≤ T) : f7_endsSpan N (nI x) s = some (if en T c x then 1 else 0, s) := by
  unfold f7_endsSpan
  rw [h.2.2.1]
  by_cases q : x = T
  · subst q
    rw [if_pos (Int32.le_refl _), if_pos (Or.inl rfl)]
  · have := h.2.1
    rw [if_neg (nI_ge (by omega) (by omega)), nI_1, codeAt_some h (by omega)]
    simp only [Option.bind_some]
    rw [codeAt_some h hx]
    simp only [Option.bind_some]
    by_cases z : c (x + 1) = c x
    · rw [if_pos z, if_neg (show ¬ en T c x from fun e => e.elim q (fun e => e z))]
    · rw [if_neg z, if_pos (show en T c x from Or.inr z)]
theorem m15 (h : Row s t T c) {x : Nat} (hx : x ≤ T) : t 15 x = c x := h.2.2.2.2.2.1 x hx
/-- the reference's look at x and the one before -/
theorem pos_some (h : Row s t T c) {x : Nat} (hx : x + 1 ≤ T) : inB (nI (x + 1)) 4096 = true ∧ inB (nI (x + 1) - 1) 4096 = true ∧ (nI (x + 1)).toNatClampNeg = x + 1 ∧ (nI (x + 1) - 1).toNatClampNeg = x := by
  have := h.2.1
  have a := ix (x + 1) 4096 (by omega) (by omega)
  have b := ix x 4096 (by omega) (by omega)
  rw [nI_pred]
  exact ⟨a.1, b.1, a.2, b.2⟩
theorem spans_pure (hN : 5000 ≤ N) (h : Row s t T c) : ∃ r, f7_spanCount N s = some (r, s) ∧ f9_spans_l33 N (nI 0) N 1 1 t = some (r, t) := by
  have hT := h.2.1
  have key : ∀ a : Int32, ∃ r, f7_spanCount_l4 N N a (nI 0) s = some (r, s) ∧ f9_spans_l33 N (nI 0) N (a + 1) (nI (0 + 1)) t = some (r, t) := by
    refine iter_ind3 (P := fun j (f : Int32 → Int32 → cS → Option (Int32 × cS)) (g : Int32 → Int32 → mS → Option (Int32 × mS)) => ∀ a : Int32, ∃ r, f a (nI j) s = some (r, s) ∧ g (a + 1) (nI (j + 1)) t = some (r, t)) (e := T) ?_ ?_ (by omega) (by omega)
    · intro k k' a
      refine ⟨a + 1, ?_, ?_⟩
      · unfold f7_spanCount_l4b
        rw [h.2.2.1, if_neg (nI_nlt (by omega) (by omega)), ends_some h (by omega), if_pos (Or.inl rfl)]
        simp only [Option.bind_some]
        rw [if_neg (show ¬ (1 : Int32) = 0 by decide), nI_1, h.2.2.1, if_pos (nI_lt (by omega) (by omega))]
      · unfold f9_spans_l33b
        rw [tc0, h.2.2.2.1, if_pos (nI_lt (by omega) (by omega))]
    · intro j hj k k' ih a
      have hp := pos_some h (show j + 1 ≤ T by omega)
      unfold f7_spanCount_l4b f9_spans_l33b
      rw [h.2.2.1, if_neg (nI_nlt (by omega) (by omega)), ends_some h (by omega), tc0, h.2.2.2.1, if_neg (nI_nlt (by omega) (by omega)), if_pos hp.1, if_pos hp.2.1, hp.2.2.1, hp.2.2.2, m15 h (by omega), m15 h (by omega)]
      simp only [Option.bind_some]
      by_cases z : c (j + 1) = c j
      · rw [if_pos z, if_neg (show ¬ en T c j from fun e => e.elim (by omega) (fun e => e z)), if_pos rfl, Int32.add_zero, nI_1, nI_1]
        exact ih a
      · rw [if_neg z, if_pos (show en T c j from Or.inr z), if_neg (show ¬ (1 : Int32) = 0 by decide), nI_1, nI_1]
        exact ih (a + 1)
  obtain ⟨r, h1, h2⟩ := key 0
  exact ⟨r, h1, h2⟩
theorem o_spans (hN : 5000 ≤ N) (h : Rel s t) (p : Int32) : ∃ r s1 t1, f8_spans N p s = some (r, s1) ∧ f9_spans N p t = some (r, t1) ∧ Rel s1 t1 := by
  have h := h.thrown
  unfold f8_spans f9_spans
  generalize mu t 4 0 0 = t at h ⊢
  rcases tabled hN h p with ⟨s1, a1, a2, a3⟩ | ⟨T, c, s1, t1, a1, a2, a3, a4, a5⟩
  · rw [a1, a2]; exact ⟨_, _, _, rfl, rfl, a3⟩
  · rw [a1, a2]
    simp only [Option.bind_some]
    rw [if_neg (show ¬ (1 : Int32) = 0 by decide), if_neg (show ¬ (1 : Int32) = 0 by decide), a3]
    obtain ⟨r, b1, b2⟩ := spans_pure hN a5
    rw [b1]
    exact ⟨_, _, _, rfl, b2, a4⟩
theorem back_pure (hN : 5000 ≤ N) (h : Row s t T c) : ∃ r, f7_firstBack N s = some (r, s) ∧ f9_backOf N t = some (r, t) ∧ (r = -2 → ∀ x, x < T → c x ≤ c (x + 1)) := by
  have hT := h.2.1
  have key : (∀ x, x < 0 → c x ≤ c (x + 1)) → ∃ r, f7_firstBack_l2 N N (nI (0 + 1)) s = some (r, s) ∧ f9_backOf_l2 N N (nI (0 + 1)) t = some (r, t) ∧ (r = -2 → ∀ x, x < T → c x ≤ c (x + 1)) := by
    refine iter_ind3 (P := fun j (f : Int32 → cS → Option (Int32 × cS)) (g : Int32 → mS → Option (Int32 × mS)) => (∀ x, x < j → c x ≤ c (x + 1)) → ∃ r, f (nI (j + 1)) s = some (r, s) ∧ g (nI (j + 1)) t = some (r, t) ∧ (r = -2 → ∀ x, x < T → c x ≤ c (x + 1))) (e := T) ?_ ?_ (by omega) (by omega)
    · intro k k' hc
      unfold f7_firstBack_l2b f9_backOf_l2b
      rw [h.2.2.1, tc0, h.2.2.2.1, if_pos (nI_lt (by omega) (by omega)), if_pos (nI_lt (by omega) (by omega))]
      exact ⟨_, rfl, rfl, fun _ => hc⟩
    · intro j hj k k' ih hc
      have hp := pos_some h (show j + 1 ≤ T by omega)
      unfold f7_firstBack_l2b f9_backOf_l2b
      rw [h.2.2.1, if_neg (nI_nlt (by omega) (by omega)), codeAt_some h (by omega), tc0, h.2.2.2.1, if_neg (nI_nlt (by omega) (by omega)), if_pos hp.1, if_pos hp.2.1, hp.2.2.1, hp.2.2.2, m15 h (by omega), m15 h (by omega)]
      simp only [Option.bind_some]
      rw [nI_pred, codeAt_some h (by omega)]
      simp only [Option.bind_some]
      by_cases z : c j ≤ c (j + 1)
      · rw [if_pos z, if_pos z, nI_1]
        refine ih (fun x hx => ?_)
        by_cases q : x = j
        · rw [q]; exact z
        · exact hc x (by omega)
      · rw [if_neg z, if_neg z]
        refine ⟨_, rfl, rfl, fun e => ?_⟩
        have := (fa_eq _ _).mp e
        rw [nI_toInt (by omega), show (-2 : Int32).toInt = -2 by decide +kernel] at this
        omega
  exact key (fun x hx => absurd hx (Nat.not_lt_zero x))
theorem o_back (hN : 5000 ≤ N) (h : Rel s t) (p : Int32) : ∃ r s1 t1, f8_back N p s = some (r, s1) ∧ f9_back N p t = some (r, t1) ∧ Rel s1 t1 := by
  have h := h.thrown
  unfold f8_back f9_back
  generalize mu t 4 0 0 = t at h ⊢
  rcases tabled hN h p with ⟨s1, a1, a2, a3⟩ | ⟨T, c, s1, t1, a1, a2, a3, a4, a5⟩
  · rw [a1, a2]; exact ⟨_, _, _, rfl, rfl, a3⟩
  · rw [a1, a2]
    simp only [Option.bind_some]
    rw [if_neg (show ¬ (1 : Int32) = 0 by decide), if_neg (show ¬ (1 : Int32) = 0 by decide), a3]
    obtain ⟨r, b1, b2, -⟩ := back_pure hN a5
    simp only [Option.bind_some]
    rw [b1, b2]
    exact ⟨_, _, _, rfl, rfl, a4⟩
theorem edge_pure (hN : 5000 ≤ N) (h : Row s t T c) (p : Int32) : ∃ r : Nat, r ≤ T + 1 ∧ (∀ x, x < r → c x < p) ∧ (r ≤ T → p ≤ c r) ∧ f7_edgeOf N p s = some (nI r, s) ∧ f9_edgeOf N p t = some (nI r, t) := by
  have hT := h.2.1
  have key : (∀ x, x < 0 → c x < p) → ∃ r : Nat, r ≤ T + 1 ∧ (∀ x, x < r → c x < p) ∧ (r ≤ T → p ≤ c r) ∧ f7_edgeOf_l2 N p N (nI 0) s = some (nI r, s) ∧ f9_edgeOf_l2 N p N (nI 0) t = some (nI r, t) := by
    refine iter_ind3 (P := fun j (f : Int32 → cS → Option (Int32 × cS)) (g : Int32 → mS → Option (Int32 × mS)) => (∀ x, x < j → c x < p) → ∃ r : Nat, r ≤ T + 1 ∧ (∀ x, x < r → c x < p) ∧ (r ≤ T → p ≤ c r) ∧ f (nI j) s = some (nI r, s) ∧ g (nI j) t = some (nI r, t)) (e := T + 1) ?_ ?_ (by omega) (by omega)
    · intro k k' hc
      unfold f7_edgeOf_l2b f9_edgeOf_l2b
      rw [h.2.2.1, tc0, h.2.2.2.1, if_pos (nI_lt (by omega) (by omega)), if_pos (nI_lt (by omega) (by omega)), nI_1]
      exact ⟨T + 1, by omega, hc, fun q => absurd q (by omega), rfl, rfl⟩
    · intro j hj k k' ih hc
      have hi := ix j 4096 (by omega) (by omega)
      unfold f7_edgeOf_l2b f9_edgeOf_l2b
      rw [h.2.2.1, if_neg (nI_nlt (by omega) (by omega)), codeAt_some h (by omega), tc0, h.2.2.2.1, if_neg (nI_nlt (by omega) (by omega)), if_pos hi.1, hi.2, m15 h (by omega)]
      simp only [Option.bind_some]
      by_cases z : c j < p
      · rw [if_pos z, if_neg (fa_of_lt z).2.1, nI_1]
        refine ih (fun x hx => ?_)
        by_cases q : x = j
        · rw [q]; exact z
        · exact hc x (by omega)
      · rw [if_neg z, if_pos (fa_of_nlt z)]
        exact ⟨j, by omega, hc, fun _ => fa_of_nlt z, rfl, rfl⟩
  exact key (fun x hx => absurd hx (Nat.not_lt_zero x))
theorem o_edge (hN : 5000 ≤ N) (h : Rel s t) (p q : Int32) : ∃ r s1 t1, f8_edge N p q s = some (r, s1) ∧ f9_edge N p q t = some (r, t1) ∧ Rel s1 t1 := by
  have h := h.thrown
  unfold f8_edge f9_edge
  generalize mu t 4 0 0 = t at h ⊢
  rcases tabled hN h p with ⟨s1, a1, a2, a3⟩ | ⟨T, c, s1, t1, a1, a2, a3, a4, a5⟩
  · rw [a1, a2]; exact ⟨_, _, _, rfl, rfl, a3⟩
  · rw [a1, a2]
    simp only [Option.bind_some]
    rw [if_neg (show ¬ (1 : Int32) = 0 by decide), if_neg (show ¬ (1 : Int32) = 0 by decide), a3]
    obtain ⟨r, -, -, -, b1, b2⟩ := edge_pure hN a5 q
    simp only [Option.bind_some]
    rw [b1, b2]
    exact ⟨_, _, _, rfl, rfl, a4⟩
end R

/-! the row of codes of a METER -/
/-- two loops side by side; at the end each may go on by itself for a round -/
theorem iter_ind3 {α β : Type} {b : α → α} {z : α} {b' : β → β} {z' : β} {P : Nat → α → β → Prop} {e : Nat} (hx : ∀ k k', P e (b (b k)) (b' (b' k'))) (hs : ∀ j, j < e → ∀ k k', P (j + 1) k k' → P j (b k) (b' k')) {n n' : Nat} (hn : e + 1 < n) (hn' : e + 1 < n') : P 0 (iter b z n) (iter b' z' n') := by
  have key : ∀ d j n n', j + d = e → d + 1 < n → d + 1 < n' → P j (iter b z n) (iter b' z' n') := by
    intro d
    induction d with
    | zero =>
      intro j n n' h1 h2 h3
      have h1 : j = e := by omega
      subst h1
      obtain ⟨n, rfl⟩ : ∃ q, n = q + 1 + 1 := ⟨n - 2, by omega⟩
      obtain ⟨n', rfl⟩ : ∃ q, n' = q + 1 + 1 := ⟨n' - 2, by omega⟩
      exact hx _ _
    | succ d ih =>
      intro j n n' h1 h2 h3
      obtain ⟨n, rfl⟩ : ∃ q, n = q + 1 := ⟨n - 1, by omega⟩
      obtain ⟨n', rfl⟩ : ∃ q, n' = q + 1 := ⟨n' - 1, by omega⟩
      exact hs j (by omega) _ _ (ih (j + 1) n n' (by omega) (by omega) (by omega))
  exact key e 0 n n' (by omega) hn hn'
/-- all but the row and what reading leaves -/
def Fr (s s' : cS) : Prop := (∀ f, f ≠ 7 → f ≠ 8 → f ≠ 9 → f ≠ 15 → s'.1 f = s.1 f) ∧ s'.2 = s.2
def Fm (t t' : mS) : Prop := ∀ f, f ≠ 4 → f ≠ 12 → f ≠ 13 → f ≠ 14 → f ≠ 15 → t' f = t f
theorem Fr.rel {s s' : cS} {t : mS} (h : RelA s t) (f : Fr s s') : RelA s' t :=
  h.of (fun g hg => f.1 g hg.2.1 hg.2.2.1 hg.2.2.2.1 hg.2.2.2.2.2.1) (by rw [f.2]) (fun _ _ => rfl)
theorem Fm.rel {s : cS} {t t' : mS} (h : RelA s t) (f : Fm t t') : RelA s t' :=
  h.of (fun _ _ => rfl) rfl (fun g hg => f g hg.2 (by have := hg.1; omega) (by have := hg.1; omega) (by have := hg.1; omega) (by have := hg.1; omega))
theorem fill_some {N : Nat} (hN : 5000 ≤ N) {s : cS} {t : mS} (h : Rel s t) {m : Nat} (hm : m < vM (t 0)) : ∃ s1, f8_fillTable N (nI m) s = some (1, s1) ∧ Rel s1 t ∧ s1.1 14 0 = t 0 0 ∧ ∀ x : Nat, x ≤ (t 0 0).toNatClampNeg → s1.1 15 x = (cdq (t 0) m (nI x)).1 := by
  unfold f8_fillTable
  rcases meter_of N h.1 (nI m) with ⟨h1, h2⟩ | ⟨m', hm', h8, em, h1, h2⟩
  · obtain ⟨-, -, -⟩ := h.1.meter hm
    rcases meter_of N h.1 (nI m) with ⟨-, -⟩ | ⟨m', hm', h8, em, h1', h2'⟩
    · exfalso
      obtain ⟨T, M, hT1, hT2, hM, e1, e2, e3, e4, e5, e6⟩ := h.1.base
      unfold f8_meterAt at h1
      have hi := ix m 8 (by omega) (by omega)
      rw [e3, if_neg (nI_pos (by omega)), if_neg (nI_ge (by omega) (by omega)), if_neg (show ¬ (8 : Int32) ≤ nI m from nI_ge (b := 8) (by omega) (by omega)), if_pos hi.1] at h1
      have := congrArg (fun o => (o.getD (none, s)).1.isSome) h1
      simp at this
    · rw [h1] at h1'
      have := congrArg (fun o => (o.getD (none, s)).1.isSome) h1'
      simp at this
  · have h8' := (h.1.meter hm').1
    have : m = m' := (nI_eq (by have := h.1.meter hm; omega) (by omega)).mp em
    subst this
    rw [h1]
    simp only [Option.bind_some]
    obtain ⟨T, M, hT1, hT2, hM, e1, e2, e3, e4, e5, e6⟩ := h.1.base
    by_cases hc : s.1 4 0 = nI m
    · rw [if_pos hc]
      refine ⟨s, rfl, h, ?_⟩
      rcases h.2 with q | ⟨m2, hm2, q1, q2, q3⟩
      · exfalso; rw [q] at hc
        have := (fa_eq _ _).mp hc
        rw [nI_toInt (by omega)] at this
        rw [show (-1 : Int32).toInt = -1 by decide +kernel] at this
        omega
      · have : m = m2 := (nI_eq (by omega) (by have := h.1.meter hm2; omega)).mp (hc.symm.trans q1)
        subst this
        exact ⟨q2, q3⟩
    · rw [if_neg hc]
      unfold f7_fillFrom
      rw [e1, show jmin (nI T) (4096 - 1) = nI T by unfold jmin; rw [if_neg (show ¬ (4096 - 1 : Int32) < nI T from nI_nlt (a := 4095) (b := T) (by omega) (by omega))]]
      have hr : RelA (cu s 14 0 (nI T)) t := h.1.of (fun f hf => cu_ne s 0 (nI T) hf.2.2.2.2.1) rfl (fun _ _ => rfl)
      have h14 : (cu s 14 0 (nI T)).1 14 0 = nI T := cu_at _ _ _ _
      generalize hs0 : cu s 14 0 (nI T) = s0 at hr h14 ⊢
      have key : ∃ s1, f7_fillFrom_l17 N m (nI T) N (nI 0) s0 = some s1 ∧ Fr s0 s1 ∧ ∀ x : Nat, x < T + 1 → s1.1 15 x = (cdq (t 0) m (nI x)).1 := by
        refine iter_ind (P := fun j (f : Int32 → cS → Option cS) => ∀ s', Fr s0 s' → (∀ x : Nat, x < j → s'.1 15 x = (cdq (t 0) m (nI x)).1) → ∃ s1, f (nI j) s' = some s1 ∧ Fr s0 s1 ∧ ∀ x : Nat, x < T + 1 → s1.1 15 x = (cdq (t 0) m (nI x)).1) (e := T + 1) ?_ ?_ (show T + 1 < N by omega) s0 ⟨fun _ _ _ _ _ => rfl, rfl⟩ (fun x hx => absurd hx (Nat.not_lt_zero x))
        · intro k s' hf hx
          unfold f7_fillFrom_l17b
          rw [show s'.1 14 0 = nI T by rw [hf.1 14 (by omega) (by omega) (by omega) (by omega)]; exact h14, if_pos (nI_lt (by omega) (by omega))]
          exact ⟨s', rfl, hf, hx⟩
        · intro j hj k ih s' hf hx
          unfold f7_fillFrom_l17b
          have hj4 := ix j 4096 (by omega) (by omega)
          rw [show s'.1 14 0 = nI T by rw [hf.1 14 (by omega) (by omega) (by omega) (by omega)]; exact h14, if_neg (nI_nlt (by omega) (by omega)), if_neg (show ¬ (4096 : Int32) ≤ nI j from nI_ge (b := 4096) (by omega) (by omega)), if_pos h8]
          obtain ⟨s2, a1, a2, -, -⟩ := c_code (N := N) (by omega) (hf.rel hr) hm (num_bnd (show j ≤ 4095 by omega)) (Sc.rf s')
          rw [a2]
          simp only [Option.bind_some]
          rw [if_pos hj4.1, hj4.2, nI_1]
          refine ih _ ⟨fun f x7 x8 x9 x15 => ?_, ?_⟩ (fun x hx' => ?_)
          · rw [cu_ne _ _ _ x15, a1.1 f x7 x8 x9, hf.1 f x7 x8 x9 x15]
          · rw [cu_2, a1.2, hf.2]
          · rw [cu_rd]
            by_cases q : x = j
            · rw [if_pos ⟨rfl, q⟩, q]
            · rw [if_neg (fun z => q z.2), a1.1 15 (by omega) (by omega) (by omega)]
              exact hx x (by omega)
      obtain ⟨s1, k1, k2, k3⟩ := key
      rw [show f7_fillFrom_l17 N m (nI T) N 0 s0 = some s1 from k1]
      simp only [Option.bind_some]
      have hr1 := k2.rel hr
      have f14 : (cu s1 4 0 (nI m)).1 14 0 = t 0 0 := by
        rw [cu_ne s1 0 (nI m) (show 14 ≠ 4 by omega), k2.1 14 (by omega) (by omega) (by omega) (by omega), h14, e2]
      have f15 : ∀ x : Nat, x ≤ (t 0 0).toNatClampNeg → (cu s1 4 0 (nI m)).1 15 x = (cdq (t 0) m (nI x)).1 := by
        intro x hx
        rw [cu_ne s1 0 (nI m) (show 15 ≠ 4 by omega)]
        exact k3 x (by omega)
      exact ⟨_, rfl, ⟨hr1.of (fun f hf => cu_ne s1 0 (nI m) hf.1) rfl (fun _ _ => rfl), Or.inr ⟨m, hm, cu_at _ _ _ _, f14, f15⟩⟩, f14, f15⟩
theorem readAll_some {N : Nat} (hN : 5000 ≤ N) {s : cS} {t : mS} (h : Rel s t) {m : Nat} (hm : m < vM (t 0)) : ∃ t1, f9_readAll N (nI m) t = some t1 ∧ Fm t t1 ∧ ∀ x : Nat, x ≤ (t 0 0).toNatClampNeg → t1 15 x = (cdq (t 0) m (nI x)).1 := by
  obtain ⟨T, M, hT1, hT2, hM, e1, e2, e3, e4, e5, e6⟩ := h.1.base
  unfold f9_readAll
  rw [e6]
  have key : ∃ t1, f9_readAll_l2 N (nI m) N (nI 0) t = some t1 ∧ Fm t t1 ∧ ∀ x : Nat, x < T + 1 → t1 15 x = (cdq (t 0) m (nI x)).1 := by
    refine iter_ind (P := fun j (f : Int32 → mS → Option mS) => ∀ t', Fm t t' → (∀ x : Nat, x < j → t' 15 x = (cdq (t 0) m (nI x)).1) → ∃ t1, f (nI j) t' = some t1 ∧ Fm t t1 ∧ ∀ x : Nat, x < T + 1 → t1 15 x = (cdq (t 0) m (nI x)).1) (e := T + 1) ?_ ?_ (show T + 1 < N by omega) t (fun _ _ _ _ _ _ => rfl) (fun x hx => absurd hx (Nat.not_lt_zero x))
    · intro k t' hf hx
      unfold f9_readAll_l2b
      rw [tc0, show t' 0 0 = nI T by rw [hf 0 (by omega) (by omega) (by omega) (by omega) (by omega)]; exact e2, if_pos (nI_lt (by omega) (by omega))]
      exact ⟨t', rfl, hf, hx⟩
    · intro j hj k ih t' hf hx
      unfold f9_readAll_l2b
      have hj4 := ix j 4096 (by omega) (by omega)
      have h0 : t' 0 = t 0 := hf 0 (by omega) (by omega) (by omega) (by omega) (by omega)
      rw [tc0, show t' 0 0 = nI T by rw [h0]; exact e2, if_neg (nI_nlt (by omega) (by omega))]
      obtain ⟨t2, a1, a2⟩ := m_code (N := N) (t := t') (by omega) (by rw [h0]; exact wf_mOk h.1.1 hm) (nI j) (Sm.rf t')
      rw [a2]
      simp only [Option.bind_some]
      rw [if_pos hj4.1, hj4.2, nI_1]
      refine ih _ (fun f x4 x12 x13 x14 x15 => ?_) (fun x hx' => ?_)
      · rw [mu_ne _ _ _ x15]
        rw [a1 f x4 x12 x13 x14, hf f x4 x12 x13 x14 x15]
      · rw [mu_rd]
        by_cases q : x = j
        · rw [if_pos ⟨rfl, q⟩, q, h0]
        · rw [if_neg (fun z => q z.2), a1 15 (by omega) (by omega) (by omega) (by omega)]
          exact hx x (by omega)
  obtain ⟨t1, k1, k2, k3⟩ := key
  exact ⟨t1, k1, k2, fun x hx => k3 x (by omega)⟩

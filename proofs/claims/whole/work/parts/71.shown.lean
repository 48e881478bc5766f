/-- fault i is shown by x -/
def shw (t : mS) (i x : Nat) : Bool := !decide (fcd t i (nI x) = (cdq (t 0) (fm t i) (nI x)).1)
def msk (t : mS) (x : Nat) : Nat → Nat
  | 0 => 0
  | i + 1 => if shw t i x = true then msk t x i ||| 2 ^ i else msk t x i
section O
variable {N : Nat} {s : cS} {t : mS}
theorem meter_is (N : Nat) (h : RelA s t) {m : Nat} (hm : m < vM (t 0)) : f8_meterAt N (nI m) s = some (some m, s) := by
  obtain ⟨T, M, hT1, hT2, hM, e1, e2, e3, e4, e5, e6⟩ := h.base
  have hi8 := ix m 8 (by omega) (by omega)
  unfold f8_meterAt
  rw [e3, if_neg (nI_pos (by omega)), if_neg (nI_ge (by omega) (by omega)), if_neg (show ¬ (8 : Int32) ≤ nI m from nI_ge (b := 8) (by omega) (by omega)), if_pos hi8.1, hi8.2]
theorem shows_some (hN : 100 ≤ N) (h : RelA s t) {F : Nat} (hF : t 11 0 = nI F) (hF2 : F ≤ 10) {i : Nat} (hi : i < F) {x : Nat} (hx : x ≤ 4095) {s' : cS} {t' : mS} (hs : Sc s s') (ht : Sm t t') : (∃ s'', Sc s s'' ∧ f8_isShownBy N i (nI x) s' = some (if shw t i x = true then 1 else 0, s'')) ∧ ∃ t'', Sm t t'' ∧ f9_showsAt N (nI i) (nI x) t' = some (if shw t i x = true then 1 else 0, t'') := by
  obtain ⟨hm, h8, g7, ⟨s1, a1, a2⟩, t1, b1, b2⟩ := faulty_some hN h hF hF2 hi hx hs ht
  obtain ⟨F', hF', f1, f2, f3⟩ := h.2.2.2.2.1
  have : F' = F := (nI_eq (by omega) (by omega)).mp (f2.symm.trans hF)
  subst this
  have hs19 : s'.1 19 i = nI (fm t i) := by rw [hs.1 19 (by omega) (by omega) (by omega), (f3 i hi).1, g7]
  have hi10 := ix i 10 (by omega) (by omega)
  constructor
  · obtain ⟨s2, c1, c2, -, -⟩ := c_code hN h hm (num_bnd hx) a1
    unfold f8_isShownBy
    rw [if_pos (by omega), hs19, meter_is N (h.sc hs ht) (by rw [ht 0 (by omega) (by omega) (by omega) (by omega)]; exact hm)]
    simp only [Option.bind_some]
    rw [a2]
    simp only [Option.bind_some]
    rw [if_pos h8, c2]
    simp only [Option.bind_some]
    refine ⟨s2, c1, ?_⟩
    unfold shw
    by_cases z : fcd t i (nI x) = (cdq (t 0) (fm t i) (nI x)).1
    · rw [if_pos z, decide_eq_true z]; rfl
    · rw [if_neg z, decide_eq_false z]; rfl
  · obtain ⟨t2, d1, d2⟩ := m_code hN (wf_mOk h.1 hm) (nI x) b1
    unfold f9_showsAt
    rw [b2]
    simp only [Option.bind_some]
    rw [if_pos hi10.1, hi10.2, b1 7 (by omega) (by omega) (by omega) (by omega), g7, d2]
    simp only [Option.bind_some]
    refine ⟨t2, d1, ?_⟩
    unfold shw
    by_cases z : fcd t i (nI x) = (cdq (t 0) (fm t i) (nI x)).1
    · rw [if_pos z, decide_eq_true z]; rfl
    · rw [if_neg z, decide_eq_false z]; rfl
theorem fault_of (N : Nat) (h : RelA s t) (p : Int32) : ∃ F : Nat, F ≤ 10 ∧ s.1 2 0 = nI F ∧ t 11 0 = nI F ∧ ((f8_faultAt N p s = some (none, s) ∧ f9_in N p 0 (t 11 0 - 1) t = some (0, t)) ∨ ∃ i : Nat, i < F ∧ p = nI i ∧ f8_faultAt N p s = some (some i, s) ∧ f9_in N p 0 (t 11 0 - 1) t = some (1, t)) := by
  obtain ⟨F, hF, f1, f2, f3⟩ := h.2.2.2.2.1
  refine ⟨F, hF, f1, f2, ?_⟩
  unfold f8_faultAt f9_in
  rw [f1, f2]
  rcases lim p (show F < 2 ^ 29 by omega) with h1 | ⟨h1, h2, h3⟩ | ⟨i, hi, rfl, h1, h2, h3⟩
  · left; rw [if_pos h1, if_pos h1]; exact ⟨rfl, rfl⟩
  · left; rw [if_neg h1, if_pos h2, if_neg h1, if_pos h3]; exact ⟨rfl, rfl⟩
  · right
    have hii := ix i 10 (by omega) (by omega)
    refine ⟨i, hi, rfl, ?_, ?_⟩
    · rw [if_neg h1, if_neg h2, if_neg (show ¬ (10 : Int32) ≤ nI i from nI_ge (b := 10) (by omega) (by omega)), if_pos hii.1, hii.2]
    · rw [if_neg h1, if_neg h3]
theorem o_shown (hN : 5000 ≤ N) (h : Rel s t) (p : Int32) : ∃ r s1 t1, f8_shown N p s = some (r, s1) ∧ f9_shown N p t = some (r, t1) ∧ Rel s1 t1 := by
  have h := h.thrown
  unfold f8_shown f9_shown
  generalize mu t 4 0 0 = t at h ⊢
  obtain ⟨F, hF, f1, f2, ⟨h1, h2⟩ | ⟨i, hi, rfl, h1, h2⟩⟩ := fault_of N h.1 p
  · rw [h1, h2]
    unfold f9_no
    exact ⟨_, _, _, rfl, rfl, h.tr 2⟩
  rw [h1, h2]
  simp only [Option.bind_some]
  rw [if_neg (show ¬ (1 : Int32) = 0 by decide)]
  unfold f8_shown_b16
  replace h := h.tr 0
  replace f2 : mu t 3 0 0 11 0 = nI F := f2
  clear h1 h2 f1
  generalize cu s 3 0 0 = s at *
  generalize mu t 3 0 0 = t at *
  obtain ⟨T, M, hT1, hT2, hM, e1, e2, e3, e4, e5, e6⟩ := h.1.base
  suffices q : ∀ s' t', Sc s s' → Sm t t' → ∃ r s1 t1, f8_shown_l27 N (nI i) N i (nI 0) s' = some (r, s1) ∧ f9_shown_l33 N (nI i) N (nI 0) t' = some (r, t1) ∧ Sc s s1 ∧ Sm t t1 by
    obtain ⟨r, s1, t1, a1, a2, a3, a4⟩ := q s t (Sc.rf s) (Sm.rf t)
    exact ⟨r, s1, t1, a1, a2, h.sc a3 a4⟩
  refine iter_ind2 (P := fun j (f : Nat → Int32 → cS → Option (Int32 × cS)) (g : Int32 → mS → Option (Int32 × mS)) => ∀ s' t', Sc s s' → Sm t t' → ∃ r s1 t1, f i (nI j) s' = some (r, s1) ∧ g (nI j) t' = some (r, t1) ∧ Sc s s1 ∧ Sm t t1) (e := T + 1) ?_ ?_ (by omega) (by omega)
  · intro k k' s' t' hs ht
    unfold f8_shown_l27b f9_shown_l33b
    rw [hs.1 0 (by omega) (by omega) (by omega), e1, tc0, ht 0 (by omega) (by omega) (by omega) (by omega), e2, if_pos (nI_lt (by omega) (by omega)), if_pos (nI_lt (by omega) (by omega))]
    exact ⟨_, _, _, rfl, rfl, hs, ht⟩
  · intro j hj k k' ih s' t' hs ht
    obtain ⟨⟨s1, a1, a2⟩, t1, b1, b2⟩ := shows_some (N := N) (by omega) h.1 f2 hF hi (show j ≤ 4095 by omega) hs ht
    unfold f8_shown_l27b f9_shown_l33b
    rw [hs.1 0 (by omega) (by omega) (by omega), e1, tc0, ht 0 (by omega) (by omega) (by omega) (by omega), e2, if_neg (nI_nlt (by omega) (by omega)), if_neg (nI_nlt (by omega) (by omega)), a2, b2]
    simp only [Option.bind_some]
    by_cases z : shw t i j = true
    · rw [if_pos z, if_neg (show ¬ (1 : Int32) = 0 by decide), if_neg (show ¬ (1 : Int32) = 0 by decide)]
      exact ⟨_, _, _, rfl, rfl, a1, b1⟩
    · rw [if_neg z, if_pos rfl, if_pos rfl, nI_1]
      exact ih s1 t1 a1 b1
theorem msk_lt (t : mS) (x : Nat) : ∀ i, i ≤ 10 → msk t x i < 2 ^ i := by
  intro i
  induction i with
  | zero => intro _; exact Nat.zero_lt_one
  | succ i ih =>
    intro hi
    have a := ih (by omega)
    have hp : 2 ^ (i + 1) = 2 ^ i * 2 := Nat.pow_succ 2 i
    simp only [msk]
    split
    · exact Nat.or_lt_two_pow (by omega) (by omega)
    · omega
/-- both gather the same bits -/
theorem bits_some (hN : 100 ≤ N) (h : RelA s t) {F : Nat} (hF : t 11 0 = nI F) (hF2 : F ≤ 10) {x : Nat} (hx : x ≤ 4095) {s' : cS} {t' : mS} (hs : Sc s s') (ht : Sm t t') : (∃ s'', Sc s s'' ∧ f8_faultsShownBy N (nI x) s' = some (nI (msk t x F), s'')) ∧ ∃ t'', Sm t t'' ∧ f9_bitsAt N (nI x) t' = some (nI (msk t x F), t'') := by
  have hF3 : s.1 2 0 = nI F := by
    obtain ⟨F', hF', f1, f2, f3⟩ := h.2.2.2.2.1
    rw [f1, ← f2, hF]
  constructor
  · unfold f8_faultsShownBy
    have key : ∀ s', Sc s s' → ∃ s'', Sc s s'' ∧ f8_faultsShownBy_l4 N (nI x) N (nI (msk t x 0)) (nI 0) s' = some (nI (msk t x F), s'') := by
      refine iter_ind (P := fun i (f : Int32 → Int32 → cS → Option (Int32 × cS)) => ∀ s', Sc s s' → ∃ s'', Sc s s'' ∧ f (nI (msk t x i)) (nI i) s' = some (nI (msk t x F), s'')) (e := F) ?_ ?_ (show F < N by omega)
      · intro k s' hs
        unfold f8_faultsShownBy_l4b
        rw [hs.1 2 (by omega) (by omega) (by omega), hF3, if_pos (Int32.le_refl _)]
        exact ⟨s', hs, rfl⟩
      · intro i hi k ih s' hs
        obtain ⟨⟨s1, a1, a2⟩, -⟩ := shows_some hN h hF hF2 hi hx hs (Sm.rf t)
        have hii := ix i 10 (by omega) (by omega)
        have hfa : f8_faultAt N (nI i) s' = some (some i, s') := by
          unfold f8_faultAt
          rw [hs.1 2 (by omega) (by omega) (by omega), hF3, if_neg (nI_pos (by omega)), if_neg (nI_ge hi (by omega)), if_neg (show ¬ (10 : Int32) ≤ nI i from nI_ge (b := 10) (by omega) (by omega)), if_pos hii.1, hii.2]
        unfold f8_faultsShownBy_l4b
        rw [hs.1 2 (by omega) (by omega) (by omega), hF3, if_neg (nI_ge hi (by omega)), hfa]
        simp only [Option.bind_some]
        rw [a2]
        simp only [Option.bind_some]
        have nx := ih s1 a1
        simp only [msk] at nx
        by_cases z : shw t i x = true
        · rw [if_pos z, if_neg (show ¬ (1 : Int32) = 0 by decide), nI_1, bit_nI i (by omega), fa_or]
          rw [if_pos z] at nx
          exact nx
        · rw [if_neg z, if_pos rfl, nI_1]
          rw [if_neg z] at nx
          exact nx
    exact key s' hs
  · unfold f9_bitsAt
    have key : ∀ t', Sm t t' → ∃ t'', Sm t t'' ∧ f9_bitsAt_l4 N (nI x) N (nI (msk t x 0)) (nI 0) t' = some (nI (msk t x F), t'') := by
      refine iter_ind (P := fun i (f : Int32 → Int32 → mS → Option (Int32 × mS)) => ∀ t', Sm t t' → ∃ t'', Sm t t'' ∧ f (nI (msk t x i)) (nI i) t' = some (nI (msk t x F), t'')) (e := F) ?_ ?_ (show F < N by omega)
      · intro k t' ht
        unfold f9_bitsAt_l4b
        rw [ht 11 (by omega) (by omega) (by omega) (by omega), hF, if_pos (Int32.le_refl _)]
        exact ⟨t', ht, rfl⟩
      · intro i hi k ih t' ht
        obtain ⟨-, t1, b1, b2⟩ := shows_some hN h hF hF2 hi hx (Sc.rf s) ht
        unfold f9_bitsAt_l4b
        rw [ht 11 (by omega) (by omega) (by omega) (by omega), hF, if_neg (nI_ge hi (by omega)), b2]
        simp only [Option.bind_some]
        have nx := ih t1 b1
        simp only [msk] at nx
        by_cases z : shw t i x = true
        · rw [if_pos z, if_neg (show ¬ (1 : Int32) = 0 by decide), nI_1, bit_nI i (by omega), fa_or]
          rw [if_pos z] at nx
          exact nx
        · rw [if_neg z, if_pos rfl, nI_1, show nI (msk t x i) ||| 0 = nI (msk t x i) by rw [show (0 : Int32) = nI 0 from rfl, fa_or, Nat.or_zero]]
          rw [if_neg z] at nx
          exact nx
    exact key t' ht
theorem o_showing (hN : 5000 ≤ N) (h : Rel s t) (p : Int32) : ∃ r s1 t1, f8_showing N p s = some (r, s1) ∧ f9_showing N p t = some (r, t1) ∧ Rel s1 t1 := by
  have h := h.thrown
  unfold f8_showing f9_showing
  generalize mu t 4 0 0 = t at h ⊢
  rcases number_of N h.1 p with ⟨g1, g2⟩ | ⟨j, hj, hj2, rfl, g1, g2⟩
  · rw [g1, g2]; exact ⟨_, _, _, rfl, rfl, h⟩
  rw [g1, g2]
  simp only [Option.bind_some]
  obtain ⟨F, hF, f1, f2, -⟩ := h.1.2.2.2.2.1
  obtain ⟨⟨s1, a1, a2⟩, t1, b1, b2⟩ := bits_some (N := N) (by omega) h.1 f2 hF hj2 (Sc.rf s) (Sm.rf t)
  rw [if_neg (show ¬ (1 : Int32) = 0 by decide), if_neg (show ¬ (1 : Int32) = 0 by decide), a2, b2]
  exact ⟨_, _, _, rfl, rfl, h.sc a1 b1⟩
end O

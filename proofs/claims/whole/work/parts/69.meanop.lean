theorem clampT {T : Nat} (hT : T < 2 ^ 30) (v : Int32) : ∃ L, L ≤ T ∧ jmax 0 (jmin (nI T) v) = nI L ∧ ∀ {α : Type} (f : Int32 → α), (if 0 ≤ v then (if v ≤ nI T then f v else f (nI T)) else f 0) = f (nI L) := by
  have hTI : (nI T).toInt = T := nI_toInt (by omega)
  by_cases z : 0 ≤ v
  · by_cases y : v ≤ nI T
    · obtain ⟨L, hL, rfl⟩ := nI_of (x := v) (Int32.not_lt.mpr z)
      have hLT : L ≤ T := by have := (fa_le _ _).mp y; rw [hTI, nI_toInt hL] at this; omega
      refine ⟨L, hLT, ?_, fun f => by rw [if_pos z, if_pos y]⟩
      have hmin : jmin (nI T) (nI L) = nI L := by
        unfold jmin
        by_cases w : nI L < nI T
        · rw [if_pos w]
        · rw [if_neg w]
          have : L = T := by
            rcases Nat.lt_or_ge L T with q | q
            · exact absurd (nI_lt q (by omega)) w
            · omega
          rw [this]
      rw [hmin]
      unfold jmax
      by_cases w : (0 : Int32) < nI L
      · rw [if_pos w]
      · rw [if_neg w]
        have : L = 0 := by
          rcases Nat.eq_zero_or_pos L with q | q
          · exact q
          · exact absurd (nI_lt (a := 0) q hL) w
        rw [this]; rfl
    · refine ⟨T, Nat.le_refl _, ?_, fun f => by rw [if_pos z, if_neg y]⟩
      unfold jmin
      rw [if_neg (fun q => y (fa_of_lt q).1)]
      unfold jmax
      by_cases w : (0 : Int32) < nI T
      · rw [if_pos w]
      · rw [if_neg w]
        have : T = 0 := by
          rcases Nat.eq_zero_or_pos T with q | q
          · exact q
          · exact absurd (nI_lt (a := 0) q (by omega)) w
        rw [this]; rfl
  · have z' : v.toInt < 0 := by
      have : ¬ (0 : Int32).toInt ≤ v.toInt := fun q => z ((fa_le _ _).mpr q)
      rw [i0] at this; omega
    refine ⟨0, Nat.zero_le _, ?_, fun f => by rw [if_neg z]; rfl⟩
    unfold jmin
    rw [if_pos (by rw [fa_lt, hTI]; omega)]
    unfold jmax
    rw [if_neg (by rw [fa_lt, i0]; omega)]
    rfl
section O
variable {N : Nat} {s : cS} {t : mS}
def wsum (t : mS) (m : Nat) (p : Int32) : Nat → Int32
  | 0 => 0
  | i + 1 => wsum t m p i + t 6 i * (cdq (t 0) m (jmax 0 (jmin (t 0 0) (p + t 5 i)))).1
theorem weighed_some (hN : 200 ≤ N) (h : RelA s t) {m : Nat} (hm : m < vM (t 0)) (p : Int32) : ∃ s', Sc s s' ∧ ∃ n : Nat, t 10 0 = nI n ∧ n ≤ 8 ∧ f4_weighedCodes N m p (t 0 0) s = some (wsum t m p n, s') := by
  obtain ⟨T, M, hT1, hT2, hM, e1, e2, e3, e4, e5, e6⟩ := h.base
  obtain ⟨n, hn, n1, n2, n3⟩ := h.2.2.2.1
  have hme := h.meter hm
  unfold f4_weighedCodes
  have key : ∀ s', Sc s s' → ∃ s'', Sc s s'' ∧ f4_weighedCodes_l6 N m p (t 0 0) N (wsum t m p 0) (nI 0) s' = some (wsum t m p n, s'') := by
    refine iter_ind (P := fun j (f : Int32 → Int32 → cS → Option (Int32 × cS)) => ∀ s', Sc s s' → ∃ s'', Sc s s'' ∧ f (wsum t m p j) (nI j) s' = some (wsum t m p n, s'')) (e := n) ?_ ?_ (show n < N by omega)
    · intro k s' hs
      unfold f4_weighedCodes_l6b
      rw [hs.1 16 (by omega) (by omega) (by omega), n1, if_pos (Int32.le_refl _)]
      exact ⟨s', hs, rfl⟩
    · intro j hj k ih s' hs
      have hi := ix j 8 (by omega) (by omega)
      obtain ⟨m1, m2, m3, m4, m5⟩ := n3 j hj
      obtain ⟨L, hL, l1, -⟩ := clampT (show T < 2 ^ 30 by omega) (p + t 5 j)
      obtain ⟨s2, c1, c2, -, -⟩ := c_code (N := N) (by omega) h hm (num_bnd (show L ≤ 4095 by omega)) hs
      unfold f4_weighedCodes_l6b
      rw [hs.1 16 (by omega) (by omega) (by omega), hs.1 17 (by omega) (by omega) (by omega), n1, if_neg (nI_ge hj (by omega)), if_neg (show ¬ (8 : Int32) ≤ nI j from nI_ge (b := 8) (by omega) (by omega)), if_neg (show ¬ (8 : Int32) ≤ nI j from nI_ge (b := 8) (by omega) (by omega)), if_pos hi.1, hi.2, if_pos hme.1, m1, e2, l1, c2]
      simp only [Option.bind_some]
      rw [hs.1 18 (by omega) (by omega) (by omega), m2, nI_1]
      have := ih s2 c1
      simp only [wsum] at this
      rw [e2, l1] at this
      exact this
  obtain ⟨s', k1, k2⟩ := key s (Sc.rf s)
  exact ⟨s', k1, n, n2, hn, k2⟩
theorem times_some (hN : 200 ≤ N) (h : RelA s t) {n : Nat} (hn : n ≤ 8) (hn2 : t 10 0 = nI n) {s' : cS} (hs : Sc s s') : f4_timesTogether N s' = some (sumI (t 6) n, s') := by
  obtain ⟨n', hn', n1, n2, n3⟩ := h.2.2.2.1
  have : n' = n := (nI_eq (by omega) (by omega)).mp (n2.symm.trans hn2)
  subst this
  unfold f4_timesTogether
  refine iter_ind (P := fun j (f : Int32 → Int32 → cS → Option (Int32 × cS)) => f (sumI (t 6) j) (nI j) s' = some (sumI (t 6) n', s')) (e := n') ?_ ?_ (show n' < N by omega)
  · intro k
    unfold f4_timesTogether_l4b
    rw [hs.1 16 (by omega) (by omega) (by omega), n1, if_pos (Int32.le_refl _)]
  · intro j hj k ih
    have hi := ix j 8 (by omega) (by omega)
    obtain ⟨m1, m2, m3, m4, m5⟩ := n3 j hj
    unfold f4_timesTogether_l4b
    rw [hs.1 16 (by omega) (by omega) (by omega), hs.1 18 (by omega) (by omega) (by omega), n1, if_neg (nI_ge hj (by omega)), if_neg (show ¬ (8 : Int32) ≤ nI j from nI_ge (b := 8) (by omega) (by omega)), if_pos hi.1, hi.2, m2, nI_1]
    exact ih
theorem wsum_bnd (h : RelA s t) {m : Nat} (hm : m < vM (t 0)) (p : Int32) {n : Nat} (hn : n ≤ 8) (hn2 : t 10 0 = nI n) : ∀ k, k ≤ n → bnd (k * 136000000) (wsum t m p k) ∧ ∃ b : Nat, sumI (t 6) k = nI b ∧ k ≤ b ∧ b ≤ 1000 * k := by
  obtain ⟨n', hn', n1, n2, n3⟩ := h.2.2.2.1
  have : n' = n := (nI_eq (by omega) (by omega)).mp (n2.symm.trans hn2)
  subst this
  intro k
  induction k with
  | zero => intro _; exact ⟨by unfold bnd wsum; rw [i0]; omega, 0, rfl, by omega, by omega⟩
  | succ k ih =>
    intro hk
    obtain ⟨⟨a1, a2⟩, b, b1, b2, b3⟩ := ih (by omega)
    obtain ⟨m1, m2, m3, m4, m5⟩ := n3 k (by omega)
    obtain ⟨c1, c2⟩ := code_bnd h.1 hm (jmax 0 (jmin (t 0 0) (p + t 5 k)))
    obtain ⟨d1, d2⟩ := mulB (x := (t 6 k).toInt) (a := 1000) (b := 136000) (by omega) m5 (by omega) c1 c2
    have e := fb_mulI (x := t 6 k) (y := (cdq (t 0) m (jmax 0 (jmin (t 0 0) (p + t 5 k)))).1) (by omega) (by omega)
    refine ⟨?_, b + (t 6 k).toInt.toNat, ?_, by omega, by omega⟩
    · simp only [wsum]
      unfold bnd
      rw [fb_addI (by rw [e]; omega) (by rw [e]; omega), e]
      omega
    · simp only [sumI]
      rw [b1, ← nI_add]
      congr 1
      rw [fa_eq, nI_toInt (by omega)]
      omega
theorem o_mean (hN : 200 ≤ N) (h : Rel s t) (p1 p2 p3 : Int32) (hp : p3 = 0 ∨ p3 = 1) : ∃ r s1 t1, f8_mean N p1 p2 p3 s = some (r, s1) ∧ f9_mean N p1 p2 p3 t = some (r, t1) ∧ Rel s1 t1 := by
  have h := h.thrown
  unfold f8_mean f9_mean
  generalize mu t 4 0 0 = t at h ⊢
  have k1 : ¬ (1 : Int32) = 0 := by decide
  have k2 : ¬ (2 : Int32) = 0 := by decide
  unfold f9_mean_b21 f9_no
  rcases meter_of N h.1 p1 with ⟨h1, h2⟩ | ⟨m, hm, h8, rfl, h1, h2⟩
  · rw [h1, h2]; exact ⟨_, _, _, rfl, rfl, h.tr 2⟩
  rw [h1, h2]
  simp only [Option.bind_some]
  rw [if_neg k1]
  rcases number_of N h.1 p2 with ⟨i1, i2⟩ | ⟨j, hj, hj2, rfl, i1, i2⟩
  · rw [i1, i2]
    simp only [Option.bind_some, f8_mean_b26, cu_at]
    rw [if_neg k2]
    exact ⟨_, _, _, rfl, rfl, h.tr 2⟩
  rw [i1, i2]
  simp only [Option.bind_some]
  rw [if_neg k1, if_neg k1]
  unfold f8_mean_b26
  simp only [cu_at]
  rw [if_pos trivial]
  replace h := h.tr 0
  replace hm : m < vM (mu t 3 0 0 0) := hm
  clear h1 h2 i1 i2 hj
  generalize cu s 3 0 0 = s at *
  generalize mu t 3 0 0 = t at *
  obtain ⟨T, M, hT1, hT2, hM, e1, e2, e3, e4, e5, e6⟩ := h.1.base
  obtain ⟨s2, w1, n, w2, w3, w4⟩ := weighed_some hN h.1 hm (nI j)
  have n1 : s.1 16 0 = nI n := by
    obtain ⟨n', hn', n1, n2, n3⟩ := h.1.2.2.2.1
    rw [n1, ← n2, w2]
  rw [n1, w2]
  by_cases z : n = 0
  · subst z
    rw [if_pos (show nI 0 = 0 from rfl), if_pos (show nI 0 = 0 from rfl)]
    rcases hp with rfl | rfl
    · rw [if_pos rfl, if_pos rfl, if_pos h8]
      obtain ⟨s1, a1, a2, -, -⟩ := c_code (N := N) (by omega) h.1 hm (num_bnd hj2) (Sc.rf s)
      obtain ⟨t1, b1, b2⟩ := m_code (N := N) (by omega) (wf_mOk h.1.1 hm) (nI j) (Sm.rf t)
      rw [a2, b2]
      exact ⟨_, _, _, rfl, rfl, h.sc a1 b1⟩
    · rw [if_neg k1, if_neg k1]
      exact ⟨_, _, _, rfl, rfl, h⟩
  · rw [if_neg (nI_ne0 (by omega) (by omega)), if_neg (nI_ne0 (by omega) (by omega))]
    rw [show s.1 0 0 = t 0 0 by rw [e1, e2], w4]
    simp only [Option.bind_some]
    rw [times_some hN h.1 w3 w2 w1]
    simp only [Option.bind_some]
    obtain ⟨⟨q1, q2⟩, b, q3, q4, q5⟩ := wsum_bnd h.1 hm (nI j) w3 w2 n (Nat.le_refl n)
    have hW : ¬ (wsum t m (nI j) n).toInt = -2147483648 := by omega
    -- the reference's loop
    have key : ∀ t', Sm t t' → ∃ t1, Sm t t1 ∧ f9_mean_l63 N (nI m) (nI j) p3 N (wsum t m (nI j) 0) (sumI (t 6) 0) (nI 0) t' = (f9_divisor N (wsum t m (nI j) n) (sumI (t 6) n) t1).bind fun (r159, s159) => if p3 = 0 then (if r159 = 0 then none else some ((wsum t m (nI j) n / r159), s159)) else (if r159 = 0 then none else some ((sumI (t 6) n / r159), s159)) := by
      obtain ⟨n', hn', m1, m2, m3⟩ := h.1.2.2.2.1
      have : n' = n := (nI_eq (by omega) (by omega)).mp (m2.symm.trans w2)
      subst this
      refine iter_ind (P := fun i (g : Int32 → Int32 → Int32 → mS → Option (Int32 × mS)) => ∀ t', Sm t t' → ∃ t1, Sm t t1 ∧ g (wsum t m (nI j) i) (sumI (t 6) i) (nI i) t' = (f9_divisor N (wsum t m (nI j) n') (sumI (t 6) n') t1).bind fun (r159, s159) => if p3 = 0 then (if r159 = 0 then none else some ((wsum t m (nI j) n' / r159), s159)) else (if r159 = 0 then none else some ((sumI (t 6) n' / r159), s159))) (e := n') ?_ ?_ (show n' < N by omega)
      · intro k t' ht
        unfold f9_mean_l63b
        rw [ht 10 (by omega) (by omega) (by omega) (by omega), w2, if_pos (Int32.le_refl _)]
        exact ⟨t', ht, rfl⟩
      · intro i hi k ih t' ht
        have hii := ix i 8 (by omega) (by omega)
        obtain ⟨L, hL, l1, l2⟩ := clampT (show T < 2 ^ 30 by omega) (nI j + t 5 i)
        obtain ⟨t2, d1, d2⟩ := m_code (N := N) (by omega) (wf_mOk h.1.1 hm) (nI L) ht
        unfold f9_mean_l63b
        rw [ht 10 (by omega) (by omega) (by omega) (by omega), ht 5 (by omega) (by omega) (by omega) (by omega), ht 0 (by omega) (by omega) (by omega) (by omega), tc0, w2, if_neg (nI_ge hi (by omega)), if_pos hii.1, hii.2, e2]
        have e := l2 (fun x => f9_mean_b114 N (nI m) (nI j) p3 k (wsum t m (nI j) i) (sumI (t 6) i) (nI i) x t')
        rw [e]
        unfold f9_mean_b114
        rw [if_pos hii.1, d2]
        simp only [Option.bind_some]
        rw [hii.2, ht 6 (by omega) (by omega) (by omega) (by omega), d1 6 (by omega) (by omega) (by omega) (by omega), nI_1]
        have := ih t2 d1
        simp only [wsum, sumI] at this
        rw [e2, l1] at this
        exact this
    obtain ⟨t1, x1, x2⟩ := key t (Sm.rf t)
    rw [show f9_mean_l63 N (nI m) (nI j) p3 N 0 0 0 t = _ from x2, q3]
    obtain ⟨g, g1, g2, g3, g4⟩ := divisor_some (s := s2) (t := t1) hN hW (show 1 ≤ b by omega) (show b < 16384 by omega)
    rw [g3, g4]
    simp only [Option.bind_some]
    have hj : jmax 1 (nI g) = nI g := by
      unfold jmax
      by_cases w : (1 : Int32) < nI g
      · rw [if_pos w]
      · rw [if_neg w]
        have : g = 1 := by
          rcases Nat.lt_or_ge 1 g with q | q
          · exact absurd (nI_lt (a := 1) q g2) w
          · omega
        rw [this]; rfl
    have hz : ¬ nI g = 0 := nI_ne0 g1 g2
    rw [hj]
    simp only [hz, if_false]
    rcases hp with rfl | rfl
    · rw [if_pos rfl, if_pos rfl]
      exact ⟨_, _, _, rfl, rfl, h.sc w1 x1⟩
    · rw [if_neg k1, if_neg k1]
      exact ⟨_, _, _, rfl, rfl, h.sc w1 x1⟩
end O

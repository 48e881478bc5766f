section O
variable {N : Nat} {s : cS} {t : mS}
def pk2 (t : mS) (T i j : Nat) : Bool := decide (i < j) && alk t T i j
theorem pk2_0 (t : mS) (T i : Nat) : ∀ n, n ≤ i + 1 → fb_ct (pk2 t T i) n = 0 := by
  intro n hn
  refine fb_ct_zero.mpr (fun k hk => ?_)
  unfold pk2
  rw [decide_eq_false (show ¬ i < k by omega), Bool.false_and]
theorem areAlike_some (N : Nat) {F T : Nat} {s1 : cS} (hF2 : F ≤ 10) (h2 : s1.1 2 0 = nI F) (h19 : ∀ q, q < F → s1.1 19 q = t 7 q) (hr : ∀ q, q < F → Rw t s1 F q (T + 1) 0) {i j : Nat} (hij : i < j) (hj : j < F) : f8_areAlike N (nI i) (nI j) s1 = some (if alk t T i j = true then 1 else 0, s1) := by
  have hi10 := ix i 10 (by omega) (by omega)
  have hj10 := ix j 10 (by omega) (by omega)
  have fi : f8_faultAt N (nI i) s1 = some (some i, s1) := by
    unfold f8_faultAt
    rw [h2, if_neg (nI_pos (by omega)), if_neg (nI_ge (by omega) (by omega)), if_neg (show ¬ (10 : Int32) ≤ nI i from nI_ge (b := 10) (by omega) (by omega)), if_pos hi10.1, hi10.2]
  have fj : f8_faultAt N (nI j) s1 = some (some j, s1) := by
    unfold f8_faultAt
    rw [h2, if_neg (nI_pos (by omega)), if_neg (nI_ge (by omega) (by omega)), if_neg (show ¬ (10 : Int32) ≤ nI j from nI_ge (b := 10) (by omega) (by omega)), if_pos hj10.1, hj10.2]
  obtain ⟨a, a1, a2, a3⟩ := hr i (by omega)
  have a3 := a3 j
  rw [decide_eq_true hij, decide_eq_true hj, if_neg (Nat.not_lt_zero j)] at a3
  unfold f8_areAlike
  rw [fi]
  simp only [Option.bind_some]
  rw [fj]
  simp only [Option.bind_some]
  rw [if_pos (by omega), if_pos (by omega), h19 i (by omega), h19 j hj, if_neg (show ¬ (10 : Int32) ≤ nI i from nI_ge (b := 10) (by omega) (by omega)), if_pos hi10.1, hi10.2, a2]
  unfold alk
  by_cases z : t 7 i = t 7 j
  · rw [if_pos z, decide_eq_true z]
    by_cases y : apart t i j (T + 1) = true
    · rw [if_neg (fun q => by rw [(bit_at (by omega) (by omega)).mp q, y] at a3; simp at a3), y]; rfl
    · have y' : apart t i j (T + 1) = false := by simpa using y
      rw [if_pos ((bit_at (by omega) (by omega)).mpr (by rw [a3, y']; rfl)), y']; rfl
  · rw [if_neg z, decide_eq_false z]; rfl
theorem c_count (hN : 100 ≤ N) {F T : Nat} {s1 : cS} (hF2 : F ≤ 10) (h2 : s1.1 2 0 = nI F) (h19 : ∀ q, q < F → s1.1 19 q = t 7 q) (hr : ∀ q, q < F → Rw t s1 F q (T + 1) 0) : f8_alike_l43 N N 0 0 s1 = some (nI (fb_sm (fun i => fb_ct (pk2 t T i) F) F), s1) := by
  show f8_alike_l43 N N (nI (fb_sm (fun i => fb_ct (pk2 t T i) F) 0)) (nI 0) s1 = _
  refine iter_ind (P := fun i (f : Int32 → Int32 → cS → Option (Int32 × cS)) => f (nI (fb_sm (fun i => fb_ct (pk2 t T i) F) i)) (nI i) s1 = some (nI (fb_sm (fun i => fb_ct (pk2 t T i) F) F), s1)) (e := F) ?_ ?_ (show F < N by omega)
  · intro k
    unfold f8_alike_l43b
    rw [h2, if_pos (Int32.le_refl _)]
  · intro i hi k ih
    unfold f8_alike_l43b
    rw [h2, if_neg (nI_ge hi (by omega)), nI_1]
    have key : f8_alike_l55 N k N (nI (fb_sm (fun i => fb_ct (pk2 t T i) F) i + fb_ct (pk2 t T i) (i + 1 + 0))) (nI i) (nI (i + 1 + 0)) s1 = some (nI (fb_sm (fun i => fb_ct (pk2 t T i) F) F), s1) := by
      refine iter_ind (P := fun d (f : Int32 → Int32 → Int32 → cS → Option (Int32 × cS)) => f (nI (fb_sm (fun i => fb_ct (pk2 t T i) F) i + fb_ct (pk2 t T i) (i + 1 + d))) (nI i) (nI (i + 1 + d)) s1 = some (nI (fb_sm (fun i => fb_ct (pk2 t T i) F) F), s1)) (e := F - (i + 1)) ?_ ?_ (show F - (i + 1) < N by omega)
      · intro k'
        unfold f8_alike_l55b
        rw [show i + 1 + (F - (i + 1)) = F by omega, h2, if_pos (Int32.le_refl _), nI_1]
        rw [fb_sm_succ] at ih
        exact ih
      · intro d hd k' ih'
        unfold f8_alike_l55b
        rw [h2, if_neg (nI_ge (by omega) (by omega)), areAlike_some N hF2 h2 h19 hr (show i < i + 1 + d by omega) (by omega)]
        simp only [Option.bind_some]
        rw [show i + 1 + (d + 1) = i + 1 + d + 1 by omega, fb_ct_succ] at ih'
        have e : pk2 t T i (i + 1 + d) = alk t T i (i + 1 + d) := by unfold pk2; rw [decide_eq_true (show i < i + 1 + d by omega), Bool.true_and]
        rw [e] at ih'
        by_cases z : alk t T i (i + 1 + d) = true
        · rw [if_pos z, if_neg (show ¬ (1 : Int32) = 0 by decide), nI_1, nI_1]
          rw [if_pos z] at ih'
          exact ih'
        · rw [if_neg z, if_pos rfl, nI_1]
          rw [if_neg z] at ih'
          exact ih'
    rw [Nat.add_zero, pk2_0 t T i (i + 1) (Nat.le_refl _), Nat.add_zero] at key
    exact key
theorem m_pair (hN : 5000 ≤ N) (h : Rel s t) {F T : Nat} (hT : T ≤ 4095) (h0 : t 0 0 = nI T) (hF : t 11 0 = nI F) (hF2 : F ≤ 10) (k9 : Int32 → Int32 → mS → Option (Int32 × mS)) (k21 : Int32 → Int32 → Int32 → mS → Option (Int32 × mS)) (a1 : Int32) {i j : Nat} (hi : i < F) (hj : j < F) {t' : mS} (ht : Sm t t') : ∃ t2, Sm t t2 ∧ f9_alike_l53 N k9 k21 N a1 (nI i) (nI j) 1 0 t' = if apart t i j (T + 1) = true then k21 a1 (nI i) (nI (j + 1)) t2 else k21 (a1 + 1) (nI i) (nI (j + 1)) t2 := by
  have key : (∀ t', Sm t t' → ∃ t2, Sm t t2 ∧ f9_alike_l53 N k9 k21 N a1 (nI i) (nI j) 0 (nI 0) t' = k21 a1 (nI i) (nI (j + 1)) t2) ∧ (apart t i j 0 = false → ∀ t', Sm t t' → ∃ t2, Sm t t2 ∧ f9_alike_l53 N k9 k21 N a1 (nI i) (nI j) 1 (nI 0) t' = if apart t i j (T + 1) = true then k21 a1 (nI i) (nI (j + 1)) t2 else k21 (a1 + 1) (nI i) (nI (j + 1)) t2) := by
    refine iter_ind (P := fun x (g : Int32 → Int32 → Int32 → Int32 → Int32 → mS → Option (Int32 × mS)) => (∀ t', Sm t t' → ∃ t2, Sm t t2 ∧ g a1 (nI i) (nI j) 0 (nI x) t' = k21 a1 (nI i) (nI (j + 1)) t2) ∧ (apart t i j x = false → ∀ t', Sm t t' → ∃ t2, Sm t t2 ∧ g a1 (nI i) (nI j) 1 (nI x) t' = if apart t i j (T + 1) = true then k21 a1 (nI i) (nI (j + 1)) t2 else k21 (a1 + 1) (nI i) (nI (j + 1)) t2)) (e := T + 1) ?_ ?_ (show T + 1 < N by omega)
    · intro k
      refine ⟨fun t' ht => ⟨t', ht, ?_⟩, fun hx t' ht => ⟨t', ht, ?_⟩⟩
      · unfold f9_alike_l53b f9_alike_b99
        rw [tc0, ht 0 (by omega) (by omega) (by omega) (by omega), h0, if_pos (nI_lt (by omega) (by omega)), if_pos rfl, Int32.add_zero, nI_1]
      · unfold f9_alike_l53b f9_alike_b99
        rw [tc0, ht 0 (by omega) (by omega) (by omega) (by omega), h0, if_pos (nI_lt (by omega) (by omega)), if_neg (show ¬ (1 : Int32) = 0 by decide), nI_1, hx, if_neg (by decide)]
    · intro x hx k ⟨ihA, ihB⟩
      have hA : ∀ t', Sm t t' → ∃ t2, Sm t t2 ∧ f9_alike_l53b N k9 k21 k a1 (nI i) (nI j) 0 (nI x) t' = k21 a1 (nI i) (nI (j + 1)) t2 := by
        intro t' ht
        refine ⟨t', ht, ?_⟩
        unfold f9_alike_l53b f9_alike_b99
        rw [tc0, ht 0 (by omega) (by omega) (by omega) (by omega), h0, if_neg (nI_nlt (by omega) (by omega)), if_pos rfl, if_pos rfl, Int32.add_zero, nI_1]
      refine ⟨hA, fun hap t' ht => ?_⟩
      obtain ⟨-, -, -, -, t2, b1, b2⟩ := faulty_some (N := N) (by omega) h.1 hF hF2 hi (show x ≤ 4095 by omega) (Sc.rf s) ht
      obtain ⟨-, -, -, -, t3, c1, c2⟩ := faulty_some (N := N) (by omega) h.1 hF hF2 hj (show x ≤ 4095 by omega) (Sc.rf s) b1
      unfold f9_alike_l53b
      rw [tc0, ht 0 (by omega) (by omega) (by omega) (by omega), h0, if_neg (nI_nlt (by omega) (by omega)), if_neg (show ¬ (1 : Int32) = 0 by decide), b2]
      simp only [Option.bind_some]
      rw [c2]
      simp only [Option.bind_some]
      rw [nI_1]
      by_cases z : fcd t i (nI x) = fcd t j (nI x)
      · rw [if_pos z]
        exact ihB (by simp only [apart]; rw [hap, decide_eq_true z]; rfl) t3 c1
      · rw [if_neg z]
        obtain ⟨t4, d1, d2⟩ := ihA t3 c1
        refine ⟨t4, d1, ?_⟩
        rw [d2]
        have mono : ∀ d, apart t i j (x + 1 + d) = true := by
          intro d
          induction d with
          | zero => simp only [apart, Nat.add_zero]; rw [decide_eq_false z]; simp
          | succ d ihd => show (apart t i j (x + 1 + d) || _) = true; rw [ihd]; rfl
        have e := mono (T - x)
        rw [show x + 1 + (T - x) = T + 1 by omega] at e
        rw [if_pos e]
  exact key.2 rfl t' ht
theorem m_count (hN : 5000 ≤ N) (h : Rel s t) {F T : Nat} (hT : T ≤ 4095) (h0 : t 0 0 = nI T) (hF : t 11 0 = nI F) (hF2 : F ≤ 10) : ∃ t2, Sm t t2 ∧ f9_alike_l9 N N 0 0 t = some (nI (fb_sm (fun i => fb_ct (pk2 t T i) F) F), t2) := by
  have out : ∀ t', Sm t t' → ∃ t2, Sm t t2 ∧ f9_alike_l9 N N (nI (fb_sm (fun i => fb_ct (pk2 t T i) F) 0)) (nI 0) t' = some (nI (fb_sm (fun i => fb_ct (pk2 t T i) F) F), t2) := by
    refine iter_ind (P := fun i (f : Int32 → Int32 → mS → Option (Int32 × mS)) => ∀ t', Sm t t' → ∃ t2, Sm t t2 ∧ f (nI (fb_sm (fun i => fb_ct (pk2 t T i) F) i)) (nI i) t' = some (nI (fb_sm (fun i => fb_ct (pk2 t T i) F) F), t2)) (e := F) ?_ ?_ (show F < N by omega)
    · intro k t' ht
      unfold f9_alike_l9b
      rw [ht 11 (by omega) (by omega) (by omega) (by omega), hF, if_pos (Int32.le_refl _)]
      exact ⟨t', ht, rfl⟩
    · intro i hi k ih t' ht
      unfold f9_alike_l9b
      rw [ht 11 (by omega) (by omega) (by omega) (by omega), hF, if_neg (nI_ge hi (by omega)), nI_1]
      have key : ∀ t', Sm t t' → ∃ t2, Sm t t2 ∧ f9_alike_l21 N k N (nI (fb_sm (fun i => fb_ct (pk2 t T i) F) i + fb_ct (pk2 t T i) (i + 1 + 0))) (nI i) (nI (i + 1 + 0)) t' = some (nI (fb_sm (fun i => fb_ct (pk2 t T i) F) F), t2) := by
        refine iter_ind (P := fun d (f : Int32 → Int32 → Int32 → mS → Option (Int32 × mS)) => ∀ t', Sm t t' → ∃ t2, Sm t t2 ∧ f (nI (fb_sm (fun i => fb_ct (pk2 t T i) F) i + fb_ct (pk2 t T i) (i + 1 + d))) (nI i) (nI (i + 1 + d)) t' = some (nI (fb_sm (fun i => fb_ct (pk2 t T i) F) F), t2)) (e := F - (i + 1)) ?_ ?_ (show F - (i + 1) < N by omega)
        · intro k' t' ht
          unfold f9_alike_l21b
          rw [show i + 1 + (F - (i + 1)) = F by omega, ht 11 (by omega) (by omega) (by omega) (by omega), hF, if_pos (Int32.le_refl _), nI_1]
          have := ih t' ht
          rw [fb_sm_succ] at this
          exact this
        · intro d hd k' ih' t' ht
          have hi10 := ix i 10 (by omega) (by omega)
          have hj10 := ix (i + 1 + d) 10 (by omega) (by omega)
          unfold f9_alike_l21b
          rw [ht 11 (by omega) (by omega) (by omega) (by omega), ht 7 (by omega) (by omega) (by omega) (by omega), hF, if_neg (nI_ge (by omega) (by omega)), if_pos hi10.1, if_pos hj10.1, hi10.2, hj10.2]
          rw [show i + 1 + (d + 1) = i + 1 + d + 1 by omega, fb_ct_succ] at ih'
          have e : pk2 t T i (i + 1 + d) = alk t T i (i + 1 + d) := by unfold pk2; rw [decide_eq_true (show i < i + 1 + d by omega), Bool.true_and]
          rw [e] at ih'
          unfold alk at ih'
          by_cases z : t 7 i = t 7 (i + 1 + d)
          · rw [if_pos z]
            rw [decide_eq_true z, Bool.true_and] at ih'
            obtain ⟨t2, c1, c2⟩ := m_pair hN h hT h0 hF hF2 k k' (nI (fb_sm (fun i => fb_ct (pk2 t T i) F) i + fb_ct (pk2 t T i) (i + 1 + d))) hi (show i + 1 + d < F by omega) ht
            rw [c2]
            by_cases y : apart t i (i + 1 + d) (T + 1) = true
            · rw [if_pos y]
              rw [y] at ih'
              exact ih' t2 c1
            · rw [if_neg y, nI_1]
              have y' : apart t i (i + 1 + d) (T + 1) = false := by simpa using y
              rw [y'] at ih'
              exact ih' t2 c1
          · rw [if_neg z, nI_1]
            rw [decide_eq_false z, Bool.false_and] at ih'
            exact ih' t' ht
      rw [Nat.add_zero, pk2_0 t T i (i + 1) (Nat.le_refl _), Nat.add_zero] at key
      exact key t' ht
  exact out t (Sm.rf t)
theorem o_alike (hN : 5000 ≤ N) (h : Rel s t) : ∃ r s1 t1, f8_alike N s = some (r, s1) ∧ f9_alike N t = some (r, t1) ∧ Rel s1 t1 := by
  have h := h.thrown
  unfold f8_alike f9_alike
  generalize mu t 4 0 0 = t at h ⊢
  obtain ⟨T, M, hT1, hT2, hM, e1, e2, e3, e4, e5, e6⟩ := h.1.base
  obtain ⟨F, hF, f1, f2, f3⟩ := h.1.2.2.2.2.1
  obtain ⟨t2, b1, b2⟩ := m_count hN h hT2 e2 f2 hF
  rw [b2, f1]
  by_cases z : 2 ≤ F
  · rw [if_pos (show (2 : Int32) ≤ nI F from nI_le (a := 2) z (by omega))]
    have hs0 : Sh s (cfi s 23 10 0) := by
      refine ⟨fun f a b c d e => ?_, rfl⟩
      funext j
      show (if f = 23 ∧ j < 10 then (0 : Int32) else s.1 f j) = s.1 f j
      rw [if_neg (fun q => e q.1)]
    have hr0 : ∀ q, q < F → Rw t (cfi s 23 10 0) F q 0 0 := by
      intro q hq
      refine ⟨0, by omega, ?_, fun j => ?_⟩
      · show (if 23 = 23 ∧ q < 10 then (0 : Int32) else s.1 23 q) = nI 0
        rw [if_pos ⟨rfl, by omega⟩]; rfl
      · rw [if_neg (Nat.not_lt_zero j)]
        simp [apart]
    have key : ∀ s', Sh s s' → (∀ q, q < F → Rw t s' F q 0 0) → ∃ s2, Sh s s2 ∧ f8_alike_l20 N N (nI 0) s' = some (nI (fb_sm (fun i => fb_ct (pk2 t T i) F) F), s2) := by
      refine iter_ind (P := fun x (f : Int32 → cS → Option (Int32 × cS)) => ∀ s', Sh s s' → (∀ q, q < F → Rw t s' F q x 0) → ∃ s2, Sh s s2 ∧ f (nI x) s' = some (nI (fb_sm (fun i => fb_ct (pk2 t T i) F) F), s2)) (e := T + 1) ?_ ?_ (show T + 1 < N by omega)
      · intro k s' hs hr
        unfold f8_alike_l20b
        rw [hs.1 0 (by omega) (by omega) (by omega) (by omega) (by omega), e1, if_pos (nI_lt (by omega) (by omega))]
        refine ⟨s', hs, c_count (N := N) (by omega) hF (by rw [hs.1 2 (by omega) (by omega) (by omega) (by omega) (by omega)]; exact f1) (fun q hq => ?_) hr⟩
        rw [hs.1 19 (by omega) (by omega) (by omega) (by omega) (by omega)]
        exact (f3 q hq).1
      · intro x hx k ih s' hs hr
        obtain ⟨s2, c1, c2, c3⟩ := tell_some (N := N) (by omega) h f2 hF (show x ≤ 4095 by omega) hs hr
        unfold f8_alike_l20b
        rw [hs.1 0 (by omega) (by omega) (by omega) (by omega) (by omega), e1, if_neg (nI_nlt (by omega) (by omega)), c2]
        simp only [Option.bind_some]
        rw [nI_1]
        exact ih s2 c1 c3
    obtain ⟨s2, k1, k2⟩ := key _ hs0 hr0
    refine ⟨_, s2, t2, k2, rfl, ?_⟩
    exact (k1.rel h).sc (Sc.rf s2) b1
  · rw [if_neg (show ¬ (2 : Int32) ≤ nI F from nI_ge (b := 2) (by omega) (by omega))]
    have e : fb_sm (fun i => fb_ct (pk2 t T i) F) F = 0 := by
      rcases (show F = 0 ∨ F = 1 by omega) with rfl | rfl
      · rfl
      · rw [fb_sm_succ]
        show fb_sm (fun i => fb_ct (pk2 t T i) 1) 0 + fb_ct (pk2 t T 0) 1 = 0
        rw [pk2_0 t T 0 1 (Nat.le_refl _)]; rfl
    rw [e]
    exact ⟨0, s, t2, rfl, rfl, h.sc (Sc.rf s) b1⟩
end O

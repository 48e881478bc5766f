/-! the class reads a number -/
def sis (s : cS) (m k : Nat) : Int32 := s.1 10 (16 * m + k) + s.1 11 (16 * m + k)
def swo (s : cS) (m k : Nat) : Int32 := s.1 12 (16 * m + k)
def sbo (s : cS) (m k : Nat) : Int32 := s.1 13 (16 * m + k)
theorem partAt_some {N m k C : Nat} {s : cS} (hm : m < 8) (hk : k < C) (hC : C ≤ 16) (hc : s.1 6 m = nI C) : f3_partAt N m (nI k) s = some (some (16 * m + k), s) := by
  unfold f3_partAt
  have e := ix k 16 (by omega) (by omega)
  rw [if_neg (nI_pos (by omega)), hc, if_neg (nI_ge hk (by omega)), if_neg (show ¬ (16 : Int32) ≤ nI k from nI_ge (b := 16) (by omega) (by omega)), if_pos e.1, e.2]
theorem asItIs_some (N p : Nat) (s : cS) : f5_asItIs N p s = some (s.1 10 p + s.1 11 p, s) := rfl
theorem bit_nI : ∀ k : Nat, k < 16 → (1 : Int32) <<< (nI k &&& 31) = nI (2 ^ k) := by decide +kernel
theorem edge_inv {kd : Int32} (hkd : kd = 0 ∨ kd = 1) (is wo bo : Nat → Int32) (x : Int32) : ∀ k : Nat, k ≤ 16 → ∃ n T : Nat, (rdS kd is wo bo x k).1 = nI n ∧ (rdS kd is wo bo x k).2.1 = nI T ∧ n ≤ k ∧ T < 2 ^ k ∧ (n = 0 ↔ T = 0) := by
  intro k
  induction k with
  | zero => intro _; exact ⟨0, 0, rfl, rfl, Nat.le_refl _, by decide, Iff.rfl⟩
  | succ k ih =>
    intro hk
    obtain ⟨n, T, h1, h2, h3, h4, h5⟩ := ih (by omega)
    show ∃ n T : Nat, (rst _ _ _ _ _ _ _).1 = nI n ∧ (rst _ _ _ _ _ _ _).2.1 = nI T ∧ _
    unfold rst
    rw [if_pos hkd]
    generalize (if kd = 0 then is k else (rdS kd is wo bo x k).2.2.2.1 + is k) = g
    by_cases hxg : x < g
    · simp only [if_pos hxg]
      exact ⟨n, T, h1, h2, by omega, Nat.lt_trans h4 (Nat.pow_lt_pow_right (by omega) (by omega)), h5⟩
    · simp only [if_neg hxg]
      refine ⟨n + 1, T ||| 2 ^ k, by rw [h1]; exact nI_1 n, by rw [h2, bit_nI k (by omega)]; exact fa_or T (2 ^ k), by omega, Nat.or_lt_two_pow (Nat.lt_trans h4 (Nat.pow_lt_pow_right (by omega) (by omega))) (Nat.pow_lt_pow_right (by omega) (by omega)), ?_⟩
      constructor
      · intro h; omega
      · intro h
        have : 2 ^ k ≤ T ||| 2 ^ k := Nat.right_le_or
        have : 0 < 2 ^ k := Nat.pow_pos (by omega)
        omega
theorem edge_zero {kd : Int32} (hkd : kd = 0 ∨ kd = 1) (is wo bo : Nat → Int32) (x : Int32) {k : Nat} (hk : k ≤ 16) : (rdS kd is wo bo x k).1 = 0 ↔ (rdS kd is wo bo x k).2.1 = 0 := by
  obtain ⟨n, T, h1, h2, h3, h4, h5⟩ := edge_inv hkd is wo bo x k hk
  have hT : T < 2 ^ 16 := Nat.lt_of_lt_of_le h4 (Nat.pow_le_pow_right (by omega) hk)
  rw [h1, h2]
  exact (nI_eq (b := 0) (by omega) (by omega)).trans (h5.trans (nI_eq (b := 0) (by omega) (by omega)).symm)
theorem jmin_le (r v : Int32) : jmin r v = if r ≤ v then r else v := by
  unfold jmin
  by_cases h : v < r
  · rw [if_pos h, if_neg (Int32.not_le.mpr h)]
  · rw [if_neg h, if_pos (Int32.not_lt.mp h)]
theorem clamp_held (r : Int32) : jmax (-1000000) (jmin 1000000 (r * 2)) = held (2 * r) := by
  rw [Int32.mul_comm r 2]
  generalize 2 * r = v
  unfold jmax jmin held
  by_cases h1 : v ≤ 1000000
  · by_cases h2 : v < 1000000
    · rw [if_pos h2, if_pos h1]
      by_cases h3 : -1000000 ≤ v
      · rw [if_pos h3]
        split
        · rfl
        · rename_i h; exact Int32.le_antisymm h3 (Int32.not_lt.mp h)
      · rw [if_neg h3, if_neg (fun h => h3 (Int32.le_of_lt h))]
    · have e : v = 1000000 := Int32.le_antisymm h1 (Int32.not_lt.mp h2)
      subst e
      decide
  · rw [if_neg h1, if_neg (fun h => h1 (Int32.le_of_lt h))]
    decide
section CC
variable {N m C : Nat} {s : cS} {x : Int32}
theorem edges_some (hN : 100 ≤ N) (hm : m < 8) (hC : C ≤ 16) (hc : s.1 6 m = nI C) (hkd : s.1 5 m = 0 ∨ s.1 5 m = 1) :
    f3_passEdges N m x (c3 s m 0 0 x) = some (c3 s m (rdS (s.1 5 m) (sis s m) (swo s m) (sbo s m) x C).1 (rdS (s.1 5 m) (sis s m) (swo s m) (sbo s m) x C).2.1 (rdS (s.1 5 m) (sis s m) (swo s m) (sbo s m) x C).2.2.1) := by
  have ez := fun k hk => @edge_zero (s.1 5 m) hkd (sis s m) (swo s m) (sbo s m) x k hk
  obtain ⟨q, hq⟩ : ∃ q, rdS (s.1 5 m) (sis s m) (swo s m) (sbo s m) x = q := ⟨_, rfl⟩
  have h0 : q 0 = (0, 0, x, 0, 0) := by rw [← hq]; rfl
  rw [hq] at ez ⊢
  suffices key : f3_passEdges_l4 N m x N (q 0).2.2.2.1 (nI 0) (c3 s m (q 0).1 (q 0).2.1 (q 0).2.2.1) = some (c3 s m (q C).1 (q C).2.1 (q C).2.2.1) by
    rw [h0] at key
    exact key
  refine iter_ind (P := fun j (f : Int32 → Int32 → cS → Option cS) => f (q j).2.2.2.1 (nI j) (c3 s m (q j).1 (q j).2.1 (q j).2.2.1) = some (c3 s m (q C).1 (q C).2.1 (q C).2.2.1)) (e := C) ?_ ?_ (show C < N by omega)
  · intro k
    unfold f3_passEdges_l4b
    rw [c3_o s m _ _ _ (by omega), hc, if_pos (Int32.le_refl _)]
  · intro j hj k hk
    unfold f3_passEdges_l4b
    rw [c3_o s m _ _ _ (by omega), hc, if_neg (nI_ge hj (by omega)), partAt_some hm hj hC (by rw [c3_o s m _ _ _ (by omega)]; exact hc)]
    have e : q (j + 1) = rst (s.1 5 m) (sis s m j) (swo s m j) (sbo s m j) x (nI j) (q j) := by rw [← hq]; rfl
    rw [e] at hk
    have ez := ez j (by omega)
    simp only [Option.bind_some, asItIs_some, if_pos (show 16 * m + j < 128 by omega), c3_o s m _ _ _ (show 5 < 7 ∨ 9 < 5 by omega), c3_o s m _ _ _ (show 10 < 7 ∨ 9 < 10 by omega), c3_o s m _ _ _ (show 11 < 7 ∨ 9 < 11 by omega)]
    rw [show s.1 10 (16 * m + j) + s.1 11 (16 * m + j) = sis s m j from rfl]
    generalize q j = z at hk ez ⊢
    obtain ⟨c, d, r, g, o⟩ := z
    simp only at hk ez ⊢
    generalize s.1 5 m = kd at hk hkd ⊢
    generalize sis s m j = is at hk ⊢
    rcases hkd with rfl | rfl
    · by_cases h1 : x < is
      · simp [rst, h1] at hk
        simp [f3_passEdges_b50, h1, nI_1, hk]
      · by_cases h2 : d = 0
        · simp [rst, h1, h2, ez.mpr h2] at hk
          simp [f3_passEdges_b50, f3_passEdges_b80, h1, h2, ez.mpr h2, c3_7, c3_8, c3_9, c3_c, c3_d, c3_r, nI_1, hk]
        · have h3 : ¬ c = 0 := fun z => h2 (ez.mp z)
          simp only [rst, true_or, if_true, h1, if_false, h2] at hk
          simp [f3_passEdges_b50, f3_passEdges_b80, h1, h3, c3_7, c3_8, c3_9, c3_c, c3_d, c3_r, nI_1, jmin_le, hk]
    · by_cases h1 : x < g + is
      · simp [rst, h1] at hk
        simp [f3_passEdges_b50, h1, nI_1, hk]
      · by_cases h2 : d = 0
        · simp [rst, h1, h2, ez.mpr h2] at hk
          simp [f3_passEdges_b50, f3_passEdges_b80, h1, h2, ez.mpr h2, c3_7, c3_8, c3_9, c3_c, c3_d, c3_r, nI_1, hk]
        · have h3 : ¬ c = 0 := fun z => h2 (ez.mp z)
          simp [rst, h1, h2] at hk
          simp [f3_passEdges_b50, f3_passEdges_b80, h1, h3, c3_7, c3_8, c3_9, c3_c, c3_d, c3_r, nI_1, jmin_le, hk]
theorem stages_some (hN : 100 ≤ N) (hm : m < 8) (hC : C ≤ 16) (hc : s.1 6 m = nI C) (hkd : s.1 5 m = 3 ∨ s.1 5 m = 4) :
    f3_passStages N m (c3 s m 0 0 x) = some (c3 s m (rdS (s.1 5 m) (sis s m) (swo s m) (sbo s m) x C).1 (rdS (s.1 5 m) (sis s m) (swo s m) (sbo s m) x C).2.1 (rdS (s.1 5 m) (sis s m) (swo s m) (sbo s m) x C).2.2.1) := by
  have od := fun k => rdS_odd (s.1 5 m) (sis s m) (swo s m) (sbo s m) x k
  obtain ⟨q, hq⟩ : ∃ q, rdS (s.1 5 m) (sis s m) (swo s m) (sbo s m) x = q := ⟨_, rfl⟩
  have h0 : q 0 = (0, 0, x, 0, 0) := by rw [← hq]; rfl
  rw [hq] at od ⊢
  suffices key : f3_passStages_l4 N m N (q 0).2.2.2.2 (nI 0) (c3 s m (q 0).1 (q 0).2.1 (q 0).2.2.1) = some (c3 s m (q C).1 (q C).2.1 (q C).2.2.1) by
    rw [h0] at key
    exact key
  refine iter_ind (P := fun j (f : Int32 → Int32 → cS → Option cS) => f (q j).2.2.2.2 (nI j) (c3 s m (q j).1 (q j).2.1 (q j).2.2.1) = some (c3 s m (q C).1 (q C).2.1 (q C).2.2.1)) (e := C) ?_ ?_ (show C < N by omega)
  · intro k
    unfold f3_passStages_l4b
    rw [c3_o s m _ _ _ (by omega), hc, if_pos (Int32.le_refl _)]
  · intro j hj k hk
    unfold f3_passStages_l4b
    rw [c3_o s m _ _ _ (by omega), hc, if_neg (nI_ge hj (by omega)), partAt_some hm hj hC (by rw [c3_o s m _ _ _ (by omega)]; exact hc)]
    have e : q (j + 1) = rst (s.1 5 m) (sis s m j) (swo s m j) (sbo s m j) x (nI j) (q j) := by rw [← hq]; rfl
    rw [e] at hk
    have od := od j
    have hp : 16 * m + j < 128 := by omega
    have o5 := fun c d r => c3_o s m c d r (show 5 < 7 ∨ 9 < 5 by omega) m
    have o10 := fun c d r => c3_o s m c d r (show 10 < 7 ∨ 9 < 10 by omega) (16 * m + j)
    have o11 := fun c d r => c3_o s m c d r (show 11 < 7 ∨ 9 < 11 by omega) (16 * m + j)
    have o12 := fun c d r => c3_o s m c d r (show 12 < 7 ∨ 9 < 12 by omega) (16 * m + j)
    have o13 := fun c d r => c3_o s m c d r (show 13 < 7 ∨ 9 < 13 by omega) (16 * m + j)
    have eis : s.1 10 (16 * m + j) + s.1 11 (16 * m + j) = sis s m j := rfl
    have ewo : s.1 12 (16 * m + j) = swo s m j := rfl
    have ebo : s.1 13 (16 * m + j) = sbo s m j := rfl
    generalize q j = z at hk od ⊢
    obtain ⟨c, d, r, g, o⟩ := z
    simp only at od
    simp only [rst] at hk
    simp only [Option.bind_some, if_pos hp, c3_9, o13, ebo]
    generalize sbo s m j = bo at hk ⊢
    generalize hs5 : s.1 5 m = kd at hk hkd
    rcases hkd with rfl | rfl <;> rcases od with rfl | rfl <;> by_cases h1 : r < bo <;>
      (simp [h1] at hk; simp [f3_passStages_b41, f3_passStages_b57, f3_passStages_b103, f3_passStages_b123, f3_passStages_b136, h1, hp, asItIs_some, c3_7, c3_8, c3_9, c3_c, c3_d, c3_r, o5, o10, o11, o12, hs5, eis, ewo, nI_1, clamp_held, hk])
theorem weigh_inv {is wo bo : Nat → Int32} {x : Int32} (hx : -1000000 ≤ x.toInt ∧ x.toInt ≤ 1000000) : ∀ k : Nat, k ≤ 16 → (∀ j, j < k → -8500 ≤ (is j).toInt ∧ (is j).toInt ≤ 8500) → (rdS 2 is wo bo x k).2.2.1 = x - (rdS 2 is wo bo x k).2.2.2.1 ∧ -(8500 * (k : Int)) ≤ (rdS 2 is wo bo x k).2.2.2.1.toInt ∧ (rdS 2 is wo bo x k).2.2.2.1.toInt ≤ 8500 * k := by
  intro k
  induction k with
  | zero => intro _ _; exact ⟨(Int32.sub_zero x).symm, show -(8500 * ((0 : Nat) : Int)) ≤ (0 : Int32).toInt by decide, show (0 : Int32).toInt ≤ 8500 * ((0 : Nat) : Int) by decide⟩
  | succ k ih =>
    intro hk hb
    obtain ⟨h1, h2, h3⟩ := ih (by omega) (fun j hj => hb j (by omega))
    have hi := hb k (by omega)
    show (rst _ _ _ _ _ _ _).2.2.1 = x - (rst _ _ _ _ _ _ _).2.2.2.1 ∧ _ ≤ (rst _ _ _ _ _ _ _).2.2.2.1.toInt ∧ (rst _ _ _ _ _ _ _).2.2.2.1.toInt ≤ _
    unfold rst
    rw [if_neg (by decide), if_pos rfl]
    generalize rdS 2 is wo bo x k = q at h1 h2 h3 ⊢
    obtain ⟨c, d, r, g, o⟩ := q
    simp only at h1 h2 h3 ⊢
    by_cases h : x < g + is k
    · rw [if_pos h]
      exact ⟨h1, by simp only; omega, by simp only; omega⟩
    · rw [if_neg h]
      have e : (g + is k).toInt = g.toInt + (is k).toInt := fb_addI (by omega) (by omega)
      exact ⟨rfl, by simp only; omega, by simp only; omega⟩
theorem weigh_lt {x g i : Int32} (hx : -1000000 ≤ x.toInt ∧ x.toInt ≤ 1000000) (hg : -1000000 ≤ g.toInt ∧ g.toInt ≤ 1000000) (hi : -8500 ≤ i.toInt ∧ i.toInt ≤ 8500) : x < g + i ↔ x - g < i := by
  rw [fa_lt, fa_lt, fb_addI (by omega) (by omega), fb_subI (by omega) (by omega)]
  omega
theorem sub_sub32 (x g i : Int32) : x - g - i = x - (g + i) := by
  rw [Int32.sub_eq_add_neg, Int32.sub_eq_add_neg, Int32.sub_eq_add_neg, Int32.neg_add, Int32.add_assoc, Int32.sub_eq_add_neg]
theorem weigh_some (hN : 100 ≤ N) (hm : m < 8) (hC : C ≤ 16) (hc : s.1 6 m = nI C) (hx : -1000000 ≤ x.toInt ∧ x.toInt ≤ 1000000) (hb : ∀ j, j < C → -8500 ≤ (sis s m j).toInt ∧ (sis s m j).toInt ≤ 8500) :
    f3_weigh N m (c3 s m 0 0 x) = some (c3 s m (rdS 2 (sis s m) (swo s m) (sbo s m) x C).1 (rdS 2 (sis s m) (swo s m) (sbo s m) x C).2.1 (rdS 2 (sis s m) (swo s m) (sbo s m) x C).2.2.1) := by
  have inv := fun j (hj : j < C) => weigh_inv (is := sis s m) (wo := swo s m) (bo := sbo s m) hx j (by omega) (fun i hi => hb i (by omega))
  obtain ⟨q, hq⟩ : ∃ q, rdS 2 (sis s m) (swo s m) (sbo s m) x = q := ⟨_, rfl⟩
  have h0 : q 0 = (0, 0, x, 0, 0) := by rw [← hq]; rfl
  rw [hq] at inv ⊢
  suffices key : f3_weigh_l2 N m N (nI 0) (c3 s m (q 0).1 (q 0).2.1 (q 0).2.2.1) = some (c3 s m (q C).1 (q C).2.1 (q C).2.2.1) by
    rw [h0] at key
    exact key
  refine iter_ind (P := fun j (f : Int32 → cS → Option cS) => f (nI j) (c3 s m (q j).1 (q j).2.1 (q j).2.2.1) = some (c3 s m (q C).1 (q C).2.1 (q C).2.2.1)) (e := C) ?_ ?_ (show C < N by omega)
  · intro k
    unfold f3_weigh_l2b
    rw [c3_o s m _ _ _ (by omega), hc, if_pos (Int32.le_refl _)]
  · intro j hj k hk
    unfold f3_weigh_l2b
    rw [c3_o s m _ _ _ (by omega), hc, if_neg (nI_ge hj (by omega)), partAt_some hm hj hC (by rw [c3_o s m _ _ _ (by omega)]; exact hc)]
    have e : q (j + 1) = rst 2 (sis s m j) (swo s m j) (sbo s m j) x (nI j) (q j) := by rw [← hq]; rfl
    rw [e] at hk
    obtain ⟨i1, i2, i3⟩ := inv j hj
    have hbj := hb j hj
    have hp : 16 * m + j < 128 := by omega
    have o10 := fun c d r => c3_o s m c d r (show 10 < 7 ∨ 9 < 10 by omega) (16 * m + j)
    have o11 := fun c d r => c3_o s m c d r (show 11 < 7 ∨ 9 < 11 by omega) (16 * m + j)
    have o12 := fun c d r => c3_o s m c d r (show 12 < 7 ∨ 9 < 12 by omega) (16 * m + j)
    have eis : s.1 10 (16 * m + j) + s.1 11 (16 * m + j) = sis s m j := rfl
    have ewo : s.1 12 (16 * m + j) = swo s m j := rfl
    generalize q j = z at hk i1 i2 i3 ⊢
    obtain ⟨c, d, r, g, o⟩ := z
    simp only at i1 i2 i3
    subst i1
    have hlt := weigh_lt hx (g := g) (i := sis s m j) (by omega) hbj
    unfold rst at hk
    rw [if_neg (by decide), if_pos rfl] at hk
    simp only at hk
    by_cases h1 : x < g + sis s m j
    · simp [h1] at hk
      simp [hp, asItIs_some, c3_9, o10, o11, eis, hlt.mp h1, nI_1, hk]
    · have h2 : ¬ x - g < sis s m j := fun z => h1 (hlt.mpr z)
      simp [h1] at hk
      simp [hp, asItIs_some, c3_7, c3_8, c3_9, c3_c, c3_d, c3_r, o10, o11, o12, eis, ewo, h2, nI_1, sub_sub32, hk]
end CC
/-- the class's METER m, of C PARTS -/
def cOk (s : cS) (m C : Nat) : Prop := m < 8 ∧ C ≤ 16 ∧ s.1 6 m = nI C ∧ (∃ K : Nat, K ≤ 4 ∧ s.1 5 m = nI K) ∧ ∀ j, j < C → -8500 ≤ (sis s m j).toInt ∧ (sis s m j).toInt ≤ 8500
def ccq (s : cS) (m C : Nat) (x : Int32) : Int32 × Int32 × Int32 × Int32 × Int32 := rdS (s.1 5 m) (sis s m) (swo s m) (sbo s m) x C
theorem codeOf_some {N m C : Nat} {s : cS} {x : Int32} (hN : 100 ≤ N) (h : cOk s m C) (hx : -1000000 ≤ x.toInt ∧ x.toInt ≤ 1000000) : f3_codeOf N m x s = some ((ccq s m C x).1, c3 s m (ccq s m C x).1 (ccq s m C x).2.1 (ccq s m C x).2.2.1) := by
  obtain ⟨hm, hC, hc, ⟨K, hK, eK⟩, hb⟩ := h
  unfold f3_codeOf
  rw [show cu (cu (cu s 7 m 0) 8 m 0) 9 m x = c3 s m 0 0 x from rfl, c3_o s m _ _ _ (by omega)]
  have hkd := kind5 hK
  rw [← eK] at hkd
  unfold ccq
  rcases hkd with h | h | h | h | h
  · rw [if_neg (by rw [h]; decide)]
    simp only [f3_isStaged, c3_o s m _ _ _ (show 5 < 7 ∨ 9 < 5 by omega)]
    rw [if_neg (by rw [h]; decide), if_neg (by rw [h]; decide)]
    simp only [Option.bind_some, if_true]
    rw [edges_some hN hm hC hc (Or.inl h)]
    simp only [Option.bind_some, c3_7]
  · rw [if_neg (by rw [h]; decide)]
    simp only [f3_isStaged, c3_o s m _ _ _ (show 5 < 7 ∨ 9 < 5 by omega)]
    rw [if_neg (by rw [h]; decide), if_neg (by rw [h]; decide)]
    simp only [Option.bind_some, if_true]
    rw [edges_some hN hm hC hc (Or.inr h)]
    simp only [Option.bind_some, c3_7]
  · rw [if_pos h, weigh_some hN hm hC hc hx hb]
    simp only [Option.bind_some, c3_7, h]
  · rw [if_neg (by rw [h]; decide)]
    simp only [f3_isStaged, c3_o s m _ _ _ (show 5 < 7 ∨ 9 < 5 by omega)]
    rw [if_pos h]
    simp only [Option.bind_some]
    rw [if_neg (by decide), stages_some hN hm hC hc (Or.inl h)]
    simp only [Option.bind_some, c3_7]
  · rw [if_neg (by rw [h]; decide)]
    simp only [f3_isStaged, c3_o s m _ _ _ (show 5 < 7 ∨ 9 < 5 by omega)]
    rw [if_neg (by rw [h]; decide), if_pos h]
    simp only [Option.bind_some]
    rw [if_neg (by decide), stages_some hN hm hC hc (Or.inr h)]
    simp only [Option.bind_some, c3_7]

/-! the fewest numbers that show every fault: both grow sets of faults, number by number -/
def hit (fl : Nat → Bool) (a S : Nat) : Nat → Bool
  | 0 => false
  | M + 1 => hit fl a S M || (fl M && decide (a ||| M = S))
theorem hit_iff {fl : Nat → Bool} {a S : Nat} : ∀ {n : Nat}, hit fl a S n = true ↔ ∃ M, M < n ∧ fl M = true ∧ a ||| M = S := by
  intro n
  induction n with
  | zero => exact ⟨fun h => by simp [hit] at h, fun ⟨M, h, _⟩ => absurd h (Nat.not_lt_zero M)⟩
  | succ n ih =>
    simp only [hit]
    rw [Bool.or_eq_true, ih, Bool.and_eq_true, decide_eq_true_iff]
    constructor
    · rintro (⟨M, h1, h2, h3⟩ | ⟨h2, h3⟩)
      · exact ⟨M, by omega, h2, h3⟩
      · exact ⟨n, by omega, h2, h3⟩
    · rintro ⟨M, h1, h2, h3⟩
      by_cases q : M = n
      · rw [q] at h2 h3; exact Or.inr ⟨h2, h3⟩
      · exact Or.inl ⟨M, by omega, h2, h3⟩
/-- the same over a list -/
def hitL (L : Nat → Nat) (a S : Nat) : Nat → Bool
  | 0 => false
  | j + 1 => hitL L a S j || decide (a ||| L j = S)
theorem hitL_iff {L : Nat → Nat} {a S : Nat} : ∀ {n : Nat}, hitL L a S n = true ↔ ∃ j, j < n ∧ a ||| L j = S := by
  intro n
  induction n with
  | zero => exact ⟨fun h => by simp [hitL] at h, fun ⟨M, h, _⟩ => absurd h (Nat.not_lt_zero M)⟩
  | succ n ih =>
    simp only [hitL]
    rw [Bool.or_eq_true, ih, decide_eq_true_iff]
    constructor
    · rintro (⟨M, h1, h3⟩ | h3)
      · exact ⟨M, by omega, h3⟩
      · exact ⟨n, by omega, h3⟩
    · rintro ⟨M, h1, h3⟩
      by_cases q : M = n
      · rw [q] at h3; exact Or.inr h3
      · exact Or.inl ⟨M, by omega, h3⟩
def grw (h : Nat → Bool) (va : Nat) (V : Nat → Nat) : Nat → Nat := fun S => if h S = true ∧ va + 1 < V S then va + 1 else V S
theorem grw_step {h h' : Nat → Bool} {va : Nat} {V : Nat → Nat} {S0 : Nat} (hh : ∀ S, h' S = (h S || decide (S0 = S))) : (grw h va V S0 ≤ va + 1 → ∀ S, grw h' va V S = grw h va V S) ∧ (¬ grw h va V S0 ≤ va + 1 → ∀ S, grw h' va V S = if S = S0 then va + 1 else grw h va V S) := by
  constructor
  · intro hl S
    unfold grw at hl ⊢
    rw [hh S]
    by_cases q : S0 = S
    · subst q
      rw [decide_eq_true rfl, Bool.or_true]
      by_cases z : va + 1 < V S0
      · by_cases y : h S0 = true
        · rw [if_pos ⟨rfl, z⟩, if_pos ⟨y, z⟩]
        · rw [if_neg (fun w => y w.1)] at hl
          omega
      · rw [if_neg (fun w => z w.2), if_neg (fun w => z w.2)]
    · rw [decide_eq_false q, Bool.or_false]
  · intro hl S
    unfold grw at hl ⊢
    rw [hh S]
    by_cases q : S = S0
    · subst q
      rw [if_pos rfl, decide_eq_true rfl, Bool.or_true]
      by_cases y : h S = true ∧ va + 1 < V S
      · rw [if_pos y] at hl; exact absurd (Nat.le_refl _) hl
      · rw [if_neg y] at hl
        rw [if_pos ⟨rfl, by omega⟩]
    · rw [if_neg q, decide_eq_false (fun w => q w.symm), Bool.or_false]
def dp (fl : Nat → Bool) : Nat → Nat → Nat
  | 0 => fun S => if S = 0 then 0 else 100
  | a + 1 => if dp fl a a = 100 then dp fl a else grw (fun S => hit fl a S 1024) (dp fl a a) (dp fl a)
def pc (S : Nat) : Nat := fb_ct (fun i => S.testBit i) 10
theorem pc_le (S : Nat) : pc S ≤ 10 := fb_ct_le _ 10
theorem pc_grow {a M : Nat} (hS : a ||| M < 1024) (hne : a ||| M ≠ a) : pc a + 1 ≤ pc (a ||| M) := by
  obtain ⟨i, hi⟩ : ∃ i, a.testBit i ≠ (a ||| M).testBit i := by
    refine Classical.byContradiction (fun q => hne (Nat.eq_of_testBit_eq (fun i => ?_)))
    refine Classical.byContradiction (fun w => q ⟨i, fun e => w e.symm⟩)
  have hi10 : i < 10 := by
    rcases Nat.lt_or_ge i 10 with q | q
    · exact q
    · have h1 : (a ||| M).testBit i = false := Nat.testBit_lt_two_pow (Nat.lt_of_lt_of_le hS (Nat.pow_le_pow_right (n := 2) (by omega) q : 2 ^ 10 ≤ 2 ^ i))
      rw [h1] at hi
      rw [Nat.testBit_or, Bool.or_eq_false_iff] at h1
      exact absurd h1.1 hi
  have ha : a.testBit i = false := by
    cases q : a.testBit i with
    | false => rfl
    | true => rw [Nat.testBit_or, q, Bool.true_or] at hi; exact absurd rfl hi
  have up := fb_ct_upd (fun k => a.testBit k) true (i := i) (n := 10) hi10
  simp only [ha] at up
  rw [if_neg (show ¬ false = true by decide), if_pos trivial] at up
  unfold pc
  rw [← up]
  refine fb_ct_sub (fun k _ hk => ?_)
  by_cases q : k = i
  · subst q
    cases w : (a ||| M).testBit k with
    | true => rfl
    | false => rw [ha, w] at hi; exact absurd rfl hi
  · rw [if_neg q] at hk
    rw [Nat.testBit_or, hk, Bool.true_or]
/-- what holds of the grown sets -/
theorem dp_inv {fl : Nat → Bool} {al : Nat} (hal : al < 1024) (hfl : ∀ M, M < 1024 → fl M = true → M ||| al = al) : ∀ a, a ≤ 1024 → ∀ S, S < 1024 → (dp fl a S = 100 ∨ dp fl a S ≤ pc S) ∧ (dp fl a S ≠ 100 → S ||| al = al) := by
  intro a
  induction a with
  | zero =>
    intro _ S hS
    show ((if S = 0 then 0 else 100) = 100 ∨ _) ∧ ((if S = 0 then 0 else 100) ≠ 100 → _)
    by_cases q : S = 0
    · subst q; exact ⟨Or.inr (Nat.zero_le _), fun _ => Nat.zero_or al⟩
    · rw [if_neg q]; exact ⟨Or.inl rfl, fun w => absurd rfl w⟩
  | succ a ih =>
    intro ha S hS
    have ih := ih (by omega)
    simp only [dp]
    by_cases q : dp fl a a = 100
    · rw [if_pos q]; exact ih S hS
    · rw [if_neg q]
      unfold grw
      by_cases z : hit fl a S 1024 = true ∧ dp fl a a + 1 < dp fl a S
      · rw [if_pos z]
        obtain ⟨M, m1, m2, m3⟩ := hit_iff.mp z.1
        have hne : a ||| M ≠ a := fun w => by rw [m3] at w; rw [w] at z; omega
        have hg := pc_grow (by rw [m3]; exact hS) hne
        have hv := (ih a (by omega)).1
        rw [m3] at hg
        refine ⟨Or.inr (by omega), fun _ => ?_⟩
        rw [← m3, Nat.or_assoc, hfl M m1 m2]
        exact (ih a (by omega)).2 q
      · rw [if_neg z]; exact ih S hS
theorem dp_keep {fl : Nat → Bool} {al : Nat} (hal : al < 1024) (hfl : ∀ M, M < 1024 → fl M = true → M ||| al = al) {S : Nat} (hS : S < 1024) : ∀ d a, a + d ≤ 1024 → dp fl a S ≠ 100 → dp fl (a + d) S ≠ 100 := by
  intro d
  induction d with
  | zero => intro a _ h; exact h
  | succ d ih =>
    intro a ha h
    have h1 := ih a (by omega) h
    show dp fl (a + d + 1) S ≠ 100
    simp only [dp]
    by_cases q : dp fl (a + d) (a + d) = 100
    · rw [if_pos q]; exact h1
    · rw [if_neg q]
      unfold grw
      split
      · have := (dp_inv hal hfl (a + d) (by omega) (a + d) (by omega)).1
        have := pc_le (a + d)
        omega
      · exact h1
theorem dp_last {fl : Nat → Bool} {al : Nat} (hal : al < 1024) (hfl : ∀ M, M < 1024 → fl M = true → M ||| al = al) : ∀ d, al + d ≤ 1024 → dp fl (al + d) al = dp fl al al := by
  intro d
  induction d with
  | zero => intro _; rfl
  | succ d ih =>
    intro hd
    rw [← ih (by omega)]
    show dp fl (al + d + 1) al = _
    simp only [dp]
    by_cases q : dp fl (al + d) (al + d) = 100
    · rw [if_pos q]
    · rw [if_neg q]
      have h1 := (dp_inv hal hfl (al + d) (by omega) (al + d) (by omega)).2 q
      have h2 : al + d ≤ al := by
        have := @Nat.left_le_or (al + d) al
        rw [h1] at this; exact this
      have : d = 0 := by omega
      subst this
      unfold grw
      rw [if_neg (fun w => by
        have this : dp fl al al + 1 < dp fl al al := w.2
        omega)]
def big (v : Nat) : Nat := if v = 100 then 1000 else v
section O
variable {N : Nat} {s : cS} {t : mS}
/-- but for the class's families 24 to 28 and what reading leaves -/
def Sk (s s' : cS) : Prop := (∀ f, f ≠ 7 → f ≠ 8 → f ≠ 9 → (f < 24 ∨ 28 < f) → s'.1 f = s.1 f) ∧ s'.2 = s.2
theorem Sk.rel {s s' : cS} {t : mS} (h : Rel s t) (e : Sk s s') : Rel s' t := by
  refine ⟨h.1.of (fun f hf => ?_) (by rw [e.2]) (fun _ _ => rfl), h.2.fr (fun f hf => e.1 f (by omega) (by omega) (by omega) (by omega)) rfl⟩
  unfold eC at hf
  exact e.1 f (by omega) (by omega) (by omega) (by omega)
theorem grow_c (hN : 5000 ≤ N) {c a va : Nat} {L V : Nat → Nat} (hc : c ≤ 1023) (hL : ∀ j, j < c → L j < 1024) (ha : a < 1024) (hva : va ≤ 10) (hVa : V a = va) {s1 : cS} (h24 : s1.1 24 0 = nI c) (h27 : ∀ j, j < c → s1.1 27 j = nI (L j)) (hV : ∀ S, S < 1024 → V S ≤ 100) (h26 : ∀ S, S < 1024 → s1.1 26 S = nI (big (V S))) : ∃ s2, f1_growFrom N (nI a) s1 = some s2 ∧ (∀ f, f ≠ 26 → s2.1 f = s1.1 f) ∧ s2.2 = s1.2 ∧ ∀ S, S < 1024 → s2.1 26 S = nI (big (grw (fun S => hitL L a S c) va V S)) := by
  have hai := ix a 1024 ha (by omega)
  unfold f1_growFrom
  rw [if_neg (nI_pos (by omega)), if_pos (show nI a < 1024 from nI_lt (b := 1024) ha (by omega)), if_pos hai.1, hai.2, h26 a ha, hVa, show big va = va by unfold big; rw [if_neg (by omega)], nI_1]
  have key : ∀ s', (∀ f, f ≠ 26 → s'.1 f = s1.1 f) → s'.2 = s1.2 → (∀ S, S < 1024 → s'.1 26 S = nI (big (grw (fun S => hitL L a S 0) va V S))) → ∃ s2, f1_growFrom_l25 N (nI a) N (nI (va + 1)) (nI 0) s' = some s2 ∧ (∀ f, f ≠ 26 → s2.1 f = s1.1 f) ∧ s2.2 = s1.2 ∧ ∀ S, S < 1024 → s2.1 26 S = nI (big (grw (fun S => hitL L a S c) va V S)) := by
    refine iter_ind (P := fun j (f : Int32 → Int32 → cS → Option cS) => ∀ s', (∀ f, f ≠ 26 → s'.1 f = s1.1 f) → s'.2 = s1.2 → (∀ S, S < 1024 → s'.1 26 S = nI (big (grw (fun S => hitL L a S j) va V S))) → ∃ s2, f (nI (va + 1)) (nI j) s' = some s2 ∧ (∀ f, f ≠ 26 → s2.1 f = s1.1 f) ∧ s2.2 = s1.2 ∧ ∀ S, S < 1024 → s2.1 26 S = nI (big (grw (fun S => hitL L a S c) va V S))) (e := c) ?_ ?_ (show c < N by omega)
    · intro k s' e1 e2 e3
      unfold f1_growFrom_l25b
      rw [e1 24 (by omega), h24, if_pos (Int32.le_refl _)]
      exact ⟨s', rfl, e1, e2, e3⟩
    · intro j hj k ih s' e1 e2 e3
      have hji := ix j 1024 (by omega) (by omega)
      have hS0 : a ||| L j < 1024 := Nat.or_lt_two_pow (n := 10) ha (hL j hj)
      have hsi := ix (a ||| L j) 1024 hS0 (by omega)
      obtain ⟨g1, g2⟩ := grw_step (h := fun S => hitL L a S j) (h' := fun S => hitL L a S (j + 1)) (va := va) (V := V) (S0 := a ||| L j) (fun S => rfl)
      have hW : grw (fun S => hitL L a S j) va V (a ||| L j) ≤ 100 := by
        unfold grw
        split
        · omega
        · exact hV _ hS0
      unfold f1_growFrom_l25b
      rw [e1 24 (by omega), e1 27 (by omega), h24, if_neg (nI_ge hj (by omega)), if_neg (show ¬ (1024 : Int32) ≤ nI j from nI_ge (b := 1024) (by omega) (by omega)), if_pos hji.1, hji.2, h27 j hj, fa_or, if_neg (nI_pos (by omega)), if_neg (show ¬ (1024 : Int32) ≤ nI (a ||| L j) from nI_ge (b := 1024) hS0 (by omega)), if_pos hsi.1, hsi.2, e3 _ hS0, nI_1]
      by_cases z : grw (fun S => hitL L a S j) va V (a ||| L j) ≤ va + 1
      · have hz : big (grw (fun S => hitL L a S j) va V (a ||| L j)) ≤ va + 1 := by unfold big; rw [if_neg (by omega)]; exact z
        rw [if_pos (nI_le hz (by omega))]
        exact ih s' e1 e2 (fun S hS => by rw [g1 z S]; exact e3 S hS)
      · have hz : va + 1 < big (grw (fun S => hitL L a S j) va V (a ||| L j)) := by unfold big; split <;> omega
        have hz2 : big (grw (fun S => hitL L a S j) va V (a ||| L j)) ≤ 1000 := by unfold big; split <;> omega
        rw [if_neg (nI_ge hz (by omega))]
        refine ih _ (fun f hf => by rw [cu_ne _ _ _ hf]; exact e1 f hf) e2 (fun S hS => ?_)
        rw [g2 z S, cu_rd]
        by_cases y : S = a ||| L j
        · rw [if_pos ⟨rfl, y⟩, if_pos y]
          unfold big; rw [if_neg (by omega)]
        · rw [if_neg (fun w => y w.2), if_neg y]; exact e3 S hS
  refine key s1 (fun _ _ => rfl) rfl (fun S hS => ?_)
  rw [h26 S hS]
  unfold grw
  rw [if_neg (fun w => by simp [hitL] at w)]
end O

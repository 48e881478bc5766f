/-! faults told apart -/
theorem shj : ∀ n : Nat, n < 10 → ((nI n &&& 31).toBitVec.smod 32).toNat = n := by decide +kernel
theorem m1b : (1 : Int32).toBitVec.toNat = 2 ^ 1 - 1 := by decide +kernel
theorem bit_at {a j : Nat} (ha : a < 2 ^ 31) (hj : j < 10) : (nI a >>> (nI j &&& 31)) &&& 1 = 0 ↔ a.testBit j = false := by
  rw [pk_shrN ha _ j (shj j hj), pk_andN (by have := Nat.div_le_self a (2 ^ j); omega) 1 m1b, Nat.testBit_eq_decide_div_mod_eq]
  have h2 : a / 2 ^ j % 2 ^ 1 < 2 := Nat.mod_lt _ (by decide)
  rw [show (0 : Int32) = nI 0 from rfl, nI_eq (by omega) (by omega), decide_eq_false_iff_not]
  omega
def apart (t : mS) (i j : Nat) : Nat → Bool
  | 0 => false
  | x + 1 => apart t i j x || !decide (fcd t i (nI x) = fcd t j (nI x))
/-- alike: of one METER, and no number tells them apart -/
def alk (t : mS) (T i j : Nat) : Bool := decide (t 7 i = t 7 j) && !apart t i j (T + 1)
def Sh (s s' : cS) : Prop := (∀ f, f ≠ 7 → f ≠ 8 → f ≠ 9 → f ≠ 22 → f ≠ 23 → s'.1 f = s.1 f) ∧ s'.2 = s.2
theorem Sh.rf (s : cS) : Sh s s := ⟨fun _ _ _ _ _ _ => rfl, rfl⟩
theorem Sh.tr {a b c : cS} (h1 : Sh a b) (h2 : Sh b c) : Sh a c := ⟨fun f x y z u v => (h2.1 f x y z u v).trans (h1.1 f x y z u v), h2.2.trans h1.2⟩
theorem Sh.rel {s s' : cS} {t : mS} (h : Rel s t) (e : Sh s s') : Rel s' t := by
  refine ⟨h.1.of (fun f hf => ?_) (by rw [e.2]) (fun _ _ => rfl), h.2.fr (fun f hf => e.1 f (by omega) (by omega) (by omega) (by omega) (by omega)) rfl⟩
  unfold eC at hf
  exact e.1 f (by omega) (by omega) (by omega) (by omega) (by omega)
theorem Sh.sc {s s' : cS} (h : Sc s s') : Sh s s' := ⟨fun f x y z _ _ => h.1 f x y z, h.2⟩
theorem Sh.put {s s' : cS} (h : Sh s s') {f : Nat} (hf : f = 22 ∨ f = 23) (i : Nat) (v : Int32) : Sh s (cu s' f i v) := by
  refine ⟨fun g a b c d e => ?_, h.2⟩
  rw [cu_ne _ _ _ (show g ≠ f by omega)]
  exact h.1 g a b c d e
/-- row q of what the class knows: for numbers below X, for faults below J one number more -/
def Rw (t : mS) (s : cS) (F q X J : Nat) : Prop := ∃ a : Nat, a < 1024 ∧ s.1 23 q = nI a ∧ ∀ j, a.testBit j = (decide (q < j) && decide (j < F) && (if j < J then apart t q j (X + 1) else apart t q j X))
section O
variable {N : Nat} {s : cS} {t : mS}
theorem tell_in (hN : 100 ≤ N) {F x : Nat} (hF2 : F ≤ 10) (k53 : Int32 → cS → Option cS) {i : Nat} (hi : i < F) {s1 : cS} (h2 : s1.1 2 0 = nI F) (hc : ∀ q, q < F → s1.1 22 q = fcd t q (nI x)) (hr : Rw t s1 F i x 0) : ∃ s2, f8_tellApart_l83 N (nI x) k53 N (nI i) (nI (i + 1)) s1 = k53 (nI (i + 1)) s2 ∧ (∀ f, f ≠ 23 → s2.1 f = s1.1 f) ∧ s2.2 = s1.2 ∧ (∀ q, q ≠ i → s2.1 23 q = s1.1 23 q) ∧ Rw t s2 F i x F := by
  have key : ∀ s', (∀ f, f ≠ 23 → s'.1 f = s1.1 f) → s'.2 = s1.2 → (∀ q, q ≠ i → s'.1 23 q = s1.1 23 q) → Rw t s' F i x (i + 1 + 0) → ∃ s2, f8_tellApart_l83 N (nI x) k53 N (nI i) (nI (i + 1 + 0)) s' = k53 (nI (i + 1)) s2 ∧ (∀ f, f ≠ 23 → s2.1 f = s1.1 f) ∧ s2.2 = s1.2 ∧ (∀ q, q ≠ i → s2.1 23 q = s1.1 23 q) ∧ Rw t s2 F i x F := by
    refine iter_ind (P := fun d (f : Int32 → Int32 → cS → Option cS) => ∀ s', (∀ f, f ≠ 23 → s'.1 f = s1.1 f) → s'.2 = s1.2 → (∀ q, q ≠ i → s'.1 23 q = s1.1 23 q) → Rw t s' F i x (i + 1 + d) → ∃ s2, f (nI i) (nI (i + 1 + d)) s' = k53 (nI (i + 1)) s2 ∧ (∀ f, f ≠ 23 → s2.1 f = s1.1 f) ∧ s2.2 = s1.2 ∧ (∀ q, q ≠ i → s2.1 23 q = s1.1 23 q) ∧ Rw t s2 F i x F) (e := F - (i + 1)) ?_ ?_ (show F - (i + 1) < N by omega)
    · intro k s' e1 e2 e3 e4
      unfold f8_tellApart_l83b
      rw [show i + 1 + (F - (i + 1)) = F by omega] at e4 ⊢
      rw [e1 2 (by omega), h2, if_pos (Int32.le_refl _), nI_1]
      exact ⟨s', rfl, e1, e2, e3, e4⟩
    · intro d hd k ih s' e1 e2 e3 ⟨a, a1, a2, a3⟩
      have hi10 := ix i 10 (by omega) (by omega)
      have hj10 := ix (i + 1 + d) 10 (by omega) (by omega)
      unfold f8_tellApart_l83b
      rw [e1 2 (by omega), e1 22 (by omega), h2, if_neg (nI_ge (by omega) (by omega)), if_neg (show ¬ (10 : Int32) ≤ nI (i + 1 + d) from nI_ge (b := 10) (by omega) (by omega)), if_pos hi10.1, if_pos hj10.1, hi10.2, hj10.2, hc i hi, hc (i + 1 + d) (by omega), nI_1]
      by_cases z : fcd t i (nI x) = fcd t (i + 1 + d) (nI x)
      · rw [if_pos z]
        refine ih s' e1 e2 e3 ⟨a, a1, a2, fun j => ?_⟩
        rw [a3 j]
        by_cases y : j = i + 1 + d
        · rw [if_neg (by omega), if_pos (by omega)]
          subst y
          simp only [apart]
          rw [decide_eq_true z, Bool.not_true, Bool.or_false]
        · by_cases w : j < i + 1 + d
          · rw [if_pos w, if_pos (by omega)]
          · rw [if_neg w, if_neg (by omega)]
      · rw [if_neg z, a2, bit_nI _ (by omega), fa_or]
        refine ih _ (fun f hf => by rw [cu_ne _ _ _ hf]; exact e1 f hf) e2 (fun q hq => by rw [cu_rd, if_neg (fun w => hq w.2)]; exact e3 q hq) ⟨a ||| 2 ^ (i + 1 + d), ?_, cu_at _ _ _ _, fun j => ?_⟩
        · exact Nat.or_lt_two_pow (n := 10) a1 (Nat.pow_lt_pow_right (by omega) (by omega))
        · rw [fb_bit_set, a3 j]
          by_cases y : j = i + 1 + d
          · subst y
            rw [if_neg (by omega), if_pos (by omega)]
            simp only [apart]
            rw [decide_eq_false z, Bool.not_false, Bool.or_true, decide_eq_true (show i < i + 1 + d by omega), decide_eq_true (show i + 1 + d < F by omega)]
            simp
          · rw [decide_eq_false y, Bool.or_false]
            by_cases w : j < i + 1 + d
            · rw [if_pos w, if_pos (by omega)]
            · rw [if_neg w, if_neg (by omega)]
  refine key s1 (fun _ _ => rfl) rfl (fun _ _ => rfl) ?_
  obtain ⟨a, a1, a2, a3⟩ := hr
  refine ⟨a, a1, a2, fun j => ?_⟩
  rw [a3 j, if_neg (Nat.not_lt_zero j)]
  by_cases w : j < i + 1
  · rw [decide_eq_false (show ¬ i < j by omega)]; simp
  · rw [if_neg (by omega)]
theorem Rw_next {F q X : Nat} {s1 : cS} (h : Rw t s1 F q X F) : Rw t s1 F q (X + 1) 0 := by
  obtain ⟨a, a1, a2, a3⟩ := h
  refine ⟨a, a1, a2, fun j => ?_⟩
  rw [a3 j, if_neg (Nat.not_lt_zero j)]
  by_cases w : j < F
  · rw [if_pos w]
  · rw [decide_eq_false w]; simp
theorem tell_some (hN : 100 ≤ N) (h : Rel s t) {F : Nat} (hF : t 11 0 = nI F) (hF2 : F ≤ 10) {x : Nat} (hx : x ≤ 4095) {s1 : cS} (hs : Sh s s1) (hr : ∀ q, q < F → Rw t s1 F q x 0) : ∃ s2, Sh s s2 ∧ f8_tellApart N (nI x) s1 = some s2 ∧ ∀ q, q < F → Rw t s2 F q (x + 1) 0 := by
  have hF3 : s.1 2 0 = nI F := by
    obtain ⟨F', hF', f1, f2, f3⟩ := h.1.2.2.2.2.1
    rw [f1, ← f2, hF]
  unfold f8_tellApart
  have out : ∀ s', Sh s s' → (∀ q, q < F → s'.1 22 q = fcd t q (nI x)) → (∀ q, q < F → 0 ≤ q → Rw t s' F q x 0) → (∀ q, q < 0 → q < F → Rw t s' F q (x + 1) 0) → ∃ s2, Sh s s2 ∧ f8_tellApart_l53 N (nI x) N (nI 0) s' = some s2 ∧ ∀ q, q < F → Rw t s2 F q (x + 1) 0 := by
    refine iter_ind (P := fun i (f : Int32 → cS → Option cS) => ∀ s', Sh s s' → (∀ q, q < F → s'.1 22 q = fcd t q (nI x)) → (∀ q, q < F → i ≤ q → Rw t s' F q x 0) → (∀ q, q < i → q < F → Rw t s' F q (x + 1) 0) → ∃ s2, Sh s s2 ∧ f (nI i) s' = some s2 ∧ ∀ q, q < F → Rw t s2 F q (x + 1) 0) (e := F) ?_ ?_ (show F < N by omega)
    · intro k s' h1 h2 h3 h4
      unfold f8_tellApart_l53b
      rw [h1.1 2 (by omega) (by omega) (by omega) (by omega) (by omega), hF3, if_pos (Int32.le_refl _)]
      exact ⟨s', h1, rfl, fun q hq => h4 q hq hq⟩
    · intro i hi k ih s' h1 h2 h3 h4
      have h20 : s'.1 2 0 = nI F := by rw [h1.1 2 (by omega) (by omega) (by omega) (by omega) (by omega), hF3]
      unfold f8_tellApart_l53b
      rw [h20, if_neg (nI_ge hi (by omega)), if_neg (show ¬ (10 : Int32) ≤ nI i from nI_ge (b := 10) (by omega) (by omega)), if_neg (show ¬ (10 : Int32) ≤ nI i from nI_ge (b := 10) (by omega) (by omega)), nI_1]
      obtain ⟨s2, a1, a2, a3, a4, a5⟩ := tell_in hN hF2 k hi h20 h2 (h3 i hi (Nat.le_refl i))
      rw [a1]
      have same : ∀ q X J, q ≠ i → Rw t s' F q X J → Rw t s2 F q X J := fun q X J hq ⟨a, b1, b2, b3⟩ => ⟨a, b1, by rw [a4 q hq]; exact b2, b3⟩
      refine ih s2 ⟨fun f x y z u v => by rw [a2 f v, h1.1 f x y z u v], by rw [a3, h1.2]⟩ (fun q hq => by rw [a2 22 (by omega)]; exact h2 q hq) (fun q hq hq2 => same q _ _ (by omega) (h3 q hq (by omega))) (fun q hq hq2 => ?_)
      by_cases z : q = i
      · rw [z]; exact Rw_next a5
      · exact same q _ _ z (h4 q (by omega) hq2)
  have key : ∀ s', Sh s s' → s'.1 23 = s1.1 23 → (∀ q, q < 0 → s'.1 22 q = fcd t q (nI x)) → ∃ s2, Sh s s2 ∧ f8_tellApart_l2 N (nI x) N (nI 0) s' = some s2 ∧ ∀ q, q < F → Rw t s2 F q (x + 1) 0 := by
    refine iter_ind (P := fun i (f : Int32 → cS → Option cS) => ∀ s', Sh s s' → s'.1 23 = s1.1 23 → (∀ q, q < i → s'.1 22 q = fcd t q (nI x)) → ∃ s2, Sh s s2 ∧ f (nI i) s' = some s2 ∧ ∀ q, q < F → Rw t s2 F q (x + 1) 0) (e := F) ?_ ?_ (show F < N by omega)
    · intro k s' h1 h2 h3
      unfold f8_tellApart_l2b
      rw [h1.1 2 (by omega) (by omega) (by omega) (by omega) (by omega), hF3, if_pos (Int32.le_refl _)]
      exact out s' h1 h3 (fun q hq _ => by
        obtain ⟨a, b1, b2, b3⟩ := hr q hq
        exact ⟨a, b1, by rw [h2]; exact b2, b3⟩) (fun q hq => absurd hq (Nat.not_lt_zero q))
    · intro i hi k ih s' h1 h2 h3
      have hi10 := ix i 10 (by omega) (by omega)
      have h20 : s'.1 2 0 = nI F := by rw [h1.1 2 (by omega) (by omega) (by omega) (by omega) (by omega), hF3]
      obtain ⟨-, -, -, ⟨s2, a1, a2⟩, -⟩ := faulty_some hN (h1.rel h).1 hF hF2 hi hx (Sc.rf s') (Sm.rf t)
      have hfa : f8_faultAt N (nI i) s' = some (some i, s') := by
        unfold f8_faultAt
        rw [h20, if_neg (nI_pos (by omega)), if_neg (nI_ge hi (by omega)), if_neg (show ¬ (10 : Int32) ≤ nI i from nI_ge (b := 10) (by omega) (by omega)), if_pos hi10.1, hi10.2]
      unfold f8_tellApart_l2b
      rw [h20, if_neg (nI_ge hi (by omega)), if_neg (show ¬ (10 : Int32) ≤ nI i from nI_ge (b := 10) (by omega) (by omega)), hfa]
      simp only [Option.bind_some]
      rw [a2]
      simp only [Option.bind_some]
      rw [if_pos hi10.1, hi10.2, nI_1]
      refine ih _ ((h1.tr (Sh.sc a1)).put (Or.inl rfl) i _) ?_ (fun q hq => ?_)
      · rw [cu_ne _ _ _ (show 23 ≠ 22 by omega), a1.1 23 (by omega) (by omega) (by omega), h2]
      · rw [cu_rd]
        by_cases z : q = i
        · rw [if_pos ⟨rfl, z⟩, z]
        · rw [if_neg (fun w => z w.2), a1.1 22 (by omega) (by omega) (by omega)]
          exact h3 q (by omega)
  exact key s1 hs rfl (fun q hq => absurd hq (Nat.not_lt_zero q))
end O

/-! the MEAN of a code under noise -/
theorem mulB {x y : Int} {a b : Int} (hx : 0 ≤ x) (hxa : x ≤ a) (hb : 0 ≤ b) (h1 : -b ≤ y) (h2 : y ≤ b) : -(a * b) ≤ x * y ∧ x * y ≤ a * b := by
  have e1 : x * y ≤ x * b := Int.mul_le_mul_of_nonneg_left h2 hx
  have e2 : x * b ≤ a * b := Int.mul_le_mul_of_nonneg_right hxa hb
  have e3 : x * (-b) ≤ x * y := Int.mul_le_mul_of_nonneg_left h1 hx
  rw [Int.mul_neg] at e3
  constructor
  · omega
  · omega
theorem rem_half {a b : Nat} (hb : 0 < b) (h : 0 < a % b) : 2 * (b % (a % b)) < b := by
  have h1 : a % b < b := Nat.mod_lt a hb
  have h2 : b % (a % b) < a % b := Nat.mod_lt b h
  have h3 : a % b + b % (a % b) ≤ b := by
    have h4 := Nat.div_add_mod b (a % b)
    have h5 : 1 ≤ b / (a % b) := Nat.div_pos (by omega) h
    have h6 : a % b * 1 ≤ a % b * (b / (a % b)) := Nat.mul_le_mul_left _ h5
    omega
  omega
section O
variable {N : Nat} {s : cS} {t : mS}
theorem gcd_c (p0 p1 : Int32) : ∀ d a b cnt n : Nat, a < 2 ^ 31 → b < 2 ^ 31 → b < 2 ^ d → cnt + 2 * d < 99 → 2 * d + 1 < n → iter (fun k => f8_commonDivisor_l13b N p0 p1 k) (fun _ _ _ _ => none) n (nI a) (nI b) (nI cnt) s = some (nI (Nat.gcd a b), s) := by
  have step : ∀ (k : Int32 → Int32 → Int32 → cS → Option (Int32 × cS)) (a b cnt : Nat), a < 2 ^ 31 → b < 2 ^ 31 → cnt < 100 → f8_commonDivisor_l13b N p0 p1 k (nI a) (nI b) (nI cnt) s = if b = 0 then some (nI a, s) else k (nI b) (nI (a % b)) (nI (cnt + 1)) s := by
    intro k a b cnt ha hb hc
    unfold f8_commonDivisor_l13b
    rw [if_neg (show ¬ (100 : Int32) ≤ nI cnt from nI_ge (b := 100) (by omega) (by omega))]
    by_cases q : b = 0
    · subst q; rw [if_pos rfl, if_pos (show nI 0 = 0 from rfl)]
    · rw [if_neg q, if_neg (nI_ne0 (by omega) hb), if_neg (nI_ne0 (by omega) hb), pk_rem ha (by omega) hb, nI_1]
  intro d
  induction d with
  | zero =>
    intro a b cnt n ha hb hd hc hn
    have : b = 0 := by omega
    subst this
    rw [iter_s _ _ (show 0 < n by omega), step _ a 0 cnt ha hb (by omega), if_pos rfl, Nat.gcd_zero_right]
  | succ d ih =>
    intro a b cnt n ha hb hd hc hn
    rw [iter_s _ _ (show 0 < n by omega), step _ a b cnt ha hb (by omega)]
    by_cases q : b = 0
    · subst q; rw [if_pos rfl, Nat.gcd_zero_right]
    · have hlt : a % b < b := Nat.mod_lt a (by omega)
      rw [if_neg q, iter_s _ _ (show 0 < n - 1 by omega), step _ b (a % b) (cnt + 1) hb (by omega) (by omega)]
      have g1 : Nat.gcd a b = Nat.gcd b (a % b) := by rw [Nat.gcd_comm a b, Nat.gcd_rec b a, Nat.gcd_comm]
      by_cases z : a % b = 0
      · rw [if_pos z, g1, z, Nat.gcd_zero_right]
      · rw [if_neg z]
        have hh := rem_half (a := a) (b := b) (by omega) (by omega)
        have g2 : Nat.gcd b (a % b) = Nat.gcd (a % b) (b % (a % b)) := by rw [Nat.gcd_comm b, Nat.gcd_rec (a % b) b, Nat.gcd_comm]
        rw [g1, g2]
        have hp : 2 ^ (d + 1) = 2 ^ d * 2 := Nat.pow_succ 2 d
        exact ih (a % b) (b % (a % b)) (cnt + 1 + 1) (n - 1 - 1) (by omega) (by omega) (by omega) (by omega) (by omega)
theorem gcd_m (p0 p1 : Int32) : ∀ d a b n : Nat, a < 2 ^ 31 → b < 2 ^ 31 → b < 2 ^ d → 2 * d + 1 < n → iter (fun k => f9_divisor_l14b N p0 p1 k) (fun _ _ _ => none) n (nI a) (nI b) t = some (nI (Nat.gcd a b), t) := by
  have step : ∀ (k : Int32 → Int32 → mS → Option (Int32 × mS)) (a b : Nat), a < 2 ^ 31 → b < 2 ^ 31 → f9_divisor_l14b N p0 p1 k (nI a) (nI b) t = if b = 0 then some (nI a, t) else k (nI b) (nI (a % b)) t := by
    intro k a b ha hb
    unfold f9_divisor_l14b
    by_cases q : b = 0
    · subst q; rw [if_pos rfl, if_pos (show nI 0 = 0 from rfl)]
    · rw [if_neg q, if_neg (nI_ne0 (by omega) hb), if_neg (nI_ne0 (by omega) hb), pk_rem ha (by omega) hb]
  intro d
  induction d with
  | zero =>
    intro a b n ha hb hd hn
    have : b = 0 := by omega
    subst this
    rw [iter_s _ _ (show 0 < n by omega), step _ a 0 ha hb, if_pos rfl, Nat.gcd_zero_right]
  | succ d ih =>
    intro a b n ha hb hd hn
    rw [iter_s _ _ (show 0 < n by omega), step _ a b ha hb]
    by_cases q : b = 0
    · subst q; rw [if_pos rfl, Nat.gcd_zero_right]
    · have hlt : a % b < b := Nat.mod_lt a (by omega)
      rw [if_neg q, iter_s _ _ (show 0 < n - 1 by omega), step _ b (a % b) hb (by omega)]
      have g1 : Nat.gcd a b = Nat.gcd b (a % b) := by rw [Nat.gcd_comm a b, Nat.gcd_rec b a, Nat.gcd_comm]
      by_cases z : a % b = 0
      · rw [if_pos z, g1, z, Nat.gcd_zero_right]
      · rw [if_neg z]
        have hh := rem_half (a := a) (b := b) (by omega) (by omega)
        have g2 : Nat.gcd b (a % b) = Nat.gcd (a % b) (b % (a % b)) := by rw [Nat.gcd_comm b, Nat.gcd_rec (a % b) b, Nat.gcd_comm]
        rw [g1, g2]
        have hp : 2 ^ (d + 1) = 2 ^ d * 2 := Nat.pow_succ 2 d
        exact ih (a % b) (b % (a % b)) (n - 1 - 1) (by omega) (by omega) (by omega) (by omega)
theorem jabs_nI {x : Int32} (h : ¬ x.toInt = -2147483648) : ∃ a : Nat, a < 2 ^ 31 ∧ jabs x = nI a ∧ (if 0 ≤ x then x else -x) = nI a := by
  unfold jabs
  by_cases z : 0 ≤ x
  · rw [if_pos z, if_pos z]
    obtain ⟨j, hj, e⟩ := nI_of (x := x) (Int32.not_lt.mpr z)
    exact ⟨j, hj, e, e⟩
  · rw [if_neg z, if_neg z, Int32.zero_sub]
    have z' : x.toInt < 0 := by
      have : ¬ (0 : Int32).toInt ≤ x.toInt := fun q => z ((fa_le _ _).mpr q)
      rw [i0] at this; omega
    obtain ⟨j, hj, e⟩ := nI_of (x := -x) (by rw [fa_lt, i0, fb_negI h]; omega)
    exact ⟨j, hj, e, e⟩
/-- both divide by the same -/
theorem divisor_some (hN : 200 ≤ N) {W : Int32} (hW : ¬ W.toInt = -2147483648) {b : Nat} (hb1 : 1 ≤ b) (hb : b < 16384) : ∃ g : Nat, 1 ≤ g ∧ g < 2 ^ 31 ∧ f8_commonDivisor N W (nI b) s = some (nI g, s) ∧ f9_divisor N W (nI b) t = some (nI g, t) := by
  obtain ⟨a, ha, h1, h2⟩ := jabs_nI hW
  have hg : Nat.gcd a b ≤ b := Nat.gcd_le_right a (by omega)
  have hg1 : 1 ≤ Nat.gcd a b := Nat.gcd_pos_of_pos_right a (by omega)
  have hjb : jabs (nI b) = nI b := by unfold jabs; rw [if_pos (nI_pos' (by omega))]
  refine ⟨Nat.gcd a b, hg1, by omega, ?_, ?_⟩
  · unfold f8_commonDivisor
    rw [h1, hjb]
    exact gcd_c W (nI b) 14 a b 0 N ha (by omega) (show b < 16384 from hb) (by omega) (by omega)
  · unfold f9_divisor
    have : (if 0 ≤ W then f9_divisor_l14 N W (nI b) N W (nI b) t else f9_divisor_l14 N W (nI b) N (-W) (nI b) t) = f9_divisor_l14 N W (nI b) N (if 0 ≤ W then W else -W) (nI b) t := by
      split <;> rfl
    rw [this, h2]
    exact gcd_m W (nI b) 14 a b N ha (by omega) (show b < 16384 from hb) (by omega)
end O

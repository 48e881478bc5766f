/-! PURE: the functions of class and reference are held against each other; no machine from here on. -/
theorem iter_ind {α : Type} {b : α → α} {z : α} {P : Nat → α → Prop} {e : Nat} (hx : ∀ k, P e (b k)) (hs : ∀ j, j < e → ∀ k, P (j + 1) k → P j (b k)) {n : Nat} (hn : e < n) : P 0 (iter b z n) := by
  have key : ∀ d j n, j + d = e → d < n → P j (iter b z n) := by
    intro d
    induction d with
    | zero =>
      intro j n h1 h2
      have h1 : j = e := by omega
      subst h1
      obtain ⟨n, rfl⟩ : ∃ q, n = q + 1 := ⟨n - 1, by omega⟩
      exact hx _
    | succ d ih =>
      intro j n h1 h2
      obtain ⟨n, rfl⟩ : ∃ q, n = q + 1 := ⟨n - 1, by omega⟩
      exact hs j (by omega) _ (ih (j + 1) n (by omega) (by omega))
  exact key e 0 n (by omega) hn
theorem cu_rd (s : cS) (f i : Nat) (v : Int32) (g j : Nat) : (cu s f i v).1 g j = if g = f ∧ j = i then v else s.1 g j := rfl
theorem cu_2 (s : cS) (f i : Nat) (v : Int32) : (cu s f i v).2 = s.2 := rfl
theorem mu_rd (s : mS) (f i : Nat) (v : Int32) (g j : Nat) : mu s f i v g j = if g = f ∧ j = i then v else s g j := rfl
theorem cu_cu (s : cS) (f i : Nat) (v w : Int32) : cu (cu s f i v) f i w = cu s f i w := by
  refine Prod.ext ?_ rfl
  funext g j
  simp only [cu_rd]
  split <;> rfl
theorem mu_mu (s : mS) (f i : Nat) (v w : Int32) : mu (mu s f i v) f i w = mu s f i w := by
  funext g j
  simp only [mu_rd]
  split <;> rfl
theorem cu_swap (s : cS) (f i g j : Nat) (v w : Int32) (h : f ≠ g ∨ i ≠ j) : cu (cu s f i v) g j w = cu (cu s g j w) f i v := by
  refine Prod.ext ?_ rfl
  funext a b
  simp only [cu_rd]
  by_cases h1 : a = f ∧ b = i <;> by_cases h2 : a = g ∧ b = j <;> simp [h1, h2]
  all_goals first | omega | (intro e1 e2; exfalso; omega)
theorem mu_swap (s : mS) (f i g j : Nat) (v w : Int32) (h : f ≠ g ∨ i ≠ j) : mu (mu s f i v) g j w = mu (mu s g j w) f i v := by
  funext a b
  simp only [mu_rd]
  by_cases h1 : a = f ∧ b = i <;> by_cases h2 : a = g ∧ b = j <;> simp [h1, h2]
  all_goals first | omega | (intro e1 e2; exfalso; omega)
theorem mu_self (s : mS) (f i : Nat) : mu s f i (s f i) = s := by
  funext a b
  simp only [mu_rd]
  by_cases h1 : a = f ∧ b = i
  · rw [if_pos h1, h1.1, h1.2]
  · rw [if_neg h1]
theorem cu_self (s : cS) (f i : Nat) : cu s f i (s.1 f i) = s := by
  refine Prod.ext ?_ rfl
  funext a b
  simp only [cu_rd]
  by_cases h1 : a = f ∧ b = i
  · rw [if_pos h1, h1.1, h1.2]
  · rw [if_neg h1]
theorem inB_vp {x : Int32} {n : Nat} : inB x n = true ↔ vp_in x n := by
  refine ⟨inB_in, fun h => ?_⟩
  simp only [inB, Bool.and_eq_true, decide_eq_true_eq]
  exact ⟨Int32.not_lt.mp (fun q => h (Or.inl q)), Nat.not_le.mp (fun q => h (Or.inr q))⟩
theorem inB_iff {x : Int32} {n : Nat} : inB x n = true ↔ 0 ≤ x.toInt ∧ x.toInt < n := inB_vp.trans vp_in_iff
/-- a row's place out of numbers -/
theorem ix (j n : Nat) (h : j < n) (hn : n ≤ 1000000) : inB (nI j) n = true ∧ (nI j).toNatClampNeg = j := ⟨inB_nI h (by omega), nI_clamp (by omega)⟩
-- the reference: code, TRAIL and REST of the number read last
def m3 (t : mS) (c d r : Int32) : mS := mu (mu (mu t 12 0 c) 13 0 d) 14 0 r
theorem m3_c (t : mS) (c d r v : Int32) : mu (m3 t c d r) 12 0 v = m3 t v d r := by
  unfold m3; rw [mu_swap _ 14 0 12 0 _ _ (by omega), mu_swap _ 13 0 12 0 _ _ (by omega), mu_mu]
theorem m3_d (t : mS) (c d r v : Int32) : mu (m3 t c d r) 13 0 v = m3 t c v r := by
  unfold m3; rw [mu_swap _ 14 0 13 0 _ _ (by omega), mu_mu]
theorem m3_r (t : mS) (c d r v : Int32) : mu (m3 t c d r) 14 0 v = m3 t c d v := by
  unfold m3; rw [mu_mu]
theorem m3_12 (t : mS) (c d r : Int32) : m3 t c d r 12 0 = c := by simp [m3, mu_rd]
theorem m3_13 (t : mS) (c d r : Int32) : m3 t c d r 13 0 = d := by simp [m3, mu_rd]
theorem m3_14 (t : mS) (c d r : Int32) : m3 t c d r 14 0 = r := by simp [m3, mu_rd]
theorem m3_o (t : mS) (c d r : Int32) {f : Nat} (h : f < 12 ∨ 14 < f) (i : Nat) : m3 t c d r f i = t f i := by
  simp only [m3, mu_rd]; rw [if_neg (by omega), if_neg (by omega), if_neg (by omega)]
theorem m3_0 (t : mS) (c d r : Int32) (i : Nat) : m3 t c d r 0 i = t 0 i := m3_o t c d r (by omega) i
theorem m3_m3 (t : mS) (c d r c' d' r' : Int32) : m3 (m3 t c d r) c' d' r' = m3 t c' d' r' := by
  rw [show m3 (m3 t c d r) c' d' r' = mu (mu (mu (m3 t c d r) 12 0 c') 13 0 d') 14 0 r' from rfl, m3_c, m3_d, m3_r]
-- the class: the same of a METER
def c3 (s : cS) (o : Nat) (c d r : Int32) : cS := cu (cu (cu s 7 o c) 8 o d) 9 o r
theorem c3_c (s : cS) (o : Nat) (c d r v : Int32) : cu (c3 s o c d r) 7 o v = c3 s o v d r := by
  unfold c3; rw [cu_swap _ 9 o 7 o _ _ (by omega), cu_swap _ 8 o 7 o _ _ (by omega), cu_cu]
theorem c3_d (s : cS) (o : Nat) (c d r v : Int32) : cu (c3 s o c d r) 8 o v = c3 s o c v r := by
  unfold c3; rw [cu_swap _ 9 o 8 o _ _ (by omega), cu_cu]
theorem c3_r (s : cS) (o : Nat) (c d r v : Int32) : cu (c3 s o c d r) 9 o v = c3 s o c d v := by
  unfold c3; rw [cu_cu]
theorem c3_7 (s : cS) (o : Nat) (c d r : Int32) : (c3 s o c d r).1 7 o = c := by simp [c3, cu_rd]
theorem c3_8 (s : cS) (o : Nat) (c d r : Int32) : (c3 s o c d r).1 8 o = d := by simp [c3, cu_rd]
theorem c3_9 (s : cS) (o : Nat) (c d r : Int32) : (c3 s o c d r).1 9 o = r := by simp [c3, cu_rd]
theorem c3_o (s : cS) (o : Nat) (c d r : Int32) {f : Nat} (h : f < 7 ∨ 9 < f) (i : Nat) : (c3 s o c d r).1 f i = s.1 f i := by
  simp only [c3, cu_rd]; rw [if_neg (by omega), if_neg (by omega), if_neg (by omega)]
theorem c3_2 (s : cS) (o : Nat) (c d r : Int32) : (c3 s o c d r).2 = s.2 := rfl
theorem c3_c3 (s : cS) (o : Nat) (c d r c' d' r' : Int32) : c3 (c3 s o c d r) o c' d' r' = c3 s o c' d' r' := by
  rw [show c3 (c3 s o c d r) o c' d' r' = cu (cu (cu (c3 s o c d r) 7 o c') 8 o d') 9 o r' from rfl, c3_c, c3_d, c3_r]
/-- what a METER tells of a number, PART by PART: (code, TRAIL, REST, sum, odd) -/
def held (v : Int32) : Int32 := if v ≤ 1000000 then (if -1000000 ≤ v then v else -1000000) else 1000000
def rst (kd isk wok bok x kk : Int32) (q : Int32 × Int32 × Int32 × Int32 × Int32) : Int32 × Int32 × Int32 × Int32 × Int32 :=
  if kd = 0 ∨ kd = 1 then
    if x < (if kd = 0 then isk else q.2.2.2.1 + isk) then (q.1, q.2.1, q.2.2.1, if kd = 0 then isk else q.2.2.2.1 + isk, q.2.2.2.2)
    else (q.1 + 1, q.2.1 ||| (1 <<< (kk &&& 31)), if q.2.1 = 0 then x - (if kd = 0 then isk else q.2.2.2.1 + isk) else if q.2.2.1 ≤ x - (if kd = 0 then isk else q.2.2.2.1 + isk) then q.2.2.1 else x - (if kd = 0 then isk else q.2.2.2.1 + isk), if kd = 0 then isk else q.2.2.2.1 + isk, q.2.2.2.2)
  else if kd = 2 then
    if x < q.2.2.2.1 + isk then q
    else (q.1 + wok, q.2.1 ||| (1 <<< (kk &&& 31)), x - (q.2.2.2.1 + isk), q.2.2.2.1 + isk, q.2.2.2.2)
  else
    if q.2.2.1 < bok then (if kd = 3 then q.1 else if q.2.2.2.2 = 0 then q.1 else q.1 + wok, q.2.1, held (2 * q.2.2.1), q.2.2.2.1, q.2.2.2.2)
    else (if kd = 3 then q.1 + wok else if q.2.2.2.2 = 0 then q.1 + wok else q.1, q.2.1 ||| (1 <<< (kk &&& 31)), held (2 * (if kd = 3 then q.2.2.1 - isk else isk - q.2.2.1)), q.2.2.2.1, if q.2.2.2.2 = 0 then 1 else 0)
def rdS (kd : Int32) (is wo bo : Nat → Int32) (x : Int32) : Nat → Int32 × Int32 × Int32 × Int32 × Int32
  | 0 => (0, 0, x, 0, 0)
  | k + 1 => rst kd (is k) (wo k) (bo k) x (nI k) (rdS kd is wo bo x k)
theorem rdS_congr (kd : Int32) {is wo bo is' wo' bo' : Nat → Int32} (x : Int32) : ∀ n : Nat, (∀ k, k < n → is k = is' k ∧ wo k = wo' k ∧ bo k = bo' k) → rdS kd is wo bo x n = rdS kd is' wo' bo' x n := by
  intro n
  induction n with
  | zero => intro _; rfl
  | succ n ih =>
    intro h
    have e := ih (fun k hk => h k (by omega))
    obtain ⟨h1, h2, h3⟩ := h n (by omega)
    simp only [rdS, e, h1, h2, h3]
theorem rdS_odd (kd : Int32) (is wo bo : Nat → Int32) (x : Int32) : ∀ n : Nat, (rdS kd is wo bo x n).2.2.2.2 = 0 ∨ (rdS kd is wo bo x n).2.2.2.2 = 1 := by
  intro n
  induction n with
  | zero => exact Or.inl rfl
  | succ n ih =>
    show (rst _ _ _ _ _ _ _).2.2.2.2 = 0 ∨ (rst _ _ _ _ _ _ _).2.2.2.2 = 1
    unfold rst
    repeat' split
    all_goals first | exact ih | (left; rfl) | (right; rfl)

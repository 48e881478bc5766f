def Fo (t t' : mS) : Prop := ∀ f, f ≠ 16 → f ≠ 17 → t' f = t f
/-- each block of w is in order -/
def BS (f : Nat → Int32) (w n : Nat) : Prop := ∀ b x, w * b ≤ x → x + 1 < w * b + w → x + 1 < n → f x ≤ f (x + 1)
section S
variable {N n w : Nat} {t : mS}
theorem copyB (hN : 5000 ≤ N) (hn : n ≤ 4096) (k36 : Int32 → Int32 → mS → Option mS) (w : Int32) : ∃ t2, f9_sortAll_l198 N k36 N (nI n) w 0 t = k36 (nI n) (w * 2) t2 ∧ (∀ f, f ≠ 16 → t2 f = t f) ∧ ∀ x, x < n → t2 16 x = t 17 x := by
  have key : ∀ t', (∀ f, f ≠ 16 → t' f = t f) → (∀ x, x < 0 → t' 16 x = t 17 x) → ∃ t2, f9_sortAll_l198 N k36 N (nI n) w (nI 0) t' = k36 (nI n) (w * 2) t2 ∧ (∀ f, f ≠ 16 → t2 f = t f) ∧ ∀ x, x < n → t2 16 x = t 17 x := by
    refine iter_ind (P := fun j (g : Int32 → Int32 → Int32 → mS → Option mS) => ∀ t', (∀ f, f ≠ 16 → t' f = t f) → (∀ x, x < j → t' 16 x = t 17 x) → ∃ t2, g (nI n) w (nI j) t' = k36 (nI n) (w * 2) t2 ∧ (∀ f, f ≠ 16 → t2 f = t f) ∧ ∀ x, x < n → t2 16 x = t 17 x) (e := n) ?_ ?_ (show n < N by omega)
    · intro k t' hf hx
      unfold f9_sortAll_l198b
      rw [if_pos (Int32.le_refl _)]
      exact ⟨t', rfl, hf, hx⟩
    · intro j hj k ih t' hf hx
      have hi := ix j 4096 (by omega) (by omega)
      unfold f9_sortAll_l198b
      rw [if_neg (nI_ge hj (by omega)), if_pos hi.1, hi.2, nI_1, hf 17 (by omega)]
      refine ih _ (fun f hf' => by rw [mu_ne _ _ _ hf']; exact hf f hf') (fun x hl => ?_)
      rw [mu_rd]
      by_cases q : x = j
      · rw [if_pos ⟨rfl, q⟩, q]
      · rw [if_neg (fun z => q z.2)]; exact hx x (by omega)
  exact key t (fun _ _ => rfl) (fun x hx => absurd hx (Nat.not_lt_zero x))
theorem pass_some (hN : 5000 ≤ N) (hn : n ≤ 4096) (hw : w ≤ 4096) (hw1 : 1 ≤ w) (hs : BS (t 16) w n) (k36 : Int32 → Int32 → mS → Option mS) : ∃ t2, f9_sortAll_l43 N k36 N (nI n) (nI w) 0 t = k36 (nI n) (nI w * 2) t2 ∧ Fo t t2 ∧ BS (t2 16) (2 * w) n ∧ ∀ v, St (t2 16) 0 n v ↔ St (t 16) 0 n v := by
  have key : ∀ t', 2 * (w * 0) < 20000 → Fs t t' → (∀ b' x, b' < 0 → 2 * (w * b') ≤ x → x + 1 < 2 * (w * b') + 2 * w → x + 1 < n → t' 17 x ≤ t' 17 (x + 1)) → (∀ L, (L = n ∨ L = 2 * (w * 0)) → L ≤ n → L ≤ 2 * (w * 0) → ∀ v, St (t' 17) 0 L v ↔ St (t 16) 0 L v) → ∃ t2, f9_sortAll_l43 N k36 N (nI n) (nI w) (nI (2 * (w * 0))) t' = k36 (nI n) (nI w * 2) t2 ∧ Fo t t2 ∧ BS (t2 16) (2 * w) n ∧ ∀ v, St (t2 16) 0 n v ↔ St (t 16) 0 n v := by
    have exit : ∀ b t' (k : Int32 → Int32 → Int32 → mS → Option mS), n ≤ 2 * (w * b) → 2 * (w * b) < 20000 → Fs t t' → (∀ b' x, b' < b → 2 * (w * b') ≤ x → x + 1 < 2 * (w * b') + 2 * w → x + 1 < n → t' 17 x ≤ t' 17 (x + 1)) → (∀ L, (L = n ∨ L = 2 * (w * b)) → L ≤ n → L ≤ 2 * (w * b) → ∀ v, St (t' 17) 0 L v ↔ St (t 16) 0 L v) → ∃ t2, f9_sortAll_l43b N k36 k (nI n) (nI w) (nI (2 * (w * b))) t' = k36 (nI n) (nI w * 2) t2 ∧ Fo t t2 ∧ BS (t2 16) (2 * w) n ∧ ∀ v, St (t2 16) 0 n v ↔ St (t 16) 0 n v := by
      intro b t' k hb hb2 hf hx hS
      unfold f9_sortAll_l43b
      rw [if_pos (nI_le hb (by omega))]
      obtain ⟨t2, c1, c2, c3⟩ := copyB (t := t') hN hn k36 (nI w)
      refine ⟨t2, c1, fun f h16 h17 => by rw [c2 f h16, hf f h17], fun b' x h1 h2 h3 => ?_, fun v => ?_⟩
      · rw [c3 x (by omega), c3 (x + 1) h3]
        rw [Nat.mul_assoc] at h1 h2
        refine hx b' x ?_ h1 h2 h3
        rcases Nat.lt_or_ge b' b with q | q
        · exact q
        · have := Nat.mul_le_mul_left w q
          omega
      · rw [St_cong (g := t' 17) (fun x _ hx => c3 x hx)]
        exact hS n (Or.inl rfl) (Nat.le_refl _) hb v
    refine iter_ind (P := fun b (g : Int32 → Int32 → Int32 → mS → Option mS) => ∀ t', 2 * (w * b) < 20000 → Fs t t' → (∀ b' x, b' < b → 2 * (w * b') ≤ x → x + 1 < 2 * (w * b') + 2 * w → x + 1 < n → t' 17 x ≤ t' 17 (x + 1)) → (∀ L, (L = n ∨ L = 2 * (w * b)) → L ≤ n → L ≤ 2 * (w * b) → ∀ v, St (t' 17) 0 L v ↔ St (t 16) 0 L v) → ∃ t2, g (nI n) (nI w) (nI (2 * (w * b))) t' = k36 (nI n) (nI w * 2) t2 ∧ Fo t t2 ∧ BS (t2 16) (2 * w) n ∧ ∀ v, St (t2 16) 0 n v ↔ St (t 16) 0 n v) (e := n) ?_ ?_ (show n < N by omega)
    · intro k t' hb2 hf hx hS
      have : n ≤ w * n := Nat.le_mul_of_pos_left n hw1
      exact exit n t' k (by omega) hb2 hf hx hS
    · intro b hb k ih t' hb2 hf hx hS
      by_cases z : n ≤ 2 * (w * b)
      · exact exit b t' k z hb2 hf hx hS
      have hsucc : w * (b + 1) = w * b + w := Nat.mul_succ w b
      have hd1 : w * (2 * b) = 2 * (w * b) := Nat.mul_left_comm w 2 b
      have hd2 : w * (2 * b + 1) = 2 * (w * b) + w := by rw [Nat.mul_succ, hd1]
      generalize hlo : 2 * (w * b) = lo at *
      -- the two blocks
      have fin : ∀ mid, mid ≤ n → mid ≤ lo + w → (mid = n ∨ mid = lo + w) → ∃ t2, f9_sortAll_b68 N k36 k (nI n) (nI w) (nI lo) (nI lo) (nI (lo + w)) (nI mid) t' = k36 (nI n) (nI w * 2) t2 ∧ Fo t t2 ∧ BS (t2 16) (2 * w) n ∧ ∀ v, St (t2 16) 0 n v ↔ St (t 16) 0 n v := by
        intro mid m1 m2 m3
        have fin2 : ∀ e, e ≤ n → e ≤ lo + 2 * w → (e = n ∨ e = lo + 2 * w) → ∃ t2, f9_sortAll_l93 N k36 k N (nI n) (nI w) (nI lo) (nI lo) (nI (lo + w)) (nI mid) (nI e) (nI lo) t' = k36 (nI n) (nI w * 2) t2 ∧ Fo t t2 ∧ BS (t2 16) (2 * w) n ∧ ∀ v, St (t2 16) 0 n v ↔ St (t 16) 0 n v := by
          intro e e1 e2 e3
          obtain ⟨t2, d1, d2, d3, d4, d5⟩ := merge_in hN hn hw (show lo ≤ n by omega) m1 m2 m3 e1 e2 e3 (fun x h1 h2 => hs (2 * b) x (by omega) (by omega) (by omega)) (fun x h1 h2 => hs (2 * b + 1) x (by omega) (by omega) (by omega)) k36 k hf
          rw [d1]
          have hnext : 2 * (w * (b + 1)) = lo + 2 * w := by omega
          have := ih t2 (by omega) d2 (fun b' x hb' h1 h2 h3 => ?_) (fun L hL1 hL2 hL3 v => ?_)
          · rw [hnext] at this
            exact this
          · rcases Nat.lt_or_ge b' b with q | q
            · have hm : w * (b' + 1) ≤ w * b := Nat.mul_le_mul_left w q
              have hm2 : w * (b' + 1) = w * b' + w := Nat.mul_succ w b'
              rw [d3 x (by omega), d3 (x + 1) (by omega)]
              exact hx b' x q h1 h2 h3
            · have : b' = b := by omega
              subst this
              exact d4 x (by omega) (by omega)
          · rw [hnext] at hL1 hL3
            have hLe : L = e := by omega
            subst hLe
            rw [St_cat (b := lo) (Nat.zero_le _) (by omega), St_cat (f := t 16) (b := lo) (Nat.zero_le _) (by omega), d5, St_cong (g := t' 17) (fun x _ h => d3 x h)]
            have := hS lo (Or.inr rfl) (by omega) (Nat.le_refl _) v
            rw [this]
        unfold f9_sortAll_b68
        rw [show (2 : Int32) * nI w = nI (2 * w) from pk_mul 2 w, nI_add]
        by_cases q : n ≤ lo + 2 * w
        · rw [if_pos (nI_le q (by omega))]
          exact fin2 n (by omega) (by omega) (Or.inl rfl)
        · rw [if_neg (nI_ge (by omega) (by omega))]
          exact fin2 (lo + 2 * w) (by omega) (by omega) (Or.inr rfl)
      unfold f9_sortAll_l43b
      rw [if_neg (nI_ge (by omega) (by omega)), nI_add]
      by_cases q : n ≤ lo + w
      · rw [if_pos (nI_le q (by omega))]
        exact fin n (Nat.le_refl _) q (Or.inl rfl)
      · rw [if_neg (nI_ge (by omega) (by omega))]
        exact fin (lo + w) (by omega) (Nat.le_refl _) (Or.inr rfl)
  refine key t (by omega) (fun _ _ => rfl) (fun b' x h => absurd h (Nat.not_lt_zero _)) (fun L h1 h2 h3 v => ?_)
  have : L = 0 := by omega
  subst this
  exact ⟨fun z => absurd z (St_0 _ _ _), fun z => absurd z (St_0 _ _ _)⟩
theorem sort_some (hN : 5000 ≤ N) {T : Nat} (hT : T ≤ 4095) (h0 : t 0 0 = nI T) : ∃ t2, f9_sortAll N t = some t2 ∧ Fo t t2 ∧ (∀ x, x < T → t2 16 x ≤ t2 16 (x + 1)) ∧ ∀ v, St (t2 16) 0 (T + 1) v ↔ St (t 15) 0 (T + 1) v := by
  unfold f9_sortAll
  rw [tc0, h0, nI_1]
  have widths : ∀ t', Fo t t' → (∀ v, St (t' 16) 0 (T + 1) v ↔ St (t 15) 0 (T + 1) v) → ∃ t2, f9_sortAll_l36 N N (nI (T + 1)) (nI (2 ^ 0)) t' = some t2 ∧ Fo t t2 ∧ (∀ x, x < T → t2 16 x ≤ t2 16 (x + 1)) ∧ ∀ v, St (t2 16) 0 (T + 1) v ↔ St (t 15) 0 (T + 1) v := by
    intro t' hf hS
    have key : ∀ t', Fo t t' → BS (t' 16) (2 ^ 0) (T + 1) → (∀ v, St (t' 16) 0 (T + 1) v ↔ St (t 15) 0 (T + 1) v) → ∃ t2, f9_sortAll_l36 N N (nI (T + 1)) (nI (2 ^ 0)) t' = some t2 ∧ Fo t t2 ∧ (∀ x, x < T → t2 16 x ≤ t2 16 (x + 1)) ∧ ∀ v, St (t2 16) 0 (T + 1) v ↔ St (t 15) 0 (T + 1) v := by
      have exit : ∀ w t' (k : Int32 → Int32 → mS → Option mS), T + 1 ≤ w → w ≤ 4096 → Fo t t' → BS (t' 16) w (T + 1) → (∀ v, St (t' 16) 0 (T + 1) v ↔ St (t 15) 0 (T + 1) v) → ∃ t2, f9_sortAll_l36b N k (nI (T + 1)) (nI w) t' = some t2 ∧ Fo t t2 ∧ (∀ x, x < T → t2 16 x ≤ t2 16 (x + 1)) ∧ ∀ v, St (t2 16) 0 (T + 1) v ↔ St (t 15) 0 (T + 1) v := by
        intro w t' k hw hw2 hf hb hS
        unfold f9_sortAll_l36b
        rw [if_pos (nI_le hw (by omega))]
        exact ⟨t', rfl, hf, fun x hx => hb 0 x (by omega) (by omega) (by omega), hS⟩
      refine iter_ind (P := fun q (g : Int32 → Int32 → mS → Option mS) => ∀ t', Fo t t' → BS (t' 16) (2 ^ q) (T + 1) → (∀ v, St (t' 16) 0 (T + 1) v ↔ St (t 15) 0 (T + 1) v) → ∃ t2, g (nI (T + 1)) (nI (2 ^ q)) t' = some t2 ∧ Fo t t2 ∧ (∀ x, x < T → t2 16 x ≤ t2 16 (x + 1)) ∧ ∀ v, St (t2 16) 0 (T + 1) v ↔ St (t 15) 0 (T + 1) v) (e := 12) ?_ ?_ (show 12 < N by omega)
      · intro k t' hf hb hS
        exact exit (2 ^ 12) t' k (show T + 1 ≤ 4096 by omega) (show (4096 : Nat) ≤ 4096 by omega) hf hb hS
      · intro q hq k ih t' hf hb hS
        have hp : 2 ^ q ≤ 2 ^ 11 := Nat.pow_le_pow_right (by omega) (by omega)
        have hp1 : 1 ≤ 2 ^ q := Nat.one_le_two_pow
        have hps : 2 ^ (q + 1) = 2 ^ q * 2 := Nat.pow_succ 2 q
        have h11 : (2 : Nat) ^ 11 = 2048 := rfl
        by_cases z : T + 1 ≤ 2 ^ q
        · exact exit (2 ^ q) t' k z (by omega) hf hb hS
        · unfold f9_sortAll_l36b
          rw [if_neg (nI_ge (by omega) (by omega))]
          obtain ⟨t2, p1, p2, p3, p4⟩ := pass_some hN (show T + 1 ≤ 4096 by omega) (show 2 ^ q ≤ 4096 by omega) hp1 hb k
          rw [p1, show nI (2 ^ q) * 2 = nI (2 ^ (q + 1)) by rw [hps]; exact pk_mul _ 2]
          refine ih t2 (fun f a b => by rw [p2 f a b, hf f a b]) ?_ (fun v => by rw [p4, hS])
          rw [hps, Nat.mul_comm]
          exact p3
    refine key t' hf (fun b x h1 h2 h3 => ?_) hS
    rw [Nat.pow_zero, Nat.one_mul] at h1 h2
    omega
  have key : ∀ t', Fo t t' → (∀ x, x < 0 → t' 16 x = t 15 x) → ∃ t2, f9_sortAll_l11 N N (nI (T + 1)) (nI 0) t' = some t2 ∧ Fo t t2 ∧ (∀ x, x < T → t2 16 x ≤ t2 16 (x + 1)) ∧ ∀ v, St (t2 16) 0 (T + 1) v ↔ St (t 15) 0 (T + 1) v := by
    refine iter_ind (P := fun j (g : Int32 → Int32 → mS → Option mS) => ∀ t', Fo t t' → (∀ x, x < j → t' 16 x = t 15 x) → ∃ t2, g (nI (T + 1)) (nI j) t' = some t2 ∧ Fo t t2 ∧ (∀ x, x < T → t2 16 x ≤ t2 16 (x + 1)) ∧ ∀ v, St (t2 16) 0 (T + 1) v ↔ St (t 15) 0 (T + 1) v) (e := T + 1) ?_ ?_ (show T + 1 < N by omega)
    · intro k t' hf hx
      unfold f9_sortAll_l11b
      rw [if_pos (Int32.le_refl _)]
      exact widths t' hf (fun v => St_cong (fun x _ h => hx x h) v)
    · intro j hj k ih t' hf hx
      have hi := ix j 4096 (by omega) (by omega)
      unfold f9_sortAll_l11b
      rw [if_neg (nI_ge hj (by omega)), if_pos hi.1, hi.2, nI_1, hf 15 (by omega) (by omega)]
      refine ih _ (fun f a b => by rw [mu_ne _ _ _ a]; exact hf f a b) (fun x hl => ?_)
      rw [mu_rd]
      by_cases q : x = j
      · rw [if_pos ⟨rfl, q⟩, q]
      · rw [if_neg (fun z => q z.2)]; exact hx x (by omega)
  exact key t (fun _ _ _ => rfl) (fun x hx => absurd hx (Nat.not_lt_zero x))
end S

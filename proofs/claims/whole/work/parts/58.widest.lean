section R
variable {N T : Nat} {c : Nat → Int32} {s : cS} {t : mS}
theorem widest_pure (hN : 5000 ≤ N) (h : Row s t T c) (p : Int32) : ∃ r, f7_widestSpan N s = some (r, s) ∧ f9_widest_l42 N p N 0 0 0 0 1 t = some (r, t) := by
  have hT := h.2.1
  have key : ∀ (b w i : Int32) (st : Nat), st ≤ 0 → ∃ r, f7_widestSpan_l12 N N b w i (nI (0 - st)) (nI 0) s = some (r, s) ∧ f9_widest_l42 N p N b w i (nI st) (nI (0 + 1)) t = some (r, t) := by
    refine iter_ind3 (P := fun j (f : Int32 → Int32 → Int32 → Int32 → Int32 → cS → Option (Int32 × cS)) (g : Int32 → Int32 → Int32 → Int32 → Int32 → mS → Option (Int32 × mS)) => ∀ (b w i : Int32) (st : Nat), st ≤ j → ∃ r, f b w i (nI (j - st)) (nI j) s = some (r, s) ∧ g b w i (nI st) (nI (j + 1)) t = some (r, t)) (e := T + 1) ?_ ?_ (by omega) (by omega)
    · intro k k' b w i st hst
      unfold f7_widestSpan_l12b f9_widest_l42b
      rw [h.2.2.1, tc0, h.2.2.2.1, if_pos (nI_lt (by omega) (by omega)), nI_1, if_pos (nI_lt (by omega) (by omega))]
      exact ⟨_, rfl, rfl⟩
    · intro j hj k k' ih b w i st hst
      have hd : nI (j + 1) - nI st = nI (j - st) + 1 := by rw [pk_sub (by omega), nI_1, show j + 1 - st = j - st + 1 by omega]
      have hd2 : nI (j - st) + 1 = nI (j + 1 - st) := by rw [nI_1, show j + 1 - st = j - st + 1 by omega]
      unfold f7_widestSpan_l12b f9_widest_l42b
      rw [h.2.2.1, if_neg (nI_nlt (by omega) (by omega)), ends_some h (by omega), tc0, h.2.2.2.1, nI_1 T, if_neg (nI_nlt (by omega) (by omega))]
      simp only [Option.bind_some]
      have big : en T c j → ∃ r, (if nI (j - st) + 1 ≤ b then k b w (i + 1) 0 (nI j + 1) s else k (nI (j - st) + 1) i (i + 1) 0 (nI j + 1) s) = some (r, s) ∧ f9_widest_b88 N p k' b w i (nI st) (nI (j + 1)) t = some (r, t) := by
        intro _
        unfold f9_widest_b88
        rw [hd]
        by_cases z : nI (j - st) + 1 ≤ b
        · rw [if_pos z, if_pos z, nI_1, nI_1]
          have := ih b w (i + 1) (j + 1) (by omega)
          rw [Nat.sub_self] at this
          exact this
        · rw [if_neg z, if_neg z, nI_1 j, nI_1 (j + 1)]
          have := ih (nI (j - st) + 1) i (i + 1) (j + 1) (by omega)
          rw [Nat.sub_self] at this
          exact this
      by_cases q : j = T
      · rw [if_pos (show en T c j from Or.inl q), if_neg (show ¬ (1 : Int32) = 0 by decide), if_pos (nI_lt (by omega) (by omega))]
        exact big (Or.inl q)
      · have hp := pos_some h (show j + 1 ≤ T by omega)
        rw [if_neg (show ¬ nI T < nI (j + 1) from nI_nlt (by omega) (by omega)), if_pos hp.1, if_pos hp.2.1, hp.2.2.1, hp.2.2.2, m15 h (by omega), m15 h (by omega)]
        by_cases z : c (j + 1) = c j
        · rw [if_pos z, if_neg (show ¬ en T c j from fun e => e.elim q (fun e => e z)), if_pos rfl, hd2, nI_1, nI_1]
          exact ih b w i st (by omega)
        · rw [if_neg z, if_pos (show en T c j from Or.inr z), if_neg (show ¬ (1 : Int32) = 0 by decide)]
          exact big (Or.inr z)
  obtain ⟨r, h1, h2⟩ := key 0 0 0 0 (by omega)
  exact ⟨r, h1, h2⟩
theorem o_widest (hN : 5000 ≤ N) (h : Rel s t) (p : Int32) : ∃ r s1 t1, f8_widest N p s = some (r, s1) ∧ f9_widest N p t = some (r, t1) ∧ Rel s1 t1 := by
  have h := h.thrown
  unfold f8_widest f9_widest
  generalize mu t 4 0 0 = t at h ⊢
  rcases tabled hN h p with ⟨s1, a1, a2, a3⟩ | ⟨T, c, s1, t1, a1, a2, a3, a4, a5⟩
  · rw [a1, a2]; exact ⟨_, _, _, rfl, rfl, a3⟩
  · rw [a1, a2]
    simp only [Option.bind_some]
    rw [if_neg (show ¬ (1 : Int32) = 0 by decide), if_neg (show ¬ (1 : Int32) = 0 by decide), a3]
    obtain ⟨r, b1, b2⟩ := widest_pure hN a5 p
    simp only [Option.bind_some]
    rw [b1, b2]
    exact ⟨_, _, _, rfl, rfl, a4⟩
/-- the span's end after x -/
def ends (T : Nat) (c : Nat → Int32) (x y : Nat) : Prop := x ≤ y ∧ y ≤ T ∧ en T c y ∧ ∀ i, x ≤ i → i < y → ¬ en T c i
theorem ends_ex {x : Nat} (hx : x ≤ T) : ∃ y, ends T c x y := by
  obtain ⟨y, hy, ⟨h1, h2⟩, h3⟩ := fb_first (p := fun i => x ≤ i ∧ en T c i) (n := T + 1) ⟨T, by omega, hx, Or.inl rfl⟩
  exact ⟨y, h1, by omega, h2, fun i hi hiy q => h3 i hiy ⟨hi, q⟩⟩
theorem spanEnd_some (hN : 5000 ≤ N) (h : Row s t T c) {x y : Nat} (hy : ends T c x y) : f7_spanEnd N (nI x) s = some (nI y, s) := by
  have hT := h.2.1
  obtain ⟨h1, h2, h3, h4⟩ := hy
  unfold f7_spanEnd
  show f7_spanEnd_l2 N (nI x) N (nI (x + 0)) s = some (nI y, s)
  refine iter_ind (P := fun j (f : Int32 → cS → Option (Int32 × cS)) => f (nI (x + j)) s = some (nI y, s)) (e := y - x) ?_ ?_ (show y - x < N by omega)
  · intro k
    unfold f7_spanEnd_l2b
    rw [show x + (y - x) = y by omega, h.2.2.1, if_neg (nI_nlt (by omega) (by omega)), ends_some h h2, if_pos h3]
    simp only [Option.bind_some]
    rw [if_neg (show ¬ (1 : Int32) = 0 by decide)]
  · intro j hj k ih
    unfold f7_spanEnd_l2b
    rw [h.2.2.1, if_neg (nI_nlt (by omega) (by omega)), ends_some h (by omega), if_neg (h4 (x + j) (by omega) (by omega))]
    simp only [Option.bind_some]
    rw [if_pos trivial, nI_1]
    exact ih
/-- what span answers of the span from a to y -/
def spa (w : Int32) (c : Nat → Int32) (a y : Nat) : Int32 := if w = 0 then nI a else if w = 1 then nI y else c a
theorem span_pure (hN : 5000 ≤ N) (h : Row s t T c) (p w : Int32) {P : Nat} (hP : P < 2 ^ 31) : (f7_spanStart N (nI P) s = some (-1, s) ∧ f9_span_l44 N p (nI P) w N (nI P) 0 1 t = some (-2147483648, t)) ∨ ∃ a y, a ≤ T ∧ ends T c a y ∧ f7_spanStart N (nI P) s = some (nI a, s) ∧ f9_span_l44 N p (nI P) w N (nI P) 0 1 t = some (spa w c a y, t) := by
  have hT := h.2.1
  have key : (∀ a y, a ≤ 0 → ends T c 0 y → f9_span_l44 N p (nI P) w N 0 (nI a) (nI (0 + 1)) t = some (spa w c a y, t)) ∧ ∀ cnt a5 : Nat, cnt ≤ P → cnt ≤ 0 → (cnt = P → a5 = 0) → (f7_spanStart_l4 N (nI P) N (nI cnt) (nI 0) s = some (-1, s) ∧ f9_span_l44 N p (nI P) w N (nI (P - cnt)) (nI a5) (nI (0 + 1)) t = some (-2147483648, t)) ∨ ∃ a y, a ≤ T ∧ ends T c a y ∧ f7_spanStart_l4 N (nI P) N (nI cnt) (nI 0) s = some (nI a, s) ∧ f9_span_l44 N p (nI P) w N (nI (P - cnt)) (nI a5) (nI (0 + 1)) t = some (spa w c a y, t) := by
    refine iter_ind3 (P := fun j (f : Int32 → Int32 → cS → Option (Int32 × cS)) (g : Int32 → Int32 → Int32 → mS → Option (Int32 × mS)) => (∀ a y, a ≤ j → ends T c j y → g 0 (nI a) (nI (j + 1)) t = some (spa w c a y, t)) ∧ ∀ cnt a5 : Nat, cnt ≤ P → cnt ≤ j → (cnt = P → a5 = j) → (f (nI cnt) (nI j) s = some (-1, s) ∧ g (nI (P - cnt)) (nI a5) (nI (j + 1)) t = some (-2147483648, t)) ∨ ∃ a y, a ≤ T ∧ ends T c a y ∧ f (nI cnt) (nI j) s = some (nI a, s) ∧ g (nI (P - cnt)) (nI a5) (nI (j + 1)) t = some (spa w c a y, t)) (e := T + 1) ?_ ?_ (by omega) (by omega)
    · intro k k'
      refine ⟨fun a y ha hy => absurd hy.1 (by have := hy.2.1; omega), fun cnt a5 hc hc2 hc3 => Or.inl ⟨?_, ?_⟩⟩
      · unfold f7_spanStart_l4b
        rw [h.2.2.1, if_pos (nI_lt (by omega) (by omega))]
      · unfold f9_span_l44b
        rw [tc0, h.2.2.2.1, nI_1, if_pos (nI_lt (by omega) (by omega))]
    · intro j hj k k' ⟨ihA, ihB⟩
      have hA : ∀ a y, a ≤ j → ends T c j y → f9_span_l44b N p (nI P) w k' 0 (nI a) (nI (j + 1)) t = some (spa w c a y, t) := by
        intro a y ha hy
        have fin : y = j → f9_span_b90 N p (nI P) w k' 0 (nI a) (nI (j + 1)) t = some (spa w c a y, t) := by
          intro e
          subst e
          have hi := ix a 4096 (by omega) (by omega)
          unfold f9_span_b90 spa
          rw [if_pos rfl, nI_pred, if_pos hi.1, hi.2, m15 h (by omega)]
          split
          · rfl
          · split <;> rfl
        unfold f9_span_l44b
        rw [tc0, h.2.2.2.1, nI_1 T, if_neg (nI_nlt (by omega) (by omega))]
        by_cases q : j = T
        · rw [if_pos (nI_lt (by omega) (by omega))]
          exact fin (by have := hy.1; have := hy.2.1; omega)
        · have hp := pos_some h (show j + 1 ≤ T by omega)
          rw [if_neg (nI_nlt (by omega) (by omega)), if_pos hp.1, if_pos hp.2.1, hp.2.2.1, hp.2.2.2, m15 h (by omega), m15 h (by omega)]
          by_cases z : c (j + 1) = c j
          · rw [if_pos z, nI_1]
            have hne : y ≠ j := fun e => by
              rw [e] at hy
              exact hy.2.2.1.elim q (fun e => e z)
            exact ihA a y (by omega) ⟨by have := hy.1; omega, hy.2.1, hy.2.2.1, fun i h1 h2 => hy.2.2.2 i (by omega) h2⟩
          · rw [if_neg z]
            refine fin ?_
            have h1 := hy.1
            rcases Nat.lt_or_ge j y with l | l
            · exact absurd (Or.inr z) (hy.2.2.2 j (Nat.le_refl j) l)
            · omega
      refine ⟨hA, fun cnt a5 hc hc2 hc3 => ?_⟩
      by_cases hp : cnt = P
      · obtain ⟨y, hy⟩ := ends_ex (c := c) (show j ≤ T by omega)
        have e5 := hc3 hp
        subst hp
        subst e5
        refine Or.inr ⟨a5, y, by omega, hy, ?_, ?_⟩
        · unfold f7_spanStart_l4b
          rw [h.2.2.1, if_neg (nI_nlt (by omega) (by omega)), if_pos rfl]
        · rw [Nat.sub_self]
          exact hA a5 y (Nat.le_refl _) hy
      · have hd : nI (P - cnt) + (-1) = nI (P - (cnt + 1)) := by
          rw [show P - cnt = P - (cnt + 1) + 1 by omega, pk_m1]
        have h0 : ¬ nI (P - cnt) = 0 := nI_ne0 (by omega) (by omega)
        have nx := ihB (cnt + 1) (j + 1) (by omega) (by omega) (fun _ => rfl)
        unfold f7_spanStart_l4b f9_span_l44b
        rw [h.2.2.1, if_neg (nI_nlt (by omega) (by omega)), if_neg (fun e => hp ((nI_eq (by omega) hP).mp e)), ends_some h (by omega), tc0, h.2.2.2.1, nI_1 T, if_neg (nI_nlt (by omega) (by omega))]
        simp only [Option.bind_some]
        by_cases q : j = T
        · rw [if_pos (show en T c j from Or.inl q), if_pos (show nI T < nI (j + 1) from nI_lt (by omega) (by omega)), if_neg (show ¬ (1 : Int32) = 0 by decide)]
          unfold f9_span_b90
          rw [if_neg h0, hd, nI_1, nI_1, nI_1]
          exact nx
        · have hp := pos_some h (show j + 1 ≤ T by omega)
          rw [if_neg (show ¬ nI T < nI (j + 1) from nI_nlt (by omega) (by omega)), if_pos hp.1, if_pos hp.2.1, hp.2.2.1, hp.2.2.2, m15 h (by omega), m15 h (by omega)]
          by_cases z : c (j + 1) = c j
          · rw [if_pos z, if_neg (show ¬ en T c j from fun e => e.elim q (fun e => e z)), if_pos rfl, nI_1, nI_1]
            exact ihB cnt a5 (by omega) (by omega) (fun e => absurd e (by omega))
          · rw [if_neg z, if_pos (show en T c j from Or.inr z), if_neg (show ¬ (1 : Int32) = 0 by decide)]
            unfold f9_span_b90
            rw [if_neg h0, hd, nI_1, nI_1, nI_1]
            exact nx
  exact key.2 0 0 (Nat.zero_le P) (Nat.le_refl 0) (fun _ => rfl)
theorem span_neg (hN : 5000 ≤ N) (h : Row s t T c) {p : Int32} (hp : p < 0) : f7_spanStart N p s = some (-1, s) := by
  have hT := h.2.1
  have key : ∀ cnt, cnt ≤ 0 → f7_spanStart_l4 N p N (nI cnt) (nI 0) s = some (-1, s) := by
    refine iter_ind (P := fun j (f : Int32 → Int32 → cS → Option (Int32 × cS)) => ∀ cnt, cnt ≤ j → f (nI cnt) (nI j) s = some (-1, s)) (e := T + 1) ?_ ?_ (by omega)
    · intro k cnt hc
      unfold f7_spanStart_l4b
      rw [h.2.2.1, if_pos (nI_lt (by omega) (by omega))]
    · intro j hj k ih cnt hc
      unfold f7_spanStart_l4b
      rw [h.2.2.1, if_neg (nI_nlt (by omega) (by omega)), if_neg (fun e => by rw [← e] at hp; exact nI_pos (by omega) hp), ends_some h (by omega)]
      simp only [Option.bind_some]
      by_cases z : en T c j
      · rw [if_pos z, if_neg (show ¬ (1 : Int32) = 0 by decide), nI_1, nI_1]
        exact ih (cnt + 1) (by omega)
      · rw [if_neg z, if_pos rfl, nI_1]
        exact ih cnt (by omega)
  exact key 0 (Nat.le_refl 0)
theorem o_span (hN : 5000 ≤ N) (h : Rel s t) (p q w : Int32) : ∃ r s1 t1, f8_span N p q w s = some (r, s1) ∧ f9_span N p q w t = some (r, t1) ∧ Rel s1 t1 := by
  have h := h.thrown
  unfold f8_span f9_span
  generalize mu t 4 0 0 = t at h ⊢
  have k1 : ¬ (1 : Int32) = 0 := by decide
  by_cases w0 : w < 0
  · rw [if_pos w0]
    unfold f9_in
    rcases meter_of N h.1 p with ⟨h1, h2⟩ | ⟨m, hm, h8, rfl, h1, h2⟩
    · rw [h2]; exact ⟨_, _, _, rfl, rfl, h⟩
    · rw [h2]
      simp only [Option.bind_some]
      rw [if_neg k1, if_pos w0]; exact ⟨_, _, _, rfl, rfl, h⟩
  by_cases w2 : 2 < w
  · rw [if_neg w0, if_pos w2]
    unfold f9_in
    rcases meter_of N h.1 p with ⟨h1, h2⟩ | ⟨m, hm, h8, rfl, h1, h2⟩
    · rw [h2]; exact ⟨_, _, _, rfl, rfl, h⟩
    · rw [h2]
      simp only [Option.bind_some]
      rw [if_neg k1, if_neg w0, if_pos w2]; exact ⟨_, _, _, rfl, rfl, h⟩
  rw [if_neg w0, if_neg w2]
  unfold f9_in
  rcases meter_of N h.1 p with ⟨h1, h2⟩ | ⟨m, hm, h8, rfl, h1, h2⟩
  · have : f8_fillTable N p s = some (0, s) := by unfold f8_fillTable; rw [h1]; rfl
    rw [this, h2]; exact ⟨_, _, _, rfl, rfl, h⟩
  obtain ⟨T, M, hT1, hT2, hM, e1, e2, e3, e4, e5, e6⟩ := h.1.base
  obtain ⟨s1, a1, a2, a3, a4⟩ := fill_some hN h hm
  obtain ⟨t1, b1, b2, b3⟩ := readAll_some hN h hm
  have t0 : t1 0 = t 0 := b2 0 (by omega) (by omega) (by omega) (by omega) (by omega)
  have hr : Row s1 t1 T (fun x => (cdq (t 0) m (nI x)).1) := ⟨hT1, hT2, by rw [a3, e2], by rw [t0, e2], fun x hx => a4 x (by omega), fun x hx => b3 x (by omega), fun x => code_bnd h.1.1 hm _⟩
  have hR : Rel s1 t1 := ⟨b2.rel a2.1, a2.2.fr (fun _ _ => rfl) t0⟩
  rw [h2, a1]
  simp only [Option.bind_some]
  rw [if_neg k1, if_neg k1, if_neg w0, if_neg w2]
  simp only [Option.bind_some]
  rw [if_neg k1]
  by_cases q0 : 0 ≤ q
  · rw [if_pos q0, b1]
    simp only [Option.bind_some]
    obtain ⟨P, hP, rfl⟩ := nI_of (x := q) (by rw [fa_lt]; rw [fa_le] at q0; omega)
    rcases span_pure hN hr (nI m) w hP with ⟨c1, c2⟩ | ⟨a, y, ha, hy, c1, c2⟩
    · rw [c1, c2]; exact ⟨_, _, _, rfl, rfl, hR⟩
    · rw [c1, c2]
      simp only [Option.bind_some]
      have ha2 : ¬ nI a = -1 := by
        intro e
        have := (fa_eq _ _).mp e
        rw [nI_toInt (by omega), show (-1 : Int32).toInt = -1 by decide +kernel] at this
        omega
      rw [if_neg ha2, spanEnd_some hN hr hy, codeAt_some hr ha]
      unfold spa
      by_cases v0 : w = 0
      · rw [if_pos v0, if_pos v0]; exact ⟨_, _, _, rfl, rfl, hR⟩
      · by_cases v1 : w = 1
        · rw [if_neg v0, if_pos v1, if_neg v0, if_pos v1]; exact ⟨_, _, _, rfl, rfl, hR⟩
        · rw [if_neg v0, if_neg v1, if_neg v0, if_neg v1]; exact ⟨_, _, _, rfl, rfl, hR⟩
  · rw [if_neg q0, span_neg hN hr (by rw [fa_lt]; rw [fa_le] at q0; omega)]
    exact ⟨_, _, _, rfl, rfl, ⟨a2.1, a2.2⟩⟩
end R

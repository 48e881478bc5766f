theorem lgt (x y : Int64) : 0 < lg_cmp x y ↔ y < x := by
  unfold lg_cmp
  constructor
  · intro h
    split at h
    · assumption
    · split at h
      · exact absurd h (by decide)
      · exact absurd h (by decide)
  · intro h
    rw [if_pos h]; decide
section O
variable {N : Nat} {s : cS} {t : mS}
theorem count_pure (hN : 5000 ≤ N) (h : Rel s t) {m : Nat} (hm : m < vM (t 0)) {A B Q T : Nat} (hT : T ≤ 4095) (hA : A ≤ B) (hB : B ≤ T) (hQ : 1 ≤ Q) (hQ2 : Q < 2 ^ 31) (p5 : Int32) : ∃ r s1 t1, f8_count_l82 N (nI m) (nI A) (nI B) (nI Q) p5 N m 0 (lN A) s = some (r, s1) ∧ f9_count_l64 N (nI m) (nI A) (nI B) (nI Q) p5 N 0 (nI A) 1 t = some (r, t1) ∧ Sc s s1 ∧ Sm t t1 := by
  have hme := h.1.meter hm
  have key : (∀ a s', B < A + 0 * Q → f8_count_l82 N (nI m) (nI A) (nI B) (nI Q) p5 N m a (lN (A + 0 * Q)) s' = some (a, s')) ∧ (∀ a x t', f9_count_l64 N (nI m) (nI A) (nI B) (nI Q) p5 N a x 0 t' = some (a, t')) ∧ (∀ a s' t', A + 0 * Q ≤ B → Sc s s' → Sm t t' → ∃ r s1 t1, f8_count_l82 N (nI m) (nI A) (nI B) (nI Q) p5 N m a (lN (A + 0 * Q)) s' = some (r, s1) ∧ f9_count_l64 N (nI m) (nI A) (nI B) (nI Q) p5 N a (nI (A + 0 * Q)) 1 t' = some (r, t1) ∧ Sc s s1 ∧ Sm t t1) := by
    have exC : ∀ (k : Nat → Int32 → Int64 → cS → Option (Int32 × cS)) (X : Nat), X < 2 ^ 33 → ∀ a s', B < X → f8_count_l82b N (nI m) (nI A) (nI B) (nI Q) p5 k m a (lN X) s' = some (a, s') := by
      intro k X hX a s' hl
      unfold f8_count_l82b
      rw [nI_l (by omega), if_pos (by rw [lgt, pk_lLT (by omega) (by omega)]; exact hl)]
    refine iter_ind2 (P := fun j (f : Nat → Int32 → Int64 → cS → Option (Int32 × cS)) (g : Int32 → Int32 → Int32 → mS → Option (Int32 × mS)) => (∀ a s', A + j * Q < 2 ^ 33 → B < A + j * Q → f m a (lN (A + j * Q)) s' = some (a, s')) ∧ (∀ a x t', g a x 0 t' = some (a, t')) ∧ (∀ a s' t', A + j * Q ≤ B → Sc s s' → Sm t t' → ∃ r s1 t1, f m a (lN (A + j * Q)) s' = some (r, s1) ∧ g a (nI (A + j * Q)) 1 t' = some (r, t1) ∧ Sc s s1 ∧ Sm t t1)) (e := B + 1) ?_ ?_ (show B + 1 < N by omega) (show B + 1 < N by omega) |> fun q => ⟨fun a s' hl => q.1 a s' (by omega) hl, q.2⟩
    · intro k k'
      refine ⟨fun a s' hx hl => exC k _ hx a s' hl, fun a x t' => ?_, fun a s' t' hl => ?_⟩
      · unfold f9_count_l64b; rw [if_pos rfl]
      · have := Nat.le_mul_of_pos_right (B + 1) hQ
        omega
    · intro j hj k k' ⟨ih1, ih2, ih3⟩
      refine ⟨fun a s' hx hl => exC k _ hx a s' hl, fun a x t' => ?_, fun a s' t' hl hs ht => ?_⟩
      · unfold f9_count_l64b; rw [if_pos rfl]
      · have hsucc : A + (j + 1) * Q = A + j * Q + Q := by rw [Nat.succ_mul]; omega
        rw [hsucc] at ih1 ih3
        generalize A + j * Q = X at *
        obtain ⟨s2, c1, c2, -, -⟩ := c_code (N := N) (by omega) h.1 hm (num_bnd (show X ≤ 4095 by omega)) hs
        obtain ⟨t2, d1, d2⟩ := m_code (N := N) (by omega) (wf_mOk h.1.1 hm) (nI X) ht
        unfold f8_count_l82b f9_count_l64b
        rw [nI_l (n := B) (by omega), if_neg (by rw [lgt, pk_lLT (by omega) (by omega)]; omega), if_pos hme.1, lN_i, c2, if_neg (show ¬ (1 : Int32) = 0 by decide), d2, nI_l hQ2]
        simp only [Option.bind_some]
        rw [lN_add]
        unfold f9_count_b88 f9_count_b105
        rw [pk_sub hl]
        -- after this number
        have nx : ∀ a : Int32, ∃ r s1 t1, k m a (lN (X + Q)) s2 = some (r, s1) ∧ (if nI (B - X) < nI Q then (if (0 : Int32) = 0 then k' a (nI X) 0 t2 else k' a (nI X + nI Q) 0 t2) else (if (1 : Int32) = 0 then k' a (nI X) 1 t2 else k' a (nI X + nI Q) 1 t2)) = some (r, t1) ∧ Sc s s1 ∧ Sm t t1 := by
          intro a
          by_cases z : B < X + Q
          · rw [if_pos (nI_lt (by omega) hQ2), if_pos rfl]
            exact ⟨a, s2, t2, ih1 a s2 (by omega) z, ih2 a _ t2, c1, d1⟩
          · rw [if_neg (nI_nlt (by omega) (by omega)), if_neg (show ¬ (1 : Int32) = 0 by decide), nI_add]
            exact ih3 a s2 t2 (by omega) c1 d1
        by_cases w : (cdq (t 0) m (nI X)).1 = p5
        · rw [if_pos w, if_pos w]; exact nx (a + 1)
        · rw [if_neg w, if_neg w]
          have := nx a
          rw [Int32.add_zero]
          exact this
  have := key.2.2 0 s t (by omega) (Sc.rf s) (Sm.rf t)
  rw [Nat.zero_mul, Nat.add_zero] at this
  exact this
theorem o_count (hN : 5000 ≤ N) (h : Rel s t) (p1 p2 p3 p4 p5 : Int32) : ∃ r s1 t1, f8_count N p1 p2 p3 p4 p5 s = some (r, s1) ∧ f9_count N p1 p2 p3 p4 p5 t = some (r, t1) ∧ Rel s1 t1 := by
  have h := h.thrown
  unfold f8_count f9_count
  generalize mu t 4 0 0 = t at h ⊢
  have k1 : ¬ (1 : Int32) = 0 := by decide
  rcases meter_of N h.1 p1 with ⟨h1, h2⟩ | ⟨m, hm, h8, rfl, h1, h2⟩
  · rw [h1, h2]
    simp only [Option.bind_some]
    have e : ∀ b0, f8_count_b36 N p1 p2 p3 p4 p5 none b0 s = some (-1, cu s 3 0 2) := fun _ => rfl
    simp only [e, ite_self]
    exact ⟨_, _, _, rfl, rfl, h.tr 2⟩
  rw [h1, h2]
  simp only [Option.bind_some]
  rw [if_neg k1]
  obtain ⟨T, M, hT1, hT2, hM, e1, e2, e3, e4, e5, e6⟩ := h.1.base
  rw [tc0, e1, e2]
  have bad : f8_count_b36 N (nI m) p2 p3 p4 p5 (some m) 0 s = some (-1, cu s 3 0 1) ∧ f9_count_b44 N (nI m) p2 p3 p4 p5 t = some (-1, mu t 3 0 1) := by
    unfold f8_count_b36 f8_count_b58 f9_count_b44 f9_no
    simp only [cu_at]
    rw [if_pos trivial, if_neg k1]
    exact ⟨rfl, rfl⟩
  by_cases q0 : p2 < 0
  · rw [if_pos q0, if_pos q0, bad.1, bad.2]; exact ⟨_, _, _, rfl, rfl, h.tr 1⟩
  rw [if_neg q0, if_neg q0]
  by_cases q1 : p3 < p2
  · rw [if_pos q1, if_pos q1, bad.1, bad.2]; exact ⟨_, _, _, rfl, rfl, h.tr 1⟩
  rw [if_neg q1, if_neg q1]
  by_cases q2 : nI T < p3
  · rw [if_pos q2, if_pos q2, bad.1, bad.2]; exact ⟨_, _, _, rfl, rfl, h.tr 1⟩
  rw [if_neg q2, if_neg q2]
  by_cases q3 : p4 < 1
  · rw [if_pos q3, if_neg (fa_of_lt q3).2.1, bad.1, bad.2]; exact ⟨_, _, _, rfl, rfl, h.tr 1⟩
  rw [if_neg q3, if_pos (fa_of_nlt q3)]
  have hTI : (nI T).toInt = T := nI_toInt (by omega)
  have u0 := (fa_le _ _).mp (fa_of_nlt q0)
  have u1 := (fa_le _ _).mp (fa_of_nlt q1)
  have u2 := (fa_le _ _).mp (fa_of_nlt q2)
  have u3 := (fa_le _ _).mp (fa_of_nlt q3)
  rw [i0] at u0
  rw [hTI] at u2
  rw [i1] at u3
  obtain ⟨A, hA, rfl⟩ := nI_of (x := p2) q0
  obtain ⟨B, hB, rfl⟩ := nI_of (x := p3) (by rw [fa_lt, i0]; omega)
  obtain ⟨Q, hQ, rfl⟩ := nI_of (x := p4) (by rw [fa_lt, i0]; omega)
  rw [nI_toInt hA] at u0 u1
  rw [nI_toInt hB] at u1 u2
  rw [nI_toInt hQ] at u3
  unfold f8_count_b36 f8_count_b58
  simp only [cu_at]
  rw [if_neg k1, if_pos trivial, nI_l hA]
  obtain ⟨r, s1, t1, x1, x2, x3, x4⟩ := count_pure hN (h.tr 0) (m := m) hm (A := A) (B := B) (Q := Q) (T := T) hT2 (by omega) (by omega) (by omega) hQ p5
  exact ⟨r, s1, t1, x1, x2, (h.tr 0).sc x3 x4⟩
end O

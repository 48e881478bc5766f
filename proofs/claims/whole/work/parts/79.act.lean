/-! a new act: the reference keeps the whole bench, the class a place of its ring -/
theorem wf_lv {a b : Nat → Int32} (h : Wf b) (l : Lv a b) : Wf a := by
  obtain ⟨⟨T, hT1, hT2, eT⟩, ⟨M, hM, eM⟩, h3⟩ := h
  refine ⟨⟨T, hT1, hT2, l.1.trans eT⟩, ⟨M, hM, l.2.1.trans eM⟩, fun m hm => ?_⟩
  rw [l.m] at hm
  obtain ⟨⟨K, hK, eK⟩, ⟨C, hC, eC⟩, hb⟩ := h3 m hm
  obtain ⟨l1, l2, l3⟩ := l.2.2 m hm
  refine ⟨⟨K, hK, l1.trans eK⟩, ⟨C, hC, l2.trans eC⟩, fun k hk => ?_⟩
  rw [l.c hm] at hk
  have e0 := l3 k hk 0 (by omega)
  rw [Nat.add_zero] at e0
  rw [e0, l3 k hk 1 (by omega), l3 k hk 2 (by omega), l3 k hk 3 (by omega)]
  exact hb k hk
theorem row_cg {b b' : Nat → Int32} (h : Wf b) (e : ∀ j, j < 530 → b' j = b j) : Lv b' b := by
  have hM := h.wk.m.1
  refine ⟨e 0 (by omega), e 1 (by omega), fun m hm => ⟨e _ (by omega), e _ (by omega), fun k hk c hc => e _ ?_⟩⟩
  have := (h.cn hm).1
  have := pa_lt (show m < 8 by omega) (show k < 16 by omega)
  omega
/-- the row that now is kept in -/
def hm1 (h : Nat) : Nat := if h = 60 then 59 else h
theorem hm1_le {h : Nat} (hh : h ≤ 60) : hm1 h ≤ 59 ∧ hm1 h ≤ h ∧ h ≤ hm1 h + 1 := by unfold hm1; split <;> omega
section O
variable {N : Nat} {s : cS} {t : mS}
theorem keep_now (hN : 40000 ≤ N) {h : Nat} (hh : h < 60) (e2 : t 2 0 = nI h) : ∃ t1, f9_act_l54 N N 0 t = some t1 ∧ (∀ f, f ≠ 1 → f ≠ 2 → f ≠ 3 → t1 f = t f) ∧ t1 3 0 = 0 ∧ t1 2 0 = nI (h + 1) ∧ ∀ i, t1 1 i = if 530 * h ≤ i ∧ i < 530 * h + 530 then t 0 (i - 530 * h) else t 1 i := by
  have key : ∀ t', (∀ f, f ≠ 1 → t' f = t f) → (∀ i, t' 1 i = if 530 * h ≤ i ∧ i < 530 * h + 0 then t 0 (i - 530 * h) else t 1 i) → ∃ t1, f9_act_l54 N N (nI 0) t' = some t1 ∧ (∀ f, f ≠ 1 → f ≠ 2 → f ≠ 3 → t1 f = t f) ∧ t1 3 0 = 0 ∧ t1 2 0 = nI (h + 1) ∧ ∀ i, t1 1 i = if 530 * h ≤ i ∧ i < 530 * h + 530 then t 0 (i - 530 * h) else t 1 i := by
    refine iter_ind (P := fun j (f : Int32 → mS → Option mS) => ∀ t', (∀ f, f ≠ 1 → t' f = t f) → (∀ i, t' 1 i = if 530 * h ≤ i ∧ i < 530 * h + j then t 0 (i - 530 * h) else t 1 i) → ∃ t1, f (nI j) t' = some t1 ∧ (∀ f, f ≠ 1 → f ≠ 2 → f ≠ 3 → t1 f = t f) ∧ t1 3 0 = 0 ∧ t1 2 0 = nI (h + 1) ∧ ∀ i, t1 1 i = if 530 * h ≤ i ∧ i < 530 * h + 530 then t 0 (i - 530 * h) else t 1 i) (e := 530) ?_ ?_ (show 530 < N by omega)
    · intro k t' e1 e3
      unfold f9_act_l54b
      rw [if_pos (show (530 : Int32) ≤ nI 530 from Int32.le_refl _)]
      refine ⟨_, rfl, fun f a b c => ?_, mu_at _ _ _ _, ?_, fun i => ?_⟩
      · rw [mu_ne _ _ _ c, mu_ne _ _ _ b, e1 f a]
      · rw [mu_ne _ _ _ (show 2 ≠ 3 by omega), mu_at, e1 2 (by omega), e2, nI_1]
      · rw [mu_ne _ _ _ (show 1 ≠ 3 by omega), mu_ne _ _ _ (show 1 ≠ 2 by omega)]; exact e3 i
    · intro j hj k ih t' e1 e3
      have hji := ix j 530 hj (by omega)
      have hri := ix (530 * h + j) 31800 (by omega) (by omega)
      unfold f9_act_l54b
      rw [if_neg (show ¬ (530 : Int32) ≤ nI j from nI_ge (b := 530) hj (by omega)), if_pos hji.1, hji.2, e1 2 (by omega), e2, show (530 : Int32) * nI h = nI (530 * h) from pk_mul 530 h, nI_add, if_pos hri.1, hri.2, nI_1, e1 0 (by omega)]
      refine ih _ (fun f hf => by rw [mu_ne _ _ _ hf]; exact e1 f hf) (fun i => ?_)
      rw [mu_rd, e3 i]
      by_cases q : i = 530 * h + j
      · rw [if_pos ⟨rfl, q⟩, if_pos (by omega), q, show 530 * h + j - 530 * h = j by omega]
      · rw [if_neg (fun z => q z.2)]
        by_cases z : 530 * h ≤ i ∧ i < 530 * h + j
        · rw [if_pos z, if_pos (by omega)]
        · rw [if_neg z, if_neg (by omega)]
  exact key t (fun _ _ => rfl) (fun i => by rw [if_neg (by omega)])
theorem act_some (hN : 40000 ≤ N) {h : Nat} (hh : h ≤ 60) (e2 : t 2 0 = nI h) : ∃ t1, f9_act N t = some t1 ∧ (∀ f, f ≠ 1 → f ≠ 2 → f ≠ 3 → t1 f = t f) ∧ t1 3 0 = 0 ∧ t1 2 0 = nI (hm1 h + 1) ∧ (∀ j, j < 530 → row t1 (hm1 h) j = t 0 j) ∧ ∀ r, r < hm1 h → ∀ j, j < 530 → row t1 r j = row t (r + (h - hm1 h)) j := by
  unfold f9_act
  by_cases q : h = 60
  · have e1 : hm1 h = 59 := by unfold hm1; rw [if_pos q]
    rw [e1]
    subst q
    rw [e2, if_pos (show nI 60 = 60 from rfl)]
    have key : ∀ t', (∀ f, f ≠ 1 → t' f = t f) → (∀ i, t' 1 i = if i < 0 then t 1 (i + 530) else t 1 i) → ∃ t1, f9_act_l13 N N (nI (530 + 0)) t' = some t1 ∧ (∀ f, f ≠ 1 → f ≠ 2 → f ≠ 3 → t1 f = t f) ∧ t1 3 0 = 0 ∧ t1 2 0 = nI (59 + 1) ∧ ∀ i, t1 1 i = if 530 * 59 ≤ i ∧ i < 530 * 59 + 530 then t 0 (i - 530 * 59) else if i < 31270 then t 1 (i + 530) else t 1 i := by
      refine iter_ind (P := fun j (f : Int32 → mS → Option mS) => ∀ t', (∀ f, f ≠ 1 → t' f = t f) → (∀ i, t' 1 i = if i < j then t 1 (i + 530) else t 1 i) → ∃ t1, f (nI (530 + j)) t' = some t1 ∧ (∀ f, f ≠ 1 → f ≠ 2 → f ≠ 3 → t1 f = t f) ∧ t1 3 0 = 0 ∧ t1 2 0 = nI (59 + 1) ∧ ∀ i, t1 1 i = if 530 * 59 ≤ i ∧ i < 530 * 59 + 530 then t 0 (i - 530 * 59) else if i < 31270 then t 1 (i + 530) else t 1 i) (e := 31270) ?_ ?_ (show 31270 < N by omega)
      · intro k t' e1 e3
        unfold f9_act_l13b
        rw [if_pos (show (31800 : Int32) ≤ nI (530 + 31270) from nI_le (a := 31800) (by omega) (by omega)), e1 2 (by omega), e2, show nI 60 - 1 = nI 59 from nI_pred 59]
        obtain ⟨t1, a1, a2, a3, a4, a5⟩ := keep_now (t := mu t' 2 0 (nI 59)) hN (show 59 < 60 by omega) (mu_at _ _ _ _)
        refine ⟨t1, a1, fun f a b c => by rw [a2 f a b c, mu_ne _ _ _ b, e1 f a], a3, a4, fun i => ?_⟩
        rw [a5 i, mu_ne _ _ _ (show 0 ≠ 2 by omega), mu_ne _ _ _ (show 1 ≠ 2 by omega), e1 0 (by omega), e3 i]
      · intro j hj k ih t' e1 e3
        have hji := ix (530 + j) 31800 (by omega) (by omega)
        have hri := ix j 31800 (by omega) (by omega)
        have es : nI (530 + j) - 530 = nI j := by
          rw [show (530 : Int32) = nI 530 from rfl, pk_sub (by omega), show 530 + j - 530 = j by omega]
        unfold f9_act_l13b
        rw [if_neg (show ¬ (31800 : Int32) ≤ nI (530 + j) from nI_ge (b := 31800) (by omega) (by omega)), if_pos hji.1, hji.2, es, if_pos hri.1, hri.2, nI_1, e3 (530 + j), if_neg (by omega)]
        refine ih _ (fun f hf => by rw [mu_ne _ _ _ hf]; exact e1 f hf) (fun i => ?_)
        rw [mu_rd, e3 i]
        by_cases q : i = j
        · rw [if_pos ⟨rfl, q⟩, if_pos (by omega), q, Nat.add_comm]
        · rw [if_neg (fun z => q z.2)]
          by_cases z : i < j
          · rw [if_pos z, if_pos (by omega)]
          · rw [if_neg z, if_neg (by omega)]
    obtain ⟨t1, a1, a2, a3, a4, a5⟩ := key t (fun _ _ => rfl) (fun i => by rw [if_neg (Nat.not_lt_zero i)])
    refine ⟨t1, a1, a2, a3, a4, fun j hj => ?_, fun r hr j hj => ?_⟩
    · unfold row
      rw [a5, if_pos (by omega), show 530 * 59 + j - 530 * 59 = j by omega]
    · unfold row
      rw [a5, if_neg (by omega), if_pos (by omega)]
      congr 1
      omega
  · have e1 : hm1 h = h := by unfold hm1; rw [if_neg q]
    rw [e1, e2, if_neg (show ¬ nI h = (60 : Int32) from fun e => q ((nI_eq (b := 60) (by omega) (by omega)).mp e))]
    obtain ⟨t1, a1, a2, a3, a4, a5⟩ := keep_now hN (show h < 60 by omega) e2
    refine ⟨t1, a1, a2, a3, a4, fun j hj => ?_, fun r hr j hj => ?_⟩
    · unfold row
      rw [a5, if_pos (by omega), show 530 * h + j - 530 * h = j by omega]
    · unfold row
      have : 530 * (r + 1) ≤ 530 * h := Nat.mul_le_mul_left 530 hr
      rw [a5, if_neg (by omega), Nat.sub_self, Nat.add_zero]
theorem newAct_some (N : Nat) {h nx : Nat} (hh : h ≤ 60) (hx : nx < 60) (e30 : s.1 30 0 = nI h) (e29 : s.1 29 0 = nI nx) (p1 p2 p3 : Int32) : ∃ s1, f8_newAct N p1 p2 p3 s = some (some nx, s1) ∧ (∀ f, f ≠ 4 → f ≠ 29 → f ≠ 30 → f ≠ 31 → f ≠ 32 → f ≠ 33 → s1.1 f = s.1 f) ∧ s1.2 = s.2 ∧ s1.1 4 0 = -1 ∧ s1.1 29 0 = nI ((nx + 1) % 60) ∧ s1.1 30 0 = nI (hm1 h + 1) ∧ s1.1 31 nx = p1 ∧ s1.1 32 nx = p2 ∧ s1.1 33 nx = p3 ∧ ∀ a, a ≠ nx → s1.1 31 a = s.1 31 a ∧ s1.1 32 a = s.1 32 a ∧ s1.1 33 a = s.1 33 a := by
  have hi := ix nx 60 hx (by omega)
  unfold f8_newAct f6_addAct f6_slotAt
  rw [cu_ne s 0 (-1) (show 29 ≠ 4 by omega), e29, if_neg (nI_pos (by omega)), if_neg (show ¬ (60 : Int32) ≤ nI nx from nI_ge (b := 60) hx (by omega)), if_pos hi.1, hi.2]
  simp only [Option.bind_some]
  rw [if_pos hx]
  generalize hs1 : cu (cu (cu (cu s 4 0 (-1)) 31 nx p1) 32 nx p2) 33 nx p3 = s1
  have x29 : s1.1 29 0 = nI nx := by
    rw [← hs1, cu_ne _ _ _ (show 29 ≠ 33 by omega), cu_ne _ _ _ (show 29 ≠ 32 by omega), cu_ne _ _ _ (show 29 ≠ 31 by omega), cu_ne _ _ _ (show 29 ≠ 4 by omega)]; exact e29
  have x30 : s1.1 30 0 = nI h := by
    rw [← hs1, cu_ne _ _ _ (show 30 ≠ 33 by omega), cu_ne _ _ _ (show 30 ≠ 32 by omega), cu_ne _ _ _ (show 30 ≠ 31 by omega), cu_ne _ _ _ (show 30 ≠ 4 by omega)]; exact e30
  have er : nI nx + 1 - (nI nx + 1) / 60 * 60 = nI ((nx + 1) % 60) := by
    rw [nI_1]; exact pk_rem (a := nx + 1) (d := 60) (by omega) (by omega) (by omega)
  rw [x29, er, cu_ne s1 0 (nI ((nx + 1) % 60)) (show 30 ≠ 29 by omega), x30]
  have ej : jmin 60 (nI h + 1) = nI (hm1 h + 1) := by
    rw [nI_1]
    unfold jmin hm1
    by_cases q : h + 1 < 60
    · rw [if_pos (show nI (h + 1) < 60 from nI_lt (b := 60) q (by omega)), if_neg (by omega)]
    · rw [if_neg (show ¬ nI (h + 1) < 60 from nI_nlt (a := h + 1) (b := 60) (by omega) (by omega))]
      by_cases z : h = 60
      · rw [if_pos z]; rfl
      · rw [if_neg z, show h = 59 by omega]; rfl
  rw [ej]
  refine ⟨_, rfl, fun f a b c d e g => ?_, ?_, ?_, ?_, cu_at _ _ _ _, ?_, ?_, ?_, fun a ha => ?_⟩
  · rw [cu_ne _ _ _ c, cu_ne _ _ _ b, ← hs1, cu_ne _ _ _ g, cu_ne _ _ _ e, cu_ne _ _ _ d, cu_ne _ _ _ a]
  · rw [cu_2, cu_2, ← hs1, cu_2, cu_2, cu_2, cu_2]
  · rw [cu_ne _ _ _ (show 4 ≠ 30 by omega), cu_ne _ _ _ (show 4 ≠ 29 by omega), ← hs1, cu_ne _ _ _ (show 4 ≠ 33 by omega), cu_ne _ _ _ (show 4 ≠ 32 by omega), cu_ne _ _ _ (show 4 ≠ 31 by omega), cu_at]
  · rw [cu_ne _ _ _ (show 29 ≠ 30 by omega), cu_at]
  · rw [cu_ne _ _ _ (show 31 ≠ 30 by omega), cu_ne _ _ _ (show 31 ≠ 29 by omega), ← hs1, cu_ne _ _ _ (show 31 ≠ 33 by omega), cu_ne _ _ _ (show 31 ≠ 32 by omega), cu_at]
  · rw [cu_ne _ _ _ (show 32 ≠ 30 by omega), cu_ne _ _ _ (show 32 ≠ 29 by omega), ← hs1, cu_ne _ _ _ (show 32 ≠ 33 by omega), cu_at]
  · rw [cu_ne _ _ _ (show 33 ≠ 30 by omega), cu_ne _ _ _ (show 33 ≠ 29 by omega), ← hs1, cu_at]
  · rw [cu_ne _ _ _ (show 31 ≠ 30 by omega), cu_ne _ _ _ (show 31 ≠ 29 by omega), cu_ne _ _ _ (show 32 ≠ 30 by omega), cu_ne _ _ _ (show 32 ≠ 29 by omega), cu_ne _ _ _ (show 33 ≠ 30 by omega), cu_ne _ _ _ (show 33 ≠ 29 by omega), ← hs1]
    have c1 : ∀ (s : cS) (f : Nat) (v : Int32), (cu s f nx v).1 f a = s.1 f a := fun s f v => by rw [cu_rd, if_neg (fun z => ha z.2)]
    rw [cu_ne _ _ _ (show 31 ≠ 33 by omega), cu_ne _ _ _ (show 31 ≠ 32 by omega), cu_ne _ _ _ (show 32 ≠ 33 by omega), c1, c1, c1, cu_ne _ _ _ (show 31 ≠ 4 by omega), cu_ne _ _ _ (show 32 ≠ 31 by omega), cu_ne _ _ _ (show 32 ≠ 4 by omega), cu_ne _ _ _ (show 33 ≠ 32 by omega), cu_ne _ _ _ (show 33 ≠ 31 by omega), cu_ne _ _ _ (show 33 ≠ 4 by omega)]
    exact ⟨rfl, rfl, rfl⟩
end O

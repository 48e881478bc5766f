/-! undo: the reference's row comes back; FAULTS that are gone -/
section O
variable {N : Nat} {s : cS} {t : mS}
theorem copy_some (hN : 40000 ≤ N) {h : Nat} (hh : h < 60) (e2 : t 2 0 = nI h) : ∃ t1, f9_undo_l26 N N 0 t = f9_undo_l64 N N 0 0 t1 ∧ (∀ f, f ≠ 0 → t1 f = t f) ∧ ∀ j, j < 530 → t1 0 j = row t h j := by
  have key : ∀ t', (∀ f, f ≠ 0 → t' f = t f) → (∀ i, i < 0 → t' 0 i = row t h i) → ∃ t1, f9_undo_l26 N N (nI 0) t' = f9_undo_l64 N N 0 0 t1 ∧ (∀ f, f ≠ 0 → t1 f = t f) ∧ ∀ j, j < 530 → t1 0 j = row t h j := by
    refine iter_ind (P := fun j (f : Int32 → mS → Option (Int32 × mS)) => ∀ t', (∀ f, f ≠ 0 → t' f = t f) → (∀ i, i < j → t' 0 i = row t h i) → ∃ t1, f (nI j) t' = f9_undo_l64 N N 0 0 t1 ∧ (∀ f, f ≠ 0 → t1 f = t f) ∧ ∀ j, j < 530 → t1 0 j = row t h j) (e := 530) ?_ ?_ (show 530 < N by omega)
    · intro k t' e1 e3
      unfold f9_undo_l26b
      rw [if_pos (show (530 : Int32) ≤ nI 530 from Int32.le_refl _)]
      exact ⟨t', rfl, e1, e3⟩
    · intro j hj k ih t' e1 e3
      have hji := ix j 530 hj (by omega)
      have hri := ix (530 * h + j) 31800 (by omega) (by omega)
      unfold f9_undo_l26b
      rw [if_neg (show ¬ (530 : Int32) ≤ nI j from nI_ge (b := 530) hj (by omega)), e1 2 (by omega), e2, show (530 : Int32) * nI h = nI (530 * h) from pk_mul 530 h, nI_add, if_pos hri.1, if_pos hji.1, hji.2, hri.2, nI_1, e1 1 (by omega)]
      refine ih _ (fun f hf => by rw [mu_ne _ _ _ hf]; exact e1 f hf) (fun i hi => ?_)
      rw [mu_rd]
      by_cases q : i = j
      · rw [if_pos ⟨rfl, q⟩, q]; rfl
      · rw [if_neg (fun z => q z.2)]; exact e3 i (by omega)
  exact key t (fun _ _ => rfl) (fun i hi => absurd hi (Nat.not_lt_zero i))
/-- part_of, from the bench alone -/
theorem meter_ofB (N : Nat) (hw : Wf (t 0)) (hl : Lv (vC s) (t 0)) (x : Int32) : (f8_meterAt N x s = some (none, s) ∧ f9_isMeter N x t = some (0, t)) ∨ ∃ m : Nat, m < vM (t 0) ∧ m < 8 ∧ x = nI m ∧ f8_meterAt N x s = some (some m, s) ∧ f9_isMeter N x t = some (1, t) := by
  obtain ⟨hM, e4⟩ := hw.wk.m
  have e3 : s.1 1 0 = nI (vM (t 0)) := hl.2.1.trans e4
  unfold f8_meterAt f9_isMeter f9_in
  rw [tc1, e3, e4]
  generalize vM (t 0) = M at hM ⊢
  rcases lim x (show M < 2 ^ 29 by omega) with h1 | ⟨h1, h2, h3⟩ | ⟨m, hm, rfl, h1, h2, h3⟩
  · left; rw [if_pos h1, if_pos h1]; exact ⟨rfl, rfl⟩
  · left; rw [if_neg h1, if_pos h2, if_neg h1, if_pos h3]; exact ⟨rfl, rfl⟩
  · right
    have hi := ix m 8 (by omega) (by omega)
    refine ⟨m, hm, by omega, rfl, ?_, ?_⟩
    · rw [if_neg h1, if_neg h2, if_neg (show ¬ (8 : Int32) ≤ nI m from nI_ge (b := 8) (by omega) (by omega)), if_pos hi.1, hi.2]
    · rw [if_neg h1, if_neg h3]; rfl
theorem part_ofB (N : Nat) (hw : Wf (t 0)) (hl : Lv (vC s) (t 0)) (x y : Int32) : (f8_partAt N x y s = some (none, s) ∧ f9_isPart N x y t = some (0, t)) ∨ ∃ m k : Nat, m < vM (t 0) ∧ m < 8 ∧ k < vcn (t 0) m ∧ k < 16 ∧ x = nI m ∧ y = nI k ∧ f8_partAt N x y s = some (some (16 * m + k), s) ∧ f9_isPart N x y t = some (1, t) := by
  unfold f8_partAt f9_isPart
  rcases meter_ofB N hw hl x with ⟨h1, h2⟩ | ⟨m, hm, h8, rfl, h1, h2⟩
  · left; rw [h1, h2]; exact ⟨rfl, rfl⟩
  · rw [h1, h2]
    have hc := hw.cn hm
    have s6 : s.1 6 m = nI (vcn (t 0) m) := by rw [← vC_10 s h8, (hl.2.2 m hm).2.1]; exact hc.2
    have hi := ix (10 + m) 530 (by omega) (by omega)
    simp only [Option.bind_some]
    rw [if_pos h8, if_neg (show ¬ (1 : Int32) = 0 by decide), nI_lit10, if_pos hi.1, hi.2]
    unfold f3_partAt f9_in
    rw [s6, hc.2]
    rcases lim y (show vcn (t 0) m < 2 ^ 29 by omega) with q1 | ⟨q1, q2, q3⟩ | ⟨k, hk, rfl, q1, q2, q3⟩
    · left; rw [if_pos q1, if_pos q1]; exact ⟨rfl, rfl⟩
    · left; rw [if_neg q1, if_pos q2, if_neg q1, if_pos q3]; exact ⟨rfl, rfl⟩
    · right
      have hk16 : k < 16 := by omega
      have hj := ix k 16 hk16 (by omega)
      refine ⟨m, k, hm, h8, hk, hk16, rfl, rfl, ?_, ?_⟩
      · rw [if_neg q1, if_neg q2, if_neg (show ¬ (16 : Int32) ≤ nI k from nI_ge (b := 16) (by omega) (by omega)), if_pos hj.1, hj.2]; rfl
      · rw [if_neg q1, if_neg q3]; rfl
theorem faultAt_is (N : Nat) {F i : Nat} (hF : s.1 2 0 = nI F) (hF2 : F ≤ 10) (hi : i < F) : f8_faultAt N (nI i) s = some (some i, s) := by
  have hj := ix i 10 (by omega) (by omega)
  unfold f8_faultAt
  rw [hF, if_neg (nI_pos (by omega)), if_neg (nI_ge hi (by omega)), if_neg (show ¬ (10 : Int32) ≤ nI i from nI_ge (b := 10) (by omega) (by omega)), if_pos hj.1, hj.2]
/-- a FAULT of both -/
def FsB (s : cS) (t : mS) (i : Nat) : Prop := s.1 19 i = t 7 i ∧ s.1 20 i = t 8 i ∧ s.1 21 i = t 9 i ∧ bnd 500 (t 9 i)
def FpB (v : Nat → Int32) (t : mS) (i : Nat) : Prop := ∃ m k : Nat, t 7 i = nI m ∧ t 8 i = nI k ∧ m < vM v ∧ k < vcn v m
theorem drop_some (hN : 100 ≤ N) {F : Nat} (hF : F ≤ 10) (f1 : s.1 2 0 = nI F) (f2 : t 11 0 = nI F) (hs : ∀ i, i < F → FsB s t i) (hw : Wf (t 0)) (hl : Lv (vC s) (t 0)) : ∃ s4 t4, f8_dropGoneFaults N s = some s4 ∧ f9_undo_l64 N N 0 0 t = some (1, t4) ∧ (∀ f, f ≠ 2 → f ≠ 19 → f ≠ 20 → f ≠ 21 → s4.1 f = s.1 f) ∧ s4.2 = s.2 ∧ (∀ f, f ≠ 7 → f ≠ 8 → f ≠ 9 → f ≠ 11 → t4 f = t f) ∧ RFault s4 t4 := by
  unfold f8_dropGoneFaults
  rw [f1]
  have key : ∀ (c : Nat) (s' : cS) (t' : mS), c ≤ 0 → (∀ f, f ≠ 19 → f ≠ 20 → f ≠ 21 → s'.1 f = s.1 f) → s'.2 = s.2 → (∀ f, f ≠ 7 → f ≠ 8 → f ≠ 9 → t' f = t f) → (∀ i, 0 ≤ i → i < F → FsB s' t' i) → (∀ i, i < c → FsB s' t' i ∧ FpB (t 0) t' i) → ∃ s4 t4, f8_dropGoneFaults_l9 N N (nI F) (nI c) (nI 0) s' = some s4 ∧ f9_undo_l64 N N (nI c) (nI 0) t' = some (1, t4) ∧ (∀ f, f ≠ 2 → f ≠ 19 → f ≠ 20 → f ≠ 21 → s4.1 f = s.1 f) ∧ s4.2 = s.2 ∧ (∀ f, f ≠ 7 → f ≠ 8 → f ≠ 9 → f ≠ 11 → t4 f = t f) ∧ RFault s4 t4 := by
    refine iter_ind2 (P := fun j (f : Int32 → Int32 → Int32 → cS → Option cS) (g : Int32 → Int32 → mS → Option (Int32 × mS)) => ∀ (c : Nat) (s' : cS) (t' : mS), c ≤ j → (∀ f, f ≠ 19 → f ≠ 20 → f ≠ 21 → s'.1 f = s.1 f) → s'.2 = s.2 → (∀ f, f ≠ 7 → f ≠ 8 → f ≠ 9 → t' f = t f) → (∀ i, j ≤ i → i < F → FsB s' t' i) → (∀ i, i < c → FsB s' t' i ∧ FpB (t 0) t' i) → ∃ s4 t4, f (nI F) (nI c) (nI j) s' = some s4 ∧ g (nI c) (nI j) t' = some (1, t4) ∧ (∀ f, f ≠ 2 → f ≠ 19 → f ≠ 20 → f ≠ 21 → s4.1 f = s.1 f) ∧ s4.2 = s.2 ∧ (∀ f, f ≠ 7 → f ≠ 8 → f ≠ 9 → f ≠ 11 → t4 f = t f) ∧ RFault s4 t4) (e := F) ?_ ?_ (show F < N by omega) (show F < N by omega)
    · intro k k' c s' t' hc e1 e2 e3 e4 e5
      unfold f8_dropGoneFaults_l9b f9_undo_l64b
      rw [if_pos (Int32.le_refl _), e3 11 (by omega) (by omega) (by omega), f2, if_pos (Int32.le_refl _)]
      refine ⟨_, _, rfl, rfl, fun f x2 x19 x20 x21 => ?_, e2, fun f x7 x8 x9 x11 => ?_, c, by omega, cu_at _ _ _ _, mu_at _ _ _ _, fun i hi => ?_⟩
      · rw [cu_ne _ _ _ x2]; exact e1 f x19 x20 x21
      · rw [mu_ne _ _ _ x11]; exact e3 f x7 x8 x9
      · obtain ⟨⟨g1, g2, g3, g4⟩, m, k, g5, g6, g7, g8⟩ := e5 i hi
        rw [cu_ne _ _ _ (show 19 ≠ 2 by omega), cu_ne _ _ _ (show 20 ≠ 2 by omega), cu_ne _ _ _ (show 21 ≠ 2 by omega), mu_ne _ _ _ (show 7 ≠ 11 by omega), mu_ne _ _ _ (show 8 ≠ 11 by omega), mu_ne _ _ _ (show 9 ≠ 11 by omega), mu_ne _ _ _ (show 0 ≠ 11 by omega), e3 0 (by omega) (by omega) (by omega)]
        exact ⟨g1, g2, g3, g4, m, k, g5, g6, g7, g8⟩
    · intro j hj k k' ih c s' t' hc e1 e2 e3 e4 e5
      have hji := ix j 10 (by omega) (by omega)
      have hci := ix c 10 (by omega) (by omega)
      have s2 : s'.1 2 0 = nI F := by rw [e1 2 (by omega) (by omega) (by omega)]; exact f1
      have t0' : t' 0 = t 0 := e3 0 (by omega) (by omega) (by omega)
      have hw' : Wf (t' 0) := by rw [t0']; exact hw
      have hl' : Lv (vC s') (t' 0) := by
        rw [t0', vC_fr (s := s) (fun f hf => e1 f (by omega) (by omega) (by omega))]; exact hl
      obtain ⟨g1, g2, g3, g4⟩ := e4 j (Nat.le_refl _) hj
      unfold f8_dropGoneFaults_l9b f9_undo_l64b
      rw [if_neg (nI_ge hj (by omega)), if_neg (show ¬ (10 : Int32) ≤ nI j from nI_ge (b := 10) (by omega) (by omega)), faultAt_is N s2 hF hj]
      simp only [Option.bind_some]
      rw [faultAt_is N s2 hF (show c < F by omega)]
      simp only [Option.bind_some]
      rw [if_pos (show j < 10 by omega), g1, g2, e3 11 (by omega) (by omega) (by omega), f2, if_neg (nI_ge hj (by omega)), if_pos hji.1, hji.2]
      rcases part_ofB N hw' hl' (t' 7 j) (t' 8 j) with ⟨p1, p2⟩ | ⟨m, k2, hm, h8, hk, hk16, ex, ey, p1, p2⟩
      · rw [p1, p2]
        simp only [Option.bind_some]
        rw [if_pos trivial, nI_1]
        exact ih c s' t' (by omega) e1 e2 e3 (fun i hi1 hi2 => e4 i (by omega) hi2) e5
      · rw [p1, p2]
        simp only [Option.bind_some]
        rw [if_neg (show ¬ (1 : Int32) = 0 by decide), if_pos hci.1, hci.2, if_pos (show c < 10 by omega)]
        unfold f2_become
        simp only [Option.bind_some]
        rw [nI_1, nI_1, g1, g2, g3, mu_ne _ _ _ (show 8 ≠ 7 by omega), mu_ne _ _ _ (show 9 ≠ 8 by omega), mu_ne _ _ _ (show 9 ≠ 7 by omega)]
        generalize hs2 : cu (cu (cu s' 19 c (t' 7 j)) 20 c (t' 8 j)) 21 c (t' 9 j) = s2'
        generalize ht2 : mu (mu (mu t' 7 c (t' 7 j)) 8 c (t' 8 j)) 9 c (t' 9 j) = t2'
        have c19 : ∀ i, s2'.1 19 i = if i = c then t' 7 j else s'.1 19 i := fun i => by
          rw [← hs2, cu_ne _ _ _ (show 19 ≠ 21 by omega), cu_ne _ _ _ (show 19 ≠ 20 by omega), cu_rd]
          by_cases q : i = c
          · rw [if_pos ⟨rfl, q⟩, if_pos q]
          · rw [if_neg (fun z => q z.2), if_neg q]
        have c20 : ∀ i, s2'.1 20 i = if i = c then t' 8 j else s'.1 20 i := fun i => by
          rw [← hs2, cu_ne _ _ _ (show 20 ≠ 21 by omega), cu_rd]
          by_cases q : i = c
          · rw [if_pos ⟨rfl, q⟩, if_pos q]
          · rw [if_neg (fun z => q z.2), if_neg q, cu_ne _ _ _ (show 20 ≠ 19 by omega)]
        have c21 : ∀ i, s2'.1 21 i = if i = c then t' 9 j else s'.1 21 i := fun i => by
          rw [← hs2, cu_rd]
          by_cases q : i = c
          · rw [if_pos ⟨rfl, q⟩, if_pos q]
          · rw [if_neg (fun z => q z.2), if_neg q, cu_ne _ _ _ (show 21 ≠ 20 by omega), cu_ne _ _ _ (show 21 ≠ 19 by omega)]
        have d7 : ∀ i, t2' 7 i = if i = c then t' 7 j else t' 7 i := fun i => by
          rw [← ht2, mu_ne _ _ _ (show 7 ≠ 9 by omega), mu_ne _ _ _ (show 7 ≠ 8 by omega), mu_rd]
          by_cases q : i = c
          · rw [if_pos ⟨rfl, q⟩, if_pos q]
          · rw [if_neg (fun z => q z.2), if_neg q]
        have d8 : ∀ i, t2' 8 i = if i = c then t' 8 j else t' 8 i := fun i => by
          rw [← ht2, mu_ne _ _ _ (show 8 ≠ 9 by omega), mu_rd]
          by_cases q : i = c
          · rw [if_pos ⟨rfl, q⟩, if_pos q]
          · rw [if_neg (fun z => q z.2), if_neg q, mu_ne _ _ _ (show 8 ≠ 7 by omega)]
        have d9 : ∀ i, t2' 9 i = if i = c then t' 9 j else t' 9 i := fun i => by
          rw [← ht2, mu_rd]
          by_cases q : i = c
          · rw [if_pos ⟨rfl, q⟩, if_pos q]
          · rw [if_neg (fun z => q z.2), if_neg q, mu_ne _ _ _ (show 9 ≠ 8 by omega), mu_ne _ _ _ (show 9 ≠ 7 by omega)]
        have old : ∀ i, i ≠ c → FsB s' t' i → FsB s2' t2' i := by
          intro i hi q
          unfold FsB at q ⊢
          rw [c19, c20, c21, d7, d8, d9, if_neg hi, if_neg hi, if_neg hi, if_neg hi, if_neg hi, if_neg hi]
          exact q
        refine ih (c + 1) s2' t2' (by omega) (fun f x19 x20 x21 => ?_) ?_ (fun f x7 x8 x9 => ?_) (fun i hi1 hi2 => old i (by omega) (e4 i (by omega) hi2)) (fun i hi => ?_)
        · rw [← hs2, cu_ne _ _ _ x21, cu_ne _ _ _ x20, cu_ne _ _ _ x19]; exact e1 f x19 x20 x21
        · rw [← hs2]; exact e2
        · rw [← ht2, mu_ne _ _ _ x9, mu_ne _ _ _ x8, mu_ne _ _ _ x7]; exact e3 f x7 x8 x9
        · by_cases q : i = c
          · refine ⟨?_, ?_⟩
            · unfold FsB
              rw [c19, c20, c21, d7, d8, d9, if_pos q, if_pos q, if_pos q, if_pos q, if_pos q, if_pos q]
              exact ⟨rfl, rfl, rfl, g4⟩
            · unfold FpB
              rw [d7, d8, if_pos q, if_pos q]
              rw [t0'] at hm hk
              exact ⟨m, k2, ex, ey, hm, hk⟩
          · obtain ⟨o1, o2⟩ := e5 i (by omega)
            refine ⟨old i q o1, ?_⟩
            unfold FpB at o2 ⊢
            rw [d7, d8, if_neg q, if_neg q]
            exact o2
  exact key 0 s t (Nat.le_refl _) (fun _ _ _ _ => rfl) rfl (fun _ _ _ _ => rfl) (fun i _ hi => hs i hi) (fun i hi => absurd hi (Nat.not_lt_zero i))
end O

/-! the reference sorts the codes -/
def St (f : Nat → Int32) (a b : Nat) (v : Int32) : Prop := ∃ x, a ≤ x ∧ x < b ∧ f x = v
theorem St_0 (f : Nat → Int32) (a : Nat) (v : Int32) : ¬ St f a a v := fun ⟨x, h1, h2, _⟩ => by omega
theorem St_succ {f : Nat → Int32} {a b : Nat} (h : a ≤ b) (v : Int32) : St f a (b + 1) v ↔ St f a b v ∨ f b = v := by
  constructor
  · rintro ⟨x, h1, h2, h3⟩
    by_cases q : x = b
    · exact Or.inr (q ▸ h3)
    · exact Or.inl ⟨x, h1, by omega, h3⟩
  · rintro (⟨x, h1, h2, h3⟩ | h3)
    · exact ⟨x, h1, by omega, h3⟩
    · exact ⟨b, h, by omega, h3⟩
theorem St_cong {f g : Nat → Int32} {a b : Nat} (h : ∀ x, a ≤ x → x < b → f x = g x) (v : Int32) : St f a b v ↔ St g a b v := by
  constructor
  · rintro ⟨x, h1, h2, h3⟩; exact ⟨x, h1, h2, (h x h1 h2) ▸ h3⟩
  · rintro ⟨x, h1, h2, h3⟩; exact ⟨x, h1, h2, by rw [h x h1 h2]; exact h3⟩
theorem St_put {f g : Nat → Int32} {a b : Nat} {z : Int32} (h : a ≤ b) (hg : ∀ x, g x = if x = b then z else f x) (v : Int32) : St g a (b + 1) v ↔ St f a b v ∨ z = v := by
  rw [St_succ h, St_cong (g := f) (fun x _ h2 => by rw [hg, if_neg (by omega)]), hg, if_pos rfl]
theorem St_cat {f : Nat → Int32} {a b c : Nat} (h1 : a ≤ b) (h2 : b ≤ c) (v : Int32) : St f a c v ↔ St f a b v ∨ St f b c v := by
  constructor
  · rintro ⟨x, q1, q2, q3⟩
    rcases Nat.lt_or_ge x b with l | l
    · exact Or.inl ⟨x, q1, l, q3⟩
    · exact Or.inr ⟨x, l, q2, q3⟩
  · rintro (⟨x, q1, q2, q3⟩ | ⟨x, q1, q2, q3⟩)
    · exact ⟨x, q1, by omega, q3⟩
    · exact ⟨x, by omega, q2, q3⟩
def MInv (A B : Nat → Int32) (lo w mid e d i j : Nat) : Prop := lo ≤ i ∧ i ≤ mid ∧ lo + w ≤ j ∧ (j ≤ e ∨ j = lo + w) ∧ i + j = lo + d + lo + w ∧ (∀ x, lo ≤ x → x + 1 < lo + d → B x ≤ B (x + 1)) ∧ (0 < d → (i < mid → B (lo + d - 1) ≤ A i) ∧ (j < e → B (lo + d - 1) ≤ A j)) ∧ ∀ v, St B lo (lo + d) v ↔ St A lo i v ∨ St A (lo + w) j v
theorem MInv.left {A B B' : Nat → Int32} {lo w mid e d i j : Nat} (h : MInv A B lo w mid e d i j) (hi : i < mid) (hj : j < e → A i ≤ A j) (hs : ∀ x, lo ≤ x → x + 1 < mid → A x ≤ A (x + 1)) (hB : ∀ x, B' x = if x = lo + d then A i else B x) : MInv A B' lo w mid e (d + 1) (i + 1) j := by
  obtain ⟨h1, h2, h3, h4, h5, h6, h7, h8⟩ := h
  refine ⟨by omega, by omega, h3, h4, by omega, fun x hx hx2 => ?_, fun _ => ⟨fun q => ?_, fun q => ?_⟩, fun v => ?_⟩
  · rw [hB x, if_neg (by omega), hB (x + 1)]
    by_cases q : x + 1 = lo + d
    · rw [if_pos q]
      have := (h7 (by omega)).1 hi
      rw [show lo + d - 1 = x by omega] at this
      exact this
    · rw [if_neg q]; exact h6 x hx (by omega)
  · rw [hB, if_pos (by omega)]; exact hs i h1 q
  · rw [hB, if_pos (by omega)]; exact hj q
  · rw [show lo + (d + 1) = lo + d + 1 by omega, St_put (by omega) hB, h8, St_succ h1]
    constructor
    · rintro ((q | q) | q)
      · exact Or.inl (Or.inl q)
      · exact Or.inr q
      · exact Or.inl (Or.inr q)
    · rintro ((q | q) | q)
      · exact Or.inl (Or.inl q)
      · exact Or.inr q
      · exact Or.inl (Or.inr q)
theorem MInv.right {A B B' : Nat → Int32} {lo w mid e d i j : Nat} (h : MInv A B lo w mid e d i j) (hj : j < e) (hi : i < mid → A j ≤ A i) (hs : ∀ x, lo + w ≤ x → x + 1 < e → A x ≤ A (x + 1)) (hB : ∀ x, B' x = if x = lo + d then A j else B x) : MInv A B' lo w mid e (d + 1) i (j + 1) := by
  obtain ⟨h1, h2, h3, h4, h5, h6, h7, h8⟩ := h
  refine ⟨h1, h2, by omega, Or.inl (by omega), by omega, fun x hx hx2 => ?_, fun _ => ⟨fun q => ?_, fun q => ?_⟩, fun v => ?_⟩
  · rw [hB x, if_neg (by omega), hB (x + 1)]
    by_cases q : x + 1 = lo + d
    · rw [if_pos q]
      have := (h7 (by omega)).2 hj
      rw [show lo + d - 1 = x by omega] at this
      exact this
    · rw [if_neg q]; exact h6 x hx (by omega)
  · rw [hB, if_pos (by omega)]; exact hi q
  · rw [hB, if_pos (by omega)]; exact hs j h3 q
  · rw [show lo + (d + 1) = lo + d + 1 by omega, St_put (by omega) hB, h8, St_succ h3]
    constructor
    · rintro ((q | q) | q)
      · exact Or.inl q
      · exact Or.inr (Or.inl q)
      · exact Or.inr (Or.inr q)
    · rintro (q | (q | q))
      · exact Or.inl (Or.inl q)
      · exact Or.inl (Or.inr q)
      · exact Or.inr q
/-- all but the second row -/
def Fs (t t' : mS) : Prop := ∀ f, f ≠ 17 → t' f = t f
section S
variable {N n w lo : Nat} {t : mS}
theorem merge_in (hN : 5000 ≤ N) (hn : n ≤ 4096) (hw : w ≤ 4096) {mid e : Nat} (hlo : lo ≤ n) (hm1 : mid ≤ n) (hm2 : mid ≤ lo + w) (hm3 : mid = n ∨ mid = lo + w) (he1 : e ≤ n) (he2 : e ≤ lo + 2 * w) (he3 : e = n ∨ e = lo + 2 * w) (hs1 : ∀ x, lo ≤ x → x + 1 < mid → t 16 x ≤ t 16 (x + 1)) (hs2 : ∀ x, lo + w ≤ x → x + 1 < e → t 16 x ≤ t 16 (x + 1)) (k36 : Int32 → Int32 → mS → Option mS) (k43 : Int32 → Int32 → Int32 → mS → Option mS) {t1 : mS} (h1 : Fs t t1) : ∃ t2, f9_sortAll_l93 N k36 k43 N (nI n) (nI w) (nI lo) (nI lo) (nI (lo + w)) (nI mid) (nI e) (nI lo) t1 = k43 (nI n) (nI w) (nI (lo + 2 * w)) t2 ∧ Fs t t2 ∧ (∀ x, x < lo → t2 17 x = t1 17 x) ∧ (∀ x, lo ≤ x → x + 1 < e → t2 17 x ≤ t2 17 (x + 1)) ∧ ∀ v, St (t2 17) lo e v ↔ St (t 16) lo e v := by
  have key : ∀ i j t', Fs t t' → (∀ x, x < lo → t' 17 x = t1 17 x) → MInv (t 16) (t' 17) lo w mid e 0 i j → ∃ t2, f9_sortAll_l93 N k36 k43 N (nI n) (nI w) (nI lo) (nI i) (nI j) (nI mid) (nI e) (nI (lo + 0)) t' = k43 (nI n) (nI w) (nI (lo + 2 * w)) t2 ∧ Fs t t2 ∧ (∀ x, x < lo → t2 17 x = t1 17 x) ∧ (∀ x, lo ≤ x → x + 1 < e → t2 17 x ≤ t2 17 (x + 1)) ∧ ∀ v, St (t2 17) lo e v ↔ St (t 16) lo e v := by
    refine iter_ind (P := fun d (g : Int32 → Int32 → Int32 → Int32 → Int32 → Int32 → Int32 → Int32 → mS → Option mS) => ∀ i j t', Fs t t' → (∀ x, x < lo → t' 17 x = t1 17 x) → MInv (t 16) (t' 17) lo w mid e d i j → ∃ t2, g (nI n) (nI w) (nI lo) (nI i) (nI j) (nI mid) (nI e) (nI (lo + d)) t' = k43 (nI n) (nI w) (nI (lo + 2 * w)) t2 ∧ Fs t t2 ∧ (∀ x, x < lo → t2 17 x = t1 17 x) ∧ (∀ x, lo ≤ x → x + 1 < e → t2 17 x ≤ t2 17 (x + 1)) ∧ ∀ v, St (t2 17) lo e v ↔ St (t 16) lo e v) (e := e - lo) ?_ ?_ (show e - lo < N by omega)
    · intro k i j t' hf hb hI
      obtain ⟨a1, a2, a3, a4, a5, a6, a7, a8⟩ := hI
      have hle : lo ≤ e := by omega
      unfold f9_sortAll_l93b
      rw [if_pos (nI_le (by omega) (by omega)), show (2 : Int32) * nI w = nI (2 * w) from pk_mul 2 w, nI_add]
      refine ⟨t', rfl, hf, hb, fun x hx hx2 => a6 x hx (by omega), fun v => ?_⟩
      rw [show lo + (e - lo) = e by omega] at a8
      rw [a8]
      have hi : i = mid := by omega
      rcases hm3 with q | q
      · rcases Nat.lt_or_ge mid (lo + w) with l | l
        · have : j = lo + w := by omega
          subst this
          rw [hi, show e = mid by omega]
          exact ⟨fun z => z.elim id (fun z => absurd z (St_0 _ _ _)), Or.inl⟩
        · rw [hi, show mid = lo + w by omega, show j = e by omega]
          exact (St_cat (by omega) (by omega) v).symm
      · rw [hi, q, show j = e by omega]
        exact (St_cat (by omega) (by omega) v).symm
    · intro d hd k ih i j t' hf hb hI
      obtain ⟨a1, a2, a3, a4, a5, -, -, -⟩ := id hI
      have hk := ix (lo + d) 4096 (by omega) (by omega)
      have h16 : t' 16 = t 16 := hf 16 (by omega)
      have goL : i < mid → (j < e → t 16 i ≤ t 16 j) → ∃ t2, f9_sortAll_b136 N k36 k43 k (nI n) (nI w) (nI lo) (nI i) (nI j) (nI mid) (nI e) (nI (lo + d)) 1 t' = k43 (nI n) (nI w) (nI (lo + 2 * w)) t2 ∧ Fs t t2 ∧ (∀ x, x < lo → t2 17 x = t1 17 x) ∧ (∀ x, lo ≤ x → x + 1 < e → t2 17 x ≤ t2 17 (x + 1)) ∧ ∀ v, St (t2 17) lo e v ↔ St (t 16) lo e v := by
        intro hi hj
        have hii := ix i 4096 (by omega) (by omega)
        unfold f9_sortAll_b136 f9_sortAll_b166
        rw [if_neg (show ¬ (1 : Int32) = 0 by decide), if_pos hii.1, if_pos hk.1, if_neg (show ¬ (1 : Int32) = 0 by decide), hk.2, hii.2, h16, nI_1, nI_1]
        have hB : ∀ x, mu t' 17 (lo + d) (t 16 i) 17 x = if x = lo + d then t 16 i else t' 17 x := fun x => by
          rw [mu_rd]
          by_cases q : x = lo + d
          · rw [if_pos ⟨rfl, q⟩, if_pos q]
          · rw [if_neg (fun z => q z.2), if_neg q]
        exact ih (i + 1) j _ (fun f hf' => by rw [mu_ne _ _ _ hf']; exact hf f hf') (fun x hx => by rw [hB, if_neg (by omega)]; exact hb x hx) (hI.left hi hj hs1 hB)
      have goR : j < e → (i < mid → t 16 j ≤ t 16 i) → ∃ t2, f9_sortAll_b136 N k36 k43 k (nI n) (nI w) (nI lo) (nI i) (nI j) (nI mid) (nI e) (nI (lo + d)) 0 t' = k43 (nI n) (nI w) (nI (lo + 2 * w)) t2 ∧ Fs t t2 ∧ (∀ x, x < lo → t2 17 x = t1 17 x) ∧ (∀ x, lo ≤ x → x + 1 < e → t2 17 x ≤ t2 17 (x + 1)) ∧ ∀ v, St (t2 17) lo e v ↔ St (t 16) lo e v := by
        intro hj hi
        have hii := ix j 4096 (by omega) (by omega)
        unfold f9_sortAll_b136 f9_sortAll_b166
        rw [if_pos rfl, if_pos hii.1, if_pos hk.1, if_pos rfl, hk.2, hii.2, h16, nI_1, nI_1]
        have hB : ∀ x, mu t' 17 (lo + d) (t 16 j) 17 x = if x = lo + d then t 16 j else t' 17 x := fun x => by
          rw [mu_rd]
          by_cases q : x = lo + d
          · rw [if_pos ⟨rfl, q⟩, if_pos q]
          · rw [if_neg (fun z => q z.2), if_neg q]
        exact ih i (j + 1) _ (fun f hf' => by rw [mu_ne _ _ _ hf']; exact hf f hf') (fun x hx => by rw [hB, if_neg (by omega)]; exact hb x hx) (hI.right hj hi hs2 hB)
      unfold f9_sortAll_l93b
      rw [if_neg (nI_ge (by omega) (by omega))]
      by_cases q1 : mid ≤ i
      · rw [if_pos (nI_le q1 (by omega))]
        exact goR (by omega) (fun q => absurd q (by omega))
      rw [if_neg (nI_ge (by omega) (by omega))]
      by_cases q2 : e ≤ j
      · rw [if_pos (nI_le q2 (by omega))]
        exact goL (by omega) (fun q => absurd q (by omega))
      have hi := ix i 4096 (by omega) (by omega)
      have hj := ix j 4096 (by omega) (by omega)
      rw [if_neg (nI_ge (by omega) (by omega)), if_pos hi.1, if_pos hj.1, hi.2, hj.2, h16]
      by_cases z : t 16 j < t 16 i
      · rw [if_pos z]
        exact goR (by omega) (fun _ => (fa_of_lt z).1)
      · rw [if_neg z]
        exact goL (by omega) (fun _ => fa_of_nlt z)
  refine key lo (lo + w) t1 h1 (fun _ _ => rfl) ⟨Nat.le_refl _, by omega, Nat.le_refl _, Or.inr rfl, by omega, fun x h1 h2 => by omega, fun q => absurd q (by omega), fun v => ?_⟩
  constructor
  · intro z; exact absurd z (St_0 _ _ _)
  · rintro (z | z)
    · exact absurd z (St_0 _ _ _)
    · exact absurd z (St_0 _ _ _)
end S

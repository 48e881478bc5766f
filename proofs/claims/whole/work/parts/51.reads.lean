/-! the reference reads a number -/
def pa (m k : Nat) : Nat := 18 + 4 * (16 * m + k)
def vis (v : Nat → Int32) (m k : Nat) : Int32 := v (pa m k) + v (pa m k + 1)
def vwo (v : Nat → Int32) (m k : Nat) : Int32 := v (pa m k + 2)
def vbo (v : Nat → Int32) (m k : Nat) : Int32 := v (pa m k + 3)
def vcn (v : Nat → Int32) (m : Nat) : Nat := (v (10 + m)).toNatClampNeg
/-- all that METER m tells of x -/
def cdq (v : Nat → Int32) (m : Nat) (x : Int32) : Int32 × Int32 × Int32 × Int32 × Int32 := rdS (v (2 + m)) (vis v m) (vwo v m) (vbo v m) x (vcn v m)
theorem pa_lt {m k : Nat} (hm : m < 8) (hk : k < 16) : pa m k + 3 < 530 := by unfold pa; omega
theorem pa_nI (m k : Nat) : (18 : Int32) + 4 * (16 * nI m + nI k) = nI (pa m k) := by
  show nI 18 + nI 4 * (nI 16 * nI m + nI k) = _
  rw [pk_mul, nI_add, pk_mul, nI_add]
  rfl
theorem at_nI (N m k : Nat) (t : mS) : f9_at N (nI m) (nI k) t = some (nI (pa m k), t) := by
  unfold f9_at; rw [pa_nI]
theorem nI_lit2 (m : Nat) : (2 : Int32) + nI m = nI (2 + m) := nI_add 2 m
theorem nI_lit10 (m : Nat) : (10 : Int32) + nI m = nI (10 + m) := nI_add 10 m
theorem kind5 {K : Nat} (h : K ≤ 4) : nI K = 0 ∨ nI K = 1 ∨ nI K = 2 ∨ nI K = 3 ∨ nI K = 4 := by
  rcases (show K = 0 ∨ K = 1 ∨ K = 2 ∨ K = 3 ∨ K = 4 by omega) with rfl | rfl | rfl | rfl | rfl
  · exact Or.inl rfl
  · exact Or.inr (Or.inl rfl)
  · exact Or.inr (Or.inr (Or.inl rfl))
  · exact Or.inr (Or.inr (Or.inr (Or.inl rfl)))
  · exact Or.inr (Or.inr (Or.inr (Or.inr rfl)))
theorem held_some (N : Nat) (v : Int32) (t : mS) : f9_held N v t = some (held v, t) := by
  unfold f9_held held
  split
  · split <;> rfl
  · rfl
set_option maxRecDepth 10000 in
theorem reads_step {N m k C : Nat} {kd x : Int32} {t : mS} (hm : m < 8) (hk : k < C) (hC : C ≤ 16) (hkd : kd = 0 ∨ kd = 1 ∨ kd = 2 ∨ kd = 3 ∨ kd = 4) (kk : Int32 → Int32 → Int32 → Int32 → Int32 → mS → Option mS) (q : Int32 × Int32 × Int32 × Int32 × Int32) (hq : q.2.2.2.2 = 0 ∨ q.2.2.2.2 = 1) :
    f9_reads_l44b N (nI m) x kk (nI C) kd q.2.2.2.1 q.2.2.2.2 (nI k) (m3 t q.1 q.2.1 q.2.2.1) = kk (nI C) kd (rst kd (vis (t 0) m k) (vwo (t 0) m k) (vbo (t 0) m k) x (nI k) q).2.2.2.1 (rst kd (vis (t 0) m k) (vwo (t 0) m k) (vbo (t 0) m k) x (nI k) q).2.2.2.2 (nI (k + 1)) (m3 t (rst kd (vis (t 0) m k) (vwo (t 0) m k) (vbo (t 0) m k) x (nI k) q).1 (rst kd (vis (t 0) m k) (vwo (t 0) m k) (vbo (t 0) m k) x (nI k) q).2.1 (rst kd (vis (t 0) m k) (vwo (t 0) m k) (vbo (t 0) m k) x (nI k) q).2.2.1) := by
  obtain ⟨c, d, r, g, o⟩ := q
  have hp := pa_lt hm (show k < 16 by omega)
  have e0 := ix (pa m k) 530 (by omega) (by omega)
  have e1 := ix (pa m k + 1) 530 (by omega) (by omega)
  have e2 := ix (pa m k + 2) 530 (by omega) (by omega)
  have e3 := ix (pa m k + 3) 530 (by omega) (by omega)
  have a1 : nI (pa m k) + 1 = nI (pa m k + 1) := nI_add _ 1
  have a2 : nI (pa m k) + 2 = nI (pa m k + 2) := nI_add _ 2
  have a3 : nI (pa m k) + 3 = nI (pa m k + 3) := nI_add _ 3
  have hle : ¬ nI C ≤ nI k := nI_ge hk (by omega)
  simp only at hq
  unfold f9_reads_l44b
  rw [if_neg hle, at_nI]
  simp only [Option.bind_some, a1, a2, a3, e0.1, e0.2, e1.1, e1.2, e2.1, e2.2, e3.1, e3.2, if_true, m3_0, nI_1]
  rw [show t 0 (pa m k) + t 0 (pa m k + 1) = vis (t 0) m k from rfl, show t 0 (pa m k + 2) = vwo (t 0) m k from rfl, show t 0 (pa m k + 3) = vbo (t 0) m k from rfl]
  generalize vis (t 0) m k = is
  generalize vwo (t 0) m k = wo
  generalize vbo (t 0) m k = bo
  rcases hkd with rfl | rfl | rfl | rfl | rfl
  · by_cases h1 : x < is
    · simp [f9_reads_b120, f9_reads_b135, f9_reads_b148, f9_reads_b165, f9_reads_b370, rst, h1, m3_c, m3_d, m3_12, m3_13, m3_14, nI_1]
    · by_cases h2 : d = 0
      · simp [f9_reads_b120, f9_reads_b135, f9_reads_b148, f9_reads_b165, f9_reads_b192, f9_reads_b370, rst, h1, h2, m3_c, m3_d, m3_r, m3_12, m3_13, m3_14, nI_1]
      · by_cases h3 : r ≤ x - is
        · simp [f9_reads_b120, f9_reads_b135, f9_reads_b148, f9_reads_b165, f9_reads_b192, f9_reads_b370, rst, h1, h2, h3, m3_c, m3_d, m3_r, m3_12, m3_13, m3_14, nI_1]
        · simp [f9_reads_b120, f9_reads_b135, f9_reads_b148, f9_reads_b165, f9_reads_b192, f9_reads_b370, rst, h1, h2, h3, m3_c, m3_d, m3_r, m3_12, m3_13, m3_14, nI_1]
  · by_cases h1 : x < g + is
    · simp [f9_reads_b120, f9_reads_b135, f9_reads_b148, f9_reads_b165, f9_reads_b370, rst, h1, m3_c, m3_d, m3_12, m3_13, m3_14, nI_1]
    · by_cases h2 : d = 0
      · simp [f9_reads_b120, f9_reads_b135, f9_reads_b148, f9_reads_b165, f9_reads_b192, f9_reads_b370, rst, h1, h2, m3_c, m3_d, m3_r, m3_12, m3_13, m3_14, nI_1]
      · by_cases h3 : r ≤ x - (g + is)
        · simp [f9_reads_b120, f9_reads_b135, f9_reads_b148, f9_reads_b165, f9_reads_b192, f9_reads_b370, rst, h1, h2, h3, m3_c, m3_d, m3_r, m3_12, m3_13, m3_14, nI_1]
        · simp [f9_reads_b120, f9_reads_b135, f9_reads_b148, f9_reads_b165, f9_reads_b192, f9_reads_b370, rst, h1, h2, h3, m3_c, m3_d, m3_r, m3_12, m3_13, m3_14, nI_1]
  · by_cases h1 : x < g + is
    · simp [f9_reads_b217, f9_reads_b370, rst, h1, m3_c, m3_d, m3_r, m3_12, m3_13, m3_14, nI_1]
    · simp [f9_reads_b217, f9_reads_b370, rst, h1, m3_c, m3_d, m3_r, m3_12, m3_13, m3_14, nI_1]
  · by_cases h1 : r < bo <;> rcases hq with h2 | h2 <;> subst h2 <;>
      simp [f9_reads_b274, f9_reads_b288, f9_reads_b322, f9_reads_b370, rst, h1, held_some, m3_c, m3_d, m3_r, m3_12, m3_13, m3_14, nI_1]
  · by_cases h1 : r < bo <;> rcases hq with h2 | h2 <;> subst h2 <;>
      simp [f9_reads_b274, f9_reads_b288, f9_reads_b322, f9_reads_b370, rst, h1, held_some, m3_c, m3_d, m3_r, m3_12, m3_13, m3_14, nI_1]
/-- METER m is there, of a kind, with so many PARTS -/
def mOk (v : Nat → Int32) (m : Nat) : Prop := m < 8 ∧ (∃ K : Nat, K ≤ 4 ∧ v (2 + m) = nI K) ∧ ∃ C : Nat, C ≤ 16 ∧ v (10 + m) = nI C
theorem reads_some {N m : Nat} {x : Int32} {t : mS} (hN : 100 ≤ N) (h : mOk (t 0) m) : f9_reads N (nI m) x t = some (m3 t (cdq (t 0) m x).1 (cdq (t 0) m x).2.1 (cdq (t 0) m x).2.2.1) := by
  obtain ⟨hm, ⟨K, hK, eK⟩, C, hC, eC⟩ := h
  have e0 := ix (10 + m) 530 (by omega) (by omega)
  have e1 := ix (2 + m) 530 (by omega) (by omega)
  unfold f9_reads
  rw [nI_lit10, nI_lit2]
  simp only [e0.1, e0.2, e1.1, e1.2, if_true]
  have hcn : vcn (t 0) m = C := by unfold vcn; rw [eC, nI_clamp (by omega)]
  unfold cdq
  rw [hcn, eC, eK]
  have hkd := kind5 hK
  generalize nI K = kd at hkd
  let q := rdS kd (vis (t 0) m) (vwo (t 0) m) (vbo (t 0) m) x
  exact iter_ind (P := fun j (f : Int32 → Int32 → Int32 → Int32 → Int32 → mS → Option mS) => f (nI C) kd (q j).2.2.2.1 (q j).2.2.2.2 (nI j) (m3 t (q j).1 (q j).2.1 (q j).2.2.1) = some (m3 t (q C).1 (q C).2.1 (q C).2.2.1)) (e := C)
    (fun k => by unfold f9_reads_l44b; rw [if_pos (Int32.le_refl _)])
    (fun j hj k hk => by rw [reads_step hm hj hC hkd k (q j) (rdS_odd _ _ _ _ _ _)]; exact hk) (by omega)
theorem mcode_some {N m : Nat} {x : Int32} {t : mS} (hN : 100 ≤ N) (h : mOk (t 0) m) : f9_codeOf N (nI m) x t = some ((cdq (t 0) m x).1, m3 t (cdq (t 0) m x).1 (cdq (t 0) m x).2.1 (cdq (t 0) m x).2.2.1) := by
  unfold f9_codeOf
  rw [reads_some hN h]
  simp only [Option.bind_some, m3_12]

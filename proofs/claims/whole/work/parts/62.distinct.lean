/-! codes that differ: the class marks bits, the reference sorts -/
theorem i64_ext {a b : Int64} (h : a.toBitVec = b.toBitVec) : a = b := Int64.toBitVec.inj h
theorem and_bit {w m : Int64} {j : Nat} (hj : j < 64) (hm : m.toBitVec = BitVec.twoPow 64 j) : (w &&& m = 0) ↔ w.toBitVec.getLsbD j = false := by
  constructor
  · intro h
    have := congrArg Int64.toBitVec h
    rw [Int64.toBitVec_and, hm, BitVec.and_twoPow] at this
    split at this
    · rename_i q
      have := congrArg (fun b => b.getLsbD j) this
      simp [hj] at this
    · rename_i q; simpa using q
  · intro h
    apply i64_ext
    rw [Int64.toBitVec_and, hm, BitVec.and_twoPow, h]
    rfl
theorem or_bit {w m : Int64} {j : Nat} (hj : j < 64) (hm : m.toBitVec = BitVec.twoPow 64 j) (i : Nat) : (w ||| m).toBitVec.getLsbD i = (w.toBitVec.getLsbD i || decide (i = j)) := by
  rw [Int64.toBitVec_or, hm, BitVec.getLsbD_or, BitVec.getLsbD_twoPow]
  congr 1
  by_cases h : i = j
  · subst h; simp [hj]
  · rw [decide_eq_false h]; simp; intro _ e; exact h e.symm
theorem sh_bit : ∀ j : Nat, j < 64 → ((1 : Int64) <<< ((nI j).toInt64 &&& 63)).toBitVec = BitVec.twoPow 64 j := by decide +kernel
theorem sh6 : ((6 &&& 31 : Int32).toBitVec.smod 32).toNat = 6 := by decide +kernel
theorem m63 : (63 : Int32).toBitVec.toNat = 2 ^ 6 - 1 := by decide +kernel
theorem t136 : (136000 : Int32).toInt = 136000 := by decide +kernel
theorem cmp_0 (x : Int64) : lg_cmp x 0 = 0 ↔ x = 0 := by
  unfold lg_cmp
  constructor
  · intro h
    split at h
    · exact absurd h (by decide)
    · split at h
      · assumption
      · exact absurd h (by decide)
  · intro h; subst h; rfl
/-- the bit of code number u -/
def btu (b : Nat → Int64) (u : Nat) : Bool := (b (u / 64)).toBitVec.getLsbD (u % 64)
/-- the code of number u -/
def off (u : Nat) : Int32 := nI u - 136000
theorem off_I {u : Nat} (h : u < 300000) : (off u).toInt = (u : Int) - 136000 := by
  unfold off
  rw [show (136000 : Int32) = nI 136000 from rfl, pk_sub_toInt (by omega) (by omega)]
  rfl
theorem off_inj {u v : Nat} (hu : u < 300000) (hv : v < 300000) (h : off u = off v) : u = v := by
  have := (fa_eq _ _).mp h
  rw [off_I hu, off_I hv] at this
  omega
theorem off_ex {v : Int32} (h : bnd 136000 v) : ∃ u, u < 272001 ∧ off u = v ∧ v + 136000 = nI u := by
  obtain ⟨h1, h2⟩ := h
  refine ⟨(v.toInt + 136000).toNat, by omega, ?_, ?_⟩
  · rw [fa_eq, off_I (by omega)]; omega
  · rw [fa_eq, fb_addI (by rw [t136]; omega) (by rw [t136]; omega), t136, nI_toInt (by omega)]; omega
theorem first_some (N : Nat) {v : Int32} (h : bnd 136000 v) (s : cS) : ∃ u, u < 272001 ∧ off u = v ∧ ∃ s', f7_isFirstMet N v s = some (if btu s.2.1 u = true then 0 else 1, s') ∧ s'.1 = s.1 ∧ s'.2.2 = s.2.2 ∧ ∀ u', btu s'.2.1 u' = (btu s.2.1 u' || decide (u' = u)) := by
  obtain ⟨u, hu, h1, h2⟩ := off_ex h
  have hw : u / 64 < 4251 := by omega
  have hi := ix (u / 64) 4251 hw (by omega)
  have hs := sh_bit (u % 64) (by omega)
  have e1 : nI u >>> (6 &&& 31) = nI (u / 64) := pk_shrN (by omega) (6 &&& 31) 6 sh6
  have e2 : nI u &&& 63 = nI (u % 64) := pk_andN (by omega) 6 m63
  have hu' : ∀ u', btu (cul s (u / 64) (s.2.1 (u / 64) ||| (1 <<< ((nI (u % 64)).toInt64 &&& 63)))).2.1 u' = (btu s.2.1 u' || decide (u' = u)) := by
    intro u'
    unfold btu cul vp_updL
    by_cases q : u' / 64 = u / 64
    · simp only [q, if_true]
      rw [or_bit (by omega) hs]
      congr 1
      exact decide_eq_decide.mpr ⟨fun z => by omega, fun z => by omega⟩
    · simp only [q, if_false]
      rw [decide_eq_false (fun z => q (by rw [z])), Bool.or_false]
  refine ⟨u, hu, h1, cul s (u / 64) (s.2.1 (u / 64) ||| (1 <<< ((nI (u % 64)).toInt64 &&& 63))), ?_, rfl, rfl, hu'⟩
  unfold f7_isFirstMet f7_isFirstMet_b52
  rw [h2, e1, e2, if_neg (nI_pos (by omega)), if_pos (show nI (u / 64) < 4251 from nI_lt (b := 4251) hw (by omega)), if_pos hi.1, hi.2]
  by_cases q : btu s.2.1 u = true
  · have : ¬ lg_cmp (s.2.1 (u / 64) &&& (1 <<< ((nI (u % 64)).toInt64 &&& 63))) 0 = 0 := by
      rw [cmp_0, and_bit (by omega) hs]
      unfold btu at q
      rw [q]; simp
    rw [if_neg this, if_pos q, if_pos hi.1, if_pos (Or.inl rfl)]
  · have : lg_cmp (s.2.1 (u / 64) &&& (1 <<< ((nI (u % 64)).toInt64 &&& 63))) 0 = 0 := by
      rw [cmp_0, and_bit (by omega) hs]
      unfold btu at q
      simpa using q
    rw [if_pos this, if_neg q, if_pos hi.1, if_pos (Or.inr rfl)]
def prs (f : Nat → Int32) (v : Int32) : Nat → Bool
  | 0 => false
  | n + 1 => prs f v n || decide (f n = v)
theorem prs_iff {f : Nat → Int32} {v : Int32} : ∀ {n : Nat}, prs f v n = true ↔ St f 0 n v := by
  intro n
  induction n with
  | zero => exact ⟨fun h => by simp [prs] at h, fun h => absurd h (St_0 _ _ _)⟩
  | succ n ih =>
    rw [St_succ (Nat.zero_le n), ← ih]
    simp [prs]
/-- x is the first place of its code, which isn't less than p -/
def fmb (f : Nat → Int32) (p : Int32) (x : Nat) : Bool := !decide (f x < p) && !prs f (f x) x
theorem dv {f : Nat → Int32} {p : Int32} (R : Nat) (hR : 272001 ≤ R) (hR2 : R ≤ 300000) : ∀ n : Nat, (∀ x, x < n → bnd 136000 (f x)) → fb_ct (fmb f p) n = fb_ct (fun u => !decide (off u < p) && prs f (off u) n) R := by
  intro n
  induction n with
  | zero =>
    intro _
    refine Eq.symm (fb_ct_zero.mpr (fun k _ => ?_))
    simp [prs]
  | succ n ih =>
    intro hb
    rw [fb_ct_succ, ih (fun x hx => hb x (by omega))]
    obtain ⟨u0, h0, h1, -⟩ := off_ex (hb n (by omega))
    by_cases q : fmb f p n = true
    · rw [if_pos q]
      unfold fmb at q
      rw [Bool.and_eq_true, Bool.not_eq_true', Bool.not_eq_true'] at q
      have e : fb_ct (fun u => !decide (off u < p) && prs f (off u) (n + 1)) R = fb_ct (fun k => if k = u0 then true else (!decide (off k < p) && prs f (off k) n)) R := by
        refine fb_ct_cong (fun k hk => ?_)
        by_cases z : k = u0
        · rw [if_pos z, z, h1, q.1]
          simp [prs]
        · rw [if_neg z]
          have : ¬ f n = off k := fun w => z (off_inj (by omega) (by omega) (by rw [← w, h1]))
          simp [prs, this]
      rw [e]
      have hq : (!decide (off u0 < p) && prs f (off u0) n) = false := by rw [h1, q.2, Bool.and_false]
      have up := fb_ct_upd (fun k => !decide (off k < p) && prs f (off k) n) true (i := u0) (n := R) (by omega)
      simp only [hq] at up
      rw [if_neg (show ¬ false = true by decide), if_pos trivial] at up
      exact up.symm
    · rw [if_neg q]
      refine fb_ct_cong (fun k hk => ?_)
      by_cases z : f n = off k
      · simp only [prs]
        unfold fmb at q
        rw [← z]
        cases h3 : decide (f n < p) <;> cases h4 : prs f (f n) n <;> simp_all
      · simp [prs, z]
theorem d_eq {f g : Nat → Int32} (p : Int32) {n : Nat} (hf : ∀ x, x < n → bnd 136000 (f x)) (hg : ∀ x, x < n → bnd 136000 (g x)) (h : ∀ v, St f 0 n v ↔ St g 0 n v) : fb_ct (fmb f p) n = fb_ct (fmb g p) n := by
  rw [dv 272001 (Nat.le_refl _) (by omega) n hf, dv 272001 (Nat.le_refl _) (by omega) n hg]
  refine fb_ct_cong (fun k _ => ?_)
  have : prs f (off k) n = prs g (off k) n := by
    have := h (off k)
    rw [← prs_iff, ← prs_iff] at this
    exact Bool.eq_iff_iff.mpr this
  rw [this]

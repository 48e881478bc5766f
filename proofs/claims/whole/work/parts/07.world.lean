/-! THE TWO WORLDS. cS: the class's state: (numbers by family and place, the bits 'met', the WORTHS of the acts); mS: the reference's, by family and place.
class families: 0 top 1 meterCount 2 faultCount 3 status 4 tableOf; Meter 5 kind 6 count 7 code 8 trail 9 rest; Part (place 16 m + k) 10 size 11 miss 12 worth 13 bound; Table 14 last 15 row; Noise 16 held 17 sum 18 times; Fault 19 meter 20 part 21 miss; 22 faultCodes 23 toldApart; Cover 24 maskCount 25 all 26 fewestFor 27 masks 28 isMask; Past 29 next 30 held; Act 31 what 32 meter 33 part 34 old
reference families: 0 now 1 past 2 acts 3 trouble 4 thrown 5 noise 6 often 7 faultMeter 8 faultPart 9 faultMiss 10 noises 11 faults 12 code 13 trail 14 rest 15 codes 16 sorted 17 melted 18 isThere 19 fewest -/
abbrev cS : Type := (Nat → Nat → Int32) × (Nat → Int64) × (Nat → Nat → Int32)
abbrev mS : Type := Nat → Nat → Int32
def up (f : Nat → Nat → Int32) (a b : Nat) (v : Int32) : Nat → Nat → Int32 := fun x y => if x = a ∧ y = b then v else f x y
def cu (s : cS) (f i : Nat) (v : Int32) : cS := (up s.1 f i v, s.2)
def cul (s : cS) (i : Nat) (v : Int64) : cS := (s.1, vp_updL s.2.1 i v, s.2.2)
def cuw (s : cS) (a j : Nat) (v : Int32) : cS := (s.1, s.2.1, up s.2.2 a j v)
def mu (s : mS) (f i : Nat) (v : Int32) : mS := up s f i v
def cknt : Nat → Nat := fun k => match k with
  | 0 => 1
  | 1 => 1
  | 2 => 8
  | 3 => 8
  | 4 => 128
  | 5 => 1
  | 6 => 1
  | 7 => 1
  | 8 => 1
  | 9 => 1
  | 10 => 1
  | 11 => 1
  | 12 => 10
  | 13 => 1
  | 14 => 1
  | 15 => 1
  | 16 => 1
  | 17 => 1
  | 18 => 1
  | 19 => 1
  | 20 => 1
  | 21 => 60
  | 22 => 60
  | _ => 0
def cdom : xD := fun k i => decide (i < cknt k)
def encC (G : xG) (s : cS) : xE := fun k i => match k with
  | 0 => .inr (8, [.ref (G.2.1 1 0), .ref (G.2.1 5 0), .ref (G.2.1 8 0), .ref (G.2.1 11 0), .ref (G.2.1 13 0), .ref (G.2.1 14 0), .ref (G.2.1 15 0), .ref (G.2.1 19 0), .int (s.1 0 0), .int (s.1 1 0), .int (s.1 2 0), .int (s.1 3 0), .int (s.1 4 0)])
  | 1 => .inl (G.2.2 5, 8, .inr (.inr (.inr (.inr (fun j => some (G.2.1 2 j))))))
  | 2 => .inr (3, [.ref (G.2.1 3 i), .int (s.1 5 i), .int (s.1 6 i), .int (s.1 7 i), .int (s.1 8 i), .int (s.1 9 i)])
  | 3 => .inl (G.2.2 6, 16, .inr (.inr (.inr (.inr (fun j => some (G.2.1 4 (16*i+j)))))))
  | 4 => .inr (5, [.int (s.1 10 i), .int (s.1 11 i), .int (s.1 12 i), .int (s.1 13 i)])
  | 5 => .inr (7, [.ref (G.2.1 6 0), .ref (G.2.1 7 0), .int (s.1 14 0)])
  | 6 => .inl (G.2.2 0, 4096, .inl (s.1 15))
  | 7 => .inl (G.2.2 1, 4251, .inr (.inl s.2.1))
  | 8 => .inr (4, [.ref (G.2.1 9 0), .ref (G.2.1 10 0), .int (s.1 16 0)])
  | 9 => .inl (G.2.2 0, 8, .inl (s.1 17))
  | 10 => .inl (G.2.2 0, 8, .inl (s.1 18))
  | 11 => .inl (G.2.2 4, 10, .inr (.inr (.inr (.inr (fun j => some (G.2.1 12 j))))))
  | 12 => .inr (2, [.int (s.1 19 i), .int (s.1 20 i), .int (s.1 21 i)])
  | 13 => .inl (G.2.2 0, 10, .inl (s.1 22))
  | 14 => .inl (G.2.2 0, 10, .inl (s.1 23))
  | 15 => .inr (1, [.ref (G.2.1 16 0), .ref (G.2.1 17 0), .ref (G.2.1 18 0), .int (s.1 24 0), .int (s.1 25 0)])
  | 16 => .inl (G.2.2 0, 1024, .inl (s.1 26))
  | 17 => .inl (G.2.2 0, 1024, .inl (s.1 27))
  | 18 => .inl (G.2.2 0, 1024, .inl (s.1 28))
  | 19 => .inr (6, [.ref (G.2.1 20 0), .int (s.1 29 0), .int (s.1 30 0)])
  | 20 => .inl (G.2.2 3, 60, .inr (.inr (.inr (.inr (fun j => some (G.2.1 21 j))))))
  | 21 => .inr (0, [.ref (G.2.1 22 i), .int (s.1 31 i), .int (s.1 32 i), .int (s.1 33 i), .int (s.1 34 i)])
  | 22 => .inl (G.2.2 0, 16, .inl (s.2.2 i))
  | _ => .inr (0, [])
def mknt : Nat → Nat := fun k => match k with
  | 0 => 1
  | 1 => 1
  | 2 => 1
  | 3 => 1
  | 4 => 1
  | 5 => 1
  | 6 => 1
  | 7 => 1
  | 8 => 1
  | 9 => 1
  | 10 => 1
  | 11 => 1
  | 12 => 1
  | _ => 0
def mdom : xD := fun k i => decide (i < mknt k)
def encM (G : xG) (s : mS) : xE := fun k i => match k with
  | 0 => .inr (9, [.ref (G.2.1 1 0), .ref (G.2.1 2 0), .int (s 2 0), .int (s 3 0), .int (s 4 0), .ref (G.2.1 3 0), .ref (G.2.1 4 0), .ref (G.2.1 5 0), .ref (G.2.1 6 0), .ref (G.2.1 7 0), .int (s 10 0), .int (s 11 0), .int (s 12 0), .int (s 13 0), .int (s 14 0), .ref (G.2.1 8 0), .ref (G.2.1 9 0), .ref (G.2.1 10 0), .ref (G.2.1 11 0), .ref (G.2.1 12 0)])
  | 1 => .inl (G.2.2 0, 530, .inl (s 0))
  | 2 => .inl (G.2.2 0, 31800, .inl (s 1))
  | 3 => .inl (G.2.2 0, 8, .inl (s 5))
  | 4 => .inl (G.2.2 0, 8, .inl (s 6))
  | 5 => .inl (G.2.2 0, 10, .inl (s 7))
  | 6 => .inl (G.2.2 0, 10, .inl (s 8))
  | 7 => .inl (G.2.2 0, 10, .inl (s 9))
  | 8 => .inl (G.2.2 0, 4096, .inl (s 15))
  | 9 => .inl (G.2.2 0, 4096, .inl (s 16))
  | 10 => .inl (G.2.2 0, 4096, .inl (s 17))
  | 11 => .inl (G.2.2 2, 1024, .inl (s 18))
  | 12 => .inl (G.2.2 0, 1024, .inl (s 19))
  | _ => .inr (0, [])
theorem cup0 (G : xG) (s : cS) (v : Int32) : ∀ k' i' : Nat, cdom k' i' = true → xup (encC G s) 0 0 (.inr (8, [.ref (G.2.1 1 0), .ref (G.2.1 5 0), .ref (G.2.1 8 0), .ref (G.2.1 11 0), .ref (G.2.1 13 0), .ref (G.2.1 14 0), .ref (G.2.1 15 0), .ref (G.2.1 19 0), .int (s.1 0 0), .int (s.1 1 0), .int (s.1 2 0), .int (s.1 3 0), .int (s.1 4 0)].set 8 (.int v))) k' i' = encC G (cu s 0 0 v) k' i' := fun k' i' hd => by
  match k' with
  | 0 =>
    by_cases h : i' = 0
    · simp [xup, encC, cu, cul, cuw, mu, up, upd, vp_updL, h]
      try (funext j; simp [upd, vp_updL, up, h])
    · exact absurd (Nat.lt_one_iff.mp (of_decide_eq_true hd)) h
  | 1 => rfl
  | 2 => rfl
  | 3 => rfl
  | 4 => rfl
  | 5 => rfl
  | 6 => rfl
  | 7 => rfl
  | 8 => rfl
  | 9 => rfl
  | 10 => rfl
  | 11 => rfl
  | 12 => rfl
  | 13 => rfl
  | 14 => rfl
  | 15 => rfl
  | 16 => rfl
  | 17 => rfl
  | 18 => rfl
  | 19 => rfl
  | 20 => rfl
  | 21 => rfl
  | 22 => rfl
  | n + 23 => exact absurd (of_decide_eq_true hd) (Nat.not_lt_zero _)
theorem cup1 (G : xG) (s : cS) (v : Int32) : ∀ k' i' : Nat, cdom k' i' = true → xup (encC G s) 0 0 (.inr (8, [.ref (G.2.1 1 0), .ref (G.2.1 5 0), .ref (G.2.1 8 0), .ref (G.2.1 11 0), .ref (G.2.1 13 0), .ref (G.2.1 14 0), .ref (G.2.1 15 0), .ref (G.2.1 19 0), .int (s.1 0 0), .int (s.1 1 0), .int (s.1 2 0), .int (s.1 3 0), .int (s.1 4 0)].set 9 (.int v))) k' i' = encC G (cu s 1 0 v) k' i' := fun k' i' hd => by
  match k' with
  | 0 =>
    by_cases h : i' = 0
    · simp [xup, encC, cu, cul, cuw, mu, up, upd, vp_updL, h]
      try (funext j; simp [upd, vp_updL, up, h])
    · exact absurd (Nat.lt_one_iff.mp (of_decide_eq_true hd)) h
  | 1 => rfl
  | 2 => rfl
  | 3 => rfl
  | 4 => rfl
  | 5 => rfl
  | 6 => rfl
  | 7 => rfl
  | 8 => rfl
  | 9 => rfl
  | 10 => rfl
  | 11 => rfl
  | 12 => rfl
  | 13 => rfl
  | 14 => rfl
  | 15 => rfl
  | 16 => rfl
  | 17 => rfl
  | 18 => rfl
  | 19 => rfl
  | 20 => rfl
  | 21 => rfl
  | 22 => rfl
  | n + 23 => exact absurd (of_decide_eq_true hd) (Nat.not_lt_zero _)
theorem cup2 (G : xG) (s : cS) (v : Int32) : ∀ k' i' : Nat, cdom k' i' = true → xup (encC G s) 0 0 (.inr (8, [.ref (G.2.1 1 0), .ref (G.2.1 5 0), .ref (G.2.1 8 0), .ref (G.2.1 11 0), .ref (G.2.1 13 0), .ref (G.2.1 14 0), .ref (G.2.1 15 0), .ref (G.2.1 19 0), .int (s.1 0 0), .int (s.1 1 0), .int (s.1 2 0), .int (s.1 3 0), .int (s.1 4 0)].set 10 (.int v))) k' i' = encC G (cu s 2 0 v) k' i' := fun k' i' hd => by
  match k' with
  | 0 =>
    by_cases h : i' = 0
    · simp [xup, encC, cu, cul, cuw, mu, up, upd, vp_updL, h]
      try (funext j; simp [upd, vp_updL, up, h])
    · exact absurd (Nat.lt_one_iff.mp (of_decide_eq_true hd)) h
  | 1 => rfl
  | 2 => rfl
  | 3 => rfl
  | 4 => rfl
  | 5 => rfl
  | 6 => rfl
  | 7 => rfl
  | 8 => rfl
  | 9 => rfl
  | 10 => rfl
  | 11 => rfl
  | 12 => rfl
  | 13 => rfl
  | 14 => rfl
  | 15 => rfl
  | 16 => rfl
  | 17 => rfl
  | 18 => rfl
  | 19 => rfl
  | 20 => rfl
  | 21 => rfl
  | 22 => rfl
  | n + 23 => exact absurd (of_decide_eq_true hd) (Nat.not_lt_zero _)
theorem cup3 (G : xG) (s : cS) (v : Int32) : ∀ k' i' : Nat, cdom k' i' = true → xup (encC G s) 0 0 (.inr (8, [.ref (G.2.1 1 0), .ref (G.2.1 5 0), .ref (G.2.1 8 0), .ref (G.2.1 11 0), .ref (G.2.1 13 0), .ref (G.2.1 14 0), .ref (G.2.1 15 0), .ref (G.2.1 19 0), .int (s.1 0 0), .int (s.1 1 0), .int (s.1 2 0), .int (s.1 3 0), .int (s.1 4 0)].set 11 (.int v))) k' i' = encC G (cu s 3 0 v) k' i' := fun k' i' hd => by
  match k' with
  | 0 =>
    by_cases h : i' = 0
    · simp [xup, encC, cu, cul, cuw, mu, up, upd, vp_updL, h]
      try (funext j; simp [upd, vp_updL, up, h])
    · exact absurd (Nat.lt_one_iff.mp (of_decide_eq_true hd)) h
  | 1 => rfl
  | 2 => rfl
  | 3 => rfl
  | 4 => rfl
  | 5 => rfl
  | 6 => rfl
  | 7 => rfl
  | 8 => rfl
  | 9 => rfl
  | 10 => rfl
  | 11 => rfl
  | 12 => rfl
  | 13 => rfl
  | 14 => rfl
  | 15 => rfl
  | 16 => rfl
  | 17 => rfl
  | 18 => rfl
  | 19 => rfl
  | 20 => rfl
  | 21 => rfl
  | 22 => rfl
  | n + 23 => exact absurd (of_decide_eq_true hd) (Nat.not_lt_zero _)
theorem cup4 (G : xG) (s : cS) (v : Int32) : ∀ k' i' : Nat, cdom k' i' = true → xup (encC G s) 0 0 (.inr (8, [.ref (G.2.1 1 0), .ref (G.2.1 5 0), .ref (G.2.1 8 0), .ref (G.2.1 11 0), .ref (G.2.1 13 0), .ref (G.2.1 14 0), .ref (G.2.1 15 0), .ref (G.2.1 19 0), .int (s.1 0 0), .int (s.1 1 0), .int (s.1 2 0), .int (s.1 3 0), .int (s.1 4 0)].set 12 (.int v))) k' i' = encC G (cu s 4 0 v) k' i' := fun k' i' hd => by
  match k' with
  | 0 =>
    by_cases h : i' = 0
    · simp [xup, encC, cu, cul, cuw, mu, up, upd, vp_updL, h]
      try (funext j; simp [upd, vp_updL, up, h])
    · exact absurd (Nat.lt_one_iff.mp (of_decide_eq_true hd)) h
  | 1 => rfl
  | 2 => rfl
  | 3 => rfl
  | 4 => rfl
  | 5 => rfl
  | 6 => rfl
  | 7 => rfl
  | 8 => rfl
  | 9 => rfl
  | 10 => rfl
  | 11 => rfl
  | 12 => rfl
  | 13 => rfl
  | 14 => rfl
  | 15 => rfl
  | 16 => rfl
  | 17 => rfl
  | 18 => rfl
  | 19 => rfl
  | 20 => rfl
  | 21 => rfl
  | 22 => rfl
  | n + 23 => exact absurd (of_decide_eq_true hd) (Nat.not_lt_zero _)
theorem cup5 (G : xG) (s : cS) (i : Nat) (v : Int32) : ∀ k' i' : Nat, cdom k' i' = true → xup (encC G s) 2 i (.inr (3, [.ref (G.2.1 3 i), .int (s.1 5 i), .int (s.1 6 i), .int (s.1 7 i), .int (s.1 8 i), .int (s.1 9 i)].set 1 (.int v))) k' i' = encC G (cu s 5 i v) k' i' := fun k' i' hd => by
  match k' with
  | 0 => rfl
  | 1 => rfl
  | 2 =>
    by_cases h : i' = i
    · simp [xup, encC, cu, cul, cuw, mu, up, upd, vp_updL, h]
      try (funext j; simp [upd, vp_updL, up, h])
    · simp [xup, encC, cu, cul, cuw, mu, up, upd, vp_updL, h]
      try (funext j; simp [upd, vp_updL, up, h])
  | 3 => rfl
  | 4 => rfl
  | 5 => rfl
  | 6 => rfl
  | 7 => rfl
  | 8 => rfl
  | 9 => rfl
  | 10 => rfl
  | 11 => rfl
  | 12 => rfl
  | 13 => rfl
  | 14 => rfl
  | 15 => rfl
  | 16 => rfl
  | 17 => rfl
  | 18 => rfl
  | 19 => rfl
  | 20 => rfl
  | 21 => rfl
  | 22 => rfl
  | n + 23 => exact absurd (of_decide_eq_true hd) (Nat.not_lt_zero _)
theorem cup6 (G : xG) (s : cS) (i : Nat) (v : Int32) : ∀ k' i' : Nat, cdom k' i' = true → xup (encC G s) 2 i (.inr (3, [.ref (G.2.1 3 i), .int (s.1 5 i), .int (s.1 6 i), .int (s.1 7 i), .int (s.1 8 i), .int (s.1 9 i)].set 2 (.int v))) k' i' = encC G (cu s 6 i v) k' i' := fun k' i' hd => by
  match k' with
  | 0 => rfl
  | 1 => rfl
  | 2 =>
    by_cases h : i' = i
    · simp [xup, encC, cu, cul, cuw, mu, up, upd, vp_updL, h]
      try (funext j; simp [upd, vp_updL, up, h])
    · simp [xup, encC, cu, cul, cuw, mu, up, upd, vp_updL, h]
      try (funext j; simp [upd, vp_updL, up, h])
  | 3 => rfl
  | 4 => rfl
  | 5 => rfl
  | 6 => rfl
  | 7 => rfl
  | 8 => rfl
  | 9 => rfl
  | 10 => rfl
  | 11 => rfl
  | 12 => rfl
  | 13 => rfl
  | 14 => rfl
  | 15 => rfl
  | 16 => rfl
  | 17 => rfl
  | 18 => rfl
  | 19 => rfl
  | 20 => rfl
  | 21 => rfl
  | 22 => rfl
  | n + 23 => exact absurd (of_decide_eq_true hd) (Nat.not_lt_zero _)
theorem cup7 (G : xG) (s : cS) (i : Nat) (v : Int32) : ∀ k' i' : Nat, cdom k' i' = true → xup (encC G s) 2 i (.inr (3, [.ref (G.2.1 3 i), .int (s.1 5 i), .int (s.1 6 i), .int (s.1 7 i), .int (s.1 8 i), .int (s.1 9 i)].set 3 (.int v))) k' i' = encC G (cu s 7 i v) k' i' := fun k' i' hd => by
  match k' with
  | 0 => rfl
  | 1 => rfl
  | 2 =>
    by_cases h : i' = i
    · simp [xup, encC, cu, cul, cuw, mu, up, upd, vp_updL, h]
      try (funext j; simp [upd, vp_updL, up, h])
    · simp [xup, encC, cu, cul, cuw, mu, up, upd, vp_updL, h]
      try (funext j; simp [upd, vp_updL, up, h])
  | 3 => rfl
  | 4 => rfl
  | 5 => rfl
  | 6 => rfl
  | 7 => rfl
  | 8 => rfl
  | 9 => rfl
  | 10 => rfl
  | 11 => rfl
  | 12 => rfl
  | 13 => rfl
  | 14 => rfl
  | 15 => rfl
  | 16 => rfl
  | 17 => rfl
  | 18 => rfl
  | 19 => rfl
  | 20 => rfl
  | 21 => rfl
  | 22 => rfl
  | n + 23 => exact absurd (of_decide_eq_true hd) (Nat.not_lt_zero _)
theorem cup8 (G : xG) (s : cS) (i : Nat) (v : Int32) : ∀ k' i' : Nat, cdom k' i' = true → xup (encC G s) 2 i (.inr (3, [.ref (G.2.1 3 i), .int (s.1 5 i), .int (s.1 6 i), .int (s.1 7 i), .int (s.1 8 i), .int (s.1 9 i)].set 4 (.int v))) k' i' = encC G (cu s 8 i v) k' i' := fun k' i' hd => by
  match k' with
  | 0 => rfl
  | 1 => rfl
  | 2 =>
    by_cases h : i' = i
    · simp [xup, encC, cu, cul, cuw, mu, up, upd, vp_updL, h]
      try (funext j; simp [upd, vp_updL, up, h])
    · simp [xup, encC, cu, cul, cuw, mu, up, upd, vp_updL, h]
      try (funext j; simp [upd, vp_updL, up, h])
  | 3 => rfl
  | 4 => rfl
  | 5 => rfl
  | 6 => rfl
  | 7 => rfl
  | 8 => rfl
  | 9 => rfl
  | 10 => rfl
  | 11 => rfl
  | 12 => rfl
  | 13 => rfl
  | 14 => rfl
  | 15 => rfl
  | 16 => rfl
  | 17 => rfl
  | 18 => rfl
  | 19 => rfl
  | 20 => rfl
  | 21 => rfl
  | 22 => rfl
  | n + 23 => exact absurd (of_decide_eq_true hd) (Nat.not_lt_zero _)
theorem cup9 (G : xG) (s : cS) (i : Nat) (v : Int32) : ∀ k' i' : Nat, cdom k' i' = true → xup (encC G s) 2 i (.inr (3, [.ref (G.2.1 3 i), .int (s.1 5 i), .int (s.1 6 i), .int (s.1 7 i), .int (s.1 8 i), .int (s.1 9 i)].set 5 (.int v))) k' i' = encC G (cu s 9 i v) k' i' := fun k' i' hd => by
  match k' with
  | 0 => rfl
  | 1 => rfl
  | 2 =>
    by_cases h : i' = i
    · simp [xup, encC, cu, cul, cuw, mu, up, upd, vp_updL, h]
      try (funext j; simp [upd, vp_updL, up, h])
    · simp [xup, encC, cu, cul, cuw, mu, up, upd, vp_updL, h]
      try (funext j; simp [upd, vp_updL, up, h])
  | 3 => rfl
  | 4 => rfl
  | 5 => rfl
  | 6 => rfl
  | 7 => rfl
  | 8 => rfl
  | 9 => rfl
  | 10 => rfl
  | 11 => rfl
  | 12 => rfl
  | 13 => rfl
  | 14 => rfl
  | 15 => rfl
  | 16 => rfl
  | 17 => rfl
  | 18 => rfl
  | 19 => rfl
  | 20 => rfl
  | 21 => rfl
  | 22 => rfl
  | n + 23 => exact absurd (of_decide_eq_true hd) (Nat.not_lt_zero _)
theorem cup10 (G : xG) (s : cS) (i : Nat) (v : Int32) : ∀ k' i' : Nat, cdom k' i' = true → xup (encC G s) 4 i (.inr (5, [.int (s.1 10 i), .int (s.1 11 i), .int (s.1 12 i), .int (s.1 13 i)].set 0 (.int v))) k' i' = encC G (cu s 10 i v) k' i' := fun k' i' hd => by
  match k' with
  | 0 => rfl
  | 1 => rfl
  | 2 => rfl
  | 3 => rfl
  | 4 =>
    by_cases h : i' = i
    · simp [xup, encC, cu, cul, cuw, mu, up, upd, vp_updL, h]
      try (funext j; simp [upd, vp_updL, up, h])
    · simp [xup, encC, cu, cul, cuw, mu, up, upd, vp_updL, h]
      try (funext j; simp [upd, vp_updL, up, h])
  | 5 => rfl
  | 6 => rfl
  | 7 => rfl
  | 8 => rfl
  | 9 => rfl
  | 10 => rfl
  | 11 => rfl
  | 12 => rfl
  | 13 => rfl
  | 14 => rfl
  | 15 => rfl
  | 16 => rfl
  | 17 => rfl
  | 18 => rfl
  | 19 => rfl
  | 20 => rfl
  | 21 => rfl
  | 22 => rfl
  | n + 23 => exact absurd (of_decide_eq_true hd) (Nat.not_lt_zero _)
theorem cup11 (G : xG) (s : cS) (i : Nat) (v : Int32) : ∀ k' i' : Nat, cdom k' i' = true → xup (encC G s) 4 i (.inr (5, [.int (s.1 10 i), .int (s.1 11 i), .int (s.1 12 i), .int (s.1 13 i)].set 1 (.int v))) k' i' = encC G (cu s 11 i v) k' i' := fun k' i' hd => by
  match k' with
  | 0 => rfl
  | 1 => rfl
  | 2 => rfl
  | 3 => rfl
  | 4 =>
    by_cases h : i' = i
    · simp [xup, encC, cu, cul, cuw, mu, up, upd, vp_updL, h]
      try (funext j; simp [upd, vp_updL, up, h])
    · simp [xup, encC, cu, cul, cuw, mu, up, upd, vp_updL, h]
      try (funext j; simp [upd, vp_updL, up, h])
  | 5 => rfl
  | 6 => rfl
  | 7 => rfl
  | 8 => rfl
  | 9 => rfl
  | 10 => rfl
  | 11 => rfl
  | 12 => rfl
  | 13 => rfl
  | 14 => rfl
  | 15 => rfl
  | 16 => rfl
  | 17 => rfl
  | 18 => rfl
  | 19 => rfl
  | 20 => rfl
  | 21 => rfl
  | 22 => rfl
  | n + 23 => exact absurd (of_decide_eq_true hd) (Nat.not_lt_zero _)
theorem cup12 (G : xG) (s : cS) (i : Nat) (v : Int32) : ∀ k' i' : Nat, cdom k' i' = true → xup (encC G s) 4 i (.inr (5, [.int (s.1 10 i), .int (s.1 11 i), .int (s.1 12 i), .int (s.1 13 i)].set 2 (.int v))) k' i' = encC G (cu s 12 i v) k' i' := fun k' i' hd => by
  match k' with
  | 0 => rfl
  | 1 => rfl
  | 2 => rfl
  | 3 => rfl
  | 4 =>
    by_cases h : i' = i
    · simp [xup, encC, cu, cul, cuw, mu, up, upd, vp_updL, h]
      try (funext j; simp [upd, vp_updL, up, h])
    · simp [xup, encC, cu, cul, cuw, mu, up, upd, vp_updL, h]
      try (funext j; simp [upd, vp_updL, up, h])
  | 5 => rfl
  | 6 => rfl
  | 7 => rfl
  | 8 => rfl
  | 9 => rfl
  | 10 => rfl
  | 11 => rfl
  | 12 => rfl
  | 13 => rfl
  | 14 => rfl
  | 15 => rfl
  | 16 => rfl
  | 17 => rfl
  | 18 => rfl
  | 19 => rfl
  | 20 => rfl
  | 21 => rfl
  | 22 => rfl
  | n + 23 => exact absurd (of_decide_eq_true hd) (Nat.not_lt_zero _)
theorem cup13 (G : xG) (s : cS) (i : Nat) (v : Int32) : ∀ k' i' : Nat, cdom k' i' = true → xup (encC G s) 4 i (.inr (5, [.int (s.1 10 i), .int (s.1 11 i), .int (s.1 12 i), .int (s.1 13 i)].set 3 (.int v))) k' i' = encC G (cu s 13 i v) k' i' := fun k' i' hd => by
  match k' with
  | 0 => rfl
  | 1 => rfl
  | 2 => rfl
  | 3 => rfl
  | 4 =>
    by_cases h : i' = i
    · simp [xup, encC, cu, cul, cuw, mu, up, upd, vp_updL, h]
      try (funext j; simp [upd, vp_updL, up, h])
    · simp [xup, encC, cu, cul, cuw, mu, up, upd, vp_updL, h]
      try (funext j; simp [upd, vp_updL, up, h])
  | 5 => rfl
  | 6 => rfl
  | 7 => rfl
  | 8 => rfl
  | 9 => rfl
  | 10 => rfl
  | 11 => rfl
  | 12 => rfl
  | 13 => rfl
  | 14 => rfl
  | 15 => rfl
  | 16 => rfl
  | 17 => rfl
  | 18 => rfl
  | 19 => rfl
  | 20 => rfl
  | 21 => rfl
  | 22 => rfl
  | n + 23 => exact absurd (of_decide_eq_true hd) (Nat.not_lt_zero _)
theorem cup14 (G : xG) (s : cS) (v : Int32) : ∀ k' i' : Nat, cdom k' i' = true → xup (encC G s) 5 0 (.inr (7, [.ref (G.2.1 6 0), .ref (G.2.1 7 0), .int (s.1 14 0)].set 2 (.int v))) k' i' = encC G (cu s 14 0 v) k' i' := fun k' i' hd => by
  match k' with
  | 0 => rfl
  | 1 => rfl
  | 2 => rfl
  | 3 => rfl
  | 4 => rfl
  | 5 =>
    by_cases h : i' = 0
    · simp [xup, encC, cu, cul, cuw, mu, up, upd, vp_updL, h]
      try (funext j; simp [upd, vp_updL, up, h])
    · exact absurd (Nat.lt_one_iff.mp (of_decide_eq_true hd)) h
  | 6 => rfl
  | 7 => rfl
  | 8 => rfl
  | 9 => rfl
  | 10 => rfl
  | 11 => rfl
  | 12 => rfl
  | 13 => rfl
  | 14 => rfl
  | 15 => rfl
  | 16 => rfl
  | 17 => rfl
  | 18 => rfl
  | 19 => rfl
  | 20 => rfl
  | 21 => rfl
  | 22 => rfl
  | n + 23 => exact absurd (of_decide_eq_true hd) (Nat.not_lt_zero _)
theorem cup15 (G : xG) (s : cS) (x : Nat) (v : Int32) : ∀ k' i' : Nat, cdom k' i' = true → xup (encC G s) 6 0 (.inl (G.2.2 0, 4096, .inl (upd (s.1 15) x v))) k' i' = encC G (cu s 15 x v) k' i' := fun k' i' hd => by
  match k' with
  | 0 => rfl
  | 1 => rfl
  | 2 => rfl
  | 3 => rfl
  | 4 => rfl
  | 5 => rfl
  | 6 =>
    by_cases h : i' = 0
    · simp [xup, encC, cu, cul, cuw, mu, up, upd, vp_updL, h]
      try (funext j; simp [upd, vp_updL, up, h])
    · exact absurd (Nat.lt_one_iff.mp (of_decide_eq_true hd)) h
  | 7 => rfl
  | 8 => rfl
  | 9 => rfl
  | 10 => rfl
  | 11 => rfl
  | 12 => rfl
  | 13 => rfl
  | 14 => rfl
  | 15 => rfl
  | 16 => rfl
  | 17 => rfl
  | 18 => rfl
  | 19 => rfl
  | 20 => rfl
  | 21 => rfl
  | 22 => rfl
  | n + 23 => exact absurd (of_decide_eq_true hd) (Nat.not_lt_zero _)
theorem cupl (G : xG) (s : cS) (x : Nat) (v : Int64) : ∀ k' i' : Nat, cdom k' i' = true → xup (encC G s) 7 0 (.inl (G.2.2 1, 4251, .inr (.inl (vp_updL s.2.1 x v)))) k' i' = encC G (cul s x v) k' i' := fun k' i' hd => by
  match k' with
  | 0 => rfl
  | 1 => rfl
  | 2 => rfl
  | 3 => rfl
  | 4 => rfl
  | 5 => rfl
  | 6 => rfl
  | 7 =>
    by_cases h : i' = 0
    · simp [xup, encC, cu, cul, cuw, mu, up, upd, vp_updL, h]
      try (funext j; simp [upd, vp_updL, up, h])
    · exact absurd (Nat.lt_one_iff.mp (of_decide_eq_true hd)) h
  | 8 => rfl
  | 9 => rfl
  | 10 => rfl
  | 11 => rfl
  | 12 => rfl
  | 13 => rfl
  | 14 => rfl
  | 15 => rfl
  | 16 => rfl
  | 17 => rfl
  | 18 => rfl
  | 19 => rfl
  | 20 => rfl
  | 21 => rfl
  | 22 => rfl
  | n + 23 => exact absurd (of_decide_eq_true hd) (Nat.not_lt_zero _)
theorem cup16 (G : xG) (s : cS) (v : Int32) : ∀ k' i' : Nat, cdom k' i' = true → xup (encC G s) 8 0 (.inr (4, [.ref (G.2.1 9 0), .ref (G.2.1 10 0), .int (s.1 16 0)].set 2 (.int v))) k' i' = encC G (cu s 16 0 v) k' i' := fun k' i' hd => by
  match k' with
  | 0 => rfl
  | 1 => rfl
  | 2 => rfl
  | 3 => rfl
  | 4 => rfl
  | 5 => rfl
  | 6 => rfl
  | 7 => rfl
  | 8 =>
    by_cases h : i' = 0
    · simp [xup, encC, cu, cul, cuw, mu, up, upd, vp_updL, h]
      try (funext j; simp [upd, vp_updL, up, h])
    · exact absurd (Nat.lt_one_iff.mp (of_decide_eq_true hd)) h
  | 9 => rfl
  | 10 => rfl
  | 11 => rfl
  | 12 => rfl
  | 13 => rfl
  | 14 => rfl
  | 15 => rfl
  | 16 => rfl
  | 17 => rfl
  | 18 => rfl
  | 19 => rfl
  | 20 => rfl
  | 21 => rfl
  | 22 => rfl
  | n + 23 => exact absurd (of_decide_eq_true hd) (Nat.not_lt_zero _)
theorem cup17 (G : xG) (s : cS) (x : Nat) (v : Int32) : ∀ k' i' : Nat, cdom k' i' = true → xup (encC G s) 9 0 (.inl (G.2.2 0, 8, .inl (upd (s.1 17) x v))) k' i' = encC G (cu s 17 x v) k' i' := fun k' i' hd => by
  match k' with
  | 0 => rfl
  | 1 => rfl
  | 2 => rfl
  | 3 => rfl
  | 4 => rfl
  | 5 => rfl
  | 6 => rfl
  | 7 => rfl
  | 8 => rfl
  | 9 =>
    by_cases h : i' = 0
    · simp [xup, encC, cu, cul, cuw, mu, up, upd, vp_updL, h]
      try (funext j; simp [upd, vp_updL, up, h])
    · exact absurd (Nat.lt_one_iff.mp (of_decide_eq_true hd)) h
  | 10 => rfl
  | 11 => rfl
  | 12 => rfl
  | 13 => rfl
  | 14 => rfl
  | 15 => rfl
  | 16 => rfl
  | 17 => rfl
  | 18 => rfl
  | 19 => rfl
  | 20 => rfl
  | 21 => rfl
  | 22 => rfl
  | n + 23 => exact absurd (of_decide_eq_true hd) (Nat.not_lt_zero _)
theorem cup18 (G : xG) (s : cS) (x : Nat) (v : Int32) : ∀ k' i' : Nat, cdom k' i' = true → xup (encC G s) 10 0 (.inl (G.2.2 0, 8, .inl (upd (s.1 18) x v))) k' i' = encC G (cu s 18 x v) k' i' := fun k' i' hd => by
  match k' with
  | 0 => rfl
  | 1 => rfl
  | 2 => rfl
  | 3 => rfl
  | 4 => rfl
  | 5 => rfl
  | 6 => rfl
  | 7 => rfl
  | 8 => rfl
  | 9 => rfl
  | 10 =>
    by_cases h : i' = 0
    · simp [xup, encC, cu, cul, cuw, mu, up, upd, vp_updL, h]
      try (funext j; simp [upd, vp_updL, up, h])
    · exact absurd (Nat.lt_one_iff.mp (of_decide_eq_true hd)) h
  | 11 => rfl
  | 12 => rfl
  | 13 => rfl
  | 14 => rfl
  | 15 => rfl
  | 16 => rfl
  | 17 => rfl
  | 18 => rfl
  | 19 => rfl
  | 20 => rfl
  | 21 => rfl
  | 22 => rfl
  | n + 23 => exact absurd (of_decide_eq_true hd) (Nat.not_lt_zero _)
theorem cup19 (G : xG) (s : cS) (i : Nat) (v : Int32) : ∀ k' i' : Nat, cdom k' i' = true → xup (encC G s) 12 i (.inr (2, [.int (s.1 19 i), .int (s.1 20 i), .int (s.1 21 i)].set 0 (.int v))) k' i' = encC G (cu s 19 i v) k' i' := fun k' i' hd => by
  match k' with
  | 0 => rfl
  | 1 => rfl
  | 2 => rfl
  | 3 => rfl
  | 4 => rfl
  | 5 => rfl
  | 6 => rfl
  | 7 => rfl
  | 8 => rfl
  | 9 => rfl
  | 10 => rfl
  | 11 => rfl
  | 12 =>
    by_cases h : i' = i
    · simp [xup, encC, cu, cul, cuw, mu, up, upd, vp_updL, h]
      try (funext j; simp [upd, vp_updL, up, h])
    · simp [xup, encC, cu, cul, cuw, mu, up, upd, vp_updL, h]
      try (funext j; simp [upd, vp_updL, up, h])
  | 13 => rfl
  | 14 => rfl
  | 15 => rfl
  | 16 => rfl
  | 17 => rfl
  | 18 => rfl
  | 19 => rfl
  | 20 => rfl
  | 21 => rfl
  | 22 => rfl
  | n + 23 => exact absurd (of_decide_eq_true hd) (Nat.not_lt_zero _)
theorem cup20 (G : xG) (s : cS) (i : Nat) (v : Int32) : ∀ k' i' : Nat, cdom k' i' = true → xup (encC G s) 12 i (.inr (2, [.int (s.1 19 i), .int (s.1 20 i), .int (s.1 21 i)].set 1 (.int v))) k' i' = encC G (cu s 20 i v) k' i' := fun k' i' hd => by
  match k' with
  | 0 => rfl
  | 1 => rfl
  | 2 => rfl
  | 3 => rfl
  | 4 => rfl
  | 5 => rfl
  | 6 => rfl
  | 7 => rfl
  | 8 => rfl
  | 9 => rfl
  | 10 => rfl
  | 11 => rfl
  | 12 =>
    by_cases h : i' = i
    · simp [xup, encC, cu, cul, cuw, mu, up, upd, vp_updL, h]
      try (funext j; simp [upd, vp_updL, up, h])
    · simp [xup, encC, cu, cul, cuw, mu, up, upd, vp_updL, h]
      try (funext j; simp [upd, vp_updL, up, h])
  | 13 => rfl
  | 14 => rfl
  | 15 => rfl
  | 16 => rfl
  | 17 => rfl
  | 18 => rfl
  | 19 => rfl
  | 20 => rfl
  | 21 => rfl
  | 22 => rfl
  | n + 23 => exact absurd (of_decide_eq_true hd) (Nat.not_lt_zero _)
theorem cup21 (G : xG) (s : cS) (i : Nat) (v : Int32) : ∀ k' i' : Nat, cdom k' i' = true → xup (encC G s) 12 i (.inr (2, [.int (s.1 19 i), .int (s.1 20 i), .int (s.1 21 i)].set 2 (.int v))) k' i' = encC G (cu s 21 i v) k' i' := fun k' i' hd => by
  match k' with
  | 0 => rfl
  | 1 => rfl
  | 2 => rfl
  | 3 => rfl
  | 4 => rfl
  | 5 => rfl
  | 6 => rfl
  | 7 => rfl
  | 8 => rfl
  | 9 => rfl
  | 10 => rfl
  | 11 => rfl
  | 12 =>
    by_cases h : i' = i
    · simp [xup, encC, cu, cul, cuw, mu, up, upd, vp_updL, h]
      try (funext j; simp [upd, vp_updL, up, h])
    · simp [xup, encC, cu, cul, cuw, mu, up, upd, vp_updL, h]
      try (funext j; simp [upd, vp_updL, up, h])
  | 13 => rfl
  | 14 => rfl
  | 15 => rfl
  | 16 => rfl
  | 17 => rfl
  | 18 => rfl
  | 19 => rfl
  | 20 => rfl
  | 21 => rfl
  | 22 => rfl
  | n + 23 => exact absurd (of_decide_eq_true hd) (Nat.not_lt_zero _)
theorem cup22 (G : xG) (s : cS) (x : Nat) (v : Int32) : ∀ k' i' : Nat, cdom k' i' = true → xup (encC G s) 13 0 (.inl (G.2.2 0, 10, .inl (upd (s.1 22) x v))) k' i' = encC G (cu s 22 x v) k' i' := fun k' i' hd => by
  match k' with
  | 0 => rfl
  | 1 => rfl
  | 2 => rfl
  | 3 => rfl
  | 4 => rfl
  | 5 => rfl
  | 6 => rfl
  | 7 => rfl
  | 8 => rfl
  | 9 => rfl
  | 10 => rfl
  | 11 => rfl
  | 12 => rfl
  | 13 =>
    by_cases h : i' = 0
    · simp [xup, encC, cu, cul, cuw, mu, up, upd, vp_updL, h]
      try (funext j; simp [upd, vp_updL, up, h])
    · exact absurd (Nat.lt_one_iff.mp (of_decide_eq_true hd)) h
  | 14 => rfl
  | 15 => rfl
  | 16 => rfl
  | 17 => rfl
  | 18 => rfl
  | 19 => rfl
  | 20 => rfl
  | 21 => rfl
  | 22 => rfl
  | n + 23 => exact absurd (of_decide_eq_true hd) (Nat.not_lt_zero _)
theorem cup23 (G : xG) (s : cS) (x : Nat) (v : Int32) : ∀ k' i' : Nat, cdom k' i' = true → xup (encC G s) 14 0 (.inl (G.2.2 0, 10, .inl (upd (s.1 23) x v))) k' i' = encC G (cu s 23 x v) k' i' := fun k' i' hd => by
  match k' with
  | 0 => rfl
  | 1 => rfl
  | 2 => rfl
  | 3 => rfl
  | 4 => rfl
  | 5 => rfl
  | 6 => rfl
  | 7 => rfl
  | 8 => rfl
  | 9 => rfl
  | 10 => rfl
  | 11 => rfl
  | 12 => rfl
  | 13 => rfl
  | 14 =>
    by_cases h : i' = 0
    · simp [xup, encC, cu, cul, cuw, mu, up, upd, vp_updL, h]
      try (funext j; simp [upd, vp_updL, up, h])
    · exact absurd (Nat.lt_one_iff.mp (of_decide_eq_true hd)) h
  | 15 => rfl
  | 16 => rfl
  | 17 => rfl
  | 18 => rfl
  | 19 => rfl
  | 20 => rfl
  | 21 => rfl
  | 22 => rfl
  | n + 23 => exact absurd (of_decide_eq_true hd) (Nat.not_lt_zero _)
theorem cup24 (G : xG) (s : cS) (v : Int32) : ∀ k' i' : Nat, cdom k' i' = true → xup (encC G s) 15 0 (.inr (1, [.ref (G.2.1 16 0), .ref (G.2.1 17 0), .ref (G.2.1 18 0), .int (s.1 24 0), .int (s.1 25 0)].set 3 (.int v))) k' i' = encC G (cu s 24 0 v) k' i' := fun k' i' hd => by
  match k' with
  | 0 => rfl
  | 1 => rfl
  | 2 => rfl
  | 3 => rfl
  | 4 => rfl
  | 5 => rfl
  | 6 => rfl
  | 7 => rfl
  | 8 => rfl
  | 9 => rfl
  | 10 => rfl
  | 11 => rfl
  | 12 => rfl
  | 13 => rfl
  | 14 => rfl
  | 15 =>
    by_cases h : i' = 0
    · simp [xup, encC, cu, cul, cuw, mu, up, upd, vp_updL, h]
      try (funext j; simp [upd, vp_updL, up, h])
    · exact absurd (Nat.lt_one_iff.mp (of_decide_eq_true hd)) h
  | 16 => rfl
  | 17 => rfl
  | 18 => rfl
  | 19 => rfl
  | 20 => rfl
  | 21 => rfl
  | 22 => rfl
  | n + 23 => exact absurd (of_decide_eq_true hd) (Nat.not_lt_zero _)
theorem cup25 (G : xG) (s : cS) (v : Int32) : ∀ k' i' : Nat, cdom k' i' = true → xup (encC G s) 15 0 (.inr (1, [.ref (G.2.1 16 0), .ref (G.2.1 17 0), .ref (G.2.1 18 0), .int (s.1 24 0), .int (s.1 25 0)].set 4 (.int v))) k' i' = encC G (cu s 25 0 v) k' i' := fun k' i' hd => by
  match k' with
  | 0 => rfl
  | 1 => rfl
  | 2 => rfl
  | 3 => rfl
  | 4 => rfl
  | 5 => rfl
  | 6 => rfl
  | 7 => rfl
  | 8 => rfl
  | 9 => rfl
  | 10 => rfl
  | 11 => rfl
  | 12 => rfl
  | 13 => rfl
  | 14 => rfl
  | 15 =>
    by_cases h : i' = 0
    · simp [xup, encC, cu, cul, cuw, mu, up, upd, vp_updL, h]
      try (funext j; simp [upd, vp_updL, up, h])
    · exact absurd (Nat.lt_one_iff.mp (of_decide_eq_true hd)) h
  | 16 => rfl
  | 17 => rfl
  | 18 => rfl
  | 19 => rfl
  | 20 => rfl
  | 21 => rfl
  | 22 => rfl
  | n + 23 => exact absurd (of_decide_eq_true hd) (Nat.not_lt_zero _)
theorem cup26 (G : xG) (s : cS) (x : Nat) (v : Int32) : ∀ k' i' : Nat, cdom k' i' = true → xup (encC G s) 16 0 (.inl (G.2.2 0, 1024, .inl (upd (s.1 26) x v))) k' i' = encC G (cu s 26 x v) k' i' := fun k' i' hd => by
  match k' with
  | 0 => rfl
  | 1 => rfl
  | 2 => rfl
  | 3 => rfl
  | 4 => rfl
  | 5 => rfl
  | 6 => rfl
  | 7 => rfl
  | 8 => rfl
  | 9 => rfl
  | 10 => rfl
  | 11 => rfl
  | 12 => rfl
  | 13 => rfl
  | 14 => rfl
  | 15 => rfl
  | 16 =>
    by_cases h : i' = 0
    · simp [xup, encC, cu, cul, cuw, mu, up, upd, vp_updL, h]
      try (funext j; simp [upd, vp_updL, up, h])
    · exact absurd (Nat.lt_one_iff.mp (of_decide_eq_true hd)) h
  | 17 => rfl
  | 18 => rfl
  | 19 => rfl
  | 20 => rfl
  | 21 => rfl
  | 22 => rfl
  | n + 23 => exact absurd (of_decide_eq_true hd) (Nat.not_lt_zero _)
theorem cup27 (G : xG) (s : cS) (x : Nat) (v : Int32) : ∀ k' i' : Nat, cdom k' i' = true → xup (encC G s) 17 0 (.inl (G.2.2 0, 1024, .inl (upd (s.1 27) x v))) k' i' = encC G (cu s 27 x v) k' i' := fun k' i' hd => by
  match k' with
  | 0 => rfl
  | 1 => rfl
  | 2 => rfl
  | 3 => rfl
  | 4 => rfl
  | 5 => rfl
  | 6 => rfl
  | 7 => rfl
  | 8 => rfl
  | 9 => rfl
  | 10 => rfl
  | 11 => rfl
  | 12 => rfl
  | 13 => rfl
  | 14 => rfl
  | 15 => rfl
  | 16 => rfl
  | 17 =>
    by_cases h : i' = 0
    · simp [xup, encC, cu, cul, cuw, mu, up, upd, vp_updL, h]
      try (funext j; simp [upd, vp_updL, up, h])
    · exact absurd (Nat.lt_one_iff.mp (of_decide_eq_true hd)) h
  | 18 => rfl
  | 19 => rfl
  | 20 => rfl
  | 21 => rfl
  | 22 => rfl
  | n + 23 => exact absurd (of_decide_eq_true hd) (Nat.not_lt_zero _)
theorem cup28 (G : xG) (s : cS) (x : Nat) (v : Int32) : ∀ k' i' : Nat, cdom k' i' = true → xup (encC G s) 18 0 (.inl (G.2.2 0, 1024, .inl (upd (s.1 28) x v))) k' i' = encC G (cu s 28 x v) k' i' := fun k' i' hd => by
  match k' with
  | 0 => rfl
  | 1 => rfl
  | 2 => rfl
  | 3 => rfl
  | 4 => rfl
  | 5 => rfl
  | 6 => rfl
  | 7 => rfl
  | 8 => rfl
  | 9 => rfl
  | 10 => rfl
  | 11 => rfl
  | 12 => rfl
  | 13 => rfl
  | 14 => rfl
  | 15 => rfl
  | 16 => rfl
  | 17 => rfl
  | 18 =>
    by_cases h : i' = 0
    · simp [xup, encC, cu, cul, cuw, mu, up, upd, vp_updL, h]
      try (funext j; simp [upd, vp_updL, up, h])
    · exact absurd (Nat.lt_one_iff.mp (of_decide_eq_true hd)) h
  | 19 => rfl
  | 20 => rfl
  | 21 => rfl
  | 22 => rfl
  | n + 23 => exact absurd (of_decide_eq_true hd) (Nat.not_lt_zero _)
theorem cup29 (G : xG) (s : cS) (v : Int32) : ∀ k' i' : Nat, cdom k' i' = true → xup (encC G s) 19 0 (.inr (6, [.ref (G.2.1 20 0), .int (s.1 29 0), .int (s.1 30 0)].set 1 (.int v))) k' i' = encC G (cu s 29 0 v) k' i' := fun k' i' hd => by
  match k' with
  | 0 => rfl
  | 1 => rfl
  | 2 => rfl
  | 3 => rfl
  | 4 => rfl
  | 5 => rfl
  | 6 => rfl
  | 7 => rfl
  | 8 => rfl
  | 9 => rfl
  | 10 => rfl
  | 11 => rfl
  | 12 => rfl
  | 13 => rfl
  | 14 => rfl
  | 15 => rfl
  | 16 => rfl
  | 17 => rfl
  | 18 => rfl
  | 19 =>
    by_cases h : i' = 0
    · simp [xup, encC, cu, cul, cuw, mu, up, upd, vp_updL, h]
      try (funext j; simp [upd, vp_updL, up, h])
    · exact absurd (Nat.lt_one_iff.mp (of_decide_eq_true hd)) h
  | 20 => rfl
  | 21 => rfl
  | 22 => rfl
  | n + 23 => exact absurd (of_decide_eq_true hd) (Nat.not_lt_zero _)
theorem cup30 (G : xG) (s : cS) (v : Int32) : ∀ k' i' : Nat, cdom k' i' = true → xup (encC G s) 19 0 (.inr (6, [.ref (G.2.1 20 0), .int (s.1 29 0), .int (s.1 30 0)].set 2 (.int v))) k' i' = encC G (cu s 30 0 v) k' i' := fun k' i' hd => by
  match k' with
  | 0 => rfl
  | 1 => rfl
  | 2 => rfl
  | 3 => rfl
  | 4 => rfl
  | 5 => rfl
  | 6 => rfl
  | 7 => rfl
  | 8 => rfl
  | 9 => rfl
  | 10 => rfl
  | 11 => rfl
  | 12 => rfl
  | 13 => rfl
  | 14 => rfl
  | 15 => rfl
  | 16 => rfl
  | 17 => rfl
  | 18 => rfl
  | 19 =>
    by_cases h : i' = 0
    · simp [xup, encC, cu, cul, cuw, mu, up, upd, vp_updL, h]
      try (funext j; simp [upd, vp_updL, up, h])
    · exact absurd (Nat.lt_one_iff.mp (of_decide_eq_true hd)) h
  | 20 => rfl
  | 21 => rfl
  | 22 => rfl
  | n + 23 => exact absurd (of_decide_eq_true hd) (Nat.not_lt_zero _)
theorem cup31 (G : xG) (s : cS) (i : Nat) (v : Int32) : ∀ k' i' : Nat, cdom k' i' = true → xup (encC G s) 21 i (.inr (0, [.ref (G.2.1 22 i), .int (s.1 31 i), .int (s.1 32 i), .int (s.1 33 i), .int (s.1 34 i)].set 1 (.int v))) k' i' = encC G (cu s 31 i v) k' i' := fun k' i' hd => by
  match k' with
  | 0 => rfl
  | 1 => rfl
  | 2 => rfl
  | 3 => rfl
  | 4 => rfl
  | 5 => rfl
  | 6 => rfl
  | 7 => rfl
  | 8 => rfl
  | 9 => rfl
  | 10 => rfl
  | 11 => rfl
  | 12 => rfl
  | 13 => rfl
  | 14 => rfl
  | 15 => rfl
  | 16 => rfl
  | 17 => rfl
  | 18 => rfl
  | 19 => rfl
  | 20 => rfl
  | 21 =>
    by_cases h : i' = i
    · simp [xup, encC, cu, cul, cuw, mu, up, upd, vp_updL, h]
      try (funext j; simp [upd, vp_updL, up, h])
    · simp [xup, encC, cu, cul, cuw, mu, up, upd, vp_updL, h]
      try (funext j; simp [upd, vp_updL, up, h])
  | 22 => rfl
  | n + 23 => exact absurd (of_decide_eq_true hd) (Nat.not_lt_zero _)
theorem cup32 (G : xG) (s : cS) (i : Nat) (v : Int32) : ∀ k' i' : Nat, cdom k' i' = true → xup (encC G s) 21 i (.inr (0, [.ref (G.2.1 22 i), .int (s.1 31 i), .int (s.1 32 i), .int (s.1 33 i), .int (s.1 34 i)].set 2 (.int v))) k' i' = encC G (cu s 32 i v) k' i' := fun k' i' hd => by
  match k' with
  | 0 => rfl
  | 1 => rfl
  | 2 => rfl
  | 3 => rfl
  | 4 => rfl
  | 5 => rfl
  | 6 => rfl
  | 7 => rfl
  | 8 => rfl
  | 9 => rfl
  | 10 => rfl
  | 11 => rfl
  | 12 => rfl
  | 13 => rfl
  | 14 => rfl
  | 15 => rfl
  | 16 => rfl
  | 17 => rfl
  | 18 => rfl
  | 19 => rfl
  | 20 => rfl
  | 21 =>
    by_cases h : i' = i
    · simp [xup, encC, cu, cul, cuw, mu, up, upd, vp_updL, h]
      try (funext j; simp [upd, vp_updL, up, h])
    · simp [xup, encC, cu, cul, cuw, mu, up, upd, vp_updL, h]
      try (funext j; simp [upd, vp_updL, up, h])
  | 22 => rfl
  | n + 23 => exact absurd (of_decide_eq_true hd) (Nat.not_lt_zero _)
theorem cup33 (G : xG) (s : cS) (i : Nat) (v : Int32) : ∀ k' i' : Nat, cdom k' i' = true → xup (encC G s) 21 i (.inr (0, [.ref (G.2.1 22 i), .int (s.1 31 i), .int (s.1 32 i), .int (s.1 33 i), .int (s.1 34 i)].set 3 (.int v))) k' i' = encC G (cu s 33 i v) k' i' := fun k' i' hd => by
  match k' with
  | 0 => rfl
  | 1 => rfl
  | 2 => rfl
  | 3 => rfl
  | 4 => rfl
  | 5 => rfl
  | 6 => rfl
  | 7 => rfl
  | 8 => rfl
  | 9 => rfl
  | 10 => rfl
  | 11 => rfl
  | 12 => rfl
  | 13 => rfl
  | 14 => rfl
  | 15 => rfl
  | 16 => rfl
  | 17 => rfl
  | 18 => rfl
  | 19 => rfl
  | 20 => rfl
  | 21 =>
    by_cases h : i' = i
    · simp [xup, encC, cu, cul, cuw, mu, up, upd, vp_updL, h]
      try (funext j; simp [upd, vp_updL, up, h])
    · simp [xup, encC, cu, cul, cuw, mu, up, upd, vp_updL, h]
      try (funext j; simp [upd, vp_updL, up, h])
  | 22 => rfl
  | n + 23 => exact absurd (of_decide_eq_true hd) (Nat.not_lt_zero _)
theorem cup34 (G : xG) (s : cS) (i : Nat) (v : Int32) : ∀ k' i' : Nat, cdom k' i' = true → xup (encC G s) 21 i (.inr (0, [.ref (G.2.1 22 i), .int (s.1 31 i), .int (s.1 32 i), .int (s.1 33 i), .int (s.1 34 i)].set 4 (.int v))) k' i' = encC G (cu s 34 i v) k' i' := fun k' i' hd => by
  match k' with
  | 0 => rfl
  | 1 => rfl
  | 2 => rfl
  | 3 => rfl
  | 4 => rfl
  | 5 => rfl
  | 6 => rfl
  | 7 => rfl
  | 8 => rfl
  | 9 => rfl
  | 10 => rfl
  | 11 => rfl
  | 12 => rfl
  | 13 => rfl
  | 14 => rfl
  | 15 => rfl
  | 16 => rfl
  | 17 => rfl
  | 18 => rfl
  | 19 => rfl
  | 20 => rfl
  | 21 =>
    by_cases h : i' = i
    · simp [xup, encC, cu, cul, cuw, mu, up, upd, vp_updL, h]
      try (funext j; simp [upd, vp_updL, up, h])
    · simp [xup, encC, cu, cul, cuw, mu, up, upd, vp_updL, h]
      try (funext j; simp [upd, vp_updL, up, h])
  | 22 => rfl
  | n + 23 => exact absurd (of_decide_eq_true hd) (Nat.not_lt_zero _)
theorem cupw (G : xG) (s : cS) (i x : Nat) (v : Int32) : ∀ k' i' : Nat, cdom k' i' = true → xup (encC G s) 22 i (.inl (G.2.2 0, 16, .inl (upd (s.2.2 i) x v))) k' i' = encC G (cuw s i x v) k' i' := fun k' i' hd => by
  match k' with
  | 0 => rfl
  | 1 => rfl
  | 2 => rfl
  | 3 => rfl
  | 4 => rfl
  | 5 => rfl
  | 6 => rfl
  | 7 => rfl
  | 8 => rfl
  | 9 => rfl
  | 10 => rfl
  | 11 => rfl
  | 12 => rfl
  | 13 => rfl
  | 14 => rfl
  | 15 => rfl
  | 16 => rfl
  | 17 => rfl
  | 18 => rfl
  | 19 => rfl
  | 20 => rfl
  | 21 => rfl
  | 22 =>
    by_cases h : i' = i
    · simp [xup, encC, cu, cul, cuw, mu, up, upd, vp_updL, h]
      try (funext j; simp [upd, vp_updL, up, h])
    · simp [xup, encC, cu, cul, cuw, mu, up, upd, vp_updL, h]
      try (funext j; simp [upd, vp_updL, up, h])
  | n + 23 => exact absurd (of_decide_eq_true hd) (Nat.not_lt_zero _)
theorem mup2 (G : xG) (s : mS) (v : Int32) : ∀ k' i' : Nat, mdom k' i' = true → xup (encM G s) 0 0 (.inr (9, [.ref (G.2.1 1 0), .ref (G.2.1 2 0), .int (s 2 0), .int (s 3 0), .int (s 4 0), .ref (G.2.1 3 0), .ref (G.2.1 4 0), .ref (G.2.1 5 0), .ref (G.2.1 6 0), .ref (G.2.1 7 0), .int (s 10 0), .int (s 11 0), .int (s 12 0), .int (s 13 0), .int (s 14 0), .ref (G.2.1 8 0), .ref (G.2.1 9 0), .ref (G.2.1 10 0), .ref (G.2.1 11 0), .ref (G.2.1 12 0)].set 2 (.int v))) k' i' = encM G (mu s 2 0 v) k' i' := fun k' i' hd => by
  match k' with
  | 0 =>
    by_cases h : i' = 0
    · simp [xup, encM, cu, cul, cuw, mu, up, upd, vp_updL, h]
      try (funext j; simp [upd, vp_updL, up, h])
    · exact absurd (Nat.lt_one_iff.mp (of_decide_eq_true hd)) h
  | 1 => rfl
  | 2 => rfl
  | 3 => rfl
  | 4 => rfl
  | 5 => rfl
  | 6 => rfl
  | 7 => rfl
  | 8 => rfl
  | 9 => rfl
  | 10 => rfl
  | 11 => rfl
  | 12 => rfl
  | n + 13 => exact absurd (of_decide_eq_true hd) (Nat.not_lt_zero _)
theorem mup3 (G : xG) (s : mS) (v : Int32) : ∀ k' i' : Nat, mdom k' i' = true → xup (encM G s) 0 0 (.inr (9, [.ref (G.2.1 1 0), .ref (G.2.1 2 0), .int (s 2 0), .int (s 3 0), .int (s 4 0), .ref (G.2.1 3 0), .ref (G.2.1 4 0), .ref (G.2.1 5 0), .ref (G.2.1 6 0), .ref (G.2.1 7 0), .int (s 10 0), .int (s 11 0), .int (s 12 0), .int (s 13 0), .int (s 14 0), .ref (G.2.1 8 0), .ref (G.2.1 9 0), .ref (G.2.1 10 0), .ref (G.2.1 11 0), .ref (G.2.1 12 0)].set 3 (.int v))) k' i' = encM G (mu s 3 0 v) k' i' := fun k' i' hd => by
  match k' with
  | 0 =>
    by_cases h : i' = 0
    · simp [xup, encM, cu, cul, cuw, mu, up, upd, vp_updL, h]
      try (funext j; simp [upd, vp_updL, up, h])
    · exact absurd (Nat.lt_one_iff.mp (of_decide_eq_true hd)) h
  | 1 => rfl
  | 2 => rfl
  | 3 => rfl
  | 4 => rfl
  | 5 => rfl
  | 6 => rfl
  | 7 => rfl
  | 8 => rfl
  | 9 => rfl
  | 10 => rfl
  | 11 => rfl
  | 12 => rfl
  | n + 13 => exact absurd (of_decide_eq_true hd) (Nat.not_lt_zero _)
theorem mup4 (G : xG) (s : mS) (v : Int32) : ∀ k' i' : Nat, mdom k' i' = true → xup (encM G s) 0 0 (.inr (9, [.ref (G.2.1 1 0), .ref (G.2.1 2 0), .int (s 2 0), .int (s 3 0), .int (s 4 0), .ref (G.2.1 3 0), .ref (G.2.1 4 0), .ref (G.2.1 5 0), .ref (G.2.1 6 0), .ref (G.2.1 7 0), .int (s 10 0), .int (s 11 0), .int (s 12 0), .int (s 13 0), .int (s 14 0), .ref (G.2.1 8 0), .ref (G.2.1 9 0), .ref (G.2.1 10 0), .ref (G.2.1 11 0), .ref (G.2.1 12 0)].set 4 (.int v))) k' i' = encM G (mu s 4 0 v) k' i' := fun k' i' hd => by
  match k' with
  | 0 =>
    by_cases h : i' = 0
    · simp [xup, encM, cu, cul, cuw, mu, up, upd, vp_updL, h]
      try (funext j; simp [upd, vp_updL, up, h])
    · exact absurd (Nat.lt_one_iff.mp (of_decide_eq_true hd)) h
  | 1 => rfl
  | 2 => rfl
  | 3 => rfl
  | 4 => rfl
  | 5 => rfl
  | 6 => rfl
  | 7 => rfl
  | 8 => rfl
  | 9 => rfl
  | 10 => rfl
  | 11 => rfl
  | 12 => rfl
  | n + 13 => exact absurd (of_decide_eq_true hd) (Nat.not_lt_zero _)
theorem mup10 (G : xG) (s : mS) (v : Int32) : ∀ k' i' : Nat, mdom k' i' = true → xup (encM G s) 0 0 (.inr (9, [.ref (G.2.1 1 0), .ref (G.2.1 2 0), .int (s 2 0), .int (s 3 0), .int (s 4 0), .ref (G.2.1 3 0), .ref (G.2.1 4 0), .ref (G.2.1 5 0), .ref (G.2.1 6 0), .ref (G.2.1 7 0), .int (s 10 0), .int (s 11 0), .int (s 12 0), .int (s 13 0), .int (s 14 0), .ref (G.2.1 8 0), .ref (G.2.1 9 0), .ref (G.2.1 10 0), .ref (G.2.1 11 0), .ref (G.2.1 12 0)].set 10 (.int v))) k' i' = encM G (mu s 10 0 v) k' i' := fun k' i' hd => by
  match k' with
  | 0 =>
    by_cases h : i' = 0
    · simp [xup, encM, cu, cul, cuw, mu, up, upd, vp_updL, h]
      try (funext j; simp [upd, vp_updL, up, h])
    · exact absurd (Nat.lt_one_iff.mp (of_decide_eq_true hd)) h
  | 1 => rfl
  | 2 => rfl
  | 3 => rfl
  | 4 => rfl
  | 5 => rfl
  | 6 => rfl
  | 7 => rfl
  | 8 => rfl
  | 9 => rfl
  | 10 => rfl
  | 11 => rfl
  | 12 => rfl
  | n + 13 => exact absurd (of_decide_eq_true hd) (Nat.not_lt_zero _)
theorem mup11 (G : xG) (s : mS) (v : Int32) : ∀ k' i' : Nat, mdom k' i' = true → xup (encM G s) 0 0 (.inr (9, [.ref (G.2.1 1 0), .ref (G.2.1 2 0), .int (s 2 0), .int (s 3 0), .int (s 4 0), .ref (G.2.1 3 0), .ref (G.2.1 4 0), .ref (G.2.1 5 0), .ref (G.2.1 6 0), .ref (G.2.1 7 0), .int (s 10 0), .int (s 11 0), .int (s 12 0), .int (s 13 0), .int (s 14 0), .ref (G.2.1 8 0), .ref (G.2.1 9 0), .ref (G.2.1 10 0), .ref (G.2.1 11 0), .ref (G.2.1 12 0)].set 11 (.int v))) k' i' = encM G (mu s 11 0 v) k' i' := fun k' i' hd => by
  match k' with
  | 0 =>
    by_cases h : i' = 0
    · simp [xup, encM, cu, cul, cuw, mu, up, upd, vp_updL, h]
      try (funext j; simp [upd, vp_updL, up, h])
    · exact absurd (Nat.lt_one_iff.mp (of_decide_eq_true hd)) h
  | 1 => rfl
  | 2 => rfl
  | 3 => rfl
  | 4 => rfl
  | 5 => rfl
  | 6 => rfl
  | 7 => rfl
  | 8 => rfl
  | 9 => rfl
  | 10 => rfl
  | 11 => rfl
  | 12 => rfl
  | n + 13 => exact absurd (of_decide_eq_true hd) (Nat.not_lt_zero _)
theorem mup12 (G : xG) (s : mS) (v : Int32) : ∀ k' i' : Nat, mdom k' i' = true → xup (encM G s) 0 0 (.inr (9, [.ref (G.2.1 1 0), .ref (G.2.1 2 0), .int (s 2 0), .int (s 3 0), .int (s 4 0), .ref (G.2.1 3 0), .ref (G.2.1 4 0), .ref (G.2.1 5 0), .ref (G.2.1 6 0), .ref (G.2.1 7 0), .int (s 10 0), .int (s 11 0), .int (s 12 0), .int (s 13 0), .int (s 14 0), .ref (G.2.1 8 0), .ref (G.2.1 9 0), .ref (G.2.1 10 0), .ref (G.2.1 11 0), .ref (G.2.1 12 0)].set 12 (.int v))) k' i' = encM G (mu s 12 0 v) k' i' := fun k' i' hd => by
  match k' with
  | 0 =>
    by_cases h : i' = 0
    · simp [xup, encM, cu, cul, cuw, mu, up, upd, vp_updL, h]
      try (funext j; simp [upd, vp_updL, up, h])
    · exact absurd (Nat.lt_one_iff.mp (of_decide_eq_true hd)) h
  | 1 => rfl
  | 2 => rfl
  | 3 => rfl
  | 4 => rfl
  | 5 => rfl
  | 6 => rfl
  | 7 => rfl
  | 8 => rfl
  | 9 => rfl
  | 10 => rfl
  | 11 => rfl
  | 12 => rfl
  | n + 13 => exact absurd (of_decide_eq_true hd) (Nat.not_lt_zero _)
theorem mup13 (G : xG) (s : mS) (v : Int32) : ∀ k' i' : Nat, mdom k' i' = true → xup (encM G s) 0 0 (.inr (9, [.ref (G.2.1 1 0), .ref (G.2.1 2 0), .int (s 2 0), .int (s 3 0), .int (s 4 0), .ref (G.2.1 3 0), .ref (G.2.1 4 0), .ref (G.2.1 5 0), .ref (G.2.1 6 0), .ref (G.2.1 7 0), .int (s 10 0), .int (s 11 0), .int (s 12 0), .int (s 13 0), .int (s 14 0), .ref (G.2.1 8 0), .ref (G.2.1 9 0), .ref (G.2.1 10 0), .ref (G.2.1 11 0), .ref (G.2.1 12 0)].set 13 (.int v))) k' i' = encM G (mu s 13 0 v) k' i' := fun k' i' hd => by
  match k' with
  | 0 =>
    by_cases h : i' = 0
    · simp [xup, encM, cu, cul, cuw, mu, up, upd, vp_updL, h]
      try (funext j; simp [upd, vp_updL, up, h])
    · exact absurd (Nat.lt_one_iff.mp (of_decide_eq_true hd)) h
  | 1 => rfl
  | 2 => rfl
  | 3 => rfl
  | 4 => rfl
  | 5 => rfl
  | 6 => rfl
  | 7 => rfl
  | 8 => rfl
  | 9 => rfl
  | 10 => rfl
  | 11 => rfl
  | 12 => rfl
  | n + 13 => exact absurd (of_decide_eq_true hd) (Nat.not_lt_zero _)
theorem mup14 (G : xG) (s : mS) (v : Int32) : ∀ k' i' : Nat, mdom k' i' = true → xup (encM G s) 0 0 (.inr (9, [.ref (G.2.1 1 0), .ref (G.2.1 2 0), .int (s 2 0), .int (s 3 0), .int (s 4 0), .ref (G.2.1 3 0), .ref (G.2.1 4 0), .ref (G.2.1 5 0), .ref (G.2.1 6 0), .ref (G.2.1 7 0), .int (s 10 0), .int (s 11 0), .int (s 12 0), .int (s 13 0), .int (s 14 0), .ref (G.2.1 8 0), .ref (G.2.1 9 0), .ref (G.2.1 10 0), .ref (G.2.1 11 0), .ref (G.2.1 12 0)].set 14 (.int v))) k' i' = encM G (mu s 14 0 v) k' i' := fun k' i' hd => by
  match k' with
  | 0 =>
    by_cases h : i' = 0
    · simp [xup, encM, cu, cul, cuw, mu, up, upd, vp_updL, h]
      try (funext j; simp [upd, vp_updL, up, h])
    · exact absurd (Nat.lt_one_iff.mp (of_decide_eq_true hd)) h
  | 1 => rfl
  | 2 => rfl
  | 3 => rfl
  | 4 => rfl
  | 5 => rfl
  | 6 => rfl
  | 7 => rfl
  | 8 => rfl
  | 9 => rfl
  | 10 => rfl
  | 11 => rfl
  | 12 => rfl
  | n + 13 => exact absurd (of_decide_eq_true hd) (Nat.not_lt_zero _)
theorem mup0 (G : xG) (s : mS) (x : Nat) (v : Int32) : ∀ k' i' : Nat, mdom k' i' = true → xup (encM G s) 1 0 (.inl (G.2.2 0, 530, .inl (upd (s 0) x v))) k' i' = encM G (mu s 0 x v) k' i' := fun k' i' hd => by
  match k' with
  | 0 => rfl
  | 1 =>
    by_cases h : i' = 0
    · simp [xup, encM, cu, cul, cuw, mu, up, upd, vp_updL, h]
      try (funext j; simp [upd, vp_updL, up, h])
    · exact absurd (Nat.lt_one_iff.mp (of_decide_eq_true hd)) h
  | 2 => rfl
  | 3 => rfl
  | 4 => rfl
  | 5 => rfl
  | 6 => rfl
  | 7 => rfl
  | 8 => rfl
  | 9 => rfl
  | 10 => rfl
  | 11 => rfl
  | 12 => rfl
  | n + 13 => exact absurd (of_decide_eq_true hd) (Nat.not_lt_zero _)
theorem mup1 (G : xG) (s : mS) (x : Nat) (v : Int32) : ∀ k' i' : Nat, mdom k' i' = true → xup (encM G s) 2 0 (.inl (G.2.2 0, 31800, .inl (upd (s 1) x v))) k' i' = encM G (mu s 1 x v) k' i' := fun k' i' hd => by
  match k' with
  | 0 => rfl
  | 1 => rfl
  | 2 =>
    by_cases h : i' = 0
    · simp [xup, encM, cu, cul, cuw, mu, up, upd, vp_updL, h]
      try (funext j; simp [upd, vp_updL, up, h])
    · exact absurd (Nat.lt_one_iff.mp (of_decide_eq_true hd)) h
  | 3 => rfl
  | 4 => rfl
  | 5 => rfl
  | 6 => rfl
  | 7 => rfl
  | 8 => rfl
  | 9 => rfl
  | 10 => rfl
  | 11 => rfl
  | 12 => rfl
  | n + 13 => exact absurd (of_decide_eq_true hd) (Nat.not_lt_zero _)
theorem mup5 (G : xG) (s : mS) (x : Nat) (v : Int32) : ∀ k' i' : Nat, mdom k' i' = true → xup (encM G s) 3 0 (.inl (G.2.2 0, 8, .inl (upd (s 5) x v))) k' i' = encM G (mu s 5 x v) k' i' := fun k' i' hd => by
  match k' with
  | 0 => rfl
  | 1 => rfl
  | 2 => rfl
  | 3 =>
    by_cases h : i' = 0
    · simp [xup, encM, cu, cul, cuw, mu, up, upd, vp_updL, h]
      try (funext j; simp [upd, vp_updL, up, h])
    · exact absurd (Nat.lt_one_iff.mp (of_decide_eq_true hd)) h
  | 4 => rfl
  | 5 => rfl
  | 6 => rfl
  | 7 => rfl
  | 8 => rfl
  | 9 => rfl
  | 10 => rfl
  | 11 => rfl
  | 12 => rfl
  | n + 13 => exact absurd (of_decide_eq_true hd) (Nat.not_lt_zero _)
theorem mup6 (G : xG) (s : mS) (x : Nat) (v : Int32) : ∀ k' i' : Nat, mdom k' i' = true → xup (encM G s) 4 0 (.inl (G.2.2 0, 8, .inl (upd (s 6) x v))) k' i' = encM G (mu s 6 x v) k' i' := fun k' i' hd => by
  match k' with
  | 0 => rfl
  | 1 => rfl
  | 2 => rfl
  | 3 => rfl
  | 4 =>
    by_cases h : i' = 0
    · simp [xup, encM, cu, cul, cuw, mu, up, upd, vp_updL, h]
      try (funext j; simp [upd, vp_updL, up, h])
    · exact absurd (Nat.lt_one_iff.mp (of_decide_eq_true hd)) h
  | 5 => rfl
  | 6 => rfl
  | 7 => rfl
  | 8 => rfl
  | 9 => rfl
  | 10 => rfl
  | 11 => rfl
  | 12 => rfl
  | n + 13 => exact absurd (of_decide_eq_true hd) (Nat.not_lt_zero _)
theorem mup7 (G : xG) (s : mS) (x : Nat) (v : Int32) : ∀ k' i' : Nat, mdom k' i' = true → xup (encM G s) 5 0 (.inl (G.2.2 0, 10, .inl (upd (s 7) x v))) k' i' = encM G (mu s 7 x v) k' i' := fun k' i' hd => by
  match k' with
  | 0 => rfl
  | 1 => rfl
  | 2 => rfl
  | 3 => rfl
  | 4 => rfl
  | 5 =>
    by_cases h : i' = 0
    · simp [xup, encM, cu, cul, cuw, mu, up, upd, vp_updL, h]
      try (funext j; simp [upd, vp_updL, up, h])
    · exact absurd (Nat.lt_one_iff.mp (of_decide_eq_true hd)) h
  | 6 => rfl
  | 7 => rfl
  | 8 => rfl
  | 9 => rfl
  | 10 => rfl
  | 11 => rfl
  | 12 => rfl
  | n + 13 => exact absurd (of_decide_eq_true hd) (Nat.not_lt_zero _)
theorem mup8 (G : xG) (s : mS) (x : Nat) (v : Int32) : ∀ k' i' : Nat, mdom k' i' = true → xup (encM G s) 6 0 (.inl (G.2.2 0, 10, .inl (upd (s 8) x v))) k' i' = encM G (mu s 8 x v) k' i' := fun k' i' hd => by
  match k' with
  | 0 => rfl
  | 1 => rfl
  | 2 => rfl
  | 3 => rfl
  | 4 => rfl
  | 5 => rfl
  | 6 =>
    by_cases h : i' = 0
    · simp [xup, encM, cu, cul, cuw, mu, up, upd, vp_updL, h]
      try (funext j; simp [upd, vp_updL, up, h])
    · exact absurd (Nat.lt_one_iff.mp (of_decide_eq_true hd)) h
  | 7 => rfl
  | 8 => rfl
  | 9 => rfl
  | 10 => rfl
  | 11 => rfl
  | 12 => rfl
  | n + 13 => exact absurd (of_decide_eq_true hd) (Nat.not_lt_zero _)
theorem mup9 (G : xG) (s : mS) (x : Nat) (v : Int32) : ∀ k' i' : Nat, mdom k' i' = true → xup (encM G s) 7 0 (.inl (G.2.2 0, 10, .inl (upd (s 9) x v))) k' i' = encM G (mu s 9 x v) k' i' := fun k' i' hd => by
  match k' with
  | 0 => rfl
  | 1 => rfl
  | 2 => rfl
  | 3 => rfl
  | 4 => rfl
  | 5 => rfl
  | 6 => rfl
  | 7 =>
    by_cases h : i' = 0
    · simp [xup, encM, cu, cul, cuw, mu, up, upd, vp_updL, h]
      try (funext j; simp [upd, vp_updL, up, h])
    · exact absurd (Nat.lt_one_iff.mp (of_decide_eq_true hd)) h
  | 8 => rfl
  | 9 => rfl
  | 10 => rfl
  | 11 => rfl
  | 12 => rfl
  | n + 13 => exact absurd (of_decide_eq_true hd) (Nat.not_lt_zero _)
theorem mup15 (G : xG) (s : mS) (x : Nat) (v : Int32) : ∀ k' i' : Nat, mdom k' i' = true → xup (encM G s) 8 0 (.inl (G.2.2 0, 4096, .inl (upd (s 15) x v))) k' i' = encM G (mu s 15 x v) k' i' := fun k' i' hd => by
  match k' with
  | 0 => rfl
  | 1 => rfl
  | 2 => rfl
  | 3 => rfl
  | 4 => rfl
  | 5 => rfl
  | 6 => rfl
  | 7 => rfl
  | 8 =>
    by_cases h : i' = 0
    · simp [xup, encM, cu, cul, cuw, mu, up, upd, vp_updL, h]
      try (funext j; simp [upd, vp_updL, up, h])
    · exact absurd (Nat.lt_one_iff.mp (of_decide_eq_true hd)) h
  | 9 => rfl
  | 10 => rfl
  | 11 => rfl
  | 12 => rfl
  | n + 13 => exact absurd (of_decide_eq_true hd) (Nat.not_lt_zero _)
theorem mup16 (G : xG) (s : mS) (x : Nat) (v : Int32) : ∀ k' i' : Nat, mdom k' i' = true → xup (encM G s) 9 0 (.inl (G.2.2 0, 4096, .inl (upd (s 16) x v))) k' i' = encM G (mu s 16 x v) k' i' := fun k' i' hd => by
  match k' with
  | 0 => rfl
  | 1 => rfl
  | 2 => rfl
  | 3 => rfl
  | 4 => rfl
  | 5 => rfl
  | 6 => rfl
  | 7 => rfl
  | 8 => rfl
  | 9 =>
    by_cases h : i' = 0
    · simp [xup, encM, cu, cul, cuw, mu, up, upd, vp_updL, h]
      try (funext j; simp [upd, vp_updL, up, h])
    · exact absurd (Nat.lt_one_iff.mp (of_decide_eq_true hd)) h
  | 10 => rfl
  | 11 => rfl
  | 12 => rfl
  | n + 13 => exact absurd (of_decide_eq_true hd) (Nat.not_lt_zero _)
theorem mup17 (G : xG) (s : mS) (x : Nat) (v : Int32) : ∀ k' i' : Nat, mdom k' i' = true → xup (encM G s) 10 0 (.inl (G.2.2 0, 4096, .inl (upd (s 17) x v))) k' i' = encM G (mu s 17 x v) k' i' := fun k' i' hd => by
  match k' with
  | 0 => rfl
  | 1 => rfl
  | 2 => rfl
  | 3 => rfl
  | 4 => rfl
  | 5 => rfl
  | 6 => rfl
  | 7 => rfl
  | 8 => rfl
  | 9 => rfl
  | 10 =>
    by_cases h : i' = 0
    · simp [xup, encM, cu, cul, cuw, mu, up, upd, vp_updL, h]
      try (funext j; simp [upd, vp_updL, up, h])
    · exact absurd (Nat.lt_one_iff.mp (of_decide_eq_true hd)) h
  | 11 => rfl
  | 12 => rfl
  | n + 13 => exact absurd (of_decide_eq_true hd) (Nat.not_lt_zero _)
theorem mup18 (G : xG) (s : mS) (x : Nat) (v : Int32) : ∀ k' i' : Nat, mdom k' i' = true → xup (encM G s) 11 0 (.inl (G.2.2 2, 1024, .inl (upd (s 18) x v))) k' i' = encM G (mu s 18 x v) k' i' := fun k' i' hd => by
  match k' with
  | 0 => rfl
  | 1 => rfl
  | 2 => rfl
  | 3 => rfl
  | 4 => rfl
  | 5 => rfl
  | 6 => rfl
  | 7 => rfl
  | 8 => rfl
  | 9 => rfl
  | 10 => rfl
  | 11 =>
    by_cases h : i' = 0
    · simp [xup, encM, cu, cul, cuw, mu, up, upd, vp_updL, h]
      try (funext j; simp [upd, vp_updL, up, h])
    · exact absurd (Nat.lt_one_iff.mp (of_decide_eq_true hd)) h
  | 12 => rfl
  | n + 13 => exact absurd (of_decide_eq_true hd) (Nat.not_lt_zero _)
theorem mup19 (G : xG) (s : mS) (x : Nat) (v : Int32) : ∀ k' i' : Nat, mdom k' i' = true → xup (encM G s) 12 0 (.inl (G.2.2 0, 1024, .inl (upd (s 19) x v))) k' i' = encM G (mu s 19 x v) k' i' := fun k' i' hd => by
  match k' with
  | 0 => rfl
  | 1 => rfl
  | 2 => rfl
  | 3 => rfl
  | 4 => rfl
  | 5 => rfl
  | 6 => rfl
  | 7 => rfl
  | 8 => rfl
  | 9 => rfl
  | 10 => rfl
  | 11 => rfl
  | 12 =>
    by_cases h : i' = 0
    · simp [xup, encM, cu, cul, cuw, mu, up, upd, vp_updL, h]
      try (funext j; simp [upd, vp_updL, up, h])
    · exact absurd (Nat.lt_one_iff.mp (of_decide_eq_true hd)) h
  | n + 13 => exact absurd (of_decide_eq_true hd) (Nat.not_lt_zero _)

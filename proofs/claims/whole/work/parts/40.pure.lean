/-! The reader of the class as functions: place, wrong, references, error, tallies. -/
abbrev RS : Type := Nat × Int32 × Int64 × Int32 × (Nat → Int32 × Int32 × Int64 × Int64 × Int64)
def rPk (f : Nat → Int32) (n : Nat) (s : RS) (j : Nat) : Int32 := ahd f s.1 n j
def rRf (n : Nat) (s : RS) : RS := (n, 1, s.2.2)
def rAd (s : RS) (k : Nat) : RS := (s.1 + k, s.2)
def rEr (s : RS) (e : Int32) : RS := (s.1, s.2.1, s.2.2.1, e, s.2.2.2.2)
def rRr (s : RS) (r : Int64) : RS := (s.1, s.2.1, r, s.2.2.2)
abbrev isD (c : Int32) : Prop := 48 ≤ c ∧ c ≤ 57
def rDg (f : Nat → Int32) (n : Nat) : Nat → Int64 → Nat → RS → Int64 × Nat × RS
  | 0, v, c, s => (v, c, s)
  | k + 1, v, c, s => if isD (rPk f n s 0) then rDg f n k (10 * v + (rPk f n s 0 - 48).toInt64) (c + 1) (rAd s 1) else (v, c, s)
def rDigits (f : Nat → Int32) (n : Nat) (s : RS) : Int64 × RS :=
  if (rDg f n 9 0 0 s).2.1 = 0 ∨ isD (rPk f n (rDg f n 9 0 0 s).2.2 0) then (0, rRf n (rEr (rDg f n 9 0 0 s).2.2 0)) else ((rDg f n 9 0 0 s).1, rEr (rDg f n 9 0 0 s).2.2 0)
/-- the word i of the class stands next -/
abbrev rW (f : Nat → Int32) (n : Nat) (s : RS) (i : Nat) : Prop := ∀ j, j < sLen.getD i 0 → rPk f n s j = sChr i j
def rNeed (f : Nat → Int32) (n : Nat) (c : Int32) (s : RS) : RS := if rPk f n s 0 = c then rAd s 1 else rRf n s
/-- the cell whose name two characters are -/
def nm (c r : Int32) : Option Nat := if (0 ≤ c - 65 ∧ c - 65 < 8) ∧ (0 ≤ r - 49 ∧ r - 49 < 8) then some (8 * (r - 49).toNatClampNeg + (c - 65).toNatClampNeg) else none
theorem ahd_ne {f : Nat → Int32} {a n j : Nat} {c : Int32} (h : ahd f a n j = c) (hc : c ≠ 0) : a + j < n := by
  unfold ahd at h
  by_cases z : a + j < n
  · exact z
  · rw [if_neg z] at h
    exact absurd h.symm hc
theorem isD_ne {c : Int32} (h : isD c) : c ≠ 0 := by
  intro e
  subst e
  exact absurd h (by decide)
theorem rDg_le {f : Nat → Int32} {n : Nat} : ∀ (k : Nat) (v : Int64) (c : Nat) (s : RS), s.1 ≤ n → (rDg f n k v c s).2.2.1 ≤ n := by
  intro k
  induction k with
  | zero => intro v c s h; exact h
  | succ k ih =>
    intro v c s h
    rw [rDg]
    by_cases z : isD (rPk f n s 0)
    · rw [if_pos z]
      exact ih _ _ _ (ahd_ne (j := 0) rfl (isD_ne z))
    · rw [if_neg z]
      exact h
theorem rDg_c {f : Nat → Int32} {n : Nat} : ∀ (k : Nat) (v : Int64) (c : Nat) (s : RS), (rDg f n k v c s).2.1 ≤ c + k := by
  intro k
  induction k with
  | zero => intro v c s; exact Nat.le_refl _
  | succ k ih =>
    intro v c s
    rw [rDg]
    by_cases z : isD (rPk f n s 0)
    · rw [if_pos z]
      have := ih (10 * v + (rPk f n s 0 - 48).toInt64) (c + 1) (rAd s 1)
      omega
    · rw [if_neg z]
      show c ≤ _
      omega
theorem rDigits_le {f : Nat → Int32} {n : Nat} {s : RS} (h : s.1 ≤ n) : (rDigits f n s).2.1 ≤ n := by
  unfold rDigits
  by_cases z : (rDg f n 9 0 0 s).2.1 = 0 ∨ isD (rPk f n (rDg f n 9 0 0 s).2.2 0)
  · rw [if_pos z]; exact Nat.le_refl _
  · rw [if_neg z]; exact rDg_le 9 0 0 s h
theorem rNeed_le {f : Nat → Int32} {n : Nat} {c : Int32} {s : RS} (hc : c ≠ 0) : (rNeed f n c s).1 ≤ n := by
  unfold rNeed
  by_cases z : rPk f n s 0 = c
  · rw [if_pos z]; exact ahd_ne (j := 0) z hc
  · rw [if_neg z]; exact Nat.le_refl _
def rCmp (f : Nat → Int32) (n : Nat) (s : RS) : Int32 × RS :=
  if rW f n s 5 then (1, rAd s 2) else if rW f n s 6 then (2, rAd s 2) else if rW f n s 7 then (3, rAd s 2)
  else if rPk f n s 0 = 60 then (60, rAd s 1) else if rPk f n s 0 = 62 then (62, rAd s 1) else if rPk f n s 0 = 61 then (61, rAd s 1) else (0, s)
def rHolds (op : Int32) (a b : Int64) : Bool := if op = 1 then decide (a ≠ b) else if op = 2 then decide (a ≤ b) else if op = 3 then decide (b ≤ a) else if op = 60 then decide (a < b) else if op = 62 then decide (b < a) else decide (a = b)
def rDiv (op : Int32) (a b : Int64) (s : RS) : Int64 × RS := if b = 0 then (0, rEr s 1) else (if op = 47 then a / b else a - a / b * b, s)
def rJoin (op : Int32) (a : Int64) (ae : Int32) (b : Int64) (s : RS) : Int64 × RS :=
  if ae ≠ 0 then (0, rEr s ae) else if s.2.2.2.1 ≠ 0 then (0, s)
  else if op = 43 then (a + b, s) else if op = 45 then (a - b, s) else if op = 42 then (a * b, s)
  else if op = 47 ∨ op = 37 then rDiv op a b s else (if rHolds op a b = true then 1 else 0, s)
/-- which function's name stands next -/
def rFn (f : Nat → Int32) (n : Nat) (s : RS) : Int32 × RS :=
  if rW f n s 1 then (0, rAd s 4) else if rW f n s 2 then (1, rAd s 4) else if rW f n s 3 then (2, rAd s 4) else if rW f n s 4 then (3, rAd s 6) else (-1, s)
/-! Tallies: error, count, sum, least, greatest. -/
abbrev TY : Type := Int32 × Int32 × Int64 × Int64 × Int64
def tMeet (t : TY) (x : Int64) (e : Int32) : TY :=
  if t.1 ≠ 0 then t else if e ≠ 0 then (e, t.2)
  else (t.1, t.2.1 + 1, t.2.2.1 + x, if t.2.1 = 0 then x else if x < t.2.2.2.1 then x else t.2.2.2.1, if t.2.1 = 0 then x else if x < t.2.2.2.2 then t.2.2.2.2 else x)
def tErr (t : TY) (w : Int32) : Int32 := if t.1 = 0 ∧ (w = 1 ∨ w = 2) ∧ t.2.1 = 0 then 2 else t.1
def tNum (t : TY) (w : Int32) : Int64 := if w = 0 then t.2.2.1 else if w = 1 then t.2.2.2.1 else if w = 2 then t.2.2.2.2 else t.2.1.toInt64
def tUp (ta : Nat → TY) (i : Nat) (t : TY) : Nat → TY := fun j => if j = i then t else ta j

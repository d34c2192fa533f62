/-! The reader of the class as functions: place, wrong, references, error, tallies. -/
abbrev RS : Type := Nat × Int32 × Int64 × Int32 × (Nat → Int32 × Int32 × Int64 × Int64 × Int64)
def rPk (f : Nat → Int32) (n : Nat) (s : RS) (j : Nat) : Int32 := ahd f s.1 n j
def rRf (n : Nat) (s : RS) : RS := (n, 1, s.2.2)
def rAd (s : RS) (k : Nat) : RS := (s.1 + k, s.2)
def rEr (s : RS) (e : Int32) : RS := (s.1, s.2.1, s.2.2.1, e, s.2.2.2.2)
def rRr (s : RS) (r : Int64) : RS := (s.1, s.2.1, r, s.2.2.2)
abbrev isD (c : Int32) : Prop := 48 ≤ c ∧ c ≤ 57
def rDg (f : Nat → Int32) (n : Nat) : Nat → Int64 → Nat → RS → Int64 × Nat × RS
  | 0, v, c, s => (v, c, s)
  | k + 1, v, c, s => if isD (rPk f n s 0) then rDg f n k (10 * v + (rPk f n s 0 - 48).toInt64) (c + 1) (rAd s 1) else (v, c, s)
def rDigits (f : Nat → Int32) (n : Nat) (s : RS) : Int64 × RS :=
  if (rDg f n 9 0 0 s).2.1 = 0 ∨ isD (rPk f n (rDg f n 9 0 0 s).2.2 0) then (0, rRf n (rEr (rDg f n 9 0 0 s).2.2 0)) else ((rDg f n 9 0 0 s).1, rEr (rDg f n 9 0 0 s).2.2 0)
/-- the word i of the class stands next -/
abbrev rW (f : Nat → Int32) (n : Nat) (s : RS) (i : Nat) : Prop := ∀ j, j < sLen.getD i 0 → rPk f n s j = sChr i j
def rNeed (f : Nat → Int32) (n : Nat) (c : Int32) (s : RS) : RS := if rPk f n s 0 = c then rAd s 1 else rRf n s
/-- the cell whose name two characters are -/
def nm (c r : Int32) : Option Nat := if (0 ≤ c - 65 ∧ c - 65 < 8) ∧ (0 ≤ r - 49 ∧ r - 49 < 8) then some (8 * (r - 49).toNatClampNeg + (c - 65).toNatClampNeg) else none
theorem ahd_ne {f : Nat → Int32} {a n j : Nat} {c : Int32} (h : ahd f a n j = c) (hc : c ≠ 0) : a + j < n := by
  unfold ahd at h
  by_cases z : a + j < n
  · exact z
  · rw [if_neg z] at h
    exact absurd h.symm hc
theorem isD_ne {c : Int32} (h : isD c) : c ≠ 0 := by
  intro e
  subst e
  exact absurd h (by decide)
theorem rDg_le {f : Nat → Int32} {n : Nat} : ∀ (k : Nat) (v : Int64) (c : Nat) (s : RS), s.1 ≤ n → (rDg f n k v c s).2.2.1 ≤ n := by
  intro k
  induction k with
  | zero => intro v c s h; exact h
  | succ k ih =>
    intro v c s h
    rw [rDg]
    by_cases z : isD (rPk f n s 0)
    · rw [if_pos z]
      exact ih _ _ _ (ahd_ne (j := 0) rfl (isD_ne z))
    · rw [if_neg z]
      exact h
theorem rDg_c {f : Nat → Int32} {n : Nat} : ∀ (k : Nat) (v : Int64) (c : Nat) (s : RS), (rDg f n k v c s).2.1 ≤ c + k := by
  intro k
  induction k with
  | zero => intro v c s; exact Nat.le_refl _
  | succ k ih =>
    intro v c s
    rw [rDg]
    by_cases z : isD (rPk f n s 0)
    · rw [if_pos z]
      have := ih (10 * v + (rPk f n s 0 - 48).toInt64) (c + 1) (rAd s 1)
      omega
    · rw [if_neg z]
      show c ≤ _
      omega
theorem rDigits_le {f : Nat → Int32} {n : Nat} {s : RS} (h : s.1 ≤ n) : (rDigits f n s).2.1 ≤ n := by
  unfold rDigits
  by_cases z : (rDg f n 9 0 0 s).2.1 = 0 ∨ isD (rPk f n (rDg f n 9 0 0 s).2.2 0)
  · rw [if_pos z]; exact Nat.le_refl _
  · rw [if_neg z]; exact rDg_le 9 0 0 s h
theorem rNeed_le {f : Nat → Int32} {n : Nat} {c : Int32} {s : RS} (hc : c ≠ 0) : (rNeed f n c s).1 ≤ n := by
  unfold rNeed
  by_cases z : rPk f n s 0 = c
  · rw [if_pos z]; exact ahd_ne (j := 0) z hc
  · rw [if_neg z]; exact Nat.le_refl _
def rCmp (f : Nat → Int32) (n : Nat) (s : RS) : Int32 × RS :=
  if rW f n s 5 then (1, rAd s 2) else if rW f n s 6 then (2, rAd s 2) else if rW f n s 7 then (3, rAd s 2)
  else if rPk f n s 0 = 60 then (60, rAd s 1) else if rPk f n s 0 = 62 then (62, rAd s 1) else if rPk f n s 0 = 61 then (61, rAd s 1) else (0, s)
def rHolds (op : Int32) (a b : Int64) : Bool := if op = 1 then decide (a ≠ b) else if op = 2 then decide (a ≤ b) else if op = 3 then decide (b ≤ a) else if op = 60 then decide (a < b) else if op = 62 then decide (b < a) else decide (a = b)
def rDiv (op : Int32) (a b : Int64) (s : RS) : Int64 × RS := if b = 0 then (0, rEr s 1) else (if op = 47 then a / b else a - a / b * b, s)
def rJoin (op : Int32) (a : Int64) (ae : Int32) (b : Int64) (s : RS) : Int64 × RS :=
  if ae ≠ 0 then (0, rEr s ae) else if s.2.2.2.1 ≠ 0 then (0, s)
  else if op = 43 then (a + b, s) else if op = 45 then (a - b, s) else if op = 42 then (a * b, s)
  else if op = 47 ∨ op = 37 then rDiv op a b s else (if rHolds op a b = true then 1 else 0, s)
/-- which function's name stands next -/
def rFn (f : Nat → Int32) (n : Nat) (s : RS) : Int32 × RS :=
  if rW f n s 1 then (0, rAd s 4) else if rW f n s 2 then (1, rAd s 4) else if rW f n s 3 then (2, rAd s 4) else if rW f n s 4 then (3, rAd s 6) else (-1, s)
/-! Tallies: error, count, sum, least, greatest. -/
abbrev TY : Type := Int32 × Int32 × Int64 × Int64 × Int64
def tMeet (t : TY) (x : Int64) (e : Int32) : TY :=
  if t.1 ≠ 0 then t else if e ≠ 0 then (e, t.2)
  else (t.1, t.2.1 + 1, t.2.2.1 + x, if t.2.1 = 0 then x else if x < t.2.2.2.1 then x else t.2.2.2.1, if t.2.1 = 0 then x else if x < t.2.2.2.2 then t.2.2.2.2 else x)
def tErr (t : TY) (w : Int32) : Int32 := if t.1 = 0 ∧ (w = 1 ∨ w = 2) ∧ t.2.1 = 0 then 2 else t.1
def tNum (t : TY) (w : Int32) : Int64 := if w = 0 then t.2.2.1 else if w = 1 then t.2.2.2.1 else if w = 2 then t.2.2.2.2 else t.2.1.toInt64
def tUp (ta : Nat → TY) (i : Nat) (t : TY) : Nat → TY := fun j => if j = i then t else ta j
/-! The rest of the reader. -/
def rTl (s : RS) (t : Nat → TY) : RS := (s.1, s.2.1, s.2.2.1, s.2.2.2.1, t)
/-- the error that values give -/
def kEr (k : Int32) : Int32 := if 1 < k then k - 1 else 0
def rMt (i : Nat) (x : Int64) (e : Int32) (s : RS) : RS := rTl s (tUp s.2.2.2.2 i (tMeet (s.2.2.2.2 i) x e))
def rMc (ki : Nat → Int32) (nu : Nat → Int64) (i c : Nat) (s : RS) : RS :=
  if ki c = 0 then rRr s (s.2.2.1 ||| (1 : Int64) <<< Int64.ofNat c) else rMt i (nu c) (kEr (ki c)) (rRr s (s.2.2.1 ||| (1 : Int64) <<< Int64.ofNat c))
def rg1 (ki : Nat → Int32) (nu : Nat → Int64) (i : Nat) : Nat → Nat → RS → RS
  | 0, _, s => s
  | k + 1, c, s => rg1 ki nu i k (c + 1) (rMc ki nu i c s)
def rg2 (ki : Nat → Int32) (nu : Nat → Int64) (i c0 wd : Nat) : Nat → Nat → RS → RS
  | 0, _, s => s
  | k + 1, r, s => rg2 ki nu i c0 wd k (r + 1) (rg1 ki nu i wd (8 * r + c0) s)
def rRange (ki : Nat → Int32) (nu : Nat → Int64) (i a b : Nat) (s : RS) : RS :=
  rg2 ki nu i (min (a % 8) (b % 8)) (max (a % 8) (b % 8) + 1 - min (a % 8) (b % 8)) (max (a / 8) (b / 8) + 1 - min (a / 8) (b / 8)) (min (a / 8) (b / 8)) s
section
variable (f : Nat → Int32) (n : Nat) (ki : Nat → Int32) (nu : Nat → Int64) (E F : RS → Int64 × RS)
def rArg (i : Nat) (s : RS) : RS :=
  if rPk f n s 2 = 58 then
    (match nm (rPk f n s 0) (rPk f n s 1), nm (rPk f n s 3) (rPk f n s 4) with
    | some a, some b => rRange ki nu i a b (rAd s 5)
    | _, _ => rRf n s)
  else rMt i (E s).1 (E s).2.2.2.2.1 (E s).2
def rArgs (i : Nat) : Nat → RS → RS
  | 0, s => s
  | k + 1, s => if rPk f n s 0 = 44 then rArgs i k (rArg f n ki nu E i (rAd s 1)) else s
def rFunB (i : Nat) (s : RS) : RS := rNeed f n 41 (rArgs f n ki nu E i 40 (rArg f n ki nu E i (rTl s (tUp s.2.2.2.2 i (0, 0, 0, 0, 0)))))
def rFunE (w : Int32) (i : Nat) (s : RS) : Int64 × RS := (if tErr (s.2.2.2.2 i) w = 0 then tNum (s.2.2.2.2 i) w else 0, rEr s (tErr (s.2.2.2.2 i) w))
def rFun (w : Int32) (i : Nat) (s : RS) : Int64 × RS := rFunE w i (rFunB f n ki nu E i s)
def rCh1 (s : RS) : RS := rNeed f n 44 (E s).2
def rCh2 (s : RS) : RS := rNeed f n 44 (E (rCh1 f n E s)).2
def rCh3 (s : RS) : RS := rNeed f n 41 (E (rCh2 f n E s)).2
def rChoice (s : RS) : Int64 × RS :=
  if (E s).2.2.2.2.1 ≠ 0 then (0, rEr (rCh3 f n E s) (E s).2.2.2.2.1)
  else if (E s).1 = 0 then ((E (rCh2 f n E s)).1, rCh3 f n E s)
  else ((E (rCh1 f n E s)).1, rEr (rCh3 f n E s) (E (rCh1 f n E s)).2.2.2.2.1)
def rBr (s : RS) : Int64 × RS := ((E s).1, rNeed f n 41 (E s).2)
def rVal (c : Nat) (s : RS) : Int64 × RS := (nu c, rEr (rRr s (s.2.2.1 ||| (1 : Int64) <<< Int64.ofNat c)) (kEr (ki c)))
def rU (r : Nat) (s : RS) : Int64 × RS :=
  if isD (rPk f n s 0) then rDigits f n s
  else match nm (rPk f n s 0) (rPk f n s 1) with
    | some c => rVal ki nu c (rAd s 2)
    | none => if r = 0 then (0, rRf n s)
      else if rPk f n s 0 = 40 then rBr f n E (rAd s 1)
      else if rW f n s 0 then rChoice f n E (rAd s 3)
      else if (rFn f n s).1 = -1 then (0, rRf n (rFn f n s).2)
      else rFun f n ki nu E (rFn f n s).1 (9 - r) (rFn f n s).2
def rNeg : Nat → Bool → RS → Bool × RS
  | 0, b, s => (b, s)
  | k + 1, b, s => if rPk f n s 0 = 45 then rNeg k (!b) (rAd s 1) else (b, s)
def rFac (s : RS) : Int64 × RS := (if (rNeg f n 40 false s).1 = true then -(F (rNeg f n 40 false s).2).1 else (F (rNeg f n 40 false s).2).1, (F (rNeg f n 40 false s).2).2)
abbrev isP (c : Int32) : Prop := c = 42 ∨ c = 47 ∨ c = 37
abbrev isA (c : Int32) : Prop := c = 43 ∨ c = 45
def rLp (p : Int32 → Prop) [DecidablePred p] : Nat → Int64 → RS → Int64 × RS
  | 0, v, s => (v, s)
  | k + 1, v, s => if p (rPk f n s 0) then rLp p k (rJoin (rPk f n s 0) v s.2.2.2.1 (F (rAd s 1)).1 (F (rAd s 1)).2).1 (rJoin (rPk f n s 0) v s.2.2.2.1 (F (rAd s 1)).1 (F (rAd s 1)).2).2 else (v, s)
def rProd (s : RS) : Int64 × RS := rLp f n F isP 40 (F s).1 (F s).2
def rSum (s : RS) : Int64 × RS := rLp f n F isA 40 (F s).1 (F s).2
def rExp (s : RS) : Int64 × RS :=
  if (rCmp f n (F s).2).1 = 0 then ((F s).1, (rCmp f n (F s).2).2)
  else rJoin (rCmp f n (F s).2).1 (F s).1 (rCmp f n (F s).2).2.2.2.2.1 (F (rCmp f n (F s).2).2).1 (F (rCmp f n (F s).2).2).2
end
/-- expression() with r brackets left -/
def ex (f : Nat → Int32) (n : Nat) (ki : Nat → Int32) (nu : Nat → Int64) : Nat → RS → Int64 × RS
  | 0 => rExp f n (rSum f n (rProd f n (rFac f n (rU f n ki nu (fun s => (0, s)) 0))))
  | r + 1 => rExp f n (rSum f n (rProd f n (rFac f n (rU f n ki nu (ex f n ki nu r) (r + 1)))))
section
variable {f : Nat → Int32} {n : Nat} {ki : Nat → Int32} {nu : Nat → Int64} {E F : RS → Int64 × RS} {s : RS}
theorem nm_ne {x y : Int32} {c : Nat} (h : nm x y = some c) : x ≠ 0 ∧ y ≠ 0 := by
  constructor
  · intro e
    subst e
    unfold nm at h
    rw [if_neg (fun w => absurd w.1.1 (by decide))] at h
    cases h
  · intro e
    subst e
    unfold nm at h
    rw [if_neg (fun w => absurd w.2.1 (by decide))] at h
    cases h
theorem rMc_1 {i c : Nat} : (rMc ki nu i c s).1 = s.1 := by
  unfold rMc
  split <;> rfl
theorem rg1_1 {i : Nat} : ∀ (k c : Nat) (s : RS), (rg1 ki nu i k c s).1 = s.1
  | 0, _, _ => rfl
  | k + 1, c, s => (rg1_1 k (c + 1) _).trans rMc_1
theorem rg2_1 {i c0 wd : Nat} : ∀ (k r : Nat) (s : RS), (rg2 ki nu i c0 wd k r s).1 = s.1
  | 0, _, _ => rfl
  | k + 1, r, s => (rg2_1 k (r + 1) _).trans (rg1_1 _ _ _)
theorem rRange_1 {i a b : Nat} : (rRange ki nu i a b s).1 = s.1 := rg2_1 _ _ _
theorem rArg_le {i : Nat} (hE : ∀ s, s.1 ≤ n → (E s).2.1 ≤ n) (hs : s.1 ≤ n) : (rArg f n ki nu E i s).1 ≤ n := by
  unfold rArg
  by_cases z : rPk f n s 2 = 58
  · rw [if_pos z]
    split
    · rename_i a b e1 e2
      rw [rRange_1]
      have := ahd_ne (f := f) (a := s.1) (n := n) (j := 4) rfl (nm_ne e2).2
      show s.1 + 5 ≤ n
      omega
    · exact Nat.le_refl _
  · rw [if_neg z]
    exact hE s hs
theorem rArgs_le {i : Nat} (hE : ∀ s, s.1 ≤ n → (E s).2.1 ≤ n) : ∀ (k : Nat) (s : RS), s.1 ≤ n → (rArgs f n ki nu E i k s).1 ≤ n := by
  intro k
  induction k with
  | zero => intro s h; exact h
  | succ k ih =>
    intro s h
    rw [rArgs]
    by_cases z : rPk f n s 0 = 44
    · rw [if_pos z]
      exact ih _ (rArg_le hE (ahd_ne (j := 0) z (by decide)))
    · rw [if_neg z]
      exact h
theorem rFun_le {w : Int32} {i : Nat} : (rFun f n ki nu E w i s).2.1 ≤ n := rNeed_le (by decide)
theorem rCh3_le : (rCh3 f n E s).1 ≤ n := rNeed_le (by decide)
theorem rChoice_le : (rChoice f n E s).2.1 ≤ n := by
  unfold rChoice
  split
  · exact rCh3_le
  · split
    · exact rCh3_le
    · exact rCh3_le
theorem rBr_le : (rBr f n E s).2.1 ≤ n := rNeed_le (by decide)
theorem rU_le {r : Nat} (hs : s.1 ≤ n) : (rU f n ki nu E r s).2.1 ≤ n := by
  unfold rU
  by_cases z : isD (rPk f n s 0)
  · rw [if_pos z]
    exact rDigits_le hs
  · rw [if_neg z]
    split
    · rename_i c e
      have := ahd_ne (f := f) (a := s.1) (n := n) (j := 1) rfl (nm_ne e).2
      show s.1 + 2 ≤ n
      omega
    · split
      · exact Nat.le_refl _
      · split
        · exact rBr_le
        · split
          · exact rChoice_le
          · split
            · exact Nat.le_refl _
            · exact rFun_le
theorem rNeg_le : ∀ (k : Nat) (b : Bool) (s : RS), s.1 ≤ n → (rNeg f n k b s).2.1 ≤ n := by
  intro k
  induction k with
  | zero => intro b s h; exact h
  | succ k ih =>
    intro b s h
    rw [rNeg]
    by_cases z : rPk f n s 0 = 45
    · rw [if_pos z]
      exact ih _ _ (ahd_ne (j := 0) z (by decide))
    · rw [if_neg z]
      exact h
theorem rFac_le (hF : ∀ s, s.1 ≤ n → (F s).2.1 ≤ n) (hs : s.1 ≤ n) : (rFac f n F s).2.1 ≤ n := hF _ (rNeg_le _ _ _ hs)
theorem rJoin_1 {op : Int32} {a : Int64} {ae : Int32} {b : Int64} : (rJoin op a ae b s).2.1 = s.1 := by
  unfold rJoin rDiv
  repeat' split
  all_goals rfl
theorem isP_ne {c : Int32} (h : isP c) : c ≠ 0 := by
  intro e
  subst e
  rcases h with h | h | h <;> exact absurd h (by decide)
theorem isA_ne {c : Int32} (h : isA c) : c ≠ 0 := by
  intro e
  subst e
  rcases h with h | h <;> exact absurd h (by decide)
theorem rLp_le {p : Int32 → Prop} [DecidablePred p] (hp : ∀ c, p c → c ≠ 0) (hF : ∀ s, s.1 ≤ n → (F s).2.1 ≤ n) : ∀ (k : Nat) (v : Int64) (s : RS), s.1 ≤ n → (rLp f n F p k v s).2.1 ≤ n := by
  intro k
  induction k with
  | zero => intro v s h; exact h
  | succ k ih =>
    intro v s h
    rw [rLp]
    by_cases z : p (rPk f n s 0)
    · rw [if_pos z]
      refine ih _ _ ?_
      rw [rJoin_1]
      exact hF _ (ahd_ne (j := 0) rfl (hp _ z))
    · rw [if_neg z]
      exact h
theorem rProd_le (hF : ∀ s, s.1 ≤ n → (F s).2.1 ≤ n) (hs : s.1 ≤ n) : (rProd f n F s).2.1 ≤ n := rLp_le (fun _ => isP_ne) hF _ _ _ (hF _ hs)
theorem rSum_le (hF : ∀ s, s.1 ≤ n → (F s).2.1 ≤ n) (hs : s.1 ≤ n) : (rSum f n F s).2.1 ≤ n := rLp_le (fun _ => isA_ne) hF _ _ _ (hF _ hs)
theorem rW_le {i : Nat} (hi : i < 8) (hw : rW f n s i) : s.1 + sLen.getD i 0 ≤ n := by
  have e : ∀ i, i < 8 → 0 < sLen.getD i 0 ∧ sChr i (sLen.getD i 0 - 1) ≠ 0 := by decide +kernel
  obtain ⟨e1, e2⟩ := e i hi
  have := ahd_ne (hw (sLen.getD i 0 - 1) (by omega)) e2
  omega
theorem rCmp_le (hs : s.1 ≤ n) : (rCmp f n s).2.1 ≤ n := by
  unfold rCmp
  split
  · rename_i w; exact rW_le (i := 5) (by decide) w
  · split
    · rename_i w; exact rW_le (i := 6) (by decide) w
    · split
      · rename_i w; exact rW_le (i := 7) (by decide) w
      · split
        · rename_i w; exact ahd_ne (j := 0) w (by decide)
        · split
          · rename_i w; exact ahd_ne (j := 0) w (by decide)
          · split
            · rename_i w; exact ahd_ne (j := 0) w (by decide)
            · exact hs
theorem rFn_le (hs : s.1 ≤ n) : (rFn f n s).2.1 ≤ n := by
  unfold rFn
  split
  · rename_i w; exact rW_le (i := 1) (by decide) w
  · split
    · rename_i w; exact rW_le (i := 2) (by decide) w
    · split
      · rename_i w; exact rW_le (i := 3) (by decide) w
      · split
        · rename_i w; exact rW_le (i := 4) (by decide) w
        · exact hs
theorem rExp_le (hF : ∀ s, s.1 ≤ n → (F s).2.1 ≤ n) (hs : s.1 ≤ n) : (rExp f n F s).2.1 ≤ n := by
  unfold rExp
  split
  · exact rCmp_le (hF _ hs)
  · rw [rJoin_1]
    exact hF _ (rCmp_le (hF _ hs))
theorem ex_le : ∀ (r : Nat) (s : RS), s.1 ≤ n → (ex f n ki nu r s).2.1 ≤ n
  | 0, _, hs => rExp_le (fun _ h => rSum_le (fun _ h => rProd_le (fun _ h => rFac_le (fun _ h => rU_le h) h) h) h) hs
  | _ + 1, _, hs => rExp_le (fun _ h => rSum_le (fun _ h => rProd_le (fun _ h => rFac_le (fun _ h => rU_le h) h) h) h) hs
end

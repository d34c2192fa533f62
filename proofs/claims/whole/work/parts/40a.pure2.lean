/-! The reference's reader as a machine: place, state, first, seen, open frames (top first), values (top first, 0 where there is no number). -/
abbrev FR : Type := Int32 × Int32 × Int32 × Int64
abbrev VL : Type := Int32 × Int64
abbrev MS : Type := Nat × Nat × Bool × Int64 × List FR × List VL
def tg (w : Int32) : Nat := if w = 20 then 4 else if w = 42 ∨ w = 47 ∨ w = 37 then 3 else if w = 43 ∨ w = 45 then 2 else if 40 < w then 1 else 0
def tl (w : Int32) : Nat := if 1 < tg w then tg w else 2
def cbn (w : Int32) (a b : Int64) : Int64 :=
  if w = 43 then a + b else if w = 45 then a - b else if w = 42 then a * b else if w = 47 then a / b else if w = 37 then a - a / b * b
  else if w = 60 then (if a < b then 1 else 0) else if w = 62 then (if b < a then 1 else 0) else if w = 61 then (if a = b then 1 else 0)
  else if w = 160 then (if a ≤ b then 1 else 0) else if w = 162 then (if b ≤ a then 1 else 0) else (if a = b then 0 else 1)
def cmb (w : Int32) (u v : VL) : VL := if u.1 ≠ 1 then u else if v.1 ≠ 1 then (v.1, 0) else if (w = 47 ∨ w = 37) ∧ v.2 = 0 then (2, 0) else (1, cbn w u.2 v.2)
def aV (w : Int32) : List VL → List VL
  | [] => []
  | v :: V => if w = 20 then (v.1, -v.2) :: V else match V with
    | [] => []
    | u :: V' => cmb w u v :: V'
def stl (t : Nat) : List FR → List VL → List FR × List VL
  | [], V => ([], V)
  | fr :: O, V => if t ≤ tg fr.1 then stl t O (aV fr.1 V) else (fr :: O, V)
def tpt : List FR → Nat
  | [] => 0
  | fr :: _ => tg fr.1
def br : List FR → Nat
  | [] => 0
  | fr :: O => br O + (if tg fr.1 = 0 then 1 else 0)
def fld (fr : FR) (k : Int32) (x : Int64) : FR :=
  if 0 < fr.2.2.1 ∨ k = 0 then fr else if 1 < k then (fr.1, fr.2.1, k, fr.2.2.2)
  else (fr.1, fr.2.1 + 1, fr.2.2.1, if fr.1 = 9 then fr.2.2.2 + x else if fr.2.1 = 0 ∨ (fr.1 = 10 ∧ x < fr.2.2.2) ∨ (fr.1 ≠ 10 ∧ fr.2.2.2 < x) then x else fr.2.2.2)
def fink (fr : FR) : Int32 := if 0 < fr.2.2.1 then fr.2.2.1 else if fr.2.1 = 0 ∧ (fr.1 = 10 ∨ fr.1 = 11) then 3 else 1
def fin (fr : FR) : VL := (fink fr, if fink fr = 1 then (if fr.1 = 12 then fr.2.1.toInt64 else fr.2.2.2) else 0)
abbrev bit1 (c : Nat) : Int64 := (1 : Int64) <<< Int64.ofNat c
def mg1 (ki : Nat → Int32) (nu : Nat → Int64) : Nat → Nat → FR → Int64 → FR × Int64
  | 0, _, fr, se => (fr, se)
  | k + 1, c, fr, se => mg1 ki nu k (c + 1) (fld fr (ki c) (nu c)) (se ||| bit1 c)
def mg2 (ki : Nat → Int32) (nu : Nat → Int64) (c0 wd : Nat) : Nat → Nat → FR → Int64 → FR × Int64
  | 0, _, fr, se => (fr, se)
  | k + 1, r, fr, se => mg2 ki nu c0 wd k (r + 1) (mg1 ki nu wd (8 * r + c0) fr se).1 (mg1 ki nu wd (8 * r + c0) fr se).2
def mRange (ki : Nat → Int32) (nu : Nat → Int64) (a b : Nat) (fr : FR) (se : Int64) : FR × Int64 :=
  mg2 ki nu (min (a % 8) (b % 8)) (max (a % 8) (b % 8) + 1 - min (a % 8) (b % 8)) (max (a / 8) (b / 8) + 1 - min (a / 8) (b / 8)) (min (a / 8) (b / 8)) fr se
def sgA (c d : Int32) : Int32 × Nat :=
  if (c = 60 ∧ d = 62) ∨ ((c = 60 ∨ c = 62) ∧ d = 61) then (if d = 62 then 300 else 100 + c, 2)
  else (if c = 43 ∨ c = 45 ∨ c = 42 ∨ c = 47 ∨ c = 37 ∨ c = 60 ∨ c = 62 ∨ c = 61 then c else 0, 1)
def chs : List VL → List VL
  | v3 :: v2 :: v1 :: V => (if v1.1 = 1 then (if v1.2 = 0 then v3 else v2) else v1) :: V
  | V => V
section
variable (f : Nat → Int32) (n : Nat) (ki : Nat → Int32) (nu : Nat → Int64)
def mDg : Nat → Int64 → Nat → Int64 × Nat
  | 0, v, a => (v, a)
  | k + 1, v, a => if isD (ahd f a n 0) then mDg k (if v < 10000000000 then 10 * v + (ahd f a n 0).toInt64 - 48 else v) (a + 1) else (v, a)
abbrev aW (a i : Nat) : Prop := ∀ j, j < sLen.getD i 0 → ahd f a n j = sChr i j
def cv (c : Nat) : VL := (if ki c = 0 then 1 else ki c, if ki c = 0 then 0 else nu c)
def mBg (a : Nat) (se : Int64) (O : List FR) (V : List VL) (w : Int32) (len : Nat) (fi : Bool) : Option MS := some (a + len, 0, fi, se, (w, 0, 0, 0) :: O, V)
def mName (a : Nat) (fi : Bool) (se : Int64) (O : List FR) (V : List VL) (c : Nat) : Option MS :=
  if fi = true ∧ ahd f a n 2 = 58 then
    (match nm (ahd f a n 3) (ahd f a n 4), O with
    | some b, fr :: O' => some (a + 5, 2, false, (mRange ki nu c b fr se).2, (mRange ki nu c b fr se).1 :: O', V)
    | _, _ => none)
  else some (a + 2, 1, false, se ||| bit1 c, O, cv ki nu c :: V)
def mOpen (a : Nat) (se : Int64) (O : List FR) (V : List VL) : Option MS :=
  if 7 < br O then none
  else if ahd f a n 0 = 40 then mBg a se O V 1 1 false
  else if aW f n a 0 then mBg a se O V 2 3 false
  else if aW f n a 1 then mBg a se O V 9 4 true
  else if aW f n a 2 then mBg a se O V 10 4 true
  else if aW f n a 3 then mBg a se O V 11 4 true
  else if aW f n a 4 then mBg a se O V 12 6 true
  else none
def mFactor (a : Nat) (fi : Bool) (se : Int64) (O : List FR) (V : List VL) : Option MS :=
  if ahd f a n 0 = 45 then mBg a se O V 20 1 false
  else if isD (ahd f a n 0) then
    (if a < (mDg f n (n - a) 0 a).2 ∧ (mDg f n (n - a) 0 a).2 ≤ a + 9 then some ((mDg f n (n - a) 0 a).2, 1, false, se, O, (1, (mDg f n (n - a) 0 a).1) :: V) else none)
  else match nm (ahd f a n 0) (ahd f a n 1) with
    | some c => mName f n ki nu a fi se O V c
    | none => mOpen f n a se O V
def mClose (a st : Nat) (fi : Bool) (se : Int64) (O : List FR) (V : List VL) : Option MS :=
  match O with
  | [] => none
  | fr :: O' =>
    if 9 ≤ fr.1 ∧ fr.1 ≤ 12 then
      (if ahd f a n 0 = 44 then some (a + 1, 0, true, se, (if st = 1 then fld fr (V.headD (0, 0)).1 (V.headD (0, 0)).2 else fr) :: O', if st = 1 then V.tail else V)
      else some (a + 1, 1, fi, se, O', fin (if st = 1 then fld fr (V.headD (0, 0)).1 (V.headD (0, 0)).2 else fr) :: (if st = 1 then V.tail else V)))
    else if fr.1 = 2 then
      (if ahd f a n 0 = 44 then (if 2 < fr.2.1 + 1 then none else some (a + 1, 0, fi, se, (fr.1, fr.2.1 + 1, fr.2.2) :: O', V))
      else (if fr.2.1 + 1 = 3 then some (a + 1, 1, fi, se, O', chs V) else none))
    else if fr.1 = 1 ∧ ahd f a n 0 ≠ 44 then some (a + 1, st, fi, se, O', V) else none
def mSgn (a : Nat) (se : Int64) (O : List FR) (V : List VL) (w : Int32) (len : Nat) : Option MS :=
  if w = 0 then none
  else if tg w = 1 ∧ tpt (stl (tl w) O V).1 = 1 then none
  else mBg a se (stl (tl w) O V).1 (stl (tl w) O V).2 w len false
def mSign (a : Nat) (fi : Bool) (se : Int64) (O : List FR) (V : List VL) : Option MS :=
  if ahd f a n 0 = 44 ∨ ahd f a n 0 = 41 then mClose f n a 1 fi se (stl 1 O V).1 (stl 1 O V).2
  else mSgn a se O V (sgA (ahd f a n 0) (ahd f a n 1)).1 (sgA (ahd f a n 0) (ahd f a n 1)).2
def mStep (m : MS) : Option MS :=
  if m.2.1 = 0 then mFactor f n ki nu m.1 m.2.2.1 m.2.2.2.1 m.2.2.2.2.1 m.2.2.2.2.2
  else if m.2.1 = 1 then mSign f n m.1 m.2.2.1 m.2.2.2.1 m.2.2.2.2.1 m.2.2.2.2.2
  else if ahd f m.1 n 0 = 44 ∨ ahd f m.1 n 0 = 41 then mClose f n m.1 m.2.1 m.2.2.1 m.2.2.2.1 m.2.2.2.2.1 m.2.2.2.2.2
  else none
def mEnd (m : MS) : Option (VL × Int64) :=
  if m.2.1 = 1 then (match stl 1 m.2.2.2.2.1 m.2.2.2.2.2 with
    | ([], v :: _) => some (v, m.2.2.2.1)
    | _ => none)
  else none
def mRun : Nat → MS → Option (VL × Int64)
  | 0, _ => none
  | k + 1, m => if m.1 < n then (match mStep f n ki nu m with
    | none => none
    | some m' => mRun k m')
    else mEnd m
def Run (m : MS) : Option (VL × Int64) := mRun f n ki nu (n - m.1 + 1) m
end
section
variable {f : Nat → Int32} {n : Nat} {ki : Nat → Int32} {nu : Nat → Int64}
theorem mDg_lt : ∀ (k : Nat) (v : Int64) (a : Nat), a ≤ (mDg f n k v a).2
  | 0, _, _ => Nat.le_refl _
  | k + 1, v, a => by
    rw [mDg]
    split
    · have := mDg_lt k (if v < 10000000000 then 10 * v + (ahd f a n 0).toInt64 - 48 else v) (a + 1)
      omega
    · exact Nat.le_refl _
theorem mClose_lt {a st : Nat} {fi : Bool} {se : Int64} {O : List FR} {V : List VL} {m' : MS} (h : mClose f n a st fi se O V = some m') : m'.1 = a + 1 := by
  unfold mClose at h
  repeat' split at h
  all_goals first
    | (cases h; rfl)
    | cases h
theorem sgA_lt {c d : Int32} : 0 < (sgA c d).2 := by
  unfold sgA
  split
  · exact Nat.zero_lt_succ _
  · exact Nat.zero_lt_succ _
theorem mStep_lt {m m' : MS} (h : mStep f n ki nu m = some m') : m.1 < m'.1 := by
  unfold mStep at h
  split at h
  · unfold mFactor mName mOpen mBg at h
    repeat' split at h
    all_goals first
      | (cases h; show m.1 < m.1 + _; omega)
      | (rename_i z; cases h; exact z.1)
      | cases h
  · split at h
    · unfold mSign at h
      split at h
      · have := mClose_lt h
        omega
      · unfold mSgn mBg at h
        have := sgA_lt (c := ahd f m.1 n 0) (d := ahd f m.1 n 1)
        split at h
        · cases h
        · split at h
          · cases h
          · cases h
            show m.1 < m.1 + _
            omega
    · split at h
      · have := mClose_lt h
        omega
      · cases h
theorem mRun_fuel : ∀ (k : Nat) (m : MS), n - m.1 < k → mRun f n ki nu k m = Run f n ki nu m := by
  intro k
  induction k using Nat.strongRecOn with
  | _ k ih =>
    intro m hk
    match k, hk with
    | k + 1, hk =>
      unfold Run
      rw [mRun, mRun]
      by_cases z : m.1 < n
      · rw [if_pos z, if_pos z]
        cases e : mStep f n ki nu m with
        | none => rfl
        | some m' =>
          have hl := mStep_lt e
          show mRun f n ki nu k m' = mRun f n ki nu (n - m.1) m'
          rw [ih k (by omega) m' (by omega)]
          by_cases z2 : n - m.1 < k + 1
          · rw [ih (n - m.1) z2 m' (by omega)]
          · omega
      · rw [if_neg z, if_neg z]
theorem Run_step {m m' : MS} (h : m.1 < n) (e : mStep f n ki nu m = some m') : Run f n ki nu m = Run f n ki nu m' := by
  have hl := mStep_lt e
  rw [show Run f n ki nu m = mRun f n ki nu (n - m.1 + 1) m from rfl, mRun, if_pos h, e]
  exact mRun_fuel _ _ (by omega)
theorem Run_none {m : MS} (h : m.1 < n) (e : mStep f n ki nu m = none) : Run f n ki nu m = none := by
  rw [show Run f n ki nu m = mRun f n ki nu (n - m.1 + 1) m from rfl, mRun, if_pos h, e]
theorem Run_end {m : MS} (h : ¬ m.1 < n) : Run f n ki nu m = mEnd m := by
  rw [show Run f n ki nu m = mRun f n ki nu (n - m.1 + 1) m from rfl, mRun, if_neg h]
end

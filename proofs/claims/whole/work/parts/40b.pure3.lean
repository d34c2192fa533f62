/-! The class's reader and the reference's machine answer alike. -/
theorem tg_le (w : Int32) : tg w ≤ 4 := by
  unfold tg
  repeat' split
  all_goals omega
theorem stl_lt {t : Nat} {O : List FR} {V : List VL} (h : tpt O < t) : stl t O V = (O, V) := by
  cases O with
  | nil => rfl
  | cons fr O =>
    rw [stl, if_neg (Nat.not_le.mpr (show tg fr.1 < t from h))]
theorem stl_le {t t' : Nat} (h : t ≤ t') : ∀ (O : List FR) (V : List VL), stl t (stl t' O V).1 (stl t' O V).2 = stl t O V
  | [], _ => rfl
  | fr :: O, V => by
    rw [stl]
    by_cases z : t' ≤ tg fr.1
    · rw [if_pos z, stl_le h O]
      conv => rhs; rw [stl]
      rw [if_pos (Nat.le_trans h z)]
    · rw [if_neg z]
theorem stl_to {t t' : Nat} (h : t ≤ t') {O O' : List FR} {V V' : List VL} (e : stl t' O V = (O', V')) : stl t O V = stl t O' V' := by
  have := stl_le h O V
  rw [e] at this
  exact this.symm
theorem stl_5 {O : List FR} {V : List VL} : stl 5 O V = (O, V) := by
  cases O with
  | nil => rfl
  | cons fr O =>
    have := tg_le fr.1
    rw [stl, if_neg (by omega)]
/-- an error, or none; with one the number is 0 -/
def NE (x : Int64) (e : Int32) : Prop := e = 0 ∨ ((e = 1 ∨ e = 2) ∧ x = 0)
def mop (op : Int32) : Int32 := if op = 1 then 300 else if op = 2 then 160 else if op = 3 then 162 else op
theorem NE_ne {x : Int64} {e : Int32} (h : NE x e) (z : e ≠ 0) : x = 0 ∧ 1 + e ≠ 1 := by
  rcases h with h | ⟨h | h, hx⟩
  · exact absurd h z
  · exact ⟨hx, by rw [h]; decide⟩
  · exact ⟨hx, by rw [h]; decide⟩
theorem NE_0 {x : Int64} : NE x 0 := Or.inl rfl
theorem rJoin_er {op : Int32} {a : Int64} {ae : Int32} {b : Int64} {s : RS} : (rJoin op a ae b s).2 = rEr s (rJoin op a ae b s).2.2.2.2.1 := by
  unfold rJoin rDiv
  repeat' split
  all_goals rfl
theorem join_ok {op : Int32} {a : Int64} {ae : Int32} {b : Int64} {s : RS} (ha : NE a ae) (hb : NE b s.2.2.2.1) (ho : op = 43 ∨ op = 45 ∨ op = 42 ∨ op = 47 ∨ op = 37 ∨ op = 1 ∨ op = 2 ∨ op = 3 ∨ op = 60 ∨ op = 62 ∨ op = 61) :
    cmb (mop op) (1 + ae, a) (1 + s.2.2.2.1, b) = (1 + (rJoin op a ae b s).2.2.2.2.1, (rJoin op a ae b s).1) ∧ NE (rJoin op a ae b s).1 (rJoin op a ae b s).2.2.2.2.1 := by
  unfold cmb rJoin
  by_cases z1 : ae = 0
  · subst z1
    rw [if_neg (show ¬ ((1 : Int32) + 0, a).1 ≠ 1 from (by decide : ¬ ((1 : Int32) + 0 ≠ 1))), if_neg (show ¬ (0 : Int32) ≠ 0 by decide)]
    by_cases z2 : s.2.2.2.1 = 0
    · rw [if_neg (show ¬ ((1 : Int32) + s.2.2.2.1, b).1 ≠ 1 by rw [z2]; exact (by decide : ¬ ((1 : Int32) + 0 ≠ 1))), if_neg (show ¬ s.2.2.2.1 ≠ 0 from fun w => w z2)]
      rcases ho with rfl | rfl | rfl | rfl | rfl | rfl | rfl | rfl | rfl | rfl | rfl
      · rw [if_neg (fun w => absurd w.1 (by decide)), if_pos rfl]
        exact ⟨by rw [z2]; rfl, by rw [z2]; exact NE_0⟩
      · rw [if_neg (fun w => absurd w.1 (by decide)), if_neg (by decide), if_pos rfl]
        exact ⟨by rw [z2]; rfl, by rw [z2]; exact NE_0⟩
      · rw [if_neg (fun w => absurd w.1 (by decide)), if_neg (by decide), if_neg (by decide), if_pos rfl]
        exact ⟨by rw [z2]; rfl, by rw [z2]; exact NE_0⟩
      · rw [if_neg (show ¬ (47 : Int32) = 43 by decide), if_neg (show ¬ (47 : Int32) = 45 by decide), if_neg (show ¬ (47 : Int32) = 42 by decide), if_pos (show (47 : Int32) = 47 ∨ (47 : Int32) = 37 from Or.inl rfl)]
        unfold rDiv
        by_cases z3 : b = 0
        · rw [if_pos ⟨by decide, z3⟩, if_pos z3]
          exact ⟨rfl, Or.inr ⟨Or.inl rfl, rfl⟩⟩
        · rw [if_neg (fun w => z3 w.2), if_neg z3]
          exact ⟨by rw [z2]; rfl, by rw [z2]; exact NE_0⟩
      · rw [if_neg (show ¬ (37 : Int32) = 43 by decide), if_neg (show ¬ (37 : Int32) = 45 by decide), if_neg (show ¬ (37 : Int32) = 42 by decide), if_pos (show (37 : Int32) = 47 ∨ (37 : Int32) = 37 from Or.inr rfl)]
        unfold rDiv
        by_cases z3 : b = 0
        · rw [if_pos ⟨by decide, z3⟩, if_pos z3]
          exact ⟨rfl, Or.inr ⟨Or.inl rfl, rfl⟩⟩
        · rw [if_neg (fun w => z3 w.2), if_neg z3]
          exact ⟨by rw [z2]; rfl, by rw [z2]; exact NE_0⟩
      all_goals
        rw [if_neg (fun w => absurd w.1 (by decide)), if_neg (by decide), if_neg (by decide), if_neg (by decide), if_neg (by decide)]
        refine ⟨?_, by rw [z2]; exact NE_0⟩
        rw [z2]
        refine congrArg (Prod.mk _) ?_
      · show (if a = b then (0 : Int64) else 1) = if decide (a ≠ b) = true then 1 else 0
        by_cases z : a = b
        · rw [if_pos z, if_neg (by simp [z])]
        · rw [if_neg z, if_pos (by simp [z])]
      · show (if a ≤ b then (1 : Int64) else 0) = if decide (a ≤ b) = true then 1 else 0
        by_cases z : a ≤ b
        · rw [if_pos z, if_pos (by simp [z])]
        · rw [if_neg z, if_neg (by simp [z])]
      · show (if b ≤ a then (1 : Int64) else 0) = if decide (b ≤ a) = true then 1 else 0
        by_cases z : b ≤ a
        · rw [if_pos z, if_pos (by simp [z])]
        · rw [if_neg z, if_neg (by simp [z])]
      · show (if a < b then (1 : Int64) else 0) = if decide (a < b) = true then 1 else 0
        by_cases z : a < b
        · rw [if_pos z, if_pos (by simp [z])]
        · rw [if_neg z, if_neg (by simp [z])]
      · show (if b < a then (1 : Int64) else 0) = if decide (b < a) = true then 1 else 0
        by_cases z : b < a
        · rw [if_pos z, if_pos (by simp [z])]
        · rw [if_neg z, if_neg (by simp [z])]
      · show (if a = b then (1 : Int64) else 0) = if decide (a = b) = true then 1 else 0
        by_cases z : a = b
        · rw [if_pos z, if_pos (by simp [z])]
        · rw [if_neg z, if_neg (by simp [z])]
    · obtain ⟨-, k2⟩ := NE_ne hb z2
      rw [if_pos (show ((1 : Int32) + s.2.2.2.1, b).1 ≠ 1 from k2), if_pos z2]
      refine ⟨rfl, ?_⟩
      rcases hb with h | h
      · exact absurd h z2
      · exact Or.inr ⟨h.1, rfl⟩
  · obtain ⟨k1, k2⟩ := NE_ne ha z1
    rw [if_pos (show ((1 : Int32) + ae, a).1 ≠ 1 from k2), if_pos z1]
    refine ⟨by rw [k1]; rfl, ?_⟩
    rcases ha with h | h
    · exact absurd h z1
    · exact Or.inr ⟨h.1, rfl⟩

section
variable (f : Nat → Int32) (n : Nat) (ki : Nat → Int32) (nu : Nat → Int64)
/-- how a part of the grammar, read by the class with result q from s, and the machine go together -/
def Res (r L : Nat) (nx : RS → List FR → List VL → Prop) (s : RS) (fi : Bool) (O : List FR) (V : List VL) (q : Int64 × RS) : Prop :=
  (q.2.2.1 = 1 ∧ Run f n ki nu (s.1, 0, fi, s.2.2.1, O, V) = none) ∨
  (q.2.2.1 = 0 ∧ NE q.1 q.2.2.2.2.1 ∧ s.1 < q.2.1 ∧ q.2.1 ≤ n ∧ (∀ j, j + r ≤ 8 → q.2.2.2.2.2 j = s.2.2.2.2 j) ∧
    ∃ O' V', Run f n ki nu (s.1, 0, fi, s.2.2.1, O, V) = Run f n ki nu (q.2.1, 1, false, q.2.2.2.1, O', V') ∧ stl L O' V' = (O, (1 + q.2.2.2.2.1, q.1) :: V) ∧ nx q.2 O' V')
def Sim (X : RS → Int64 × RS) (r L : Nat) (nx : RS → List FR → List VL → Prop) : Prop :=
  ∀ (s : RS) (O : List FR) (V : List VL), s.2.1 = 0 → s.1 ≤ n → br O + r = 8 → tpt O < L → Res f n ki nu r L nx s false O V (X s)
def Wr (X : RS → Int64 × RS) : Prop := ∀ s : RS, s.2.1 = 1 → (X s).2.2.1 = 1
def nxT : RS → List FR → List VL → Prop := fun _ _ _ => True
def nxP : RS → List FR → List VL → Prop := fun s _ _ => ¬ isP (rPk f n s 0)
def nxA : RS → List FR → List VL → Prop := fun s _ _ => ¬ isP (rPk f n s 0) ∧ ¬ isA (rPk f n s 0)
def nxE : RS → List FR → List VL → Prop := fun s O V => s.1 < n → rPk f n s 0 = 44 ∨ rPk f n s 0 = 41 ∨ mStep f n ki nu (s.1, 1, false, s.2.2.1, O, V) = none
end
section
variable {f : Nat → Int32} {n : Nat} {ki : Nat → Int32} {nu : Nat → Int64} {F : RS → Int64 × RS}
theorem rNeg_w : ∀ (k : Nat) (b : Bool) (s : RS), (rNeg f n k b s).2.2 = s.2
  | 0, _, _ => rfl
  | k + 1, b, s => by
    rw [rNeg]
    split
    · exact rNeg_w k (!b) (rAd s 1)
    · rfl
theorem Wr_fac (h : Wr F) : Wr (rFac f n F) := fun s hs => h _ (by rw [rNeg_w]; exact hs)
theorem rJoin_w {op : Int32} {a : Int64} {ae : Int32} {b : Int64} {s : RS} : (rJoin op a ae b s).2.2.1 = s.2.1 := by
  rw [rJoin_er]; rfl
theorem Wr_lp {p : Int32 → Prop} [DecidablePred p] (h : Wr F) : ∀ (k : Nat) (v : Int64) (s : RS), s.2.1 = 1 → (rLp f n F p k v s).2.2.1 = 1 := by
  intro k
  induction k with
  | zero => intro v s hs; exact hs
  | succ k ih =>
    intro v s hs
    rw [rLp]
    split
    · exact ih _ _ (by rw [rJoin_w]; exact h _ hs)
    · exact hs
theorem Wr_prod (h : Wr F) : Wr (rProd f n F) := fun s hs => Wr_lp h _ _ _ (h s hs)
theorem Wr_sum (h : Wr F) : Wr (rSum f n F) := fun s hs => Wr_lp h _ _ _ (h s hs)
theorem rCmp_w {s : RS} : (rCmp f n s).2.2 = s.2 := by
  unfold rCmp
  repeat' split
  all_goals rfl
theorem Wr_exp (h : Wr F) : Wr (rExp f n F) := by
  intro s hs
  unfold rExp
  split
  · rw [rCmp_w]; exact h s hs
  · rw [rJoin_w]; exact h _ (by rw [rCmp_w]; exact h s hs)
/-- signs before a factor -/
def sgn (b b' : Bool) (x : Int64) : Int64 := if b = b' then x else -x
theorem sgn_not (b b' : Bool) (x : Int64) : -(sgn (!b) b' x) = sgn b b' x := by
  cases b <;> cases b' <;> simp [sgn]
theorem sgn_ne {b b' : Bool} {x : Int64} {e : Int32} (h : NE x e) : NE (sgn b b' x) e := by
  rcases h with h | ⟨h, rfl⟩
  · exact Or.inl h
  · refine Or.inr ⟨h, ?_⟩
    unfold sgn
    split
    · rfl
    · decide
theorem neg_sim {V : List VL} : ∀ (k : Nat) (b : Bool) (s : RS) (O : List FR), n - s.1 ≤ k → s.1 ≤ n →
    ∃ O1, Run f n ki nu (s.1, 0, false, s.2.2.1, O, V) = Run f n ki nu ((rNeg f n k b s).2.1, 0, false, s.2.2.1, O1, V) ∧ br O1 = br O ∧ rPk f n (rNeg f n k b s).2 0 ≠ 45 ∧ s.1 ≤ (rNeg f n k b s).2.1 ∧ (rNeg f n k b s).2.1 ≤ n ∧ ∀ (e : Int32) (x : Int64), stl 4 O1 ((e, x) :: V) = stl 4 O ((e, sgn b (rNeg f n k b s).1 x) :: V) := by
  intro k
  induction k with
  | zero =>
    intro b s O hk hs
    refine ⟨O, rfl, rfl, ?_, Nat.le_refl _, hs, fun e x => by rw [rNeg]; simp [sgn]⟩
    intro w
    have : s.1 + 0 < n := ahd_ne (f := f) (j := 0) w (by decide)
    omega
  | succ k ih =>
    intro b s O hk hs
    rw [rNeg]
    by_cases z : rPk f n s 0 = 45
    · rw [if_pos z]
      have hlt : s.1 + 0 < n := ahd_ne (f := f) (j := 0) z (by decide)
      obtain ⟨O1, g1, g2, g3, g4, g5, g6⟩ := ih (!b) (rAd s 1) ((20, 0, 0, 0) :: O) (show n - (s.1 + 1) ≤ k by omega) (show s.1 + 1 ≤ n by omega)
      refine ⟨O1, ?_, ?_, g3, ?_, g5, ?_⟩
      · refine Eq.trans (Run_step (show s.1 < n by omega) ?_) g1
        unfold mStep mFactor mBg
        rw [if_pos rfl, if_pos (show ahd f s.1 n 0 = 45 from z)]
        rfl
      · rw [g2, br, if_neg (by decide)]
        rfl
      · have : s.1 + 1 ≤ _ := g4
        omega
      · intro e x
        rw [g6, stl, if_pos (by decide)]
        show stl 4 O ((e, -(sgn (!b) _ x)) :: V) = _
        rw [sgn_not]
    · rw [if_neg z]
      exact ⟨O, rfl, rfl, z, Nat.le_refl _, hs, fun e x => by simp [sgn]⟩
/-- what the unsigned factor must give: as Sim, where no sign stands next -/
def SimU (f : Nat → Int32) (n : Nat) (ki : Nat → Int32) (nu : Nat → Int64) (X : RS → Int64 × RS) (r : Nat) : Prop :=
  ∀ (s : RS) (O : List FR) (V : List VL), s.2.1 = 0 → s.1 ≤ n → br O + r = 8 → rPk f n s 0 ≠ 45 → Res f n ki nu r 5 nxT s false O V (X s)
theorem Sim_fac {r : Nat} (hn : n ≤ 40) (h : SimU f n ki nu F r) : Sim f n ki nu (rFac f n F) r 4 nxT := by
  intro s O V hw hs hb ht
  obtain ⟨O1, g1, g2, g3, g4, g5, g6⟩ := neg_sim (f := f) (n := n) (ki := ki) (nu := nu) (V := V) 40 false s O (by omega) hs
  have hw2 := rNeg_w (f := f) (n := n) 40 false s
  unfold rFac
  generalize rNeg f n 40 false s = q at g1 g3 g4 g5 g6 hw2 ⊢
  obtain ⟨b, s1⟩ := q
  obtain ⟨a1, t1⟩ := s1
  subst hw2
  have hU := h (a1, s.2) O1 V hw g5 (by omega) g3
  rcases hU with ⟨k1, k2⟩ | ⟨k1, k2, k3, k4, k5, O', V', k6, k7, -⟩
  · exact Or.inl ⟨k1, g1.trans k2⟩
  · rw [stl_5] at k7
    obtain ⟨rfl, rfl⟩ := Prod.mk.inj k7
    have ex : (if b = true then -(F (a1, s.2)).1 else (F (a1, s.2)).1) = sgn false b (F (a1, s.2)).1 := by cases b <;> rfl
    refine Or.inr ⟨k1, ?_, ?_, k4, k5, O', _, g1.trans k6, ?_, trivial⟩
    · show NE (if b = true then -(F (a1, s.2)).1 else (F (a1, s.2)).1) _
      rw [ex]
      exact sgn_ne k2
    · exact Nat.lt_of_le_of_lt g4 k3
    · show stl 4 _ _ = (O, (_, if b = true then -(F (a1, s.2)).1 else (F (a1, s.2)).1) :: V)
      rw [g6, stl_lt ht, ex]
end

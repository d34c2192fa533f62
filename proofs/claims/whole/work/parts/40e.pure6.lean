section
variable {f : Nat → Int32} {n : Nat} {ki : Nat → Int32} {nu : Nat → Int64} {F : RS → Int64 × RS}
/-- the operators of a loop -/
def Ops (p : Int32 → Prop) (L : Nat) : Prop := ∀ c d, p c → sgA c d = (c, 1) ∧ tg c = L ∧ c ≠ 0 ∧ c ≠ 44 ∧ c ≠ 41 ∧ mop c = c ∧ (c = 43 ∨ c = 45 ∨ c = 42 ∨ c = 47 ∨ c = 37 ∨ c = 1 ∨ c = 2 ∨ c = 3 ∨ c = 60 ∨ c = 62 ∨ c = 61)
theorem sgA_1 {c d : Int32} (h1 : c ≠ 60) (h2 : c ≠ 62) (h : c = 43 ∨ c = 45 ∨ c = 42 ∨ c = 47 ∨ c = 37 ∨ c = 60 ∨ c = 62 ∨ c = 61) : sgA c d = (c, 1) := by
  unfold sgA
  rw [if_neg (fun w => w.elim (fun w => h1 w.1) (fun w => w.1.elim h1 h2)), if_pos h]
theorem Ops_P : Ops isP 3 := by
  intro c d h
  rcases h with rfl | rfl | rfl
  · exact ⟨sgA_1 (by decide) (by decide) (by decide), by decide, by decide, by decide, by decide, by decide, by decide⟩
  · exact ⟨sgA_1 (by decide) (by decide) (by decide), by decide, by decide, by decide, by decide, by decide, by decide⟩
  · exact ⟨sgA_1 (by decide) (by decide) (by decide), by decide, by decide, by decide, by decide, by decide, by decide⟩
theorem Ops_A : Ops isA 2 := by
  intro c d h
  rcases h with rfl | rfl
  · exact ⟨sgA_1 (by decide) (by decide) (by decide), by decide, by decide, by decide, by decide, by decide, by decide⟩
  · exact ⟨sgA_1 (by decide) (by decide) (by decide), by decide, by decide, by decide, by decide, by decide, by decide⟩
theorem lp_sim {p : Int32 → Prop} [DecidablePred p] {r L : Nat} {nf : Nat → Prop} {O : List FR} {V : List VL} (hp : Ops p L) (hL : 2 ≤ L) (hF : Sim f n ki nu F r (L + 1) (fun s _ _ => nf s.1)) (hFw : Wr F) (hb : br O + r = 8) (ht : tpt O < L) :
    ∀ (k : Nat) (v : Int64) (s : RS) (O' : List FR) (V' : List VL), n - s.1 ≤ k → s.2.1 = 0 → s.1 ≤ n → NE v s.2.2.2.1 → stl L O' V' = (O, (1 + s.2.2.2.1, v) :: V) → nf s.1 →
    (((rLp f n F p k v s).2.2.1 = 1 ∧ Run f n ki nu (s.1, 1, false, s.2.2.1, O', V') = none) ∨
    ((rLp f n F p k v s).2.2.1 = 0 ∧ NE (rLp f n F p k v s).1 (rLp f n F p k v s).2.2.2.2.1 ∧ s.1 ≤ (rLp f n F p k v s).2.1 ∧ (rLp f n F p k v s).2.1 ≤ n ∧ (∀ j, j + r ≤ 8 → (rLp f n F p k v s).2.2.2.2.2 j = s.2.2.2.2 j) ∧
      ∃ O2 V2, Run f n ki nu (s.1, 1, false, s.2.2.1, O', V') = Run f n ki nu ((rLp f n F p k v s).2.1, 1, false, (rLp f n F p k v s).2.2.2.1, O2, V2) ∧ stl L O2 V2 = (O, (1 + (rLp f n F p k v s).2.2.2.2.1, (rLp f n F p k v s).1) :: V) ∧ nf (rLp f n F p k v s).2.1 ∧ ¬ p (rPk f n (rLp f n F p k v s).2 0))) := by
  intro k
  induction k with
  | zero =>
    intro v s O' V' hk hw hs hv he hx
    refine Or.inr ⟨hw, hv, Nat.le_refl _, hs, fun _ _ => rfl, O', V', rfl, he, hx, ?_⟩
    intro w
    have h0 := (hp _ 0 w).2.2.1
    have : s.1 + 0 < n := ahd_ne (f := f) (j := 0) rfl h0
    omega
  | succ k ih =>
    intro v s O' V' hk hw hs hv he hx
    rw [rLp]
    by_cases z : p (rPk f n s 0)
    · rw [if_pos z]
      obtain ⟨c1, c2, c3, c4, c5, c6, c7⟩ := hp _ (rPk f n s 1) z
      have hlt : s.1 + 0 < n := ahd_ne (f := f) (j := 0) rfl c3
      have hstep : Run f n ki nu (s.1, 1, false, s.2.2.1, O', V') = Run f n ki nu (s.1 + 1, 0, false, s.2.2.1, (rPk f n s 0, 0, 0, 0) :: O, (1 + s.2.2.2.1, v) :: V) := by
        refine Run_step (show s.1 < n by omega) ?_
        unfold mStep mSign
        rw [if_neg (show ¬ (1 : Nat) = 0 by decide), if_pos rfl]
        rw [if_neg (show ¬ (ahd f s.1 n 0 = 44 ∨ ahd f s.1 n 0 = 41) from fun w => w.elim c4 c5)]
        rw [show sgA (ahd f s.1 n 0) (ahd f s.1 n 1) = (rPk f n s 0, 1) from c1]
        unfold mSgn mBg
        have etl : tl (rPk f n s 0) = L := by unfold tl; rw [c2, if_pos (by omega)]
        rw [if_neg c3, c2, etl, he, if_neg (by omega)]
      have hF1 := hF (rAd s 1) ((rPk f n s 0, 0, 0, 0) :: O) ((1 + s.2.2.2.1, v) :: V) hw (show s.1 + 1 ≤ n by omega) (by rw [br, if_neg (by rw [c2]; omega)]; exact hb) (show tg (rPk f n s 0) < L + 1 by omega)
      rcases hF1 with ⟨k1, k2⟩ | ⟨k1, k2, k3, k4, k5, O2, V2, k6, k7, k8⟩
      · refine Or.inl ⟨Wr_lp hFw _ _ _ (by rw [rJoin_w]; exact k1), hstep.trans k2⟩
      · obtain ⟨j1, j2⟩ := join_ok (op := rPk f n s 0) (a := v) (ae := s.2.2.2.1) (b := (F (rAd s 1)).1) (s := (F (rAd s 1)).2) hv k2 c7
        rw [c6] at j1
        have je := rJoin_er (op := rPk f n s 0) (a := v) (ae := s.2.2.2.1) (b := (F (rAd s 1)).1) (s := (F (rAd s 1)).2)
        generalize rJoin (rPk f n s 0) v s.2.2.2.1 (F (rAd s 1)).1 (F (rAd s 1)).2 = J at j1 j2 je ⊢
        obtain ⟨x, t⟩ := J
        have et : t = rEr (F (rAd s 1)).2 t.2.2.2.1 := je
        have e1 : t.1 = (F (rAd s 1)).2.1 := by rw [et]; rfl
        have e2 : t.2.1 = (F (rAd s 1)).2.2.1 := by rw [et]; rfl
        have e3 : t.2.2.1 = (F (rAd s 1)).2.2.2.1 := by rw [et]; rfl
        have e4 : t.2.2.2.2 = (F (rAd s 1)).2.2.2.2.2 := by rw [et]; rfl
        have hst : stl L O2 V2 = (O, (1 + t.2.2.2.1, x) :: V) := by
          rw [stl_to (Nat.le_succ L) k7, stl, if_pos (show L ≤ tg (rPk f n s 0) by omega)]
          have ea : aV (rPk f n s 0) ((1 + (F (rAd s 1)).2.2.2.2.1, (F (rAd s 1)).1) :: (1 + s.2.2.2.1, v) :: V) = (1 + t.2.2.2.1, x) :: V := by
            rw [aV, if_neg (by intro w; rw [w] at c7; revert c7; decide)]
            exact congrArg (· :: V) j1
          rw [ea, stl_lt ht]
        have h3 : s.1 + 1 < (F (rAd s 1)).2.1 := k3
        have hnf : nf t.1 := by rw [e1]; exact k8
        have hih := ih x t O2 V2 (by omega) (by rw [e2]; exact k1) (by rw [e1]; exact k4) j2 hst hnf
        rw [e1, e3] at hih
        rcases hih with ⟨i1, i2⟩ | ⟨i1, i2, i3, i4, i5, O3, V3, i6, i7, i8⟩
        · exact Or.inl ⟨i1, hstep.trans (k6.trans i2)⟩
        · refine Or.inr ⟨i1, i2, show s.1 ≤ (rLp f n F p k x t).2.1 by omega, i4, fun j hj => ?_, O3, V3, hstep.trans (k6.trans i6), i7, i8⟩
          rw [i5 j hj, e4]
          exact k5 j hj
    · rw [if_neg z]
      exact Or.inr ⟨hw, hv, Nat.le_refl _, hs, fun _ _ => rfl, O', V', rfl, he, hx, z⟩
theorem Sim_prod {r : Nat} (hn : n ≤ 40) (hF : Sim f n ki nu F r 4 nxT) (hFw : Wr F) : Sim f n ki nu (rProd f n F) r 3 (nxP f n) := by
  intro s O V hw hs hb ht
  rcases hF s O V hw hs hb (by omega) with ⟨k1, k2⟩ | ⟨k1, k2, k3, k4, k5, O', V', k6, k7, -⟩
  · exact Or.inl ⟨Wr_lp hFw _ _ _ k1, k2⟩
  · rcases lp_sim (nf := fun _ => True) Ops_P (by decide) hF hFw hb ht 40 (F s).1 (F s).2 O' V' (by omega) k1 k4 k2 (by rw [stl_to (by decide) k7, stl_lt ht]) trivial with ⟨i1, i2⟩ | ⟨i1, i2, i3, i4, i5, O2, V2, i6, i7, -, i8⟩
    · exact Or.inl ⟨i1, k6.trans i2⟩
    · refine Or.inr ⟨i1, i2, Nat.lt_of_lt_of_le k3 i3, i4, fun j hj => (i5 j hj).trans (k5 j hj), O2, V2, k6.trans i6, i7, i8⟩
theorem Sim_sum {r : Nat} (hn : n ≤ 40) (hF : Sim f n ki nu F r 3 (nxP f n)) (hFw : Wr F) : Sim f n ki nu (rSum f n F) r 2 (nxA f n) := by
  intro s O V hw hs hb ht
  rcases hF s O V hw hs hb (by omega) with ⟨k1, k2⟩ | ⟨k1, k2, k3, k4, k5, O', V', k6, k7, k8⟩
  · exact Or.inl ⟨Wr_lp hFw _ _ _ k1, k2⟩
  · rcases lp_sim (nf := fun a => ¬ isP (ahd f a n 0)) Ops_A (by decide) hF hFw hb ht 40 (F s).1 (F s).2 O' V' (by omega) k1 k4 k2 (by rw [stl_to (by decide) k7, stl_lt ht]) k8 with ⟨i1, i2⟩ | ⟨i1, i2, i3, i4, i5, O2, V2, i6, i7, i9, i8⟩
    · exact Or.inl ⟨i1, k6.trans i2⟩
    · refine Or.inr ⟨i1, i2, Nat.lt_of_lt_of_le k3 i3, i4, fun j hj => (i5 j hj).trans (k5 j hj), O2, V2, k6.trans i6, i7, i9, i8⟩
/-- comparisons: what both sides see -/
theorem cmp_ok {s : RS} (hP : ¬ isP (rPk f n s 0)) (hA : ¬ isA (rPk f n s 0)) :
    ((rCmp f n s).1 = 0 ∧ (rCmp f n s).2 = s ∧ (sgA (rPk f n s 0) (rPk f n s 1)).1 = 0) ∨
    (¬ (rCmp f n s).1 = 0 ∧ sgA (rPk f n s 0) (rPk f n s 1) = (mop (rCmp f n s).1, (rCmp f n s).2.1 - s.1) ∧ s.1 < (rCmp f n s).2.1 ∧ tg (mop (rCmp f n s).1) = 1 ∧ mop (rCmp f n s).1 ≠ 0 ∧ mop (rCmp f n s).1 ≠ 20 ∧ s.1 < n ∧ rPk f n s 0 ≠ 44 ∧ rPk f n s 0 ≠ 41 ∧ ((rCmp f n s).1 = 43 ∨ (rCmp f n s).1 = 45 ∨ (rCmp f n s).1 = 42 ∨ (rCmp f n s).1 = 47 ∨ (rCmp f n s).1 = 37 ∨ (rCmp f n s).1 = 1 ∨ (rCmp f n s).1 = 2 ∨ (rCmp f n s).1 = 3 ∨ (rCmp f n s).1 = 60 ∨ (rCmp f n s).1 = 62 ∨ (rCmp f n s).1 = 61)) := by
  have w2 : ∀ i, (i = 5 ∨ i = 6 ∨ i = 7) → (rW f n s i ↔ (rPk f n s 0 = sChr i 0 ∧ rPk f n s 1 = sChr i 1)) := by
    intro i hi
    have e : sLen.getD i 0 = 2 := by rcases hi with rfl | rfl | rfl <;> rfl
    constructor
    · intro h
      exact ⟨h 0 (by omega), h 1 (by omega)⟩
    · rintro ⟨h0, h1⟩ j hj
      rw [e] at hj
      match j, hj with
      | 0, _ => exact h0
      | 1, _ => exact h1
  have l0 : ∀ c : Int32, rPk f n s 0 = c → c ≠ 0 → s.1 < n := fun c h hc => ahd_ne (f := f) (j := 0) h hc
  unfold rCmp
  have d5 := w2 5 (by decide)
  have d6 := w2 6 (by decide)
  have d7 := w2 7 (by decide)
  by_cases z5 : rW f n s 5
  · rw [if_pos z5]
    dsimp only
    obtain ⟨h0, h1⟩ := d5.mp z5
    have h0' : rPk f n s 0 = 60 := h0
    have h1' : rPk f n s 1 = 62 := h1
    refine Or.inr ⟨by decide, ?_, ?_, by decide, by decide, by decide, l0 _ h0' (by decide), by rw [h0']; decide, by rw [h0']; decide, by decide⟩
    · rw [h0', h1']
      refine Prod.ext (show (sgA 60 62).1 = mop 1 by decide) ?_
      show 2 = s.1 + 2 - s.1
      omega
    · show s.1 < s.1 + 2; omega
  rw [if_neg z5]
  by_cases z6 : rW f n s 6
  · rw [if_pos z6]
    dsimp only
    obtain ⟨h0, h1⟩ := d6.mp z6
    have h0' : rPk f n s 0 = 60 := h0
    have h1' : rPk f n s 1 = 61 := h1
    refine Or.inr ⟨by decide, ?_, ?_, by decide, by decide, by decide, l0 _ h0' (by decide), by rw [h0']; decide, by rw [h0']; decide, by decide⟩
    · rw [h0', h1']
      refine Prod.ext (show (sgA 60 61).1 = mop 2 by decide) ?_
      show 2 = s.1 + 2 - s.1
      omega
    · show s.1 < s.1 + 2; omega
  rw [if_neg z6]
  by_cases z7 : rW f n s 7
  · rw [if_pos z7]
    dsimp only
    obtain ⟨h0, h1⟩ := d7.mp z7
    have h0' : rPk f n s 0 = 62 := h0
    have h1' : rPk f n s 1 = 61 := h1
    refine Or.inr ⟨by decide, ?_, ?_, by decide, by decide, by decide, l0 _ h0' (by decide), by rw [h0']; decide, by rw [h0']; decide, by decide⟩
    · rw [h0', h1']
      refine Prod.ext (show (sgA 62 61).1 = mop 3 by decide) ?_
      show 2 = s.1 + 2 - s.1
      omega
    · show s.1 < s.1 + 2; omega
  rw [if_neg z7]
  have hno : ¬ ((rPk f n s 0 = 60 ∧ rPk f n s 1 = 62) ∨ ((rPk f n s 0 = 60 ∨ rPk f n s 0 = 62) ∧ rPk f n s 1 = 61)) := by
    rintro (h | ⟨h | h, g⟩)
    · exact z5 (d5.mpr h)
    · exact z6 (d6.mpr ⟨h, g⟩)
    · exact z7 (d7.mpr ⟨h, g⟩)
  have one : ∀ c : Int32, (c = 60 ∨ c = 62 ∨ c = 61) → rPk f n s 0 = c → sgA (rPk f n s 0) (rPk f n s 1) = (mop c, (rAd s 1).1 - s.1) ∧ s.1 < (rAd s 1).1 ∧ tg (mop c) = 1 ∧ mop c ≠ 0 ∧ mop c ≠ 20 ∧ s.1 < n ∧ rPk f n s 0 ≠ 44 ∧ rPk f n s 0 ≠ 41 := by
    intro c hc h
    have hb : c ≠ 0 ∧ mop c = c ∧ tg c = 1 ∧ c ≠ 20 ∧ c ≠ 44 ∧ c ≠ 41 ∧ (c = 43 ∨ c = 45 ∨ c = 42 ∨ c = 47 ∨ c = 37 ∨ c = 60 ∨ c = 62 ∨ c = 61) := by
      rcases hc with rfl | rfl | rfl <;> decide
    obtain ⟨b1, b2, b3, b4, b5, b6, b7⟩ := hb
    refine ⟨?_, show s.1 < s.1 + 1 by omega, by rw [b2]; exact b3, by rw [b2]; exact b1, by rw [b2]; exact b4, l0 c h b1, by rw [h]; exact b5, by rw [h]; exact b6⟩
    unfold sgA
    rw [if_neg hno, h, if_pos b7, b2]
    refine Prod.ext rfl ?_
    show 1 = s.1 + 1 - s.1
    omega
  by_cases a : rPk f n s 0 = 60
  · rw [if_pos a]
    dsimp only
    obtain ⟨e1, e2, e3, e4, e5, e6, e7, e8⟩ := one 60 (by decide) a
    exact Or.inr ⟨by decide, e1, e2, e3, e4, e5, e6, e7, e8, by decide⟩
  rw [if_neg a]
  by_cases b : rPk f n s 0 = 62
  · rw [if_pos b]
    dsimp only
    obtain ⟨e1, e2, e3, e4, e5, e6, e7, e8⟩ := one 62 (by decide) b
    exact Or.inr ⟨by decide, e1, e2, e3, e4, e5, e6, e7, e8, by decide⟩
  rw [if_neg b]
  by_cases c : rPk f n s 0 = 61
  · rw [if_pos c]
    dsimp only
    obtain ⟨e1, e2, e3, e4, e5, e6, e7, e8⟩ := one 61 (by decide) c
    exact Or.inr ⟨by decide, e1, e2, e3, e4, e5, e6, e7, e8, by decide⟩
  rw [if_neg c]
  refine Or.inl ⟨rfl, rfl, ?_⟩
  unfold sgA
  rw [if_neg hno, if_neg]
  rintro (h | h | h | h | h | h | h | h)
  · exact hA (Or.inl h)
  · exact hA (Or.inr h)
  · exact hP (Or.inl h)
  · exact hP (Or.inr (Or.inl h))
  · exact hP (Or.inr (Or.inr h))
  · exact a h
  · exact b h
  · exact c h
/-- the machine stands behind an expression -/
theorem nxE_of {s : RS} {O' : List FR} {V' : List VL} (h : ∀ w len, sgA (rPk f n s 0) (rPk f n s 1) = (w, len) → w ≠ 0 → tg w = 1 ∧ tpt (stl 2 O' V').1 = 1) : nxE f n ki nu s O' V' := by
  intro hlt
  by_cases z1 : rPk f n s 0 = 44
  · exact Or.inl z1
  by_cases z2 : rPk f n s 0 = 41
  · exact Or.inr (Or.inl z2)
  refine Or.inr (Or.inr ?_)
  unfold mStep mSign
  rw [if_neg (show ¬ (1 : Nat) = 0 by decide), if_pos rfl, if_neg (show ¬ (ahd f s.1 n 0 = 44 ∨ ahd f s.1 n 0 = 41) from fun w => w.elim z1 z2)]
  have h' : ∀ w len, sgA (ahd f s.1 n 0) (ahd f s.1 n 1) = (w, len) → w ≠ 0 → tg w = 1 ∧ tpt (stl 2 O' V').1 = 1 := h
  show mSgn s.1 s.2.2.1 O' V' (sgA (ahd f s.1 n 0) (ahd f s.1 n 1)).1 (sgA (ahd f s.1 n 0) (ahd f s.1 n 1)).2 = none
  generalize sgA (ahd f s.1 n 0) (ahd f s.1 n 1) = q at h'
  obtain ⟨w, len⟩ := q
  unfold mSgn
  by_cases z : w = 0
  · rw [if_pos z]
  · obtain ⟨g1, g2⟩ := h' w len rfl z
    have etl : tl w = 2 := by unfold tl; rw [g1, if_neg (by decide)]
    rw [if_neg z, etl, if_pos ⟨g1, g2⟩]
theorem Sim_exp {r : Nat} (hF : Sim f n ki nu F r 2 (nxA f n)) (hFw : Wr F) : Sim f n ki nu (rExp f n F) r 1 (nxE f n ki nu) := by
  intro s O V hw hs hb ht
  have ht0 : tpt O = 0 := by omega
  rcases hF s O V hw hs hb (by omega) with ⟨k1, k2⟩ | ⟨k1, k2, k3, k4, k5, O', V', k6, k7, k8⟩
  · refine Or.inl ⟨?_, k2⟩
    unfold rExp
    split
    · rw [rCmp_w]; exact k1
    · rw [rJoin_w]; exact hFw _ (by rw [rCmp_w]; exact k1)
  · unfold rExp
    rcases cmp_ok k8.1 k8.2 with ⟨c1, c2, c3⟩ | ⟨c1, c2, c3, c4, c5, c6, c7, c8, c9, c10⟩
    · rw [if_pos c1, c2]
      refine Or.inr ⟨k1, k2, k3, k4, k5, O', V', k6, ?_, ?_⟩
      · rw [stl_to (by decide) k7, stl_lt ht]
      · refine nxE_of (fun w len e z => absurd ?_ z)
        have := c3
        rw [e] at this
        exact this
    · rw [if_neg c1]
      have hle : (rCmp f n (F s).2).2.1 ≤ n := rCmp_le k4
      have cw := rCmp_w (f := f) (n := n) (s := (F s).2)
      generalize rCmp f n (F s).2 = C at c1 c2 c3 c4 c5 c6 c10 hle cw ⊢
      obtain ⟨op, t⟩ := C
      obtain ⟨ta, tb⟩ := t
      have cw' : tb = (F s).2.2 := cw
      subst cw'
      have hstep : Run f n ki nu ((F s).2.1, 1, false, (F s).2.2.2.1, O', V') = Run f n ki nu (ta, 0, false, (F s).2.2.2.1, (mop op, 0, 0, 0) :: O, (1 + (F s).2.2.2.2.1, (F s).1) :: V) := by
        refine Run_step (show (F s).2.1 < n from c7) ?_
        unfold mStep mSign
        rw [if_neg (show ¬ (1 : Nat) = 0 by decide), if_pos rfl]
        rw [if_neg (show ¬ (ahd f (F s).2.1 n 0 = 44 ∨ ahd f (F s).2.1 n 0 = 41) from fun w => w.elim c8 c9)]
        rw [show sgA (ahd f (F s).2.1 n 0) (ahd f (F s).2.1 n 1) = (mop op, ta - (F s).2.1) from c2]
        unfold mSgn mBg
        have etl : tl (mop op) = 2 := by unfold tl; rw [show tg (mop op) = 1 from c4, if_neg (by decide)]
        rw [if_neg c5, etl, k7, if_neg (by rw [ht0]; omega)]
        have e : (F s).2.1 + (ta - (F s).2.1) = ta := by
          have : (F s).2.1 < ta := c3
          omega
        show some ((F s).2.1 + (ta - (F s).2.1), 0, false, _, _, _) = _
        rw [e]
      rcases hF (ta, (F s).2.2) ((mop op, 0, 0, 0) :: O) ((1 + (F s).2.2.2.2.1, (F s).1) :: V) k1 hle (by rw [br, if_neg (by rw [show tg (mop op) = 1 from c4]; decide)]; exact hb) (show tg (mop op) < 2 by rw [show tg (mop op) = 1 from c4]; decide) with ⟨i1, i2⟩ | ⟨i1, i2, i3, i4, i5, O2, V2, i6, i7, i8⟩
      · exact Or.inl ⟨by rw [rJoin_w]; exact i1, k6.trans (hstep.trans i2)⟩
      · obtain ⟨j1, j2⟩ := join_ok (op := op) (a := (F s).1) (ae := (F s).2.2.2.2.1) (b := (F (ta, (F s).2.2)).1) (s := (F (ta, (F s).2.2)).2) k2 i2 c10
        have je := rJoin_er (op := op) (a := (F s).1) (ae := (F s).2.2.2.2.1) (b := (F (ta, (F s).2.2)).1) (s := (F (ta, (F s).2.2)).2)
        show Res f n ki nu r 1 _ s false O V (rJoin op (F s).1 (F s).2.2.2.2.1 (F (ta, (F s).2.2)).1 (F (ta, (F s).2.2)).2)
        generalize rJoin op (F s).1 (F s).2.2.2.2.1 (F (ta, (F s).2.2)).1 (F (ta, (F s).2.2)).2 = J at j1 j2 je ⊢
        obtain ⟨x, t⟩ := J
        have et : t = rEr (F (ta, (F s).2.2)).2 t.2.2.2.1 := je
        have e1 : t.1 = (F (ta, (F s).2.2)).2.1 := by rw [et]; rfl
        have e2 : t.2.1 = (F (ta, (F s).2.2)).2.2.1 := by rw [et]; rfl
        have e3 : t.2.2.1 = (F (ta, (F s).2.2)).2.2.2.1 := by rw [et]; rfl
        have e4 : t.2.2.2.2 = (F (ta, (F s).2.2)).2.2.2.2.2 := by rw [et]; rfl
        have hi3 : ta < (F (ta, (F s).2.2)).2.1 := i3
        have hc3 : (F s).2.1 < ta := c3
        have hp0 : ∀ j, rPk f n t j = rPk f n (F (ta, (F s).2.2)).2 j := fun j => by unfold rPk; rw [e1]
        refine Or.inr ⟨e2.trans i1, j2, ?_, by rw [e1]; exact i4, fun j hj => ?_, O2, V2, ?_, ?_, ?_⟩
        · show s.1 < t.1
          omega
        · show t.2.2.2.2 j = _
          rw [e4, i5 j hj]
          exact k5 j hj
        · show _ = Run f n ki nu (t.1, 1, false, t.2.2.1, O2, V2)
          rw [e1, e3]
          exact k6.trans (hstep.trans i6)
        · show stl 1 O2 V2 = (O, (1 + t.2.2.2.1, x) :: V)
          rw [stl_to (by decide) i7, stl, if_pos (by rw [show tg (mop op) = 1 from c4]; decide)]
          have ea : aV (mop op) ((1 + (F (ta, (F s).2.2)).2.2.2.2.1, (F (ta, (F s).2.2)).1) :: (1 + (F s).2.2.2.2.1, (F s).1) :: V) = (1 + t.2.2.2.1, x) :: V := by
            rw [aV, if_neg c6]
            exact congrArg (· :: V) j1
          show stl 1 O (aV (mop op) _) = _
          rw [ea, stl_lt ht]
        · refine nxE_of (fun w len e z => ?_)
          have i8' : ¬ isP (rPk f n t 0) ∧ ¬ isA (rPk f n t 0) := by rw [hp0]; exact i8
          refine ⟨?_, ?_⟩
          · rcases cmp_ok i8'.1 i8'.2 with ⟨-, -, d3⟩ | ⟨-, d2, -, d4, -⟩
            · rw [e] at d3
              exact absurd d3 z
            · rw [e] at d2
              have : w = mop (rCmp f n t).1 := congrArg Prod.fst d2
              rw [this]
              exact d4
          · rw [i7]
            exact c4
end

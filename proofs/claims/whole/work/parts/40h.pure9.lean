section
variable {f : Nat → Int32} {n : Nat} {ki : Nat → Int32} {nu : Nat → Int64} {E : RS → Int64 × RS}
/-- the cells' values: a kind, and 0 where there is no number -/
def CV (ki : Nat → Int32) (nu : Nat → Int64) : Prop := ∀ c, c < 64 → (ki c = 0 ∨ ki c = 1 ∨ ki c = 2 ∨ ki c = 3) ∧ (ki c ≠ 1 → nu c = 0)
theorem CV_ne (hV : CV ki nu) {c : Nat} (hc : c < 64) : NE (nu c) (kEr (ki c)) ∧ cv ki nu c = (1 + kEr (ki c), nu c) ∧ (ki c ≠ 0 → ki c = 1 + kEr (ki c)) := by
  obtain ⟨h1, h2⟩ := hV c hc
  unfold cv kEr
  rcases h1 with h | h | h | h
  · rw [h, h2 (by rw [h]; decide)]
    exact ⟨Or.inl (by decide), by decide, fun w => absurd rfl w⟩
  · rw [h]
    exact ⟨Or.inl (by decide), rfl, fun _ => by decide⟩
  · rw [h, h2 (by rw [h]; decide)]
    exact ⟨Or.inr ⟨by decide, rfl⟩, by decide, fun _ => by decide⟩
  · rw [h, h2 (by rw [h]; decide)]
    exact ⟨Or.inr ⟨by decide, rfl⟩, by decide, fun _ => by decide⟩
theorem rMc_ok {w : Int32} {i c : Nat} {s : RS} {fr : FR} (hV : CV ki nu) (hww : w = 0 ∨ w = 1 ∨ w = 2 ∨ w = 3) (hc : c < 64) (h : FRel w (s.2.2.2.2 i) fr) :
    FRel w ((rMc ki nu i c s).2.2.2.2 i) (fld fr (ki c) (nu c)) ∧ (rMc ki nu i c s).2.2.1 = s.2.2.1 ||| bit1 c ∧ (∀ j, j ≠ i → (rMc ki nu i c s).2.2.2.2 j = s.2.2.2.2 j) := by
  obtain ⟨v1, -, v3⟩ := CV_ne hV hc
  unfold rMc
  by_cases z : ki c = 0
  · rw [if_pos z]
    refine ⟨?_, rfl, fun _ _ => rfl⟩
    unfold fld
    rw [if_pos (Or.inr z)]
    exact h
  · rw [if_neg z]
    refine ⟨?_, rfl, fun j hj => ?_⟩
    · have := meet_ok hww h v1
      rw [← v3 z] at this
      show FRel w (tUp s.2.2.2.2 i (tMeet (s.2.2.2.2 i) (nu c) (kEr (ki c))) i) _
      unfold tUp
      rw [if_pos rfl]
      exact this
    · show tUp s.2.2.2.2 i _ j = _
      unfold tUp
      rw [if_neg hj]
theorem rg1_ok {w : Int32} {i : Nat} (hV : CV ki nu) (hww : w = 0 ∨ w = 1 ∨ w = 2 ∨ w = 3) : ∀ (k c : Nat) (s : RS) (fr : FR), c + k ≤ 64 → FRel w (s.2.2.2.2 i) fr →
    FRel w ((rg1 ki nu i k c s).2.2.2.2 i) (mg1 ki nu k c fr s.2.2.1).1 ∧ (rg1 ki nu i k c s).2.2.1 = (mg1 ki nu k c fr s.2.2.1).2 ∧ (∀ j, j ≠ i → (rg1 ki nu i k c s).2.2.2.2 j = s.2.2.2.2 j) := by
  intro k
  induction k with
  | zero => intro c s fr _ h; exact ⟨h, rfl, fun _ _ => rfl⟩
  | succ k ih =>
    intro c s fr hc h
    obtain ⟨g1, g2, g3⟩ := rMc_ok (c := c) hV hww (by omega) h
    obtain ⟨i1, i2, i3⟩ := ih (c + 1) (rMc ki nu i c s) (fld fr (ki c) (nu c)) (by omega) g1
    rw [rg1, mg1, ← g2]
    exact ⟨i1, i2, fun j hj => (i3 j hj).trans (g3 j hj)⟩
theorem rg2_ok {w : Int32} {i c0 wd : Nat} (hV : CV ki nu) (hww : w = 0 ∨ w = 1 ∨ w = 2 ∨ w = 3) (hcw : c0 + wd ≤ 8) : ∀ (k r : Nat) (s : RS) (fr : FR), r + k ≤ 8 → FRel w (s.2.2.2.2 i) fr →
    FRel w ((rg2 ki nu i c0 wd k r s).2.2.2.2 i) (mg2 ki nu c0 wd k r fr s.2.2.1).1 ∧ (rg2 ki nu i c0 wd k r s).2.2.1 = (mg2 ki nu c0 wd k r fr s.2.2.1).2 ∧ (∀ j, j ≠ i → (rg2 ki nu i c0 wd k r s).2.2.2.2 j = s.2.2.2.2 j) := by
  intro k
  induction k with
  | zero => intro r s fr _ h; exact ⟨h, rfl, fun _ _ => rfl⟩
  | succ k ih =>
    intro r s fr hc h
    obtain ⟨g1, g2, g3⟩ := rg1_ok hV hww wd (8 * r + c0) s fr (by omega) h
    obtain ⟨i1, i2, i3⟩ := ih (r + 1) (rg1 ki nu i wd (8 * r + c0) s) _ (by omega) g1
    rw [rg2, mg2, ← g2]
    exact ⟨i1, i2, fun j hj => (i3 j hj).trans (g3 j hj)⟩
theorem rRange_ok {w : Int32} {i a b : Nat} {s : RS} {fr : FR} (hV : CV ki nu) (hww : w = 0 ∨ w = 1 ∨ w = 2 ∨ w = 3) (ha : a < 64) (hb : b < 64) (h : FRel w (s.2.2.2.2 i) fr) :
    FRel w ((rRange ki nu i a b s).2.2.2.2 i) (mRange ki nu a b fr s.2.2.1).1 ∧ (rRange ki nu i a b s).2.2.1 = (mRange ki nu a b fr s.2.2.1).2 ∧ (∀ j, j ≠ i → (rRange ki nu i a b s).2.2.2.2 j = s.2.2.2.2 j) :=
  rg2_ok hV hww (by omega) _ _ _ _ (by omega) h
theorem first_irr {a : Nat} {se : Int64} {O : List FR} {V : List VL} (h : ¬ ahd f a n 2 = 58) : Run f n ki nu (a, 0, true, se, O, V) = Run f n ki nu (a, 0, false, se, O, V) := by
  have e : mStep f n ki nu (a, 0, true, se, O, V) = mStep f n ki nu (a, 0, false, se, O, V) := by
    unfold mStep
    rw [if_pos rfl, if_pos rfl]
    unfold mFactor
    dsimp only
    have en : ∀ c, mName f n ki nu a true se O V c = mName f n ki nu a false se O V c := by
      intro c
      unfold mName
      rw [if_neg (show ¬ (true = true ∧ ahd f a n 2 = 58) from fun w => h w.2), if_neg (show ¬ (false = true ∧ ahd f a n 2 = 58) from fun w => h w.2)]
    simp only [en]
  by_cases z : a < n
  · cases e2 : mStep f n ki nu (a, 0, false, se, O, V) with
    | none => rw [Run_none (show (a, 0, false, se, O, V).1 < n from z) e2, Run_none (show (a, 0, true, se, O, V).1 < n from z) (e.trans e2)]
    | some m' => rw [Run_step (show (a, 0, false, se, O, V).1 < n from z) e2, Run_step (show (a, 0, true, se, O, V).1 < n from z) (e.trans e2)]
  · rw [Run_end (show ¬ (a, 0, false, se, O, V).1 < n from z), Run_end (show ¬ (a, 0, true, se, O, V).1 < n from z)]
    rfl
/-- behind an argument of the function w, which began at the machine's state S -/
def ArgA (f : Nat → Int32) (n : Nat) (ki : Nat → Int32) (nu : Nat → Int64) (S : Option (VL × Int64)) (w : Int32) (i : Nat) (O : List FR) (V : List VL) (s : RS) : Prop :=
  ∃ fr, FRel w (s.2.2.2.2 i) fr ∧ (rPk f n s 0 = 44 → S = Run f n ki nu (s.1 + 1, 0, true, s.2.2.1, fr :: O, V)) ∧ (rPk f n s 0 = 41 → S = Run f n ki nu (s.1 + 1, 1, false, s.2.2.1, O, fin fr :: V)) ∧ (¬ (rPk f n s 0 = 44 ∨ rPk f n s 0 = 41) → S = none)
theorem fr_rng {w : Int32} {fr : FR} (hww : w = 0 ∨ w = 1 ∨ w = 2 ∨ w = 3) (h : fr.1 = 9 + w) : (9 ≤ fr.1 ∧ fr.1 ≤ 12) ∧ tg fr.1 = 0 := by
  rw [h]
  rcases hww with rfl | rfl | rfl | rfl <;> decide
theorem Sim_arg {r i : Nat} {w : Int32} (hi : i + r = 8) (hV : CV ki nu) (hww : w = 0 ∨ w = 1 ∨ w = 2 ∨ w = 3) (hE : Sim f n ki nu E r 1 (nxE f n ki nu)) {s : RS} {O : List FR} {V : List VL} {fr : FR} (hw : s.2.1 = 0) (hs : s.1 ≤ n) (hb : br O + (r + 1) = 8) (hF : FRel w (s.2.2.2.2 i) fr) :
    ((rArg f n ki nu E i s).2.1 = 1 ∧ Run f n ki nu (s.1, 0, true, s.2.2.1, fr :: O, V) = none) ∨
    ((rArg f n ki nu E i s).2.1 = 0 ∧ s.1 < (rArg f n ki nu E i s).1 ∧ (rArg f n ki nu E i s).1 ≤ n ∧ (∀ j, j < i → (rArg f n ki nu E i s).2.2.2.2 j = s.2.2.2.2 j) ∧ ArgA f n ki nu (Run f n ki nu (s.1, 0, true, s.2.2.1, fr :: O, V)) w i O V (rArg f n ki nu E i s)) := by
  obtain ⟨r1, r2⟩ := fr_rng hww hF.1
  unfold rArg
  by_cases z : rPk f n s 2 = 58
  · rw [if_pos z]
    have hbad : (nm (rPk f n s 0) (rPk f n s 1) = none ∨ nm (rPk f n s 3) (rPk f n s 4) = none) → Run f n ki nu (s.1, 0, true, s.2.2.1, fr :: O, V) = none := by
      intro hh
      cases e1 : nm (rPk f n s 0) (rPk f n s 1) with
      | none => exact colon2 z e1
      | some a =>
        have e2 : nm (rPk f n s 3) (rPk f n s 4) = none := hh.elim (fun w => by rw [e1] at w; cases w) id
        have hlt : s.1 + 2 < n := ahd_ne (f := f) (j := 2) z (by decide)
        refine Run_none (show s.1 < n by omega) ?_
        unfold mStep
        rw [if_pos rfl]
        unfold mFactor
        dsimp only
        rw [if_neg (show ¬ ahd f s.1 n 0 = 45 from nm_low e1 45 (by decide)), if_neg (show ¬ isD (ahd f s.1 n 0) from nm_nd e1), show nm (ahd f s.1 n 0) (ahd f s.1 n 1) = some a from e1]
        dsimp only
        unfold mName
        rw [if_pos ⟨rfl, z⟩, show nm (ahd f s.1 n 3) (ahd f s.1 n 4) = none from e2]
    cases e1 : nm (rPk f n s 0) (rPk f n s 1) with
    | none => exact Or.inl ⟨rfl, hbad (Or.inl e1)⟩
    | some a =>
      cases e2 : nm (rPk f n s 3) (rPk f n s 4) with
      | none => exact Or.inl ⟨rfl, hbad (Or.inr e2)⟩
      | some b =>
        dsimp only
        have h4 : s.1 + 4 < n := ahd_ne (f := f) (a := s.1) (j := 4) rfl (nm_ne e2).2
        obtain ⟨g1, g2, g3⟩ := rRange_ok (s := rAd s 5) (i := i) hV hww (nm_lt e1) (nm_lt e2) hF
        have gw : (rRange ki nu i a b (rAd s 5)).2.1 = 0 := (rg2_w _ _ _).trans hw
        have g0 : (rRange ki nu i a b (rAd s 5)).1 = s.1 + 5 := rRange_1
        have hstep : Run f n ki nu (s.1, 0, true, s.2.2.1, fr :: O, V) = Run f n ki nu (s.1 + 5, 2, false, (mRange ki nu a b fr s.2.2.1).2, (mRange ki nu a b fr s.2.2.1).1 :: O, V) := by
          refine Run_step (show s.1 < n by omega) ?_
          unfold mStep
          rw [if_pos rfl]
          unfold mFactor
          dsimp only
          rw [if_neg (show ¬ ahd f s.1 n 0 = 45 from nm_low e1 45 (by decide)), if_neg (show ¬ isD (ahd f s.1 n 0) from nm_nd e1), show nm (ahd f s.1 n 0) (ahd f s.1 n 1) = some a from e1]
          dsimp only
          unfold mName
          rw [if_pos ⟨rfl, z⟩, show nm (ahd f s.1 n 3) (ahd f s.1 n 4) = some b from e2]
        refine Or.inr ⟨gw, by rw [g0]; omega, by rw [g0]; omega, fun j hj => g3 j (by omega), (mRange ki nu a b fr s.2.2.1).1, g1, ?_, ?_, ?_⟩
        · obtain ⟨q1, -⟩ := fr_rng hww g1.1
          have q1' : 9 ≤ (mRange ki nu a b fr s.2.2.1).1.1 ∧ (mRange ki nu a b fr s.2.2.1).1.1 ≤ 12 := q1
          intro hc
          rw [hstep, g2, g0]
          unfold rPk at hc
          rw [g0] at hc
          have hlt : s.1 + 5 + 0 < n := ahd_ne (f := f) (j := 0) hc (by decide)
          refine Run_step (show s.1 + 5 < n by omega) ?_
          unfold mStep
          rw [if_neg (show ¬ (2 : Nat) = 0 by decide), if_neg (show ¬ (2 : Nat) = 1 by decide), if_pos (Or.inl hc)]
          unfold mClose
          dsimp only
          rw [if_pos q1', if_pos hc]
          rfl
        · obtain ⟨q1, -⟩ := fr_rng hww g1.1
          have q1' : 9 ≤ (mRange ki nu a b fr s.2.2.1).1.1 ∧ (mRange ki nu a b fr s.2.2.1).1.1 ≤ 12 := q1
          intro hc
          rw [hstep, g2, g0]
          unfold rPk at hc
          rw [g0] at hc
          have hlt : s.1 + 5 + 0 < n := ahd_ne (f := f) (j := 0) hc (by decide)
          refine Run_step (show s.1 + 5 < n by omega) ?_
          unfold mStep
          rw [if_neg (show ¬ (2 : Nat) = 0 by decide), if_neg (show ¬ (2 : Nat) = 1 by decide), if_pos (Or.inr hc)]
          unfold mClose
          dsimp only
          rw [if_pos q1', if_neg (by rw [hc]; decide)]
          rfl
        · intro hc
          rw [hstep]
          unfold rPk at hc
          rw [g0] at hc
          by_cases zl : s.1 + 5 < n
          · refine Run_none zl ?_
            unfold mStep
            rw [if_neg (show ¬ (2 : Nat) = 0 by decide), if_neg (show ¬ (2 : Nat) = 1 by decide), if_neg hc]
          · rw [Run_end zl]
            rfl
  · rw [if_neg z]
    rw [first_irr z]
    rcases hE s (fr :: O) V hw hs (by rw [br, if_pos r2]; omega) (show tg fr.1 < 1 by omega) with ⟨k1, k2⟩ | ⟨k1, k2, k3, k4, k5, O', V', k6, k7, k8⟩
    · exact Or.inl ⟨k1, k2⟩
    · have kt := k5 i (by omega)
      refine Or.inr ⟨k1, k3, k4, fun j hj => ?_, fld fr (1 + (E s).2.2.2.2.1) (E s).1, ?_, ?_, ?_, ?_⟩
      · show tUp (E s).2.2.2.2.2 i _ j = _
        unfold tUp
        rw [if_neg (by omega)]
        exact k5 j (by omega)
      · show FRel w (tUp (E s).2.2.2.2.2 i (tMeet ((E s).2.2.2.2.2 i) (E s).1 (E s).2.2.2.2.1) i) _
        unfold tUp
        rw [if_pos rfl, kt]
        exact meet_ok hww hF k2
      · intro hc
        have hc' : rPk f n (E s).2 0 = 44 := hc
        have hlt : (E s).2.1 + 0 < n := ahd_ne (f := f) (j := 0) hc' (by decide)
        refine k6.trans (Run_step (show (E s).2.1 < n by omega) ?_)
        rw [behind k7 (Or.inl hc')]
        unfold mClose
        dsimp only
        rw [if_pos r1, if_pos (show ahd f (E s).2.1 n 0 = 44 from hc')]
        rfl
      · intro hc
        have hc' : rPk f n (E s).2 0 = 41 := hc
        have hlt : (E s).2.1 + 0 < n := ahd_ne (f := f) (j := 0) hc' (by decide)
        refine k6.trans (Run_step (show (E s).2.1 < n by omega) ?_)
        rw [behind k7 (Or.inr hc')]
        unfold mClose
        dsimp only
        rw [if_pos r1, if_neg (by rw [show ahd f (E s).2.1 n 0 = 41 from hc']; decide)]
        rfl
      · intro hc
        exact k6.trans (behind_no k7 k8 hc)
theorem Sim_args {r i : Nat} {w : Int32} (hi : i + r = 8) (hV : CV ki nu) (hww : w = 0 ∨ w = 1 ∨ w = 2 ∨ w = 3) (hE : Sim f n ki nu E r 1 (nxE f n ki nu)) (hEw : Wr E) {O : List FR} {V : List VL} (hb : br O + (r + 1) = 8) {S : Option (VL × Int64)} :
    ∀ (k : Nat) (s : RS), n - s.1 ≤ k → s.2.1 = 0 → s.1 ≤ n → ArgA f n ki nu S w i O V s →
    ((rArgs f n ki nu E i k s).2.1 = 1 ∧ S = none) ∨ ((rArgs f n ki nu E i k s).2.1 = 0 ∧ s.1 ≤ (rArgs f n ki nu E i k s).1 ∧ (rArgs f n ki nu E i k s).1 ≤ n ∧ (∀ j, j < i → (rArgs f n ki nu E i k s).2.2.2.2 j = s.2.2.2.2 j) ∧ ArgA f n ki nu S w i O V (rArgs f n ki nu E i k s) ∧ rPk f n (rArgs f n ki nu E i k s) 0 ≠ 44) := by
  intro k
  induction k with
  | zero =>
    intro s hk hw hs hA
    refine Or.inr ⟨hw, Nat.le_refl _, hs, fun _ _ => rfl, hA, fun h => ?_⟩
    have : s.1 + 0 < n := ahd_ne (f := f) (j := 0) h (by decide)
    omega
  | succ k ih =>
    intro s hk hw hs hA
    rw [rArgs]
    by_cases z : rPk f n s 0 = 44
    · rw [if_pos z]
      have hlt : s.1 + 0 < n := ahd_ne (f := f) (j := 0) z (by decide)
      obtain ⟨fr, g1, g2, g3, g4⟩ := hA
      rcases Sim_arg (s := rAd s 1) (V := V) hi hV hww hE hw (show s.1 + 1 ≤ n by omega) hb g1 with ⟨k1, k2⟩ | ⟨k1, k2, k3, k4, k5⟩
      · exact Or.inl ⟨rArgs_w hEw _ _ k1, (g2 z).trans k2⟩
      · have k5' : ArgA f n ki nu S w i O V (rArg f n ki nu E i (rAd s 1)) := by
          rw [← show S = Run f n ki nu ((rAd s 1).1, 0, true, (rAd s 1).2.2.1, fr :: O, V) from g2 z] at k5
          exact k5
        have k2' : s.1 + 1 < (rArg f n ki nu E i (rAd s 1)).1 := k2
        rcases ih (rArg f n ki nu E i (rAd s 1)) (by omega) k1 k3 k5' with ⟨i1, i2⟩ | ⟨i1, i2, i3, i4, i5, i6⟩
        · exact Or.inl ⟨i1, i2⟩
        · exact Or.inr ⟨i1, by omega, i3, fun j hj => (i4 j hj).trans (k4 j hj), i5, i6⟩
    · rw [if_neg z]
      exact Or.inr ⟨hw, Nat.le_refl _, hs, fun _ _ => rfl, hA, z⟩
theorem Sim_fun {r i : Nat} {w : Int32} (hn : n ≤ 40) (hi : i + r = 8) (hV : CV ki nu) (hww : w = 0 ∨ w = 1 ∨ w = 2 ∨ w = 3) (hE : Sim f n ki nu E r 1 (nxE f n ki nu)) (hEw : Wr E) {s : RS} {O : List FR} {V : List VL} (hw : s.2.1 = 0) (hs : s.1 ≤ n) (hb : br O + (r + 1) = 8) :
    ((rFun f n ki nu E w i s).2.2.1 = 1 ∧ Run f n ki nu (s.1, 0, true, s.2.2.1, (9 + w, 0, 0, 0) :: O, V) = none) ∨
    ((rFun f n ki nu E w i s).2.2.1 = 0 ∧ NE (rFun f n ki nu E w i s).1 (rFun f n ki nu E w i s).2.2.2.2.1 ∧ s.1 < (rFun f n ki nu E w i s).2.1 ∧ (rFun f n ki nu E w i s).2.1 ≤ n ∧ (∀ j, j < i → (rFun f n ki nu E w i s).2.2.2.2.2 j = s.2.2.2.2 j) ∧ Run f n ki nu (s.1, 0, true, s.2.2.1, (9 + w, 0, 0, 0) :: O, V) = Run f n ki nu ((rFun f n ki nu E w i s).2.1, 1, false, (rFun f n ki nu E w i s).2.2.2.1, O, (1 + (rFun f n ki nu E w i s).2.2.2.2.1, (rFun f n ki nu E w i s).1) :: V)) := by
  have h0 : FRel w ((rTl s (tUp s.2.2.2.2 i (0, 0, 0, 0, 0))).2.2.2.2 i) (9 + w, 0, 0, 0) := by
    show FRel w (tUp s.2.2.2.2 i (0, 0, 0, 0, 0) i) _
    unfold tUp
    rw [if_pos rfl]
    exact ⟨rfl, rfl, (by decide : (0 : Int32) = if (0 : Int32) = 0 then 0 else 0 + 1), Or.inl rfl, fun _ => rfl, fun _ => rfl, fun _ => rfl⟩
  have ht : ∀ j, j < i → (rTl s (tUp s.2.2.2.2 i (0, 0, 0, 0, 0))).2.2.2.2 j = s.2.2.2.2 j := by
    intro j hj
    show tUp s.2.2.2.2 i (0, 0, 0, 0, 0) j = _
    unfold tUp
    rw [if_neg (by omega)]
  unfold rFun rFunB
  rcases Sim_arg (s := rTl s (tUp s.2.2.2.2 i (0, 0, 0, 0, 0))) (V := V) hi hV hww hE hw hs hb h0 with ⟨k1, k2⟩ | ⟨k1, k2, k3, k4, k5⟩
  · exact Or.inl ⟨rNeed_w (rArgs_w hEw _ _ k1), k2⟩
  · replace k2 : s.1 < (rArg f n ki nu E i (rTl s (tUp s.2.2.2.2 i (0, 0, 0, 0, 0)))).1 := k2
    rcases Sim_args hi hV hww hE hEw hb 40 _ (by omega) k1 k3 k5 with ⟨i1, i2⟩ | ⟨i1, i2, i3, i4, i5, i6⟩
    · exact Or.inl ⟨rNeed_w i1, i2⟩
    · generalize rArgs f n ki nu E i 40 (rArg f n ki nu E i (rTl s (tUp s.2.2.2.2 i (0, 0, 0, 0, 0)))) = t at i1 i2 i3 i4 i5 i6 ⊢
      obtain ⟨fr, g1, g2, g3, g4⟩ := i5
      by_cases z : rPk f n t 0 = 41
      · have e : rNeed f n 41 t = rAd t 1 := if_pos z
        rw [e]
        have hlt : t.1 + 0 < n := ahd_ne (f := f) (j := 0) z (by decide)
        obtain ⟨f1, f2⟩ := fin_ok hww g1
        refine Or.inr ⟨i1, f2, show s.1 < t.1 + 1 by omega, show t.1 + 1 ≤ n by omega, fun j hj => ?_, ?_⟩
        · exact (i4 j hj).trans ((k4 j hj).trans (ht j hj))
        · have := g3 z
          rw [f1] at this
          exact this
      · have e : rNeed f n 41 t = rRf n t := if_neg z
        rw [e]
        exact Or.inl ⟨rfl, g4 (fun h => h.elim i6 z)⟩
theorem fn_ok {s : RS} {a : Nat} (ha : a = s.1) :
    ((rFn f n s).1 = -1 ∧ ¬ aW f n a 1 ∧ ¬ aW f n a 2 ∧ ¬ aW f n a 3 ∧ ¬ aW f n a 4) ∨
    (¬ (rFn f n s).1 = -1 ∧ ((rFn f n s).1 = 0 ∨ (rFn f n s).1 = 1 ∨ (rFn f n s).1 = 2 ∨ (rFn f n s).1 = 3) ∧ ∃ len, (rFn f n s).2 = rAd s len ∧ s.1 + len ≤ n ∧ ∀ (se : Int64) (O : List FR) (V : List VL), (if aW f n a 1 then mBg a se O V 9 4 true else if aW f n a 2 then mBg a se O V 10 4 true else if aW f n a 3 then mBg a se O V 11 4 true else if aW f n a 4 then mBg a se O V 12 6 true else none) = some (a + len, 0, true, se, (9 + (rFn f n s).1, 0, 0, 0) :: O, V)) := by
  subst ha
  have e1 : ∀ i, rW f n s i ↔ aW f n s.1 i := fun i => Iff.rfl
  unfold rFn
  by_cases z1 : aW f n s.1 1
  · rw [if_pos ((e1 1).mpr z1)]
    refine Or.inr ⟨(by decide : ¬ (0 : Int32) = -1), Or.inl rfl, 4, rfl, rW_le (i := 1) (by decide) ((e1 1).mpr z1), fun se O V => ?_⟩
    rw [if_pos z1]; rfl
  rw [if_neg (fun w => z1 ((e1 1).mp w))]
  by_cases z2 : aW f n s.1 2
  · rw [if_pos ((e1 2).mpr z2)]
    refine Or.inr ⟨(by decide : ¬ (1 : Int32) = -1), Or.inr (Or.inl rfl), 4, rfl, rW_le (i := 2) (by decide) ((e1 2).mpr z2), fun se O V => ?_⟩
    rw [if_neg z1, if_pos z2]; rfl
  rw [if_neg (fun w => z2 ((e1 2).mp w))]
  by_cases z3 : aW f n s.1 3
  · rw [if_pos ((e1 3).mpr z3)]
    refine Or.inr ⟨(by decide : ¬ (2 : Int32) = -1), Or.inr (Or.inr (Or.inl rfl)), 4, rfl, rW_le (i := 3) (by decide) ((e1 3).mpr z3), fun se O V => ?_⟩
    rw [if_neg z1, if_neg z2, if_pos z3]; rfl
  rw [if_neg (fun w => z3 ((e1 3).mp w))]
  by_cases z4 : aW f n s.1 4
  · rw [if_pos ((e1 4).mpr z4)]
    refine Or.inr ⟨(by decide : ¬ (3 : Int32) = -1), Or.inr (Or.inr (Or.inr rfl)), 6, rfl, rW_le (i := 4) (by decide) ((e1 4).mpr z4), fun se O V => ?_⟩
    rw [if_neg z1, if_neg z2, if_neg z3, if_pos z4]; rfl
  rw [if_neg (fun w => z4 ((e1 4).mp w))]
  exact Or.inl ⟨rfl, z1, z2, z3, z4⟩
end

section
variable {f : Nat → Int32} {n : Nat} {ki : Nat → Int32} {nu : Nat → Int64} {E : RS → Int64 × RS}
theorem rDg_2 : ∀ (k : Nat) (v : Int64) (c : Nat) (s : RS), (rDg f n k v c s).2.2.2 = s.2
  | 0, _, _, _ => rfl
  | k + 1, v, c, s => by
    rw [rDg]
    split
    · exact rDg_2 k _ _ (rAd s 1)
    · rfl
theorem Wr_digits : Wr (rDigits f n) := by
  intro s hs
  unfold rDigits
  split
  · rfl
  · show (rDg f n 9 0 0 s).2.2.2.1 = 1
    rw [rDg_2]
    exact hs
theorem rNeed_w {c : Int32} {s : RS} (h : s.2.1 = 1) : (rNeed f n c s).2.1 = 1 := by
  unfold rNeed
  split
  · exact h
  · rfl
theorem rNeed_t {c : Int32} {s : RS} : (rNeed f n c s).2.2 = s.2.2 := by
  unfold rNeed
  split <;> rfl
theorem rMc_w {i c : Nat} {s : RS} : (rMc ki nu i c s).2.1 = s.2.1 := by
  unfold rMc
  split <;> rfl
theorem rg1_w {i : Nat} : ∀ (k c : Nat) (s : RS), (rg1 ki nu i k c s).2.1 = s.2.1
  | 0, _, _ => rfl
  | k + 1, c, s => (rg1_w k (c + 1) _).trans rMc_w
theorem rg2_w {i c0 wd : Nat} : ∀ (k r : Nat) (s : RS), (rg2 ki nu i c0 wd k r s).2.1 = s.2.1
  | 0, _, _ => rfl
  | k + 1, r, s => (rg2_w k (r + 1) _).trans (rg1_w _ _ _)
theorem rArg_w {i : Nat} {s : RS} (hE : Wr E) (h : s.2.1 = 1) : (rArg f n ki nu E i s).2.1 = 1 := by
  unfold rArg
  split
  · split
    · exact (rg2_w _ _ _).trans h
    · rfl
  · exact hE s h
theorem rArgs_w {i : Nat} (hE : Wr E) : ∀ (k : Nat) (s : RS), s.2.1 = 1 → (rArgs f n ki nu E i k s).2.1 = 1 := by
  intro k
  induction k with
  | zero => intro s h; exact h
  | succ k ih =>
    intro s h
    rw [rArgs]
    split
    · exact ih _ (rArg_w hE h)
    · exact h
theorem rCh3_w {s : RS} (hE : Wr E) (h : (E (rCh2 f n E s)).2.2.1 = 1) : (rCh3 f n E s).2.1 = 1 := rNeed_w h
theorem rChoice_w {s : RS} (h : (rCh3 f n E s).2.1 = 1) : (rChoice f n E s).2.2.1 = 1 := by
  unfold rChoice
  repeat' split
  all_goals exact h
theorem Wr_U {r : Nat} (hE : Wr E) : Wr (rU f n ki nu E r) := by
  intro s hs
  unfold rU
  split
  · exact Wr_digits s hs
  · split
    · exact hs
    · split
      · rfl
      · split
        · exact rNeed_w (hE _ hs)
        · split
          · exact rChoice_w (rNeed_w (hE _ (rNeed_w (hE _ (rNeed_w (hE _ hs))))))
          · split
            · rfl
            · have e : (rFn f n s).2.2.1 = 1 := by
                have : (rFn f n s).2.2 = s.2 := by
                  unfold rFn
                  repeat' split
                  all_goals rfl
                rw [this]
                exact hs
              exact rNeed_w (rArgs_w hE _ _ (rArg_w hE e))
/-- behind an expression inside a frame -/
theorem behind {s : RS} {O' O : List FR} {V' V : List VL} {fr : FR} (hst : stl 1 O' V' = (fr :: O, V)) (h : rPk f n s 0 = 44 ∨ rPk f n s 0 = 41) : mStep f n ki nu (s.1, 1, false, s.2.2.1, O', V') = mClose f n s.1 1 false s.2.2.1 (fr :: O) V := by
  unfold mStep mSign
  rw [if_neg (show ¬ (1 : Nat) = 0 by decide), if_pos rfl, if_pos (show ahd f s.1 n 0 = 44 ∨ ahd f s.1 n 0 = 41 from h), hst]
theorem behind_no {s : RS} {O' O : List FR} {V' V : List VL} {fr : FR} (hst : stl 1 O' V' = (fr :: O, V)) (hx : nxE f n ki nu s O' V') (h : ¬ (rPk f n s 0 = 44 ∨ rPk f n s 0 = 41)) : Run f n ki nu (s.1, 1, false, s.2.2.1, O', V') = none := by
  by_cases z : s.1 < n
  · rcases hx z with g | g | g
    · exact absurd (Or.inl g) h
    · exact absurd (Or.inr g) h
    · exact Run_none z g
  · rw [Run_end z]
    unfold mEnd
    rw [if_pos rfl, hst]
theorem need_no {s : RS} {O' O : List FR} {V' V : List VL} {fr : FR} (hst : stl 1 O' V' = (fr :: O, V)) (hx : nxE f n ki nu s O' V') (c : Int32) (hc : c = 44 ∨ c = 41) (h : ¬ rPk f n s 0 = c) (hn : rPk f n s 0 ≠ c → rPk f n s 0 = 44 ∨ rPk f n s 0 = 41 → mClose f n s.1 1 false s.2.2.1 (fr :: O) V = none) : Run f n ki nu (s.1, 1, false, s.2.2.1, O', V') = none := by
  by_cases z : rPk f n s 0 = 44 ∨ rPk f n s 0 = 41
  · have hlt : s.1 + 0 < n := by
      rcases z with z | z
      · exact ahd_ne (f := f) (j := 0) z (by decide)
      · exact ahd_ne (f := f) (j := 0) z (by decide)
    exact Run_none (show s.1 < n by omega) ((behind hst z).trans (hn h z))
  · exact behind_no hst hx z
theorem b1 {O : List FR} {r : Nat} {w a b : Int32} {c : Int64} (hb : br O + (r + 1) = 8) (hw : tg w = 0) : br ((w, a, b, c) :: O) + r = 8 := by
  rw [br, if_pos hw]
  omega
theorem Sim_br {r : Nat} (hE : Sim f n ki nu E r 1 (nxE f n ki nu)) {s : RS} {O : List FR} {V : List VL} (hw : s.2.1 = 0) (hs : s.1 ≤ n) (hb : br O + (r + 1) = 8) :
    ((rBr f n E s).2.2.1 = 1 ∧ Run f n ki nu (s.1, 0, false, s.2.2.1, (1, 0, 0, 0) :: O, V) = none) ∨
    ((rBr f n E s).2.2.1 = 0 ∧ NE (rBr f n E s).1 (rBr f n E s).2.2.2.2.1 ∧ s.1 < (rBr f n E s).2.1 ∧ (rBr f n E s).2.1 ≤ n ∧ (∀ j, j + r ≤ 8 → (rBr f n E s).2.2.2.2.2 j = s.2.2.2.2 j) ∧ Run f n ki nu (s.1, 0, false, s.2.2.1, (1, 0, 0, 0) :: O, V) = Run f n ki nu ((rBr f n E s).2.1, 1, false, (rBr f n E s).2.2.2.1, O, (1 + (rBr f n E s).2.2.2.2.1, (rBr f n E s).1) :: V)) := by
  rcases hE s ((1, 0, 0, 0) :: O) V hw hs (b1 hb (by decide)) (show tg 1 < 1 by decide) with ⟨k1, k2⟩ | ⟨k1, k2, k3, k4, k5, O', V', k6, k7, k8⟩
  · exact Or.inl ⟨rNeed_w k1, k2⟩
  · unfold rBr
    by_cases z : rPk f n (E s).2 0 = 41
    · have e : rNeed f n 41 (E s).2 = rAd (E s).2 1 := if_pos z
      rw [e]
      have hlt : (E s).2.1 + 0 < n := ahd_ne (f := f) (j := 0) z (by decide)
      refine Or.inr ⟨k1, k2, show s.1 < (E s).2.1 + 1 by omega, show (E s).2.1 + 1 ≤ n by omega, k5, k6.trans (Run_step (show (E s).2.1 < n by omega) ?_)⟩
      rw [behind k7 (Or.inr z)]
      unfold mClose
      dsimp only
      rw [if_neg (by decide), if_neg (by decide), if_pos ⟨rfl, by rw [show ahd f (E s).2.1 n 0 = 41 from z]; decide⟩]
      rfl
    · have e : rNeed f n 41 (E s).2 = rRf n (E s).2 := if_neg z
      rw [e]
      refine Or.inl ⟨rfl, k6.trans (need_no k7 k8 41 (Or.inr rfl) z (fun h1 h2 => ?_))⟩
      have h44 : ahd f (E s).2.1 n 0 = 44 := h2.elim id (fun w => absurd w h1)
      unfold mClose
      dsimp only
      rw [if_neg (by decide), if_neg (by decide), if_neg (fun w => w.2 h44)]
/-- one part of a choice that a comma follows -/
theorem Sim_ch {r : Nat} (hE : Sim f n ki nu E r 1 (nxE f n ki nu)) {s : RS} {O : List FR} {V : List VL} {p : Int32} (hp : p = 0 ∨ p = 1) (hw : s.2.1 = 0) (hs : s.1 ≤ n) (hb : br O + (r + 1) = 8) :
    ((rCh1 f n E s).2.1 = 1 ∧ Run f n ki nu (s.1, 0, false, s.2.2.1, (2, p, 0, 0) :: O, V) = none) ∨
    ((rCh1 f n E s).2.1 = 0 ∧ NE (E s).1 (E s).2.2.2.2.1 ∧ s.1 < (rCh1 f n E s).1 ∧ (rCh1 f n E s).1 ≤ n ∧ (∀ j, j + r ≤ 8 → (rCh1 f n E s).2.2.2.2 j = s.2.2.2.2 j) ∧ Run f n ki nu (s.1, 0, false, s.2.2.1, (2, p, 0, 0) :: O, V) = Run f n ki nu ((rCh1 f n E s).1, 0, false, (rCh1 f n E s).2.2.1, (2, p + 1, 0, 0) :: O, (1 + (E s).2.2.2.2.1, (E s).1) :: V)) := by
  rcases hE s ((2, p, 0, 0) :: O) V hw hs (b1 hb (by decide)) (show tg 2 < 1 by decide) with ⟨k1, k2⟩ | ⟨k1, k2, k3, k4, k5, O', V', k6, k7, k8⟩
  · exact Or.inl ⟨rNeed_w k1, k2⟩
  · unfold rCh1
    by_cases z : rPk f n (E s).2 0 = 44
    · have e : rNeed f n 44 (E s).2 = rAd (E s).2 1 := if_pos z
      rw [e]
      have hlt : (E s).2.1 + 0 < n := ahd_ne (f := f) (j := 0) z (by decide)
      refine Or.inr ⟨k1, k2, show s.1 < (E s).2.1 + 1 by omega, show (E s).2.1 + 1 ≤ n by omega, k5, k6.trans (Run_step (show (E s).2.1 < n by omega) ?_)⟩
      rw [behind k7 (Or.inl z)]
      unfold mClose
      dsimp only
      rw [if_neg (by decide), if_pos rfl, if_pos (show ahd f (E s).2.1 n 0 = 44 from z), if_neg (by rcases hp with rfl | rfl <;> decide)]
      rfl
    · have e : rNeed f n 44 (E s).2 = rRf n (E s).2 := if_neg z
      rw [e]
      refine Or.inl ⟨rfl, k6.trans (need_no k7 k8 44 (Or.inl rfl) z (fun h1 h2 => ?_))⟩
      unfold mClose
      dsimp only
      rw [if_neg (by decide), if_pos rfl, if_neg (show ¬ ahd f (E s).2.1 n 0 = 44 from h1), if_neg (by rcases hp with rfl | rfl <;> decide)]
theorem Sim_choice {r : Nat} (hE : Sim f n ki nu E r 1 (nxE f n ki nu)) (hEw : Wr E) {s : RS} {O : List FR} {V : List VL} (hw : s.2.1 = 0) (hs : s.1 ≤ n) (hb : br O + (r + 1) = 8) :
    ((rChoice f n E s).2.2.1 = 1 ∧ Run f n ki nu (s.1, 0, false, s.2.2.1, (2, 0, 0, 0) :: O, V) = none) ∨
    ((rChoice f n E s).2.2.1 = 0 ∧ NE (rChoice f n E s).1 (rChoice f n E s).2.2.2.2.1 ∧ s.1 < (rChoice f n E s).2.1 ∧ (rChoice f n E s).2.1 ≤ n ∧ (∀ j, j + r ≤ 8 → (rChoice f n E s).2.2.2.2.2 j = s.2.2.2.2 j) ∧ Run f n ki nu (s.1, 0, false, s.2.2.1, (2, 0, 0, 0) :: O, V) = Run f n ki nu ((rChoice f n E s).2.1, 1, false, (rChoice f n E s).2.2.2.1, O, (1 + (rChoice f n E s).2.2.2.2.1, (rChoice f n E s).1) :: V)) := by
  rcases Sim_ch (V := V) hE (Or.inl rfl) hw hs hb with ⟨k1, k2⟩ | ⟨k1, k2, k3, k4, k5, k6⟩
  · exact Or.inl ⟨rChoice_w (rNeed_w (hEw _ (rNeed_w (hEw _ k1)))), k2⟩
  · rcases Sim_ch (s := rCh1 f n E s) (V := (1 + (E s).2.2.2.2.1, (E s).1) :: V) hE (Or.inr rfl) k1 k4 hb with ⟨i1, i2⟩ | ⟨i1, i2, i3, i4, i5, i6⟩
    · exact Or.inl ⟨rChoice_w (rNeed_w (hEw _ i1)), k6.trans i2⟩
    · replace i1 : (rCh2 f n E s).2.1 = 0 := i1
      replace i3 : (rCh1 f n E s).1 < (rCh2 f n E s).1 := i3
      replace i4 : (rCh2 f n E s).1 ≤ n := i4
      replace i5 : ∀ j, j + r ≤ 8 → (rCh2 f n E s).2.2.2.2 j = (rCh1 f n E s).2.2.2.2 j := i5
      replace i6 : Run f n ki nu ((rCh1 f n E s).1, 0, false, (rCh1 f n E s).2.2.1, (2, 1, 0, 0) :: O, (1 + (E s).2.2.2.2.1, (E s).1) :: V) = Run f n ki nu ((rCh2 f n E s).1, 0, false, (rCh2 f n E s).2.2.1, (2, 2, 0, 0) :: O, (1 + (E (rCh1 f n E s)).2.2.2.2.1, (E (rCh1 f n E s)).1) :: (1 + (E s).2.2.2.2.1, (E s).1) :: V) := i6
      rcases hE (rCh2 f n E s) ((2, 2, 0, 0) :: O) ((1 + (E (rCh1 f n E s)).2.2.2.2.1, (E (rCh1 f n E s)).1) :: (1 + (E s).2.2.2.2.1, (E s).1) :: V) i1 i4 (b1 hb (by decide)) (show tg 2 < 1 by decide) with ⟨l1, l2⟩ | ⟨l1, l2, l3, l4, l5, O', V', l6, l7, l8⟩
      · exact Or.inl ⟨rChoice_w (rNeed_w l1), k6.trans (i6.trans l2)⟩
      · by_cases z : rPk f n (E (rCh2 f n E s)).2 0 = 41
        · have e : rCh3 f n E s = rAd (E (rCh2 f n E s)).2 1 := if_pos z
          have hlt : (E (rCh2 f n E s)).2.1 + 0 < n := ahd_ne (f := f) (j := 0) z (by decide)
          have hc : mClose f n (E (rCh2 f n E s)).2.1 1 false (E (rCh2 f n E s)).2.2.2.1 ((2, 2, 0, 0) :: O) ((1 + (E (rCh2 f n E s)).2.2.2.2.1, (E (rCh2 f n E s)).1) :: (1 + (E (rCh1 f n E s)).2.2.2.2.1, (E (rCh1 f n E s)).1) :: (1 + (E s).2.2.2.2.1, (E s).1) :: V) = some ((E (rCh2 f n E s)).2.1 + 1, 1, false, (E (rCh2 f n E s)).2.2.2.1, O, (if 1 + (E s).2.2.2.2.1 = 1 then (if (E s).1 = 0 then (1 + (E (rCh2 f n E s)).2.2.2.2.1, (E (rCh2 f n E s)).1) else (1 + (E (rCh1 f n E s)).2.2.2.2.1, (E (rCh1 f n E s)).1)) else (1 + (E s).2.2.2.2.1, (E s).1)) :: V) := by
            unfold mClose
            dsimp only
            rw [if_neg (by decide), if_pos rfl, if_neg (by rw [show ahd f (E (rCh2 f n E s)).2.1 n 0 = 41 from z]; decide), if_pos (by decide)]
            rfl
          have hrun := k6.trans (i6.trans (l6.trans (Run_step (show (E (rCh2 f n E s)).2.1 < n by omega) ((behind l7 (Or.inr z)).trans hc))))
          have hl5 : ∀ j, j + r ≤ 8 → (E (rCh2 f n E s)).2.2.2.2.2 j = s.2.2.2.2 j := fun j hj => (l5 j hj).trans ((i5 j hj).trans (k5 j hj))
          refine Or.inr ?_
          unfold rChoice
          rw [e]
          have hx1 : s.1 < (E (rCh2 f n E s)).2.1 + 1 := by omega
          have hx2 : (E (rCh2 f n E s)).2.1 + 1 ≤ n := by omega
          by_cases z1 : (E s).2.2.2.2.1 = 0
          · rw [if_neg (fun w => w z1)]
            rw [if_pos (show 1 + (E s).2.2.2.2.1 = 1 by rw [z1]; decide)] at hrun
            by_cases z2 : (E s).1 = 0
            · rw [if_pos z2] at hrun ⊢
              exact ⟨l1, l2, hx1, hx2, hl5, hrun⟩
            · rw [if_neg z2] at hrun ⊢
              exact ⟨l1, i2, hx1, hx2, hl5, hrun⟩
          · rw [if_pos z1]
            obtain ⟨m1, m2⟩ := NE_ne k2 z1
            rw [if_neg m2] at hrun
            refine ⟨l1, ?_, hx1, hx2, hl5, ?_⟩
            · rw [m1] at k2
              exact k2
            · rw [m1] at hrun
              exact hrun
        · have e : rCh3 f n E s = rRf n (E (rCh2 f n E s)).2 := if_neg z
          refine Or.inl ⟨rChoice_w (by rw [e]; rfl), k6.trans (i6.trans (l6.trans (need_no l7 l8 41 (Or.inr rfl) z (fun h1 h2 => ?_))))⟩
          have h44 : ahd f (E (rCh2 f n E s)).2.1 n 0 = 44 := h2.elim id (fun w => absurd w h1)
          unfold mClose
          dsimp only
          rw [if_neg (by decide), if_pos rfl, if_pos h44, if_pos (by decide)]
end

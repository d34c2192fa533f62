/-! Names, colons, tallies. -/
theorem cl8 {x : Int32} (h1 : 0 ≤ x) (h2 : x < 8) : x.toNatClampNeg < 8 := by
  have a1 : 0 ≤ x.toInt := by simpa using Int32.le_iff_toInt_le.mp h1
  have a2 : x.toInt < 8 := by simpa using Int32.lt_iff_toInt_lt.mp h2
  show x.toInt.toNat < 8
  omega
theorem nm_lt {x y : Int32} {c : Nat} (h : nm x y = some c) : c < 64 := by
  unfold nm at h
  by_cases z : (0 ≤ x - 65 ∧ x - 65 < 8) ∧ (0 ≤ y - 49 ∧ y - 49 < 8)
  · rw [if_pos z] at h
    have h1 := cl8 z.1.1 z.1.2
    have h2 := cl8 z.2.1 z.2.2
    have := Option.some.inj h
    omega
  · rw [if_neg z] at h
    cases h
theorem nm_low {x y : Int32} {c : Nat} (h : nm x y = some c) (k : Int32) (hk : k - 65 < 0) : x ≠ k := by
  intro e
  subst e
  unfold nm at h
  rw [if_neg (fun w => absurd hk (Int32.not_lt.mpr w.1.1))] at h
  cases h
theorem nm_nd {x y : Int32} {c : Nat} (h : nm x y = some c) : ¬ isD x := by
  intro d
  have h1 : 48 ≤ x.toInt := by simpa using Int32.le_iff_toInt_le.mp d.1
  have h2 : x.toInt ≤ 57 := by simpa using Int32.le_iff_toInt_le.mp d.2
  have e : ∀ t : Nat, t < 10 → Int32.ofInt (48 + (t : Int)) - 65 < 0 := by decide
  have hx : x = Int32.ofInt (48 + ((x.toInt - 48).toNat : Int)) := by
    rw [show (48 : Int) + ((x.toInt - 48).toNat : Int) = x.toInt by omega, Int32.ofInt_toInt]
  exact nm_low h _ (e _ (by omega)) hx
theorem nm_58 {x : Int32} : nm x 58 = none := by
  unfold nm
  rw [if_neg (fun w => absurd w.2.2 (by decide))]
section
variable {f : Nat → Int32} {n : Nat} {ki : Nat → Int32} {nu : Nat → Int64}
theorem mDg_stop {k : Nat} {v : Int64} {a : Nat} (h : ¬ isD (ahd f a n 0)) : mDg f n k v a = (v, a) := by
  cases k with
  | zero => rfl
  | succ k => rw [mDg, if_neg h]
theorem nd58 : ¬ isD 58 := by decide
theorem aW_at {a i j : Nat} {c : Int32} (h : aW f n a i) (hj : j < sLen.getD i 0) (e : ahd f a n j = c) : c = sChr i j := e.symm.trans (h j hj)
theorem colon0 {m : MS} (h : ahd f m.1 n 0 = 58) : Run f n ki nu m = none := by
  have hlt : m.1 + 0 < n := ahd_ne (f := f) h (by decide)
  refine Run_none (by omega) ?_
  unfold mStep
  split
  · unfold mFactor
    rw [h, if_neg (by decide), if_neg nd58]
    rw [show nm 58 (ahd f m.1 n 1) = none from by unfold nm; rw [if_neg (fun w => absurd w.1.1 (by decide))]]
    show mOpen f n m.1 _ _ _ = none
    unfold mOpen
    split
    · rfl
    · rw [h, if_neg (by decide)]
      have hw : ∀ i, i < 5 → ¬ aW f n m.1 i := by
        intro i hi w
        have e := aW_at (j := 0) w ((show ∀ i, i < 5 → 0 < sLen.getD i 0 by decide) i hi) h
        revert e
        match i, hi with
        | 0, _ => decide
        | 1, _ => decide
        | 2, _ => decide
        | 3, _ => decide
        | 4, _ => decide
      rw [if_neg (hw 0 (by decide)), if_neg (hw 1 (by decide)), if_neg (hw 2 (by decide)), if_neg (hw 3 (by decide)), if_neg (hw 4 (by decide))]
  · split
    · unfold mSign
      rw [h, if_neg (by decide)]
      have e : ∀ d, (sgA 58 d).1 = 0 := by
        intro d
        unfold sgA
        rw [if_neg (fun w => w.elim (fun w => absurd w.1 (by decide)) (fun w => w.1.elim (by decide) (by decide)))]
        decide
      unfold mSgn
      rw [e, if_pos rfl]
    · rw [h, if_neg (by decide)]
theorem colon1 {m : MS} (h : ahd f m.1 n 1 = 58) : Run f n ki nu m = none := by
  have hlt : m.1 + 1 < n := ahd_ne (f := f) h (by decide)
  cases e : mStep f n ki nu m with
  | none => exact Run_none (by omega) e
  | some m' =>
    rw [Run_step (by omega) e]
    have hm : m'.1 = m.1 + 1 := by
      unfold mStep at e
      split at e
      · unfold mFactor at e
        split at e
        · unfold mBg at e
          cases e
          rfl
        · split at e
          · rename_i hd
            split at e
            · rename_i hdd
              have : (mDg f n (n - m.1) 0 m.1).2 = m.1 + 1 := by
                obtain ⟨k, hk⟩ : ∃ k, n - m.1 = k + 1 := ⟨n - m.1 - 1, by omega⟩
                rw [hk, mDg, if_pos hd, mDg_stop (by
                  show ¬ isD (ahd f (m.1 + 1) n 0)
                  rw [show ahd f (m.1 + 1) n 0 = 58 from h]
                  exact nd58)]
              cases e
              exact this
            · cases e
          · rw [h, nm_58] at e
            dsimp only at e
            unfold mOpen at e
            have hw : ∀ i, i < 5 → ¬ aW f n m.1 i := by
              intro i hi w
              have e := aW_at (j := 1) w ((show ∀ i, i < 5 → 1 < sLen.getD i 0 by decide) i hi) h
              revert e
              match i, hi with
              | 0, _ => decide
              | 1, _ => decide
              | 2, _ => decide
              | 3, _ => decide
              | 4, _ => decide
            rw [if_neg (hw 0 (by decide)), if_neg (hw 1 (by decide)), if_neg (hw 2 (by decide)), if_neg (hw 3 (by decide)), if_neg (hw 4 (by decide))] at e
            split at e
            · cases e
            · split at e
              · unfold mBg at e
                cases e
                rfl
              · cases e
      · split at e
        · unfold mSign at e
          split at e
          · exact mClose_lt e
          · have e2 : ∀ c, (sgA c 58).2 = 1 := by
              intro c
              unfold sgA
              rw [if_neg (fun w => w.elim (fun w => absurd w.2 (by decide)) (fun w => absurd w.2 (by decide)))]
            rw [h] at e
            unfold mSgn mBg at e
            split at e
            · cases e
            · split at e
              · cases e
              · cases e
                show m.1 + (sgA _ 58).2 = _
                rw [e2]
        · split at e
          · exact mClose_lt e
          · cases e
    exact colon0 (by rw [hm]; exact h)
theorem colon2 {a : Nat} {fi : Bool} {se : Int64} {O : List FR} {V : List VL} (h : ahd f a n 2 = 58) (hn : nm (ahd f a n 0) (ahd f a n 1) = none) : Run f n ki nu (a, 0, fi, se, O, V) = none := by
  have hlt : a + 2 < n := ahd_ne (f := f) h (by decide)
  cases e : mStep f n ki nu (a, 0, fi, se, O, V) with
  | none => exact Run_none (show a < n by omega) e
  | some m' =>
    rw [Run_step (show a < n by omega) e]
    have hm : m'.1 = a + 1 ∨ m'.1 = a + 2 := by
      unfold mStep at e
      rw [if_pos rfl] at e
      dsimp only at e
      unfold mFactor at e
      split at e
      · unfold mBg at e
        cases e
        exact Or.inl rfl
      · split at e
        · rename_i hd
          split at e
          · rename_i hdd
            have : (mDg f n (n - a) 0 a).2 = a + 1 ∨ (mDg f n (n - a) 0 a).2 = a + 2 := by
              obtain ⟨k, hk⟩ : ∃ k, n - a = k + 2 := ⟨n - a - 2, by omega⟩
              rw [hk, mDg, if_pos hd]
              by_cases h1 : isD (ahd f (a + 1) n 0)
              · rw [mDg, if_pos h1, mDg_stop (by
                  show ¬ isD (ahd f (a + 2) n 0)
                  rw [show ahd f (a + 2) n 0 = 58 from h]
                  exact nd58)]
                exact Or.inr rfl
              · rw [mDg_stop h1]
                exact Or.inl rfl
            cases e
            exact this
          · cases e
        · rw [hn] at e
          dsimp only at e
          unfold mOpen at e
          have hw : ∀ i, i < 5 → ¬ aW f n a i := by
            intro i hi w
            have e := aW_at (j := 2) w ((show ∀ i, i < 5 → 2 < sLen.getD i 0 by decide) i hi) h
            revert e
            match i, hi with
            | 0, _ => decide
            | 1, _ => decide
            | 2, _ => decide
            | 3, _ => decide
            | 4, _ => decide
          rw [if_neg (hw 0 (by decide)), if_neg (hw 1 (by decide)), if_neg (hw 2 (by decide)), if_neg (hw 3 (by decide)), if_neg (hw 4 (by decide))] at e
          split at e
          · cases e
          · split at e
            · unfold mBg at e
              cases e
              exact Or.inl rfl
            · cases e
    rcases hm with hm | hm
    · exact colon1 (by rw [hm]; exact h)
    · exact colon0 (by rw [hm]; exact h)
end
/-- a tally and the reference's frame of the function w -/
def FRel (w : Int32) (t : TY) (fr : FR) : Prop :=
  fr.1 = 9 + w ∧ fr.2.1 = t.2.1 ∧ fr.2.2.1 = (if t.1 = 0 then 0 else t.1 + 1) ∧ (t.1 = 0 ∨ t.1 = 1 ∨ t.1 = 2) ∧ (w = 0 → fr.2.2.2 = t.2.2.1) ∧ (w = 1 → fr.2.2.2 = t.2.2.2.1) ∧ (w = 2 → fr.2.2.2 = t.2.2.2.2)
theorem meet_ok {w : Int32} {t : TY} {fr : FR} {x : Int64} {e : Int32} (hw : w = 0 ∨ w = 1 ∨ w = 2 ∨ w = 3) (h : FRel w t fr) (hx : NE x e) : FRel w (tMeet t x e) (fld fr (1 + e) x) := by
  obtain ⟨h1, h2, h3, h4, h5, h6, h7⟩ := h
  obtain ⟨wh, pa, me, su⟩ := fr
  obtain ⟨er, co, sm, le, gr⟩ := t
  dsimp only at h1 h2 h3 h4 h5 h6 h7
  unfold tMeet fld
  dsimp only
  by_cases z1 : er = 0
  · subst z1
    rw [if_pos rfl] at h3
    subst h3
    rw [if_neg (show ¬ (0 : Int32) ≠ 0 by decide)]
    have he : 1 + e ≠ 0 := by
      rcases hx with rfl | ⟨rfl | rfl, -⟩ <;> decide
    rw [if_neg (show ¬ ((0 : Int32) < 0 ∨ 1 + e = 0) from fun w => w.elim (by decide) he)]
    by_cases z2 : e = 0
    · subst z2
      rw [if_neg (show ¬ (0 : Int32) ≠ 0 by decide), if_neg (show ¬ (1 : Int32) < 1 + 0 by decide)]
      subst h2
      refine ⟨h1, rfl, rfl, Or.inl rfl, ?_, ?_, ?_⟩
      · intro hw0
        subst hw0
        subst h1
        dsimp only
        rw [if_pos (by decide), h5 rfl]
      · intro hw0
        subst hw0
        subst h1
        dsimp only
        rw [if_neg (by decide), h6 rfl]
        by_cases zc : pa = 0
        · rw [if_pos (Or.inl zc), if_pos zc]
        · rw [if_neg zc]
          by_cases zl : x < le
          · rw [if_pos (Or.inr (Or.inl ⟨by decide, zl⟩)), if_pos zl]
          · rw [if_neg (fun w => w.elim zc (fun w => w.elim (fun w => zl w.2) (fun w => absurd (by decide) w.1))), if_neg zl]
      · intro hw0
        subst hw0
        subst h1
        dsimp only
        rw [if_neg (by decide), h7 rfl]
        by_cases zc : pa = 0
        · rw [if_pos (Or.inl zc), if_pos zc]
        · rw [if_neg zc]
          by_cases zl : x < gr
          · rw [if_neg (fun w => w.elim zc (fun w => w.elim (fun w => absurd w.1 (by decide)) (fun w => absurd w.2 (Int64.not_lt.mpr (Int64.le_of_lt zl))))), if_pos zl]
          · by_cases zg : gr < x
            · rw [if_pos (Or.inr (Or.inr ⟨by decide, zg⟩)), if_neg zl]
            · rw [if_neg (fun w => w.elim zc (fun w => w.elim (fun w => absurd w.1 (by decide)) (fun w => zg w.2))), if_neg zl]
              exact Int64.le_antisymm (Int64.not_lt.mp zl) (Int64.not_lt.mp zg)
    · rw [if_pos z2]
      have h1e : 1 < 1 + e := by
        rcases hx with h | ⟨rfl | rfl, -⟩
        · exact absurd h z2
        · decide
        · decide
      rw [if_pos h1e]
      refine ⟨h1, h2, ?_, ?_, h5, h6, h7⟩
      · show 1 + e = if e = 0 then 0 else e + 1
        rw [if_neg z2, Int32.add_comm]
      · rcases hx with h | ⟨h, -⟩
        · exact absurd h z2
        · exact Or.inr h
  · rw [if_pos z1]
    rw [if_neg z1] at h3
    have hm : 0 < me := by
      rw [h3]
      rcases h4 with h | rfl | rfl
      · exact absurd h z1
      · decide
      · decide
    rw [if_pos (Or.inl hm)]
    exact ⟨h1, h2, by rw [if_neg z1]; exact h3, h4, h5, h6, h7⟩
theorem fin_ok {w : Int32} {t : TY} {fr : FR} (hw : w = 0 ∨ w = 1 ∨ w = 2 ∨ w = 3) (h : FRel w t fr) : fin fr = (1 + tErr t w, if tErr t w = 0 then tNum t w else 0) ∧ NE (if tErr t w = 0 then tNum t w else 0) (tErr t w) := by
  obtain ⟨h1, h2, h3, h4, h5, h6, h7⟩ := h
  obtain ⟨wh, pa, me, su⟩ := fr
  obtain ⟨er, co, sm, le, gr⟩ := t
  dsimp only at h1 h2 h3 h4 h5 h6 h7
  have hk : fink (wh, pa, me, su) = 1 + tErr (er, co, sm, le, gr) w ∧ (tErr (er, co, sm, le, gr) w = 0 ∨ tErr (er, co, sm, le, gr) w = 1 ∨ tErr (er, co, sm, le, gr) w = 2) := by
    unfold fink tErr
    dsimp only
    by_cases z1 : er = 0
    · subst z1
      rw [if_pos rfl] at h3
      subst h3
      subst h2
      rw [if_neg (by decide)]
      by_cases z2 : (w = 1 ∨ w = 2) ∧ pa = 0
      · rw [if_pos (show (0 : Int32) = 0 ∧ (w = 1 ∨ w = 2) ∧ pa = 0 from ⟨rfl, z2⟩), if_pos (show pa = 0 ∧ (wh = 10 ∨ wh = 11) from ⟨z2.2, by rcases z2.1 with rfl | rfl <;> rw [h1] <;> decide⟩)]
        exact ⟨by decide, by decide⟩
      · rw [if_neg (show ¬ ((0 : Int32) = 0 ∧ (w = 1 ∨ w = 2) ∧ pa = 0) from fun q => z2 q.2), if_neg]
        · exact ⟨by decide, by decide⟩
        · rintro ⟨q1, q2⟩
          refine z2 ⟨?_, q1⟩
          rw [h1] at q2
          rcases hw with rfl | rfl | rfl | rfl
          · exact absurd q2 (by decide)
          · exact Or.inl rfl
          · exact Or.inr rfl
          · exact absurd q2 (by decide)
    · rw [if_neg z1] at h3
      have hm : 0 < me := by
        rw [h3]
        rcases h4 with h | rfl | rfl
        · exact absurd h z1
        · decide
        · decide
      rw [if_pos hm, if_neg (show ¬ (er = 0 ∧ (w = 1 ∨ w = 2) ∧ co = 0) from fun q => z1 q.1), h3, Int32.add_comm]
      exact ⟨rfl, h4⟩
  obtain ⟨k1, k2⟩ := hk
  unfold fin
  rw [k1]
  generalize hE : tErr (er, co, sm, le, gr) w = E at k2
  by_cases z : E = 0
  · subst z
    rw [if_pos (by decide), if_pos rfl]
    refine ⟨Prod.ext rfl ?_, Or.inl rfl⟩
    dsimp only
    unfold tNum
    dsimp only
    rcases hw with rfl | rfl | rfl | rfl
    · rw [h1, if_neg (by decide), if_pos rfl]; exact h5 rfl
    · rw [h1, if_neg (by decide), if_neg (by decide), if_pos rfl]; exact h6 rfl
    · rw [h1, if_neg (by decide), if_neg (by decide), if_neg (by decide), if_pos rfl]; exact h7 rfl
    · rw [h1, if_pos (by decide), if_neg (by decide), if_neg (by decide), if_neg (by decide), h2]
  · have k3 : E = 1 ∨ E = 2 := k2.elim (fun h => absurd h z) id
    rw [if_neg z, if_neg (by rcases k3 with rfl | rfl <;> decide)]
    exact ⟨rfl, Or.inr ⟨k3, rfl⟩⟩

section
variable {f : Nat → Int32} {n : Nat} {ki : Nat → Int32} {nu : Nat → Int64} {E : RS → Int64 × RS}
theorem SimU_ok {r : Nat} (hn : n ≤ 40) (hV : CV ki nu) (hE : ∀ r', r = r' + 1 → Sim f n ki nu E r' 1 (nxE f n ki nu)) (hEw : Wr E) : SimU f n ki nu (rU f n ki nu E r) r := by
  intro s O V hw hs hb hm
  have hF : mStep f n ki nu (s.1, 0, false, s.2.2.1, O, V) = (if isD (ahd f s.1 n 0) then
    (if s.1 < (mDg f n (n - s.1) 0 s.1).2 ∧ (mDg f n (n - s.1) 0 s.1).2 ≤ s.1 + 9 then some ((mDg f n (n - s.1) 0 s.1).2, 1, false, s.2.2.1, O, (1, (mDg f n (n - s.1) 0 s.1).1) :: V) else none)
  else match nm (ahd f s.1 n 0) (ahd f s.1 n 1) with
    | some c => mName f n ki nu s.1 false s.2.2.1 O V c
    | none => mOpen f n s.1 s.2.2.1 O V) := by
    unfold mStep
    rw [if_pos rfl]
    unfold mFactor
    dsimp only
    rw [if_neg (show ¬ ahd f s.1 n 0 = 45 from hm)]
    rfl
  have stepN : mStep f n ki nu (s.1, 0, false, s.2.2.1, O, V) = none → Run f n ki nu (s.1, 0, false, s.2.2.1, O, V) = none := by
    intro e
    by_cases z : s.1 < n
    · exact Run_none z e
    · rw [Run_end z]
      rfl
  unfold rU
  by_cases z : isD (rPk f n s 0)
  · rw [if_pos z]
    rw [if_pos (show isD (ahd f s.1 n 0) from z)] at hF
    have hlt : s.1 + 0 < n := ahd_ne (f := f) (a := s.1) (j := 0) rfl (isD_ne z)
    rcases digits_ok (f := f) hs hw with ⟨k1, k2⟩ | ⟨k1, k2, k3, k4, k5, k6, k7, k8⟩
    · rw [if_neg k2] at hF
      exact Or.inl ⟨k1, stepN hF⟩
    · rw [if_pos k7] at hF
      refine Or.inr ⟨k1, by rw [k2]; exact NE_0, k3, k4, fun j _ => by rw [k6], O, (1 + (rDigits f n s).2.2.2.2.1, (rDigits f n s).1) :: V, (Run_step (show s.1 < n by omega) hF).trans ?_, stl_5, trivial⟩
      rw [k8, k5, k2]
      rfl
  · rw [if_neg z]
    rw [if_neg (show ¬ isD (ahd f s.1 n 0) from z)] at hF
    cases e : nm (rPk f n s 0) (rPk f n s 1) with
    | some c =>
      rw [show nm (ahd f s.1 n 0) (ahd f s.1 n 1) = some c from e] at hF
      dsimp only at hF ⊢
      have h1 : s.1 + 1 < n := ahd_ne (f := f) (a := s.1) (j := 1) rfl (nm_ne e).2
      obtain ⟨v1, v2, -⟩ := CV_ne hV (nm_lt e)
      unfold mName at hF
      rw [if_neg (fun w => absurd w.1 (by decide)), v2] at hF
      exact Or.inr ⟨hw, v1, show s.1 < s.1 + 2 by omega, show s.1 + 2 ≤ n by omega, fun _ _ => rfl, O, _, Run_step (show s.1 < n by omega) hF, stl_5, trivial⟩
    | none =>
      rw [show nm (ahd f s.1 n 0) (ahd f s.1 n 1) = none from e] at hF
      dsimp only at hF ⊢
      unfold mOpen at hF
      by_cases hr : r = 0
      · rw [if_pos hr]
        rw [if_pos (by omega)] at hF
        exact Or.inl ⟨rfl, stepN hF⟩
      · rw [if_neg hr]
        rw [if_neg (by omega)] at hF
        obtain ⟨r', rfl⟩ : ∃ r', r = r' + 1 := ⟨r - 1, by omega⟩
        replace hE := hE r' rfl
        by_cases z2 : rPk f n s 0 = 40
        · rw [if_pos z2]
          rw [if_pos (show ahd f s.1 n 0 = 40 from z2)] at hF
          have hlt : s.1 + 0 < n := ahd_ne (f := f) (a := s.1) (j := 0) z2 (by decide)
          have hstep := Run_step (show s.1 < n by omega) hF
          rcases Sim_br (s := rAd s 1) (V := V) hE hw (show s.1 + 1 ≤ n by omega) hb with ⟨k1, k2⟩ | ⟨k1, k2, k3, k4, k5, k6⟩
          · exact Or.inl ⟨k1, hstep.trans k2⟩
          · have k3' : s.1 + 1 < (rBr f n E (rAd s 1)).2.1 := k3
            exact Or.inr ⟨k1, k2, by omega, k4, fun j hj => k5 j (by omega), O, _, hstep.trans k6, stl_5, trivial⟩
        · rw [if_neg z2]
          rw [if_neg (show ¬ ahd f s.1 n 0 = 40 from z2)] at hF
          by_cases z3 : rW f n s 0
          · rw [if_pos z3]
            rw [if_pos (show aW f n s.1 0 from z3)] at hF
            have hle : s.1 + 3 ≤ n := rW_le (i := 0) (by decide) z3
            have hstep := Run_step (show s.1 < n by omega) hF
            rcases Sim_choice (s := rAd s 3) (V := V) hE hEw hw hle hb with ⟨k1, k2⟩ | ⟨k1, k2, k3, k4, k5, k6⟩
            · exact Or.inl ⟨k1, hstep.trans k2⟩
            · have k3' : s.1 + 3 < (rChoice f n E (rAd s 3)).2.1 := k3
              exact Or.inr ⟨k1, k2, by omega, k4, fun j hj => k5 j (by omega), O, _, hstep.trans k6, stl_5, trivial⟩
          · rw [if_neg z3]
            rw [if_neg (show ¬ aW f n s.1 0 from z3)] at hF
            rcases fn_ok (f := f) (n := n) (s := s) rfl with ⟨g1, g2, g3, g4, g5⟩ | ⟨g1, g2, len, g3, g4, g5⟩
            · rw [if_pos g1]
              rw [if_neg g2, if_neg g3, if_neg g4, if_neg g5] at hF
              exact Or.inl ⟨rfl, stepN hF⟩
            · rw [if_neg g1]
              rw [g5] at hF
              have hlen : 0 < len := by
                have := mStep_lt hF
                have h2 : s.1 < s.1 + len := this
                omega
              have hstep := Run_step (show s.1 < n by omega) hF
              rw [g3]
              rcases Sim_fun (s := rAd s len) (i := 9 - (r' + 1)) (V := V) hn (by omega) hV g2 hE hEw hw g4 hb with ⟨k1, k2⟩ | ⟨k1, k2, k3, k4, k5, k6⟩
              · exact Or.inl ⟨k1, hstep.trans k2⟩
              · have k3' : s.1 + len < (rFun f n ki nu E (rFn f n s).1 (9 - (r' + 1)) (rAd s len)).2.1 := k3
                exact Or.inr ⟨k1, k2, by omega, k4, fun j hj => k5 j (by omega), O, _, hstep.trans k6, stl_5, trivial⟩
theorem Wr_0 : Wr (fun s => ((0 : Int64), s)) := fun _ h => h
theorem Wr_ex : ∀ r, Wr (ex f n ki nu r)
  | 0 => Wr_exp (Wr_sum (Wr_prod (Wr_fac (Wr_U Wr_0))))
  | r + 1 => Wr_exp (Wr_sum (Wr_prod (Wr_fac (Wr_U (Wr_ex r)))))
theorem Sim_ex (hn : n ≤ 40) (hV : CV ki nu) : ∀ r, Sim f n ki nu (ex f n ki nu r) r 1 (nxE f n ki nu)
  | 0 => Sim_exp (Sim_sum hn (Sim_prod hn (Sim_fac hn (SimU_ok hn hV (fun r' h => by omega) Wr_0)) (Wr_fac (Wr_U Wr_0))) (Wr_prod (Wr_fac (Wr_U Wr_0)))) (Wr_sum (Wr_prod (Wr_fac (Wr_U Wr_0))))
  | r + 1 => Sim_exp (Sim_sum hn (Sim_prod hn (Sim_fac hn (SimU_ok hn hV (fun r' h => by have : r = r' := by omega
                                                                                         subst this
                                                                                         exact Sim_ex hn hV r) (Wr_ex r))) (Wr_fac (Wr_U (Wr_ex r)))) (Wr_prod (Wr_fac (Wr_U (Wr_ex r))))) (Wr_sum (Wr_prod (Wr_fac (Wr_U (Wr_ex r)))))
end
/-! read() and scan() -/
section
variable (f : Nat → Int32) (n : Nat) (ki : Nat → Int32) (nu : Nat → Int64)
/-- read(): the number, and the state behind it; er, tl are what the reader held before -/
def rdX (s : RS) : Int64 × RS :=
  if rPk f n s 0 = 61 then ex f n ki nu 8 (rAd s 1) else if rPk f n s 0 = 45 then (-(rDigits f n (rAd s 1)).1, (rDigits f n (rAd s 1)).2) else rDigits f n s
def rd0 (er : Int32) (ta : Nat → TY) : RS := (0, 0, 0, er, ta)
abbrev rdOk (q : Int64 × RS) : Prop := q.2.2.1 = 0 ∧ q.2.1 = n
/-- scan(): the value and what it refers to, or none -/
def scn : Option (VL × Int64) :=
  if ahd f 0 n 0 = 61 then Run f n ki nu (1, 0, false, 0, [], [])
  else if ahd f 0 n 0 = 45 then (if 1 < (mDg f n (n - 1) 0 1).2 ∧ (mDg f n (n - 1) 0 1).2 ≤ 1 + 9 ∧ n ≤ (mDg f n (n - 1) 0 1).2 then some ((1, -(mDg f n (n - 1) 0 1).1), 0) else none)
  else (if 0 < (mDg f n (n - 0) 0 0).2 ∧ (mDg f n (n - 0) 0 0).2 ≤ 0 + 9 ∧ n ≤ (mDg f n (n - 0) 0 0).2 then some ((1, (mDg f n (n - 0) 0 0).1), 0) else none)
end
section
variable {f : Nat → Int32} {n : Nat} {ki : Nat → Int32} {nu : Nat → Int64}
theorem read_ok (hn : n ≤ 40) (hV : CV ki nu) (er : Int32) (ta : Nat → TY) :
    (¬ rdOk n (rdX f n ki nu (rd0 er ta)) ∧ scn f n ki nu = none) ∨
    (rdOk n (rdX f n ki nu (rd0 er ta)) ∧ NE (rdX f n ki nu (rd0 er ta)).1 (rdX f n ki nu (rd0 er ta)).2.2.2.2.1 ∧ scn f n ki nu = some ((1 + (rdX f n ki nu (rd0 er ta)).2.2.2.2.1, (rdX f n ki nu (rd0 er ta)).1), (rdX f n ki nu (rd0 er ta)).2.2.2.1)) := by
  unfold rdX scn
  by_cases z1 : ahd f 0 n 0 = 61
  · rw [if_pos (show rPk f n (rd0 er ta) 0 = 61 from z1), if_pos z1]
    have hlt : 0 + 0 < n := ahd_ne (f := f) z1 (by decide)
    rcases Sim_ex (f := f) hn hV 8 (rAd (rd0 er ta) 1) [] [] rfl (show 0 + 1 ≤ n by omega) rfl (by decide) with ⟨k1, k2⟩ | ⟨k1, k2, k3, k4, k5, O', V', k6, k7, k8⟩
    · refine Or.inl ⟨fun h => ?_, k2⟩
      have h1 := h.1
      rw [k1] at h1
      exact absurd h1 (by decide)
    · have k6' : Run f n ki nu (1, 0, false, 0, [], []) = _ := k6
      rw [k6']
      generalize ex f n ki nu 8 (rAd (rd0 er ta) 1) = q at k1 k2 k3 k4 k5 k7 k8 ⊢
      by_cases z : q.2.1 = n
      · refine Or.inr ⟨⟨k1, z⟩, k2, ?_⟩
        rw [Run_end (show ¬ q.2.1 < n by omega)]
        unfold mEnd
        rw [if_pos rfl, k7]
      · refine Or.inl ⟨fun h => z h.2, ?_⟩
        have hl : q.2.1 < n := by omega
        rcases k8 hl with g | g | g
        · refine Run_none hl ?_
          unfold mStep mSign
          rw [if_neg (show ¬ (1 : Nat) = 0 by decide), if_pos rfl, if_pos (show ahd f q.2.1 n 0 = 44 ∨ ahd f q.2.1 n 0 = 41 from Or.inl g), k7]
          rfl
        · refine Run_none hl ?_
          unfold mStep mSign
          rw [if_neg (show ¬ (1 : Nat) = 0 by decide), if_pos rfl, if_pos (show ahd f q.2.1 n 0 = 44 ∨ ahd f q.2.1 n 0 = 41 from Or.inr g), k7]
          rfl
        · exact Run_none hl g
  · rw [if_neg (show ¬ rPk f n (rd0 er ta) 0 = 61 from z1), if_neg z1]
    have key : ∀ s : RS, s.2.1 = 0 → s.1 ≤ n → s.2.2.1 = 0 → (¬ rdOk n (rDigits f n s) ∧ ¬ (s.1 < (mDg f n (n - s.1) 0 s.1).2 ∧ (mDg f n (n - s.1) 0 s.1).2 ≤ s.1 + 9 ∧ n ≤ (mDg f n (n - s.1) 0 s.1).2)) ∨ (rdOk n (rDigits f n s) ∧ (s.1 < (mDg f n (n - s.1) 0 s.1).2 ∧ (mDg f n (n - s.1) 0 s.1).2 ≤ s.1 + 9 ∧ n ≤ (mDg f n (n - s.1) 0 s.1).2) ∧ (rDigits f n s).2.2.2.2.1 = 0 ∧ (rDigits f n s).2.2.2.1 = 0 ∧ (mDg f n (n - s.1) 0 s.1).1 = (rDigits f n s).1) := by
      intro s hw hs h0
      rcases digits_ok (f := f) hs hw with ⟨k1, k2⟩ | ⟨k1, k2, k3, k4, k5, k6, k7, k8⟩
      · refine Or.inl ⟨fun h => ?_, fun h => k2 ⟨h.1, h.2.1⟩⟩
        have h1 := h.1
        rw [k1] at h1
        exact absurd h1 (by decide)
      · have e2 : (mDg f n (n - s.1) 0 s.1).2 = (rDigits f n s).2.1 := by rw [k8]
        by_cases z : (rDigits f n s).2.1 = n
        · exact Or.inr ⟨⟨k1, z⟩, ⟨k7.1, k7.2, by rw [e2, z]; exact Nat.le_refl _⟩, k2, k5.trans h0, by rw [k8]⟩
        · exact Or.inl ⟨fun h => z h.2, fun h => z (by omega)⟩
    by_cases z2 : ahd f 0 n 0 = 45
    · rw [if_pos (show rPk f n (rd0 er ta) 0 = 45 from z2), if_pos z2]
      have hlt : 0 + 0 < n := ahd_ne (f := f) z2 (by decide)
      rcases key (rAd (rd0 er ta) 1) rfl (show 0 + 1 ≤ n by omega) rfl with ⟨k1, k2⟩ | ⟨k1, k2, k3, k4, k5⟩
      · exact Or.inl ⟨k1, if_neg k2⟩
      · refine Or.inr ⟨k1, ?_, ?_⟩
        · rw [k3]; exact NE_0
        · refine (if_pos k2).trans ?_
          rw [k3, k4, show (mDg f n (n - 1) 0 1).1 = (rDigits f n (rAd (rd0 er ta) 1)).1 from k5]
          rfl
    · rw [if_neg (show ¬ rPk f n (rd0 er ta) 0 = 45 from z2), if_neg z2]
      rcases key (rd0 er ta) rfl (Nat.zero_le _) rfl with ⟨k1, k2⟩ | ⟨k1, k2, k3, k4, k5⟩
      · exact Or.inl ⟨k1, if_neg k2⟩
      · refine Or.inr ⟨k1, ?_, ?_⟩
        · rw [k3]; exact NE_0
        · refine (if_pos k2).trans ?_
          rw [k3, k4, show (mDg f n (n - 0) 0 0).1 = (rDigits f n (rd0 er ta)).1 from k5]
          rfl
end

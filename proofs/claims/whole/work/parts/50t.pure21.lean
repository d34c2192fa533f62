/-! Working cells out. -/
def wv (f : Nat → Int32) (n : Nat) (ki : Nat → Int32) (nu : Nat → Int64) : VL := match scn f n ki nu with
  | some q => q.1
  | none => (0, 0)
/-- a text that can be read, and what it refers to -/
def Txt (f : Nat → Int32) (n : Nat) (R : Int64) : Prop := ∀ (ki : Nat → Int32) (nu : Nat → Int64), CV ki nu → ∃ v, scn f n ki nu = some (v, R)
theorem CV_0 : CV (fun _ => 0) (fun _ => 0) := fun _ _ => ⟨Or.inl rfl, fun _ => rfl⟩
theorem scn_txt {f : Nat → Int32} {n : Nat} {ki : Nat → Int32} {nu : Nat → Int64} {v : VL} {R : Int64} (hn : n ≤ 40) (hV : CV ki nu) (h : scn f n ki nu = some (v, R)) : Txt f n R := by
  intro ki' nu' hV'
  have h3 := rdX_3 (f := f) (n := n) (ki := ki) (nu := nu) (ki' := ki') (nu' := nu') 0 0 (fun _ => (0, 0, 0, 0, 0)) (fun _ => (0, 0, 0, 0, 0))
  rcases read_ok (f := f) hn hV 0 (fun _ => (0, 0, 0, 0, 0)) with ⟨-, k2⟩ | ⟨k1, -, k3⟩
  · rw [k2] at h
    cases h
  · rw [h] at k3
    have eR := (Prod.mk.inj (Option.some.inj k3)).2
    rcases read_ok (f := f) hn hV' 0 (fun _ => (0, 0, 0, 0, 0)) with ⟨j1, -⟩ | ⟨-, -, j3⟩
    · exact absurd ⟨h3.2.1.symm.trans k1.1, h3.1.symm.trans k1.2⟩ j1
    · rw [j3, eR, h3.2.2]
      exact ⟨_, rfl⟩
theorem scn_0 {f : Nat → Int32} {ki : Nat → Int32} {nu : Nat → Int64} : scn f 0 ki nu = none := by
  have e : ahd f 0 0 0 = 0 := rfl
  unfold scn
  rw [e, if_neg (by decide), if_neg (by decide), if_neg]
  intro w
  exact absurd (show (0 : Nat) < 0 from w.1) (by decide)
theorem wv_0 {f : Nat → Int32} {ki : Nat → Int32} {nu : Nat → Int64} : wv f 0 ki nu = (0, 0) := by
  unfold wv
  rw [scn_0]
/-- with the class's reader -/
theorem wv_rd {f : Nat → Int32} {n : Nat} {ki : Nat → Int32} {nu : Nat → Int64} {R : Int64} (hn : n ≤ 40) (hV : CV ki nu) (h : Txt f n R) (er : Int32) (ta : Nat → TY) :
    rdOk n (rdX f n ki nu (rd0 er ta)) ∧ wv f n ki nu = (1 + (rdX f n ki nu (rd0 er ta)).2.2.2.2.1, (rdX f n ki nu (rd0 er ta)).1) ∧ (rdX f n ki nu (rd0 er ta)).2.2.2.1 = R := by
  obtain ⟨v, hv⟩ := h ki nu hV
  rcases read_ok (f := f) hn hV er ta with ⟨-, k2⟩ | ⟨k1, -, k3⟩
  · rw [k2] at hv
    cases hv
  · unfold wv
    rw [k3]
    refine ⟨k1, rfl, ?_⟩
    rw [k3] at hv
    exact (Prod.mk.inj (Option.some.inj hv)).2
theorem wv_cv {f : Nat → Int32} {n : Nat} {ki : Nat → Int32} {nu : Nat → Int64} (hn : n ≤ 40) (hV : CV ki nu) : ((wv f n ki nu).1 = 0 ∨ (wv f n ki nu).1 = 1 ∨ (wv f n ki nu).1 = 2 ∨ (wv f n ki nu).1 = 3) ∧ ((wv f n ki nu).1 ≠ 1 → (wv f n ki nu).2 = 0) := by
  unfold wv
  rcases read_ok (f := f) hn hV 0 (fun _ => (0, 0, 0, 0, 0)) with ⟨-, k2⟩ | ⟨-, k2, k3⟩
  · rw [k2]
    exact ⟨Or.inl rfl, fun _ => rfl⟩
  · rw [k3]
    dsimp only
    rcases k2 with h | ⟨h | h, hx⟩
    · rw [h]
      exact ⟨Or.inr (Or.inl (by decide)), fun w => absurd (by decide) w⟩
    · rw [h]
      exact ⟨Or.inr (Or.inr (Or.inl (by decide))), fun _ => hx⟩
    · rw [h]
      exact ⟨Or.inr (Or.inr (Or.inr (by decide))), fun _ => hx⟩
theorem wv_ne {f : Nat → Int32} {n : Nat} {ki : Nat → Int32} {nu : Nat → Int64} {R : Int64} (hV : CV ki nu) (h : Txt f n R) : ∃ s2, scn f n ki nu = some (wv f n ki nu, s2) := by
  obtain ⟨v, hv⟩ := h ki nu hV
  exact ⟨R, by unfold wv; rw [hv]⟩
/-- kinds, numbers, those that became other, the changed ones, how many were worked out -/
abbrev CG : Type := (Nat → Int32) × (Nat → Int64) × Int64 × List Nat × Nat
def cst (W : Nat → (Nat → Int32) → (Nat → Int64) → VL) (x : Nat) (t : CG) : CG :=
  if t.1 x = (W x t.1 t.2.1).1 ∧ t.2.1 x = (W x t.1 t.2.1).2 then (upd t.1 x (W x t.1 t.2.1).1, vp_updL t.2.1 x (W x t.1 t.2.1).2, t.2.2.1, t.2.2.2.1, t.2.2.2.2 + 1)
  else (upd t.1 x (W x t.1 t.2.1).1, vp_updL t.2.1 x (W x t.1 t.2.1).2, t.2.2.1 ||| bit1 x, t.2.2.2.1 ++ [x], t.2.2.2.2 + 1)
def chg (W : Nat → (Nat → Int32) → (Nat → Int64) → VL) (G : Nat → Int64) (c : Nat → Nat) (y : Nat) : Nat → Nat → CG → CG
  | 0, _, t => t
  | k + 1, q, t => chg W G c y k (q + 1) (if c q = y ∨ G (c q) &&& t.2.2.1 ≠ 0 then cst W (c q) t else t)
theorem cst_cv {W : Nat → (Nat → Int32) → (Nat → Int64) → VL} {x : Nat} {t : CG} (hW : ∀ x ki nu, CV ki nu → ((W x ki nu).1 = 0 ∨ (W x ki nu).1 = 1 ∨ (W x ki nu).1 = 2 ∨ (W x ki nu).1 = 3) ∧ ((W x ki nu).1 ≠ 1 → (W x ki nu).2 = 0)) (h : CV t.1 t.2.1) : CV (cst W x t).1 (cst W x t).2.1 := by
  have key : CV (upd t.1 x (W x t.1 t.2.1).1) (vp_updL t.2.1 x (W x t.1 t.2.1).2) := by
    intro c hc
    unfold upd vp_updL
    by_cases e : c = x
    · rw [if_pos e, if_pos e]
      exact hW x _ _ h
    · rw [if_neg e, if_neg e]
      exact h c hc
  unfold cst
  split
  · exact key
  · exact key
theorem chg_cv {W : Nat → (Nat → Int32) → (Nat → Int64) → VL} {G : Nat → Int64} {c : Nat → Nat} {y : Nat} (hW : ∀ x ki nu, CV ki nu → ((W x ki nu).1 = 0 ∨ (W x ki nu).1 = 1 ∨ (W x ki nu).1 = 2 ∨ (W x ki nu).1 = 3) ∧ ((W x ki nu).1 ≠ 1 → (W x ki nu).2 = 0)) : ∀ (k q : Nat) (t : CG), CV t.1 t.2.1 → CV (chg W G c y k q t).1 (chg W G c y k q t).2.1
  | 0, _, _, h => h
  | k + 1, q, t, h => by
    rw [chg]
    refine chg_cv hW k (q + 1) _ ?_
    split
    · exact cst_cv hW h
    · exact h

/-! Only the text's own characters count. -/
section
variable {f f' : Nat → Int32} {n : Nat} {ki : Nat → Int32} {nu : Nat → Int64}
theorem ahd_cg (h : ∀ i, i < n → f i = f' i) (a j : Nat) : ahd f a n j = ahd f' a n j := by
  unfold ahd
  split
  · exact h _ (by assumption)
  · rfl
theorem mDg_cg (h : ∀ a j, ahd f a n j = ahd f' a n j) : ∀ (k : Nat) (v : Int64) (a : Nat), mDg f n k v a = mDg f' n k v a
  | 0, _, _ => rfl
  | k + 1, v, a => by
    rw [mDg, mDg, h, mDg_cg h k]
theorem mClose_cg (h : ∀ a j, ahd f a n j = ahd f' a n j) (a st : Nat) (fi : Bool) (se : Int64) (O : List FR) (V : List VL) : mClose f n a st fi se O V = mClose f' n a st fi se O V := by
  unfold mClose
  simp only [h]
theorem mStep_cg (h : ∀ a j, ahd f a n j = ahd f' a n j) (m : MS) : mStep f n ki nu m = mStep f' n ki nu m := by
  have hw : ∀ a i, aW f n a i ↔ aW f' n a i := by
    intro a i
    constructor
    · intro w j hj; rw [← h]; exact w j hj
    · intro w j hj; rw [h]; exact w j hj
  unfold mStep mSign mFactor mName mOpen
  simp only [h, mDg_cg h, mClose_cg h, hw]
theorem mRun_cg (h : ∀ a j, ahd f a n j = ahd f' a n j) : ∀ (k : Nat) (m : MS), mRun f n ki nu k m = mRun f' n ki nu k m
  | 0, _ => rfl
  | k + 1, m => by
    rw [mRun, mRun, mStep_cg h]
    simp only [mRun_cg h k]
theorem scn_cg (h : ∀ i, i < n → f i = f' i) : scn f n ki nu = scn f' n ki nu := by
  have ha := ahd_cg h
  unfold scn Run
  simp only [ha, mDg_cg ha, mRun_cg ha]
theorem wv_cg (h : ∀ i, i < n → f i = f' i) : wv f n ki nu = wv f' n ki nu := by
  unfold wv
  rw [scn_cg h]
theorem Txt_cg (h : ∀ i, i < n → f i = f' i) {R : Int64} (ht : Txt f n R) : Txt f' n R := by
  intro ki nu hV
  obtain ⟨v, hv⟩ := ht ki nu hV
  exact ⟨v, by rw [← scn_cg h]; exact hv⟩
end
theorem cst_cg {W W' : Nat → (Nat → Int32) → (Nat → Int64) → VL} {x : Nat} {t : CG} (h : W x = W' x) : cst W x t = cst W' x t := by
  unfold cst
  rw [h]
theorem chg_cg {W W' : Nat → (Nat → Int32) → (Nat → Int64) → VL} {G : Nat → Int64} {c : Nat → Nat} {y : Nat} (h : ∀ x, x < 64 → W x = W' x) (hc : ∀ q, q < 64 → c q < 64) : ∀ (k q : Nat) (t : CG), q + k ≤ 64 → chg W G c y k q t = chg W' G c y k q t
  | 0, _, _, _ => rfl
  | k + 1, q, t, hk => by
    rw [chg, chg, cst_cg (h (c q) (hc q (by omega))), chg_cg h hc k (q + 1) _ (by omega)]
theorem chg_c {W : Nat → (Nat → Int32) → (Nat → Int64) → VL} {G : Nat → Int64} {c c' : Nat → Nat} {y : Nat} (h : ∀ q, q < 64 → c q = c' q) : ∀ (k q : Nat) (t : CG), q + k ≤ 64 → chg W G c y k q t = chg W G c' y k q t
  | 0, _, _, _ => rfl
  | k + 1, q, t, hk => by
    rw [chg, chg, h q (by omega), chg_c h k (q + 1) _ (by omega)]
theorem Prm_uniq {p c c' : Nat → Nat} (h : Prm p c) (h' : Prm p c') : ∀ q, q < 64 → c q = c' q := by
  intro q hq
  have h1 := h.2 q hq
  have h2 := (h'.1 (c q) h1.1).2
  rw [h1.2] at h2
  exact h2.symm

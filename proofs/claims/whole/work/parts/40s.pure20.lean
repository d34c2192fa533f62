/-! Kinds on the machine's stacks. -/
def mtOk (O : List FR) : Prop := ∀ fr ∈ O, fr.2.2.1 = 0 ∨ 1 < fr.2.2.1
def kdOk (V : List VL) : Prop := ∀ v ∈ V, v.1 = 1 ∨ 1 < v.1
theorem mtOk_cons {fr : FR} {O : List FR} (h : mtOk O) (hf : fr.2.2.1 = 0 ∨ 1 < fr.2.2.1) : mtOk (fr :: O) := by
  intro g hg
  rcases List.mem_cons.mp hg with rfl | hg
  · exact hf
  · exact h g hg
theorem mtOk_tl {fr : FR} {O : List FR} (h : mtOk (fr :: O)) : mtOk O := fun f hf => h f (List.mem_cons_of_mem _ hf)
theorem kdOk_cons {v : VL} {V : List VL} (h : kdOk V) (hf : v.1 = 1 ∨ 1 < v.1) : kdOk (v :: V) := by
  intro g hg
  rcases List.mem_cons.mp hg with rfl | hg
  · exact hf
  · exact h g hg
theorem kdOk_tl {v : VL} {V : List VL} (h : kdOk (v :: V)) : kdOk V := fun f hf => h f (List.mem_cons_of_mem _ hf)
theorem cmb_kd {w : Int32} {u v : VL} (hu : u.1 = 1 ∨ 1 < u.1) (hv : v.1 = 1 ∨ 1 < v.1) : (cmb w u v).1 = 1 ∨ 1 < (cmb w u v).1 := by
  unfold cmb
  split
  · exact hu
  · split
    · exact hv
    · split
      · exact Or.inr (by decide : (1 : Int32) < 2)
      · exact Or.inl rfl
theorem aV_kd {w : Int32} : ∀ (V : List VL), kdOk V → kdOk (aV w V)
  | [], h => h
  | [v], h => by
    by_cases z : w = 20
    · rw [aV_20 z]
      exact kdOk_cons (kdOk_tl h) (h v List.mem_cons_self)
    · have e : aV w [v] = [] := by
        show (if w = 20 then [(v.1, -v.2)] else []) = []
        rw [if_neg z]
      rw [e]
      intro g hg
      cases hg
  | v :: u :: V, h => by
    by_cases z : w = 20
    · rw [aV_20 z]
      exact kdOk_cons (kdOk_tl h) (h v List.mem_cons_self)
    · rw [aV_2 z]
      exact kdOk_cons (kdOk_tl (kdOk_tl h)) (cmb_kd (h u (List.mem_cons_of_mem _ List.mem_cons_self)) (h v List.mem_cons_self))
theorem stl_kd {t : Nat} : ∀ (O : List FR) (V : List VL), kdOk V → kdOk (stl t O V).2
  | [], _, h => h
  | fr :: O, V, h => by
    rw [stl]
    split
    · exact stl_kd O _ (aV_kd V h)
    · exact h
theorem stl_mt {t : Nat} : ∀ (O : List FR) (V : List VL), mtOk O → mtOk (stl t O V).1
  | [], _, h => h
  | fr :: O, V, h => by
    rw [stl]
    split
    · exact stl_mt O _ (mtOk_tl h)
    · exact h
theorem fld_mt {fr : FR} {k : Int32} {x : Int64} (h : fr.2.2.1 = 0 ∨ 1 < fr.2.2.1) : (fld fr k x).2.2.1 = 0 ∨ 1 < (fld fr k x).2.2.1 := by
  unfold fld
  split
  · exact h
  · split
    · exact Or.inr (by assumption)
    · exact h
theorem fld_x {fr : FR} {k : Int32} {x y : Int64} (h : 1 < k) : fld fr k x = fld fr k y := by
  unfold fld
  split
  · rfl
  · first
    | rfl
    | rw [if_pos h, if_pos h]
theorem mg1_mt {ki : Nat → Int32} {nu : Nat → Int64} : ∀ (k c : Nat) (fr : FR) (se : Int64), (fr.2.2.1 = 0 ∨ 1 < fr.2.2.1) → ((mg1 ki nu k c fr se).1.2.2.1 = 0 ∨ 1 < (mg1 ki nu k c fr se).1.2.2.1)
  | 0, _, _, _, h => h
  | k + 1, c, fr, se, h => by
    rw [mg1]
    exact mg1_mt k _ _ _ (fld_mt h)
theorem mg2_mt {ki : Nat → Int32} {nu : Nat → Int64} {c0 wd : Nat} : ∀ (k r : Nat) (fr : FR) (se : Int64), (fr.2.2.1 = 0 ∨ 1 < fr.2.2.1) → ((mg2 ki nu c0 wd k r fr se).1.2.2.1 = 0 ∨ 1 < (mg2 ki nu c0 wd k r fr se).1.2.2.1)
  | 0, _, _, _, h => h
  | k + 1, r, fr, se, h => by
    rw [mg2]
    exact mg2_mt k _ _ _ (mg1_mt _ _ _ _ h)
theorem fin_kd {fr : FR} (h : fr.2.2.1 = 0 ∨ 1 < fr.2.2.1) : (fin fr).1 = 1 ∨ 1 < (fin fr).1 := by
  show fink fr = 1 ∨ 1 < fink fr
  unfold fink
  split
  · rename_i z
    rcases h with h | h
    · rw [h] at z; exact absurd z (by decide)
    · exact Or.inr h
  · split
    · exact Or.inr (by decide)
    · exact Or.inl rfl
section
variable {f : Nat → Int32} {n : Nat} {ki : Nat → Int32} {nu : Nat → Int64}
theorem mClose_kd {a st : Nat} {fi : Bool} {se : Int64} {O : List FR} {V : List VL} {m' : MS} (h : mtOk O) (hk : kdOk V) (e : mClose f n a st fi se O V = some m') : mtOk m'.2.2.2.2.1 ∧ kdOk m'.2.2.2.2.2 := by
  have ht : kdOk (if st = 1 then V.tail else V) := by
    split
    · intro v hv
      exact hk v (List.mem_of_mem_tail hv)
    · exact hk
  match O, h, e with
  | [], _, e => cases e
  | fr :: O, h, e =>
    have hf : ∀ k x, ((if st = 1 then fld fr k x else fr).2.2.1 = 0 ∨ 1 < (if st = 1 then fld fr k x else fr).2.2.1) := by
      intro k x
      split
      · exact fld_mt (h fr List.mem_cons_self)
      · exact h fr List.mem_cons_self
    unfold mClose at e
    dsimp only at e
    split at e
    · split at e
      · cases e
        exact ⟨mtOk_cons (mtOk_tl h) (hf _ _), ht⟩
      · cases e
        exact ⟨mtOk_tl h, kdOk_cons ht (fin_kd (hf _ _))⟩
    · split at e
      · split at e
        · split at e
          · cases e
          · cases e
            exact ⟨mtOk_cons (mtOk_tl h) (h fr List.mem_cons_self), hk⟩
        · split at e
          · cases e
            refine ⟨mtOk_tl h, ?_⟩
            show kdOk (chs V)
            match V, hk with
            | [], hk => exact hk
            | [_], hk => exact hk
            | [_, _], hk => exact hk
            | v3 :: v2 :: v1 :: V, hk =>
              refine kdOk_cons (kdOk_tl (kdOk_tl (kdOk_tl hk))) ?_
              split
              · split
                · exact hk v3 List.mem_cons_self
                · exact hk v2 (List.mem_cons_of_mem _ List.mem_cons_self)
              · exact hk v1 (List.mem_cons_of_mem _ (List.mem_cons_of_mem _ List.mem_cons_self))
          · cases e
      · split at e
        · cases e
          exact ⟨mtOk_tl h, hk⟩
        · cases e
theorem mStep_kd {m m' : MS} (hV : CV ki nu) (h : mtOk m.2.2.2.2.1) (hk : kdOk m.2.2.2.2.2) (e : mStep f n ki nu m = some m') : mtOk m'.2.2.2.2.1 ∧ kdOk m'.2.2.2.2.2 := by
  have bg : ∀ {a : Nat} {se : Int64} {O : List FR} {V : List VL} {w : Int32} {len : Nat} {fi : Bool}, mtOk O → kdOk V → mBg a se O V w len fi = some m' → mtOk m'.2.2.2.2.1 ∧ kdOk m'.2.2.2.2.2 := by
    intro a se O V w len fi hO hV e
    unfold mBg at e
    cases e
    exact ⟨mtOk_cons hO (Or.inl rfl), hV⟩
  unfold mStep at e
  split at e
  · unfold mFactor at e
    split at e
    · exact bg h hk e
    · split at e
      · split at e
        · cases e; exact ⟨h, kdOk_cons hk (Or.inl rfl)⟩
        · cases e
      · split at e
        · rename_i c hc
          unfold mName at e
          split at e
          · split at e
            · rename_i _ _ _ _ b fr O' e1 e2
              rw [e2] at h
              cases e
              exact ⟨mtOk_cons (mtOk_tl h) (mg2_mt _ _ _ _ (h fr List.mem_cons_self)), hk⟩
            · cases e
          · cases e
            refine ⟨h, kdOk_cons hk ?_⟩
            unfold cv
            dsimp only
            have := (hV c (nm_lt hc)).1
            split
            · exact Or.inl rfl
            · rcases this with q | q | q | q
              · contradiction
              · exact Or.inl q
              · exact Or.inr (by rw [q]; decide)
              · exact Or.inr (by rw [q]; decide)
        · unfold mOpen at e
          repeat' split at e
          all_goals first
            | exact bg h hk e
            | cases e
  · split at e
    · unfold mSign at e
      split at e
      · exact mClose_kd (stl_mt _ _ h) (stl_kd _ _ hk) e
      · unfold mSgn at e
        split at e
        · cases e
        · split at e
          · cases e
          · exact bg (stl_mt _ _ h) (stl_kd _ _ hk) e
    · split at e
      · exact mClose_kd h hk e
      · cases e
end

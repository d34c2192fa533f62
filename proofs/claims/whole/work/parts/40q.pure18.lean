/-! The machine's stacks are never too short or too long. -/
def needF (fr : FR) : Nat := if fr.1 = 2 then (if fr.2.1 = 0 then 0 else if fr.2.1 = 1 then 1 else 2) else if tg fr.1 = 0 ∨ fr.1 = 20 then 0 else 1
def need : List FR → Nat
  | [] => 0
  | fr :: O => needF fr + need O
def isFn (w : Int32) : Prop := 9 ≤ w ∧ w ≤ 12
def topFn : List FR → Prop
  | [] => False
  | fr :: _ => isFn fr.1
def chOk (O : List FR) : Prop := ∀ fr ∈ O, fr.1 = 2 → fr.2.1 = 0 ∨ fr.2.1 = 1 ∨ fr.2.1 = 2
def Nrm (V : List VL) : Prop := ∀ v ∈ V, v.1 ≠ 1 → v.2 = 0
def Shp (n : Nat) (m : MS) : Prop :=
  need m.2.2.2.2.1 + (if m.2.1 = 1 then 1 else 0) = m.2.2.2.2.2.length ∧ m.2.2.2.2.1.length ≤ m.1 ∧ m.2.2.2.2.2.length ≤ m.1 ∧ m.1 ≤ n ∧ chOk m.2.2.2.2.1 ∧
  (m.2.1 = 0 ∨ m.2.1 = 1 ∨ m.2.1 = 2) ∧ (m.2.2.1 = true → m.2.1 = 0 ∧ topFn m.2.2.2.2.1) ∧ (m.2.1 = 2 → topFn m.2.2.2.2.1)
theorem tg_2 : tg 2 = 0 := by decide
theorem aV_20 {w : Int32} {v : VL} {V : List VL} (h : w = 20) : aV w (v :: V) = (v.1, -v.2) :: V := by
  unfold aV
  exact if_pos h
theorem aV_2 {w : Int32} {v u : VL} {V : List VL} (h : w ≠ 20) : aV w (v :: u :: V) = cmb w u v :: V := by
  unfold aV
  exact if_neg h
theorem stl_shp {t : Nat} (ht : 1 ≤ t) : ∀ (O : List FR) (V : List VL), need O + 1 = V.length → chOk O →
    need (stl t O V).1 + 1 = (stl t O V).2.length ∧ (stl t O V).1.length ≤ O.length ∧ (stl t O V).2.length ≤ V.length ∧ chOk (stl t O V).1
  | [], V, h, hc => ⟨h, Nat.le_refl _, Nat.le_refl _, hc⟩
  | fr :: O, V, h, hc => by
    rw [stl]
    split
    · rename_i hz
      have hc' : chOk O := fun f hf => hc f (List.mem_cons_of_mem _ hf)
      have h2 : fr.1 ≠ 2 := fun e => by rw [e, tg_2] at hz; omega
      rw [need, needF, if_neg h2] at h
      match V, h with
      | [], h => simp at h
      | v :: V, h =>
        by_cases e20 : fr.1 = 20
        · rw [if_pos (Or.inr e20)] at h
          have := stl_shp ht O (aV fr.1 (v :: V)) (by rw [aV_20 e20]; rw [List.length_cons] at h ⊢; omega) hc'
          rw [aV_20 e20] at this ⊢
          rw [List.length_cons, List.length_cons] at *
          exact ⟨this.1, by omega, by omega, this.2.2.2⟩
        · rw [if_neg (fun w => w.elim (fun w => by omega) e20)] at h
          match V, h with
          | [], h => simp at h
          | u :: V, h =>
            have := stl_shp ht O (aV fr.1 (v :: u :: V)) (by rw [aV_2 e20]; simp only [List.length_cons] at h ⊢; omega) hc'
            rw [aV_2 e20] at this ⊢
            simp only [List.length_cons] at *
            exact ⟨this.1, by omega, by omega, this.2.2.2⟩
    · exact ⟨h, Nat.le_refl _, Nat.le_refl _, hc⟩
theorem fld_1 : ∀ (fr : FR) (k : Int32) (x : Int64), (fld fr k x).1 = fr.1 := by
  intro fr k x
  unfold fld
  split
  · rfl
  · split <;> rfl
theorem mg1_1 {ki : Nat → Int32} {nu : Nat → Int64} : ∀ (k c : Nat) (fr : FR) (se : Int64), (mg1 ki nu k c fr se).1.1 = fr.1
  | 0, _, _, _ => rfl
  | k + 1, c, fr, se => by
    rw [mg1, mg1_1 k]
    exact fld_1 fr _ _
theorem mg2_1 {ki : Nat → Int32} {nu : Nat → Int64} {c0 wd : Nat} : ∀ (k r : Nat) (fr : FR) (se : Int64), (mg2 ki nu c0 wd k r fr se).1.1 = fr.1
  | 0, _, _, _ => rfl
  | k + 1, r, fr, se => by rw [mg2, mg2_1 k, mg1_1]
theorem chOk_cons {fr : FR} {O : List FR} (h : chOk O) (hf : fr.1 = 2 → fr.2.1 = 0 ∨ fr.2.1 = 1 ∨ fr.2.1 = 2) : chOk (fr :: O) := by
  intro g hg
  rcases List.mem_cons.mp hg with rfl | hg
  · exact hf
  · exact h g hg
theorem fn_need {fr : FR} (h : isFn fr.1) : needF fr = 0 ∧ fr.1 ≠ 2 ∧ tg fr.1 = 0 := by
  have h1 : (9 : Int) ≤ fr.1.toInt := by simpa using Int32.le_iff_toInt_le.mp h.1
  have h2 : fr.1.toInt ≤ (12 : Int) := by simpa using Int32.le_iff_toInt_le.mp h.2
  have hx : fr.1 = Int32.ofInt (9 + ((fr.1.toInt - 9).toNat : Int)) := by
    rw [show (9 : Int) + ((fr.1.toInt - 9).toNat : Int) = fr.1.toInt by omega, Int32.ofInt_toInt]
  have e : ∀ t : Nat, t < 4 → tg (Int32.ofInt (9 + (t : Int))) = 0 ∧ Int32.ofInt (9 + (t : Int)) ≠ 2 := by decide
  have := e (fr.1.toInt - 9).toNat (by omega)
  rw [← hx] at this
  refine ⟨?_, this.2, this.1⟩
  unfold needF
  rw [if_neg this.2, if_pos (Or.inl this.1)]
section
variable {f : Nat → Int32} {n : Nat} {ki : Nat → Int32} {nu : Nat → Int64}
theorem mClose_shp {a st : Nat} {fi : Bool} {se : Int64} {O : List FR} {V : List VL} {m' : MS} (hl : a < n) (hst : st = 1 ∨ (st = 2 ∧ topFn O)) (h1 : need O + (if st = 1 then 1 else 0) = V.length) (h2 : O.length ≤ a) (h3 : V.length ≤ a) (h5 : chOk O) (hfi : fi = false) (e : mClose f n a st fi se O V = some m') : Shp n m' := by
  subst hfi
  match O, h1, h2, h5, hst, e with
  | [], _, _, _, _, e => cases e
  | fr :: O, h1, h2, h5, hst, e =>
    have h5' : chOk O := fun f hf => h5 f (List.mem_cons_of_mem _ hf)
    unfold mClose at e
    dsimp only at e
    rw [List.length_cons] at h2
    rw [need] at h1
    split at e
    · rename_i hfn
      obtain ⟨n1, n2, n3⟩ := fn_need (fr := fr) hfn
      have hk : ∀ fr', fr'.1 = fr.1 → needF fr' = 0 := fun fr' e' => (fn_need (fr := fr') (by rw [e']; exact hfn)).1
      have hfr1 : (if st = 1 then fld fr (V.headD (0, 0)).1 (V.headD (0, 0)).2 else fr).1 = fr.1 := by
        split
        · exact fld_1 fr _ _
        · rfl
      have hV : need O = (if st = 1 then V.tail else V).length ∧ (if st = 1 then V.tail else V).length ≤ a := by
        split
        · rename_i hs
          rw [if_pos hs] at h1
          rw [List.length_tail]
          omega
        · rename_i hs
          rw [if_neg hs] at h1
          omega
      split at e
      · cases e
        refine ⟨?_, ?_, ?_, hl, ?_, Or.inl rfl, fun _ => ⟨rfl, ?_⟩, (fun w => by cases w)⟩
        · show need (_ :: O) + (if (0 : Nat) = 1 then 1 else 0) = (if st = 1 then V.tail else V).length
          rw [need, hk _ hfr1, if_neg (by decide)]
          omega
        · show (_ :: O).length ≤ a + 1
          rw [List.length_cons]; omega
        · show _ ≤ a + 1
          exact Nat.le_succ_of_le hV.2
        · exact chOk_cons h5' (fun w => by rw [hfr1] at w; exact absurd w n2)
        · show isFn _
          rw [hfr1]; exact hfn
      · cases e
        refine ⟨?_, ?_, ?_, hl, h5', Or.inr (Or.inl rfl), (fun w => by cases w), (fun w => by cases w)⟩
        · show need O + (if (1 : Nat) = 1 then 1 else 0) = (_ :: _).length
          rw [if_pos rfl, List.length_cons]
          omega
        · show O.length ≤ a + 1; omega
        · show (_ :: _).length ≤ a + 1
          rw [List.length_cons]; omega
    · rename_i hnf
      have hs1 : st = 1 := hst.elim id (fun w => absurd w.2 hnf)
      subst hs1
      rw [if_pos rfl] at h1
      split at e
      · rename_i hch
        have hp := h5 fr List.mem_cons_self hch
        rw [needF, if_pos hch] at h1
        split at e
        · split at e
          · cases e
          · rename_i h2p
            cases e
            have hp2 : (fr.2.1 = 0 ∧ fr.2.1 + 1 = 1) ∨ (fr.2.1 = 1 ∧ fr.2.1 + 1 = 2) := by
              rcases hp with q | q | q
              · exact Or.inl ⟨q, by rw [q]; decide⟩
              · exact Or.inr ⟨q, by rw [q]; decide⟩
              · rw [q] at h2p; exact absurd (by decide) h2p
            refine ⟨?_, ?_, ?_, hl, ?_, Or.inl rfl, (fun w => by cases w), (fun w => by cases w)⟩
            · show need ((fr.1, fr.2.1 + 1, fr.2.2) :: O) + (if (0 : Nat) = 1 then 1 else 0) = V.length
              rw [need, needF, if_pos (show (fr.1, fr.2.1 + 1, fr.2.2).1 = 2 from hch), if_neg (show ¬ (0 : Nat) = 1 by decide)]
              show (if fr.2.1 + 1 = 0 then 0 else if fr.2.1 + 1 = 1 then 1 else 2) + need O + 0 = V.length
              rcases hp2 with ⟨q1, q2⟩ | ⟨q1, q2⟩
              · rw [q2]
                rw [if_pos q1] at h1
                rw [if_neg (by decide), if_pos rfl]
                omega
              · rw [q2]
                rw [q1, if_neg (by decide), if_pos rfl] at h1
                rw [if_neg (by decide), if_neg (by decide)]
                omega
            · show (_ :: O).length ≤ a + 1
              rw [List.length_cons]; omega
            · show V.length ≤ a + 1; omega
            · refine chOk_cons h5' (fun _ => ?_)
              show fr.2.1 + 1 = 0 ∨ fr.2.1 + 1 = 1 ∨ fr.2.1 + 1 = 2
              rcases hp2 with ⟨-, q2⟩ | ⟨-, q2⟩
              · exact Or.inr (Or.inl q2)
              · exact Or.inr (Or.inr q2)
        · split at e
          · rename_i h3p
            cases e
            have hp2 : fr.2.1 = 2 := by
              rcases hp with q | q | q
              · rw [q] at h3p; exact absurd h3p (by decide)
              · rw [q] at h3p; exact absurd h3p (by decide)
              · exact q
            rw [hp2, if_neg (by decide), if_neg (by decide)] at h1
            match V, h1, h3 with
            | v3 :: v2 :: v1 :: V, h1, h3 =>
              refine ⟨?_, ?_, ?_, hl, h5', Or.inr (Or.inl rfl), (fun w => by cases w), (fun w => by cases w)⟩
              · show need O + (if (1 : Nat) = 1 then 1 else 0) = (_ :: V).length
                rw [if_pos rfl]
                simp only [List.length_cons] at *
                omega
              · show O.length ≤ a + 1; omega
              · show (_ :: V).length ≤ a + 1
                simp only [List.length_cons] at *
                omega
            | [], h1, _ => simp at h1
            | [_], h1, _ => simp at h1 <;> omega
            | [_, _], h1, _ => simp at h1 <;> omega
          · cases e
      · split at e
        · cases e
          refine ⟨?_, ?_, ?_, hl, h5', Or.inr (Or.inl rfl), (fun w => by cases w), (fun w => by cases w)⟩
          · show need O + (if (1 : Nat) = 1 then 1 else 0) = V.length
            rw [if_pos rfl]
            rename_i hb
            have : needF fr = 0 := by
              unfold needF
              rw [hb.1, if_neg (by decide), if_pos (by decide)]
            omega
          · show O.length ≤ a + 1; omega
          · show V.length ≤ a + 1; omega
        · cases e
theorem mBg_shp {a : Nat} {se : Int64} {O : List FR} {V : List VL} {w : Int32} {len : Nat} {fi : Bool} {m' : MS} (hlen : 0 < len) (hle : a + len ≤ n) (h1 : need O + needF (w, 0, 0, 0) = V.length) (h2 : O.length ≤ a) (h3 : V.length ≤ a) (h5 : chOk O) (hfi : fi = true → isFn w) (e : mBg a se O V w len fi = some m') : Shp n m' := by
  unfold mBg at e
  cases e
  refine ⟨?_, ?_, ?_, hle, chOk_cons h5 (fun _ => Or.inl rfl), Or.inl rfl, fun w => ⟨rfl, hfi w⟩, (fun w => by cases w)⟩
  · show need (_ :: O) + (if (0 : Nat) = 1 then 1 else 0) = V.length
    rw [need, if_neg (by decide)]
    omega
  · show (_ :: O).length ≤ a + len
    rw [List.length_cons]; omega
  · show V.length ≤ a + len; omega
theorem mDg_le : ∀ (k : Nat) (v : Int64) (a : Nat), a ≤ n → (mDg f n k v a).2 ≤ n
  | 0, _, _, h => h
  | k + 1, v, a, h => by
    rw [mDg]
    split
    · rename_i z
      have : a + 0 < n := ahd_ne (f := f) (a := a) (j := 0) rfl (isD_ne z)
      exact mDg_le k _ _ (by omega)
    · exact h
theorem aW_le {a i : Nat} (hi : i < 8) (hw : aW f n a i) : a + sLen.getD i 0 ≤ n := by
  have e : ∀ i, i < 8 → 0 < sLen.getD i 0 ∧ sChr i (sLen.getD i 0 - 1) ≠ 0 := by decide +kernel
  obtain ⟨e1, e2⟩ := e i hi
  have := ahd_ne (hw (sLen.getD i 0 - 1) (by omega)) e2
  omega
theorem sgA_le {a : Nat} (hz : (sgA (ahd f a n 0) (ahd f a n 1)).1 ≠ 0) : a + (sgA (ahd f a n 0) (ahd f a n 1)).2 ≤ n := by
  unfold sgA at hz ⊢
  split
  · rename_i h
    have : ahd f a n 1 ≠ 0 := by
      rcases h with h | h
      · rw [h.2]; decide
      · rw [h.2]; decide
    have := ahd_ne (f := f) (a := a) (j := 1) rfl this
    show a + 2 ≤ n
    omega
  · rename_i h
    rw [if_neg h] at hz
    dsimp only at hz
    split at hz
    · have := ahd_ne (f := f) (a := a) (j := 0) rfl hz
      show a + 1 ≤ n
      omega
    · exact absurd rfl hz
theorem sgA_need {c d : Int32} (h : (sgA c d).1 ≠ 0) : needF ((sgA c d).1, 0, 0, 0) = 1 := by
  unfold sgA at h ⊢
  split
  · rename_i z
    rcases z with ⟨rfl, rfl⟩ | ⟨rfl | rfl, rfl⟩ <;> decide
  · rename_i z
    rw [if_neg z] at h
    dsimp only at h ⊢
    split at h
    · rename_i z2
      rw [if_pos z2]
      rcases z2 with rfl | rfl | rfl | rfl | rfl | rfl | rfl | rfl <;> decide
    · exact absurd rfl h
theorem mStep_shp {m m' : MS} (hs : Shp n m) (hl : m.1 < n) (e : mStep f n ki nu m = some m') : Shp n m' := by
  obtain ⟨h1, h2, h3, h4, h5, h6, h7, h8⟩ := hs
  obtain ⟨a, st, fi, se, O, V⟩ := m
  dsimp only at h1 h2 h3 h4 h5 h6 h7 h8 hl
  unfold mStep at e
  dsimp only at e
  split at e
  · rename_i hst
    subst hst
    rw [if_neg (by decide)] at h1
    unfold mFactor at e
    split at e
    · rename_i hz
      refine mBg_shp (by decide) ?_ ?_ h2 h3 h5 (fun w => by cases w) e
      · have := ahd_ne (f := f) (j := 0) hz (by decide); omega
      · rw [show needF (20, 0, 0, 0) = 0 by decide]; omega
    · split at e
      · rename_i hd
        split at e
        · rename_i hdd
          cases e
          refine ⟨?_, ?_, ?_, mDg_le _ _ _ h4, h5, Or.inr (Or.inl rfl), (fun w => by cases w), (fun w => by cases w)⟩
          · show need O + (if (1 : Nat) = 1 then 1 else 0) = (_ :: V).length
            rw [if_pos rfl, List.length_cons]; omega
          · show O.length ≤ _; omega
          · show (_ :: V).length ≤ _
            rw [List.length_cons]; omega
        · cases e
      · split at e
        · rename_i c hc
          have hc1 := ahd_ne (f := f) (a := a) (j := 1) rfl (nm_ne hc).2
          unfold mName at e
          split at e
          · rename_i hb
            obtain ⟨-, h7'⟩ := h7 hb.1
            match O, h1, h2, h5, h7', e with
            | [], _, _, _, h7', _ => exact absurd h7' id
            | fr :: O, h1, h2, h5, h7', e =>
              cases eb : nm (ahd f a n 3) (ahd f a n 4) with
              | none => rw [eb] at e; cases e
              | some b =>
                rw [eb] at e
                have hc4 := ahd_ne (f := f) (a := a) (j := 4) rfl (nm_ne eb).2
                dsimp only at e
                cases e
                have e1 : (mRange ki nu c b fr se).1.1 = fr.1 := mg2_1 _ _ _ _
                rw [List.length_cons] at h2
                obtain ⟨n1, n2, n3⟩ := fn_need (fr := fr) h7'
                obtain ⟨n1', -, -⟩ := fn_need (fr := (mRange ki nu c b fr se).1) (by rw [e1]; exact h7')
                rw [need, n1] at h1
                refine ⟨?_, ?_, ?_, ?_, ?_, Or.inr (Or.inr rfl), (fun w => by cases w), fun _ => ?_⟩
                · show need (_ :: O) + (if (2 : Nat) = 1 then 1 else 0) = V.length
                  rw [need, n1', if_neg (by decide)]; omega
                · show (_ :: O).length ≤ a + 5
                  rw [List.length_cons]; omega
                · show V.length ≤ a + 5; omega
                · show a + 5 ≤ n; omega
                · exact chOk_cons (fun f hf => h5 f (List.mem_cons_of_mem _ hf)) (fun w => by rw [e1] at w; exact absurd w n2)
                · show isFn _
                  rw [e1]; exact h7'
          · cases e
            refine ⟨?_, ?_, ?_, ?_, h5, Or.inr (Or.inl rfl), (fun w => by cases w), (fun w => by cases w)⟩
            · show need O + (if (1 : Nat) = 1 then 1 else 0) = (_ :: V).length
              rw [if_pos rfl, List.length_cons]; omega
            · show O.length ≤ a + 2; omega
            · show (_ :: V).length ≤ a + 2
              rw [List.length_cons]; omega
            · show a + 2 ≤ n; omega
        · unfold mOpen at e
          split at e
          · cases e
          · split at e
            · rename_i hz
              refine mBg_shp (by decide) ?_ ?_ h2 h3 h5 (fun w => by cases w) e
              · have := ahd_ne (f := f) (j := 0) hz (by decide); omega
              · rw [show needF (1, 0, 0, 0) = 0 by decide]; omega
            · split at e
              · rename_i hz
                refine mBg_shp (by decide) (aW_le (i := 0) (by decide) hz) ?_ h2 h3 h5 (fun w => by cases w) e
                rw [show needF (2, 0, 0, 0) = 0 by decide]; omega
              · split at e
                · rename_i hz
                  refine mBg_shp (by decide) (aW_le (i := 1) (by decide) hz) ?_ h2 h3 h5 (fun _ => by unfold isFn; decide) e
                  rw [show needF (9, 0, 0, 0) = 0 by decide]; omega
                · split at e
                  · rename_i hz
                    refine mBg_shp (by decide) (aW_le (i := 2) (by decide) hz) ?_ h2 h3 h5 (fun _ => by unfold isFn; decide) e
                    rw [show needF (10, 0, 0, 0) = 0 by decide]; omega
                  · split at e
                    · rename_i hz
                      refine mBg_shp (by decide) (aW_le (i := 3) (by decide) hz) ?_ h2 h3 h5 (fun _ => by unfold isFn; decide) e
                      rw [show needF (11, 0, 0, 0) = 0 by decide]; omega
                    · split at e
                      · rename_i hz
                        refine mBg_shp (by decide) (aW_le (i := 4) (by decide) hz) ?_ h2 h3 h5 (fun _ => by unfold isFn; decide) e
                        rw [show needF (12, 0, 0, 0) = 0 by decide]; omega
                      · cases e
  · rename_i hst0
    have hfi : fi = false := by
      cases fi with
      | false => rfl
      | true => exact absurd (h7 rfl).1 hst0
    split at e
    · rename_i hst
      subst hst
      rw [if_pos rfl] at h1
      unfold mSign at e
      split at e
      · obtain ⟨g1, g2, g3, g4⟩ := stl_shp (t := 1) (Nat.le_refl _) O V h1 h5
        exact mClose_shp hl (Or.inl rfl) (by rw [if_pos rfl]; exact g1) (by omega) (by omega) g4 hfi e
      · unfold mSgn at e
        split at e
        · cases e
        · rename_i hw
          split at e
          · cases e
          · have ht : 1 ≤ tl (sgA (ahd f a n 0) (ahd f a n 1)).1 := by
              unfold tl
              split <;> omega
            obtain ⟨g1, g2, g3, g4⟩ := stl_shp ht O V h1 h5
            refine mBg_shp sgA_lt (sgA_le hw) ?_ (by omega) (by omega) g4 (fun w => by cases w) e
            have : needF ((sgA (ahd f a n 0) (ahd f a n 1)).1, 0, 0, 0) = 1 := sgA_need hw
            omega
    · rename_i hst1
      have hst : st = 2 := h6.elim (fun w => absurd w hst0) (fun w => w.elim (fun w => absurd w hst1) id)
      split at e
      · exact mClose_shp hl (Or.inr ⟨hst, h8 hst⟩) h1 (by omega) (by omega) h5 hfi e
      · cases e
end

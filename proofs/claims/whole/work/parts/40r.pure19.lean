/-! The machine's stacks in the reference's rows. -/
def RO (oo pt me : Nat → Int32) (su : Nat → Int64) : List FR → Prop
  | [] => True
  | fr :: O => (oo O.length = fr.1 ∧ pt O.length = fr.2.1 ∧ me O.length = fr.2.2.1 ∧ su O.length = fr.2.2.2) ∧ RO oo pt me su O
def RV (vk : Nat → Int32) (vv : Nat → Int64) : List VL → Prop
  | [] => True
  | v :: V => (vk V.length = v.1 ∧ (v.1 = 1 → vv V.length = v.2) ∧ (v.1 ≠ 1 → v.2 = 0)) ∧ RV vk vv V
theorem upd_lt {g : Nat → Int32} {i j : Nat} {x : Int32} (h : j < i) : upd g i x j = g j := by
  unfold upd
  rw [if_neg (by omega)]
theorem upd_at {g : Nat → Int32} {i : Nat} {x : Int32} : upd g i x i = x := by
  unfold upd
  rw [if_pos rfl]
theorem updL_lt {g : Nat → Int64} {i j : Nat} {x : Int64} (h : j < i) : vp_updL g i x j = g j := by
  unfold vp_updL
  rw [if_neg (by omega)]
theorem updL_self {g : Nat → Int64} {i : Nat} {x : Int64} : vp_updL g i x i = x := by
  unfold vp_updL
  rw [if_pos rfl]
theorem RO_cg {oo pt me oo' pt' me' : Nat → Int32} {su su' : Nat → Int64} : ∀ (O : List FR), (∀ j, j < O.length → oo' j = oo j ∧ pt' j = pt j ∧ me' j = me j ∧ su' j = su j) → RO oo pt me su O → RO oo' pt' me' su' O
  | [], _, _ => trivial
  | fr :: O, h, hr => by
    obtain ⟨⟨r1, r2, r3, r4⟩, r5⟩ := hr
    obtain ⟨h1, h2, h3, h4⟩ := h O.length (by rw [List.length_cons]; omega)
    refine ⟨⟨by rw [h1, r1], by rw [h2, r2], by rw [h3, r3], by rw [h4, r4]⟩, RO_cg O (fun j hj => h j (by rw [List.length_cons]; omega)) r5⟩
theorem RV_cg {vk vk' : Nat → Int32} {vv vv' : Nat → Int64} : ∀ (V : List VL), (∀ j, j < V.length → vk' j = vk j ∧ vv' j = vv j) → RV vk vv V → RV vk' vv' V
  | [], _, _ => trivial
  | v :: V, h, hr => by
    obtain ⟨⟨r1, r2, r3⟩, r5⟩ := hr
    obtain ⟨h1, h2⟩ := h V.length (by rw [List.length_cons]; omega)
    exact ⟨⟨by rw [h1, r1], fun w => by rw [h2, r2 w], r3⟩, RV_cg V (fun j hj => h j (by rw [List.length_cons]; omega)) r5⟩
theorem RV_push {vk : Nat → Int32} {vv : Nat → Int64} {V : List VL} (h : RV vk vv V) (k : Int32) (x y : Int64) (hy : k = 1 → x = y) (hn : k ≠ 1 → y = 0) : RV (upd vk V.length k) (vp_updL vv V.length x) ((k, y) :: V) :=
  ⟨⟨upd_at, fun w => by rw [updL_self]; exact hy w, hn⟩, RV_cg V (fun j hj => ⟨upd_lt hj, updL_lt hj⟩) h⟩
theorem RO_push {oo pt me : Nat → Int32} {su : Nat → Int64} {O : List FR} (h : RO oo pt me su O) (w : Int32) : RO (upd oo O.length w) (upd pt O.length 0) (upd me O.length 0) (vp_updL su O.length 0) ((w, 0, 0, 0) :: O) :=
  ⟨⟨upd_at, upd_at, upd_at, updL_self⟩, RO_cg O (fun j hj => ⟨upd_lt hj, upd_lt hj, upd_lt hj, updL_lt hj⟩) h⟩
/-- the operators that can be open -/
def opS (w : Int32) : Prop := w = 20 ∨ w = 43 ∨ w = 45 ∨ w = 42 ∨ w = 47 ∨ w = 37 ∨ w = 60 ∨ w = 62 ∨ w = 61 ∨ w = 160 ∨ w = 162 ∨ w = 300
def opOk (O : List FR) : Prop := ∀ fr ∈ O, 1 ≤ tg fr.1 → opS fr.1
theorem opOk_cons {fr : FR} {O : List FR} (h : opOk O) (hf : 1 ≤ tg fr.1 → opS fr.1) : opOk (fr :: O) := by
  intro g hg
  rcases List.mem_cons.mp hg with rfl | hg
  · exact hf
  · exact h g hg
theorem opOk_tl {fr : FR} {O : List FR} (h : opOk (fr :: O)) : opOk O := fun f hf => h f (List.mem_cons_of_mem _ hf)
theorem stl_op {t : Nat} : ∀ (O : List FR) (V : List VL), opOk O → opOk (stl t O V).1
  | [], _, h => h
  | fr :: O, V, h => by
    rw [stl]
    split
    · exact stl_op O _ (opOk_tl h)
    · exact h
theorem sgA_op {c d : Int32} (h : (sgA c d).1 ≠ 0) : opS (sgA c d).1 := by
  unfold sgA at h ⊢
  split
  · rename_i z
    unfold opS
    rcases z with ⟨rfl, rfl⟩ | ⟨rfl | rfl, rfl⟩ <;> decide
  · rename_i z
    rw [if_neg z] at h
    dsimp only at h ⊢
    split at h
    · rename_i z2
      rw [if_pos z2]
      unfold opS
      rcases z2 with rfl | rfl | rfl | rfl | rfl | rfl | rfl | rfl <;> decide
    · exact absurd rfl h
section
variable {f : Nat → Int32} {n : Nat} {ki : Nat → Int32} {nu : Nat → Int64}
theorem mClose_op {a st : Nat} {fi : Bool} {se : Int64} {O : List FR} {V : List VL} {m' : MS} (h : opOk O) (e : mClose f n a st fi se O V = some m') : opOk m'.2.2.2.2.1 := by
  match O, h, e with
  | [], _, e => cases e
  | fr :: O, h, e =>
    unfold mClose at e
    dsimp only at e
    split at e
    · rename_i hfn
      split at e
      · cases e
        refine opOk_cons (opOk_tl h) ?_
        have hfr1 : (if st = 1 then fld fr (V.headD (0, 0)).1 (V.headD (0, 0)).2 else fr).1 = fr.1 := by
          split
          · exact fld_1 fr _ _
          · rfl
        rw [hfr1]
        exact h fr List.mem_cons_self
      · cases e
        exact opOk_tl h
    · split at e
      · split at e
        · split at e
          · cases e
          · cases e
            exact opOk_cons (opOk_tl h) (h fr List.mem_cons_self)
        · split at e
          · cases e
            exact opOk_tl h
          · cases e
      · split at e
        · cases e
          exact opOk_tl h
        · cases e
theorem mStep_op {m m' : MS} (h : opOk m.2.2.2.2.1) (e : mStep f n ki nu m = some m') : opOk m'.2.2.2.2.1 := by
  have bg : ∀ {a : Nat} {se : Int64} {O : List FR} {V : List VL} {w : Int32} {len : Nat} {fi : Bool}, opOk O → (1 ≤ tg w → opS w) → mBg a se O V w len fi = some m' → opOk m'.2.2.2.2.1 := by
    intro a se O V w len fi hO hw e
    unfold mBg at e
    cases e
    exact opOk_cons hO hw
  unfold mStep at e
  split at e
  · unfold mFactor at e
    split at e
    · exact bg h (fun _ => Or.inl rfl) e
    · split at e
      · split at e
        · cases e; exact h
        · cases e
      · split at e
        · unfold mName at e
          split at e
          · split at e
            · rename_i c _ _ _ _ b fr O' e1 e2
              rw [e2] at h
              cases e
              refine opOk_cons (opOk_tl h) ?_
              have e1 : (mRange ki nu c b fr m.2.2.2.1).1.1 = fr.1 := mg2_1 _ _ _ _
              rw [e1]
              exact h fr List.mem_cons_self
            · cases e
          · cases e; exact h
        · unfold mOpen at e
          repeat' split at e
          all_goals first
            | exact bg h (fun w => absurd w (by decide)) e
            | cases e
  · split at e
    · unfold mSign at e
      split at e
      · exact mClose_op (stl_op _ _ h) e
      · unfold mSgn at e
        split at e
        · cases e
        · rename_i hz
          split at e
          · cases e
          · exact bg (stl_op _ _ h) (fun _ => sgA_op hz) e
    · split at e
      · exact mClose_op h e
      · cases e
end

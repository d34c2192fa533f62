/-! What is read, and what it refers to, does not depend on values. -/
def E3 (s t : RS) : Prop := s.1 = t.1 ∧ s.2.1 = t.2.1 ∧ s.2.2.1 = t.2.2.1
section
variable {f : Nat → Int32} {n : Nat} {ki ki' : Nat → Int32} {nu nu' : Nat → Int64} {E E' F F' : RS → Int64 × RS}
def X3 (X X' : RS → Int64 × RS) : Prop := ∀ s t, E3 s t → E3 (X s).2 (X' t).2
theorem E3.pk {s t : RS} (h : E3 s t) (j : Nat) : rPk f n s j = rPk f n t j := by
  unfold rPk
  rw [h.1]
theorem E3.ad {s t : RS} (h : E3 s t) (k : Nat) : E3 (rAd s k) (rAd t k) := ⟨by show s.1 + k = t.1 + k; rw [h.1], h.2.1, h.2.2⟩
theorem E3.rf {s t : RS} (h : E3 s t) : E3 (rRf n s) (rRf n t) := ⟨rfl, rfl, h.2.2⟩
theorem E3.er {s t : RS} (h : E3 s t) (a b : Int32) : E3 (rEr s a) (rEr t b) := h
theorem E3.tl {s t : RS} (h : E3 s t) (a b : Nat → TY) : E3 (rTl s a) (rTl t b) := h
theorem E3.need {s t : RS} (h : E3 s t) (c : Int32) : E3 (rNeed f n c s) (rNeed f n c t) := by
  unfold rNeed
  rw [h.pk]
  split
  · exact h.ad 1
  · exact h.rf
theorem E3.w {s t : RS} (h : E3 s t) (i : Nat) : rW f n s i ↔ rW f n t i := by
  constructor
  · intro w j hj; rw [← h.pk]; exact w j hj
  · intro w j hj; rw [h.pk]; exact w j hj
theorem E3.dg : ∀ (k : Nat) (v : Int64) (c : Nat) (s t : RS), E3 s t → (rDg f n k v c s).2.1 = (rDg f n k v c t).2.1 ∧ E3 (rDg f n k v c s).2.2 (rDg f n k v c t).2.2 := by
  intro k
  induction k with
  | zero => intro v c s t h; exact ⟨rfl, h⟩
  | succ k ih =>
    intro v c s t h
    rw [rDg, rDg, h.pk]
    split
    · exact ih _ _ _ _ (h.ad 1)
    · exact ⟨rfl, h⟩
theorem E3.digits : X3 (rDigits f n) (rDigits f n) := by
  intro s t h
  obtain ⟨g1, g2⟩ := E3.dg (f := f) (n := n) 9 0 0 s t h
  unfold rDigits
  rw [g1, g2.pk]
  split
  · exact g2.rf
  · exact g2
theorem E3.mc {i c : Nat} {s t : RS} (h : E3 s t) : E3 (rMc ki nu i c s) (rMc ki' nu' i c t) := by
  have e : s.2.2.1 ||| (1 : Int64) <<< Int64.ofNat c = t.2.2.1 ||| (1 : Int64) <<< Int64.ofNat c := by rw [h.2.2]
  unfold rMc
  split
  · split
    · exact ⟨h.1, h.2.1, e⟩
    · exact ⟨h.1, h.2.1, e⟩
  · split
    · exact ⟨h.1, h.2.1, e⟩
    · exact ⟨h.1, h.2.1, e⟩
theorem E3.g1 {i : Nat} : ∀ (k c : Nat) (s t : RS), E3 s t → E3 (rg1 ki nu i k c s) (rg1 ki' nu' i k c t)
  | 0, _, _, _, h => h
  | k + 1, c, _, _, h => E3.g1 k (c + 1) _ _ h.mc
theorem E3.g2 {i c0 wd : Nat} : ∀ (k r : Nat) (s t : RS), E3 s t → E3 (rg2 ki nu i c0 wd k r s) (rg2 ki' nu' i c0 wd k r t)
  | 0, _, _, _, h => h
  | k + 1, r, _, _, h => E3.g2 k (r + 1) _ _ (E3.g1 _ _ _ _ h)
theorem E3.arg {i : Nat} {s t : RS} (hE : X3 E E') (h : E3 s t) : E3 (rArg f n ki nu E i s) (rArg f n ki' nu' E' i t) := by
  unfold rArg
  rw [h.pk 2, h.pk 0, h.pk 1, h.pk 3, h.pk 4]
  split
  · split
    · exact E3.g2 _ _ _ _ (h.ad 5)
    · exact h.rf
  · exact hE s t h
theorem E3.args {i : Nat} (hE : X3 E E') : ∀ (k : Nat) (s t : RS), E3 s t → E3 (rArgs f n ki nu E i k s) (rArgs f n ki' nu' E' i k t) := by
  intro k
  induction k with
  | zero => intro s t h; exact h
  | succ k ih =>
    intro s t h
    rw [rArgs, rArgs, h.pk 0]
    split
    · exact ih _ _ ((h.ad 1).arg hE)
    · exact h
theorem E3.funB {i : Nat} {s t : RS} (hE : X3 E E') (h : E3 s t) : E3 (rFunB f n ki nu E i s) (rFunB f n ki' nu' E' i t) := by
  unfold rFunB
  exact (E3.args hE 40 _ _ (E3.arg hE (h.tl _ _))).need 41
theorem E3.func {w : Int32} {i : Nat} {s t : RS} (hE : X3 E E') (h : E3 s t) : E3 (rFun f n ki nu E w i s).2 (rFun f n ki' nu' E' w i t).2 := by
  have h2 := E3.funB (f := f) (n := n) (ki := ki) (ki' := ki') (nu := nu) (nu' := nu') (i := i) hE h
  unfold rFun rFunE
  exact h2.er _ _
theorem E3.choice {s t : RS} (hE : X3 E E') (h : E3 s t) : E3 (rChoice f n E s).2 (rChoice f n E' t).2 := by
  have h3 : E3 (rCh3 f n E s) (rCh3 f n E' t) := (hE _ _ ((hE _ _ ((hE _ _ h).need 44)).need 44)).need 41
  have e1 : ∀ (E : RS → Int64 × RS) (s : RS), E3 (rChoice f n E s).2 (rCh3 f n E s) := by
    intro E s
    unfold rChoice
    repeat' split
    all_goals exact ⟨rfl, rfl, rfl⟩
  have a := e1 E s
  have b := e1 E' t
  exact ⟨a.1.trans (h3.1.trans b.1.symm), a.2.1.trans (h3.2.1.trans b.2.1.symm), a.2.2.trans (h3.2.2.trans b.2.2.symm)⟩
theorem E3.fn {s t : RS} (h : E3 s t) : (rFn f n s).1 = (rFn f n t).1 ∧ E3 (rFn f n s).2 (rFn f n t).2 := by
  unfold rFn
  simp only [h.w]
  repeat' split
  all_goals first
    | exact ⟨rfl, h.ad _⟩
    | exact ⟨rfl, h⟩
theorem E3.u {r : Nat} (hE : X3 E E') : X3 (rU f n ki nu E r) (rU f n ki' nu' E' r) := by
  intro s t h
  obtain ⟨f1, f2⟩ := h.fn (f := f) (n := n)
  unfold rU
  rw [h.pk 0, h.pk 1, f1]
  simp only [h.w]
  split
  · exact E3.digits s t h
  · split
    · rename_i c _
      exact ⟨by show s.1 + 2 = t.1 + 2; rw [h.1], h.2.1, by show s.2.2.1 ||| _ = t.2.2.1 ||| _; rw [h.2.2]⟩
    · split
      · exact h.rf
      · split
        · exact (hE _ _ (h.ad 1)).need 41
        · split
          · exact E3.choice hE (h.ad 3)
          · split
            · exact f2.rf
            · exact E3.func hE f2
theorem E3.neg : ∀ (k : Nat) (b : Bool) (s t : RS), E3 s t → E3 (rNeg f n k b s).2 (rNeg f n k b t).2 := by
  intro k
  induction k with
  | zero => intro b s t h; exact h
  | succ k ih =>
    intro b s t h
    rw [rNeg, rNeg, h.pk 0]
    split
    · exact ih _ _ _ (h.ad 1)
    · exact h
theorem E3.fac (hF : X3 F F') : X3 (rFac f n F) (rFac f n F') := fun s t h => hF _ _ (E3.neg 40 false s t h)
theorem rJoin_3 {op : Int32} {a : Int64} {ae : Int32} {b : Int64} {s : RS} : E3 (rJoin op a ae b s).2 s := by
  rw [rJoin_er]
  exact ⟨rfl, rfl, rfl⟩
theorem E3.tr {a b c : RS} (h : E3 a b) (g : E3 b c) : E3 a c := ⟨h.1.trans g.1, h.2.1.trans g.2.1, h.2.2.trans g.2.2⟩
theorem E3.sy {a b : RS} (h : E3 a b) : E3 b a := ⟨h.1.symm, h.2.1.symm, h.2.2.symm⟩
theorem E3.lp {p : Int32 → Prop} [DecidablePred p] (hF : X3 F F') : ∀ (k : Nat) (v v' : Int64) (s t : RS), E3 s t → E3 (rLp f n F p k v s).2 (rLp f n F' p k v' t).2 := by
  intro k
  induction k with
  | zero => intro v v' s t h; exact h
  | succ k ih =>
    intro v v' s t h
    rw [rLp, rLp, h.pk 0]
    split
    · exact ih _ _ _ _ (rJoin_3.tr ((hF _ _ (h.ad 1)).tr rJoin_3.sy))
    · exact h
theorem E3.cmp {s t : RS} (h : E3 s t) : (rCmp f n s).1 = (rCmp f n t).1 ∧ E3 (rCmp f n s).2 (rCmp f n t).2 := by
  unfold rCmp
  simp only [h.w, h.pk]
  repeat' split
  all_goals first
    | exact ⟨rfl, h.ad _⟩
    | exact ⟨rfl, h⟩
theorem E3.exp (hF : X3 F F') : X3 (rExp f n F) (rExp f n F') := by
  intro s t h
  obtain ⟨c1, c2⟩ := (hF _ _ h).cmp (f := f) (n := n)
  unfold rExp
  rw [c1]
  split
  · exact c2
  · exact rJoin_3.tr ((hF _ _ c2).tr rJoin_3.sy)
theorem E3.prod (hF : X3 F F') : X3 (rProd f n F) (rProd f n F') := fun s t h => E3.lp hF _ _ _ _ _ (hF s t h)
theorem E3.sum (hF : X3 F F') : X3 (rSum f n F) (rSum f n F') := fun s t h => E3.lp hF _ _ _ _ _ (hF s t h)
theorem E3.ex : ∀ r, X3 (ex f n ki nu r) (ex f n ki' nu' r)
  | 0 => E3.exp (E3.sum (E3.prod (E3.fac (E3.u (fun _ _ h => h)))))
  | r + 1 => E3.exp (E3.sum (E3.prod (E3.fac (E3.u (E3.ex r)))))
theorem rdX_3 (er er' : Int32) (ta ta' : Nat → TY) : E3 (rdX f n ki nu (rd0 er ta)).2 (rdX f n ki' nu' (rd0 er' ta')).2 := by
  have h : E3 (rd0 er ta) (rd0 er' ta') := ⟨rfl, rfl, rfl⟩
  unfold rdX
  rw [h.pk 0]
  split
  · exact E3.ex 8 _ _ (h.ad 1)
  · split
    · exact E3.digits _ _ (h.ad 1)
    · exact E3.digits _ _ h
end

/-! Order: sources, users, and the reference's closures. -/
def upN (f : Nat → Nat) (i v : Nat) : Nat → Nat := fun j => if j = i then v else f j
def Prm (p c : Nat → Nat) : Prop := (∀ i, i < 64 → p i < 64 ∧ c (p i) = i) ∧ (∀ q, q < 64 → c q < 64 ∧ p (c q) = q)
def cSrc (G : Nat → Int64) (c : Nat → Nat) (low : Nat) : Nat → Int64 → Int64
  | 0, fd => fd
  | k + 1, fd => cSrc G c low k (if hbt fd (c (low + k)) = true then fd ||| G (c (low + k)) else fd)
def cUse (G : Nat → Int64) (c : Nat → Nat) : Nat → Nat → Int64 → Int64
  | 0, _, fd => fd
  | k + 1, q, fd => cUse G c k (q + 1) (if G (c q) &&& fd ≠ 0 then fd ||| bit1 (c q) else fd)
def oP (G : Nat → Int64) : Nat → Nat → Int64 → Int64
  | 0, _, a => a
  | k + 1, c, a => oP G k (c + 1) (if hbt a c = true then a ||| G c else a)
def fP (G : Nat → Int64) : Nat → Nat → Int64 → Int64
  | 0, _, a => a
  | k + 1, c, a => fP G k (c + 1) (if G c &&& a ≠ 0 then a ||| bit1 c else a)
def itr (pass : Int64 → Int64) : Nat → Int64 → Int64
  | 0, a => a
  | k + 1, a => if pass a = a then a else itr pass k (pass a)
def card (a : Int64) : Nat := (List.range 64).countP (hbt a)
section
variable {G : Nat → Int64} {c p : Nat → Nat}
theorem or_l {a b : Int64} {v : Nat} (h : hbt a v = true) : hbt (a ||| b) v = true := by rw [hbt_or, h]; rfl
theorem or_r {a b : Int64} {v : Nat} (h : hbt b v = true) : hbt (a ||| b) v = true := by rw [hbt_or, h, Bool.or_true]
theorem or_e {a b : Int64} {v : Nat} (h : hbt (a ||| b) v = true) : hbt a v = true ∨ hbt b v = true := by
  rw [hbt_or, Bool.or_eq_true] at h
  exact h
theorem and_ne {a b : Int64} : a &&& b ≠ 0 ↔ ∃ w, hbt a w = true ∧ hbt b w = true := by
  rw [hbt_ne]
  constructor
  · rintro ⟨w, -, h⟩
    rw [hbt_and, Bool.and_eq_true] at h
    exact ⟨w, h⟩
  · rintro ⟨w, h1, h2⟩
    refine ⟨w, ?_, by rw [hbt_and, h1, h2]; rfl⟩
    rcases Nat.lt_or_ge w 64 with h | h
    · exact h
    · rw [hbt_hi a h] at h1
      cases h1
theorem hbt_lt {a : Int64} {w : Nat} (h : hbt a w = true) : w < 64 := by
  rcases Nat.lt_or_ge w 64 with g | g
  · exact g
  · rw [hbt_hi a g] at h
    cases h
theorem hbt_b1 {v d : Nat} (hd : d < 64) : hbt (bit1 d) v = true ↔ v = d := by
  rw [hbt_bit hd, decide_eq_true_eq]
theorem src_sup (low : Nat) : ∀ (k : Nat) (fd : Int64) (v : Nat), hbt fd v = true → hbt (cSrc G c low k fd) v = true
  | 0, _, _, h => h
  | k + 1, fd, v, h => by
    rw [cSrc]
    refine src_sup low k _ v ?_
    split
    · exact or_l h
    · exact h
theorem src_sound (low : Nat) {T : Nat → Prop} (hT : ∀ u w, T u → hbt (G u) w = true → T w) : ∀ (k : Nat) (fd : Int64), (∀ v, hbt fd v = true → T v) → ∀ v, hbt (cSrc G c low k fd) v = true → T v
  | 0, _, h => h
  | k + 1, fd, h => by
    rw [cSrc]
    refine src_sound low hT k _ ?_
    intro v hv
    split at hv
    · rename_i hz
      rcases or_e hv with g | g
      · exact h v g
      · exact hT _ v (h _ hz) g
    · exact h v hv
theorem src_new (low : Nat) : ∀ (k : Nat) (fd : Int64), (∀ q, low ≤ q → q < low + k → ∀ w, hbt (G (c q)) w = true → p w < q) → ∀ v, hbt (cSrc G c low k fd) v = true → hbt fd v = true ∨ p v < low + k
  | 0, _, _ => fun v h => Or.inl h
  | k + 1, fd, ht => by
    intro v hv
    rw [cSrc] at hv
    rcases src_new low k _ (fun q h1 h2 => ht q h1 (by omega)) v hv with g | g
    · split at g
      · rcases or_e g with g | g
        · exact Or.inl g
        · have := ht (low + k) (by omega) (by omega) v g
          exact Or.inr (by omega)
      · exact Or.inl g
    · exact Or.inr (by omega)
theorem src_closed (low : Nat) : ∀ (k : Nat) (fd : Int64), (∀ q, low ≤ q → q < low + k → p (c q) = q ∧ ∀ w, hbt (G (c q)) w = true → p w < q) → ∀ q, low ≤ q → q < low + k → hbt (cSrc G c low k fd) (c q) = true → ∀ w, hbt (G (c q)) w = true → hbt (cSrc G c low k fd) w = true
  | 0, _, _ => fun q h1 h2 => by omega
  | k + 1, fd, ht => by
    intro q h1 h2 hq w hw
    rcases Nat.lt_or_ge q (low + k) with g | g
    · rw [cSrc] at hq ⊢
      exact src_closed low k _ (fun q h1 h2 => ht q h1 (by omega)) q h1 g hq w hw
    · have e : q = low + k := by omega
      subst e
      obtain ⟨t1, t2⟩ := ht (low + k) h1 h2
      have hz : hbt fd (c (low + k)) = true := by
        rw [cSrc] at hq
        rcases src_new (p := p) low k _ (fun q h1 h2 => (ht q h1 (by omega)).2) _ hq with g | g
        · split at g
          · assumption
          · exact g
        · omega
      rw [cSrc, if_pos hz]
      exact src_sup low k _ w (or_r hw)
theorem use_sup : ∀ (k q : Nat) (fd : Int64) (v : Nat), hbt fd v = true → hbt (cUse G c k q fd) v = true
  | 0, _, _, _, h => h
  | k + 1, q, fd, v, h => by
    rw [cUse]
    refine use_sup k (q + 1) _ v ?_
    split
    · exact or_l h
    · exact h
theorem use_new : ∀ (k q : Nat) (fd : Int64), (∀ q', q ≤ q' → q' < q + k → c q' < 64 ∧ p (c q') = q') → ∀ v, hbt (cUse G c k q fd) v = true → hbt fd v = true ∨ (q ≤ p v ∧ p v < q + k)
  | 0, _, _, _ => fun v h => Or.inl h
  | k + 1, q, fd, ht => by
    intro v hv
    rw [cUse] at hv
    rcases use_new k (q + 1) _ (fun q' h1 h2 => ht q' (by omega) (by omega)) v hv with g | g
    · split at g
      · rcases or_e g with g | g
        · exact Or.inl g
        · obtain ⟨t1, t2⟩ := ht q (by omega) (by omega)
          have := (hbt_b1 t1).mp g
          subst this
          exact Or.inr (by omega)
      · exact Or.inl g
    · exact Or.inr (by omega)
theorem use_sound {T : Nat → Prop} : ∀ (k q : Nat) (fd : Int64), (∀ q', q ≤ q' → q' < q + k → c q' < 64 ∧ ∀ w, hbt (G (c q')) w = true → T w → T (c q')) → (∀ v, hbt fd v = true → T v) → ∀ v, hbt (cUse G c k q fd) v = true → T v
  | 0, _, _, _, h => h
  | k + 1, q, fd, ht, h => by
    rw [cUse]
    refine use_sound k (q + 1) _ (fun q' h1 h2 => ht q' (by omega) (by omega)) ?_
    intro v hv
    split at hv
    · rename_i hz
      rcases or_e hv with g | g
      · exact h v g
      · obtain ⟨t1, t2⟩ := ht q (by omega) (by omega)
        obtain ⟨w, w1, w2⟩ := and_ne.mp hz
        have := (hbt_b1 t1).mp g
        subst this
        exact t2 w w1 (h w w2)
    · exact h v hv
theorem use_closed : ∀ (k q : Nat) (fd : Int64), (∀ q', q ≤ q' → q' < q + k → c q' < 64 ∧ p (c q') = q' ∧ (hbt fd (c q') = true ∨ ∀ w, hbt (G (c q')) w = true → p w < q')) → ∀ q', q ≤ q' → q' < q + k → ∀ w, hbt (G (c q')) w = true → hbt (cUse G c k q fd) w = true → hbt (cUse G c k q fd) (c q') = true
  | 0, _, _, _ => fun q' h1 h2 => by omega
  | k + 1, q, fd, ht => by
    intro q' h1 h2 w hw hr
    rcases Nat.lt_or_ge q q' with g | g
    · rw [cUse] at hr ⊢
      refine use_closed k (q + 1) _ (fun q' h1 h2 => ?_) q' (by omega) (by omega) w hw hr
      obtain ⟨t1, t2, t3⟩ := ht q' (by omega) (by omega)
      refine ⟨t1, t2, t3.imp (fun t => ?_) id⟩
      split
      · exact or_l t
      · exact t
    · have e : q' = q := by omega
      subst e
      obtain ⟨t1, t2, t3⟩ := ht q' h1 h2
      rcases t3 with t3 | t3
      · exact use_sup _ _ _ _ t3
      · have hp := t3 w hw
        have hfd : hbt fd w = true := by
          rw [cUse] at hr
          rcases use_new (p := p) k (q' + 1) _ (fun q h1 h2 => ⟨(ht q (by omega) (by omega)).1, (ht q (by omega) (by omega)).2.1⟩) w hr with g | g
          · split at g
            · rcases or_e g with g | g
              · exact g
              · have := (hbt_b1 t1).mp g
                subst this
                omega
            · exact g
          · omega
        rw [cUse, if_pos (and_ne.mpr ⟨w, hw, hfd⟩)]
        exact use_sup _ _ _ _ (or_r ((hbt_b1 t1).mpr rfl))
theorem oP_sup : ∀ (k c : Nat) (a : Int64) (v : Nat), hbt a v = true → hbt (oP G k c a) v = true
  | 0, _, _, _, h => h
  | k + 1, c, a, v, h => by
    rw [oP]
    refine oP_sup k (c + 1) _ v ?_
    split
    · exact or_l h
    · exact h
theorem oP_sound {T : Nat → Prop} (hT : ∀ u w, T u → hbt (G u) w = true → T w) : ∀ (k c : Nat) (a : Int64), (∀ v, hbt a v = true → T v) → ∀ v, hbt (oP G k c a) v = true → T v
  | 0, _, _, h => h
  | k + 1, c, a, h => by
    rw [oP]
    refine oP_sound hT k (c + 1) _ ?_
    intro v hv
    split at hv
    · rename_i hz
      rcases or_e hv with g | g
      · exact h v g
      · exact hT _ v (h _ hz) g
    · exact h v hv
theorem oP_fix : ∀ (k c : Nat) (a : Int64) (u w : Nat), c ≤ u → u < c + k → hbt a u = true → hbt (G u) w = true → hbt (oP G k c a) w = true
  | 0, _, _, _, _ => fun h1 h2 => by omega
  | k + 1, c, a, u, w => by
    intro h1 h2 hu hw
    rw [oP]
    rcases Nat.lt_or_ge c u with g | g
    · refine oP_fix k (c + 1) _ u w (by omega) (by omega) ?_ hw
      split
      · exact or_l hu
      · exact hu
    · have e : c = u := by omega
      subst e
      rw [if_pos hu]
      exact oP_sup _ _ _ _ (or_r hw)
theorem fP_sup : ∀ (k c : Nat) (a : Int64) (v : Nat), hbt a v = true → hbt (fP G k c a) v = true
  | 0, _, _, _, h => h
  | k + 1, c, a, v, h => by
    rw [fP]
    refine fP_sup k (c + 1) _ v ?_
    split
    · exact or_l h
    · exact h
theorem fP_sound {T : Nat → Prop} (hT : ∀ u w, hbt (G u) w = true → T w → T u) : ∀ (k c : Nat) (a : Int64), c + k ≤ 64 → (∀ v, hbt a v = true → T v) → ∀ v, hbt (fP G k c a) v = true → T v
  | 0, _, _, _, h => h
  | k + 1, c, a, hc, h => by
    rw [fP]
    refine fP_sound hT k (c + 1) _ (by omega) ?_
    intro v hv
    split at hv
    · rename_i hz
      rcases or_e hv with g | g
      · exact h v g
      · obtain ⟨w, w1, w2⟩ := and_ne.mp hz
        have := (hbt_b1 (show c < 64 by omega)).mp g
        subst this
        exact hT _ w w1 (h w w2)
    · exact h v hv
theorem fP_fix : ∀ (k c : Nat) (a : Int64) (u w : Nat), c + k ≤ 64 → c ≤ u → u < c + k → hbt a w = true → hbt (G u) w = true → hbt (fP G k c a) u = true
  | 0, _, _, _, _ => fun _ h1 h2 => by omega
  | k + 1, c, a, u, w => by
    intro h0 h1 h2 hu hw
    rw [fP]
    rcases Nat.lt_or_ge c u with g | g
    · refine fP_fix k (c + 1) _ u w (by omega) (by omega) (by omega) ?_ hw
      split
      · exact or_l hu
      · exact hu
    · have e : c = u := by omega
      subst e
      rw [if_pos (and_ne.mpr ⟨w, hw, hu⟩)]
      exact fP_sup _ _ _ _ (or_r ((hbt_b1 (by omega)).mpr rfl))
theorem card_le (a : Int64) : card a ≤ 64 := by
  have := List.countP_le_length (p := hbt a) (l := List.range 64)
  rw [List.length_range] at this
  exact this
theorem cnt_lt {P Q : Nat → Bool} : ∀ (l : List Nat), (∀ x ∈ l, P x = true → Q x = true) → (∃ x ∈ l, P x = false ∧ Q x = true) → l.countP P < l.countP Q
  | [], _, h => by obtain ⟨x, hx, -⟩ := h; cases hx
  | y :: l, h1, h2 => by
    have mono : ∀ (l : List Nat), (∀ x ∈ l, P x = true → Q x = true) → l.countP P ≤ l.countP Q := fun l h => List.countP_mono_left h
    rw [List.countP_cons, List.countP_cons]
    have m := mono l (fun x hx => h1 x (List.mem_cons_of_mem _ hx))
    obtain ⟨x, hx, e1, e2⟩ := h2
    rcases List.mem_cons.mp hx with rfl | hx
    · rw [e1, e2]
      simp
      omega
    · have := cnt_lt l (fun x hx => h1 x (List.mem_cons_of_mem _ hx)) ⟨x, hx, e1, e2⟩
      have h3 := h1 y List.mem_cons_self
      cases e : P y with
      | true => rw [h3 e]; simp; omega
      | false => simp; omega
theorem card_lt {a b : Int64} (h : ∀ v, hbt a v = true → hbt b v = true) (hn : b ≠ a) : card a < card b := by
  refine cnt_lt _ (fun x _ => h x) ?_
  apply Classical.byContradiction
  intro w
  apply hn
  apply hbt_ext
  intro v hv
  cases e : hbt a v with
  | true => exact h v e
  | false =>
    cases e2 : hbt b v with
    | false => rfl
    | true => exact absurd ⟨v, List.mem_range.mpr hv, e, e2⟩ w
theorem itr_fix {pass : Int64 → Int64} (hs : ∀ a v, hbt a v = true → hbt (pass a) v = true) : ∀ (k : Nat) (a : Int64), 64 - card a < k → pass (itr pass k a) = itr pass k a
  | 0, _, h => by omega
  | k + 1, a, h => by
    rw [itr]
    split
    · assumption
    · rename_i hne
      have h1 := card_lt (hs a) hne
      have h2 := card_le (pass a)
      exact itr_fix hs k (pass a) (by omega)
theorem itr_sup {pass : Int64 → Int64} (hs : ∀ a v, hbt a v = true → hbt (pass a) v = true) : ∀ (k : Nat) (a : Int64) (v : Nat), hbt a v = true → hbt (itr pass k a) v = true
  | 0, _, _, h => h
  | k + 1, a, v, h => by
    rw [itr]
    split
    · exact h
    · exact itr_sup hs k _ v (hs a v h)
theorem itr_sound {pass : Int64 → Int64} {T : Nat → Prop} (hT : ∀ a, (∀ v, hbt a v = true → T v) → ∀ v, hbt (pass a) v = true → T v) : ∀ (k : Nat) (a : Int64), (∀ v, hbt a v = true → T v) → ∀ v, hbt (itr pass k a) v = true → T v
  | 0, _, h => h
  | k + 1, a, h => by
    rw [itr]
    split
    · exact h
    · exact itr_sound hT k _ (hT a h)
end
/-- what cells come from, and what comes from a cell -/
def Org (G : Nat → Int64) (a : Int64) : Int64 := itr (oP G 64 0) 65 a
def Fol (G : Nat → Int64) (y : Nat) : Int64 := itr (fP G 64 0) 65 (bit1 y)
section
variable {G : Nat → Int64} {c p : Nat → Nat}
theorem Org_sup {a : Int64} {v : Nat} (h : hbt a v = true) : hbt (Org G a) v = true := itr_sup (fun a v => oP_sup 64 0 a v) 65 a v h
theorem Org_cl {a : Int64} {u w : Nat} (h : hbt (Org G a) u = true) (hw : hbt (G u) w = true) : hbt (Org G a) w = true := by
  have e : oP G 64 0 (Org G a) = Org G a := itr_fix (fun a v => oP_sup 64 0 a v) 65 a (by omega)
  rw [← e]
  exact oP_fix 64 0 _ u w (Nat.zero_le _) (by have := hbt_lt h; omega) h hw
theorem Org_min {a : Int64} {T : Nat → Prop} (hT : ∀ u w, T u → hbt (G u) w = true → T w) (h : ∀ v, hbt a v = true → T v) : ∀ v, hbt (Org G a) v = true → T v :=
  itr_sound (fun a h => oP_sound hT 64 0 a h) 65 a h
theorem Fol_y {y : Nat} (hy : y < 64) : hbt (Fol G y) y = true := itr_sup (fun a v => fP_sup 64 0 a v) 65 _ y ((hbt_b1 hy).mpr rfl)
theorem Fol_cl {y u w : Nat} (hu : u < 64) (h : hbt (Fol G y) w = true) (hw : hbt (G u) w = true) : hbt (Fol G y) u = true := by
  have e : fP G 64 0 (Fol G y) = Fol G y := itr_fix (fun a v => fP_sup 64 0 a v) 65 _ (by omega)
  rw [← e]
  exact fP_fix 64 0 _ u w (Nat.le_refl _) (Nat.zero_le _) (by omega) h hw
theorem Fol_min {y : Nat} (hy : y < 64) {T : Nat → Prop} (hT : ∀ u w, hbt (G u) w = true → T w → T u) (h : T y) : ∀ v, hbt (Fol G y) v = true → T v :=
  itr_sound (fun a h => fP_sound hT 64 0 a (Nat.le_refl _) h) 65 _ (fun v hv => by rw [(hbt_b1 hy).mp hv]; exact h)
end

/-! One step of bringing the places up to date: the sets. -/
def Top (G : Nat → Int64) (p : Nat → Nat) (y : Nat) : Prop := ∀ u, u < 64 → u ≠ y → ∀ w, hbt (G u) w = true → p w < p u
def Acy (G : Nat → Int64) : Prop := ∃ rk : Nat → Nat, ∀ u w, u < 64 → hbt (G u) w = true → rk w < rk u
section
variable {G : Nat → Int64} {c p : Nat → Nat} {x y : Nat}
theorem sets_ok (hP : Prm p c) (hT : Top G p y) (hA : Acy G) (hy : y < 64) (hxy : hbt (G y) x = true) (hlt : p y < p x) :
    (∀ v, v < 64 → p y < p v → (hbt (cSrc G c (p y + 1) (p x - p y) (bit1 x)) v = true ↔ hbt (Org G (bit1 x)) v = true)) ∧
    (∀ v, hbt (Org G (bit1 x)) v = true → p v ≤ p x ∧ v ≠ y) ∧
    (∀ v, v < 64 → p v < p x → (hbt (cUse G c (p x - p y) (p y) (bit1 y)) v = true ↔ hbt (Fol G y) v = true)) ∧
    (∀ v, hbt (Fol G y) v = true → p y ≤ p v ∧ v ≠ x) ∧
    (∀ v, hbt (cSrc G c (p y + 1) (p x - p y) (bit1 x)) v = true → hbt (Org G (bit1 x)) v = true) ∧
    (∀ v, hbt (cUse G c (p x - p y) (p y) (bit1 y)) v = true → hbt (Fol G y) v = true) ∧
    (∀ v, hbt (Org G (bit1 x)) v = true → hbt (Fol G y) v = true → False) := by
  have hx : x < 64 := hbt_lt hxy
  obtain ⟨rk, hrk⟩ := hA
  have px := hP.1 x hx
  have py := hP.1 y hy
  have eO : ∀ v, hbt (Org G (bit1 x)) v = true → v < 64 ∧ rk v ≤ rk x := by
    refine Org_min (T := fun v => v < 64 ∧ rk v ≤ rk x) ?_ ?_
    · intro u w hu hw
      have := hrk u w hu.1 hw
      exact ⟨hbt_lt hw, by omega⟩
    · intro v hv
      rw [(hbt_b1 hx).mp hv]
      exact ⟨hx, Nat.le_refl _⟩
  have eF : ∀ v, hbt (Fol G y) v = true → v < 64 → rk y ≤ rk v := by
    refine Fol_min (T := fun v => v < 64 → rk y ≤ rk v) hy ?_ (fun _ => Nat.le_refl _)
    · intro u w hw ht hu
      have h1 := hrk u w hu hw
      have := ht (hbt_lt hw)
      omega
  have hrxy := hrk y x hy hxy
  have O2 : ∀ v, hbt (Org G (bit1 x)) v = true → p v ≤ p x ∧ v ≠ y := by
    have : ∀ v, hbt (Org G (bit1 x)) v = true → p v ≤ p x ∧ hbt (Org G (bit1 x)) v = true := by
      refine Org_min (T := fun v => p v ≤ p x ∧ hbt (Org G (bit1 x)) v = true) ?_ ?_
      · intro u w hu hw
        have h1 := eO u hu.2
        have h2 : u ≠ y := fun e => by subst e; omega
        have h3 := hT u h1.1 h2 w hw
        exact ⟨by omega, Org_cl hu.2 hw⟩
      · intro v hv
        have h0 := hv
        rw [(hbt_b1 hx).mp hv]
        exact ⟨Nat.le_refl _, Org_sup ((hbt_b1 hx).mpr rfl)⟩
    intro v hv
    refine ⟨(this v hv).1, fun e => ?_⟩
    subst e
    have := (eO v hv).2
    omega
  have F2 : ∀ v, hbt (Fol G y) v = true → p y ≤ p v ∧ v ≠ x := by
    intro v hv
    refine ⟨?_, fun e => ?_⟩
    · have : v < 64 → p y ≤ p v := by
        refine Fol_min (T := fun v => v < 64 → p y ≤ p v) hy ?_ (fun _ => Nat.le_refl _) v hv
        intro u w hw ht hu
        by_cases e : u = y
        · subst e; exact Nat.le_refl _
        · have h1 := hT u hu e w hw
          have := ht (hbt_lt hw)
          omega
      exact this (hbt_lt hv)
    · subst e
      have := eF v hv hx
      omega
  have S1 : ∀ v, hbt (cSrc G c (p y + 1) (p x - p y) (bit1 x)) v = true → hbt (Org G (bit1 x)) v = true :=
    src_sound _ (T := fun v => hbt (Org G (bit1 x)) v = true) (fun u w hu hw => Org_cl hu hw) _ _ (fun v hv => Org_sup hv)
  have U1 : ∀ v, hbt (cUse G c (p x - p y) (p y) (bit1 y)) v = true → hbt (Fol G y) v = true := by
    refine use_sound (T := fun v => hbt (Fol G y) v = true) _ _ _ ?_ ?_
    · intro q' h1 h2
      have h3 := (hP.2 q' (by omega)).1
      exact ⟨h3, fun w hw ht => Fol_cl h3 ht hw⟩
    · intro v hv
      rw [(hbt_b1 hy).mp hv]
      exact Fol_y hy
  refine ⟨?_, O2, ?_, F2, S1, U1, ?_⟩
  · intro v hv hpv
    refine ⟨S1 v, fun hO => ?_⟩
    have key : ∀ v, hbt (Org G (bit1 x)) v = true → hbt (Org G (bit1 x)) v = true ∧ (hbt (cSrc G c (p y + 1) (p x - p y) (bit1 x)) v = true ∨ p v ≤ p y) := by
      refine Org_min (T := fun v => hbt (Org G (bit1 x)) v = true ∧ (hbt (cSrc G c (p y + 1) (p x - p y) (bit1 x)) v = true ∨ p v ≤ p y)) ?_ ?_
      · rintro u w ⟨h1, h2⟩ hw
        refine ⟨Org_cl h1 hw, ?_⟩
        have hu := (eO u h1).1
        obtain ⟨g1, g2⟩ := O2 u h1
        have h3 := hT u hu g2 w hw
        rcases Nat.lt_or_ge (p y) (p u) with g | g
        · have h4 : hbt (cSrc G c (p y + 1) (p x - p y) (bit1 x)) u = true := h2.elim id (fun z => by omega)
          refine Or.inl ?_
          have pu := hP.1 u hu
          have := src_closed (G := G) (c := c) (p := p) (p y + 1) (p x - p y) (bit1 x) ?_ (p u) (by omega) (by omega)
          · rw [pu.2] at this
            exact this h4 w hw
          · intro q h1 h2
            have hq := hP.2 q (by omega)
            refine ⟨hq.2, fun w hw => ?_⟩
            have hne : c q ≠ y := fun e => by rw [e] at hq; omega
            have := hT (c q) hq.1 hne w hw
            omega
        · exact Or.inr (by omega)
      · intro v hv
        have h0 := (hbt_b1 hx).mp hv
        exact ⟨Org_sup hv, Or.inl (src_sup _ _ _ _ hv)⟩
    exact (key v hO).2.elim id (fun z => by omega)
  · intro v hv hpv
    refine ⟨U1 v, fun hO => ?_⟩
    have new : ∀ v, hbt (cUse G c (p x - p y) (p y) (bit1 y)) v = true → p y ≤ p v := fun v hv => (F2 v (U1 v hv)).1
    have key : ∀ v, hbt (Fol G y) v = true → v < 64 → hbt (cUse G c (p x - p y) (p y) (bit1 y)) v = true ∨ p x ≤ p v := by
      refine Fol_min (T := fun v => v < 64 → hbt (cUse G c (p x - p y) (p y) (bit1 y)) v = true ∨ p x ≤ p v) hy ?_ ?_
      · intro u w hw ht hu
        by_cases e : u = y
        · subst e
          exact Or.inl (use_sup _ _ _ _ ((hbt_b1 hy).mpr rfl))
        · have h3 := hT u hu e w hw
          rcases ht (hbt_lt hw) with g | g
          · rcases Nat.lt_or_ge (p u) (p x) with z | z
            · refine Or.inl ?_
              have h4 := new w g
              have pu := hP.1 u hu
              have := use_closed (G := G) (c := c) (p := p) (p x - p y) (p y) (bit1 y) ?_ (p u) (by omega) (by omega) w
              · rw [pu.2] at this
                exact this hw g
              · intro q h1 h2
                have hq := hP.2 q (by omega)
                refine ⟨hq.1, hq.2, ?_⟩
                by_cases e : c q = y
                · exact Or.inl ((hbt_b1 hy).mpr e)
                · refine Or.inr (fun w hw => ?_)
                  have := hT (c q) hq.1 e w hw
                  omega
            · exact Or.inr z
          · exact Or.inr (by omega)
      · intro _
        exact Or.inl (use_sup _ _ _ _ ((hbt_b1 hy).mpr rfl))
    exact (key v hO hv).elim id (fun z => by omega)
  · intro v h1 h2
    have := eO v h1
    have := eF v h2 (hbt_lt h2)
    omega
/-- wouldGoRound: the one way through the places finds all -/
theorem round_ok (hP : Prm p c) (hT : ∀ u, u < 64 → ∀ w, hbt (G u) w = true → p w < p u) (a : Int64) : ∀ v, hbt (cSrc G c 0 64 a) v = hbt (Org G a) v := by
  intro v
  rw [Bool.eq_iff_iff]
  constructor
  · exact src_sound _ (T := fun v => hbt (Org G a) v = true) (fun u w hu hw => Org_cl hu hw) _ _ (fun v hv => Org_sup hv) v
  · refine Org_min (T := fun v => hbt (cSrc G c 0 64 a) v = true) ?_ (fun v hv => src_sup _ _ _ _ hv) v
    intro u w hu hw
    have hu64 := hbt_lt hu
    have pu := hP.1 u hu64
    have := src_closed (G := G) (c := c) (p := p) 0 64 a ?_ (p u) (by omega) (by omega)
    · rw [pu.2] at this
      exact this hu w hw
    · intro q h1 h2
      have hq := hP.2 q (by omega)
      refine ⟨hq.2, fun w hw => ?_⟩
      have := hT (c q) hq.1 w hw
      omega
/-- what is entered without going round keeps the references free of rounds -/
theorem Acy_enter (hT : ∀ u, u < 64 → ∀ w, hbt (G u) w = true → p w < p u) (hp : ∀ i, i < 64 → p i < 64) {a : Int64} (hn : hbt (Org G a) y = false) : Acy (fun u => if u = y then a else G u) := by
  refine ⟨fun u => if hbt (Org G a) u = true then p u else p u + 64, fun u w hu hw => ?_⟩
  dsimp only at hw ⊢
  have hw64 := hbt_lt hw
  have := hp w hw64
  by_cases e : u = y
  · subst e
    rw [if_pos rfl] at hw
    rw [if_pos (show hbt (Org G a) w = true from Org_sup hw), if_neg (show ¬ hbt (Org G a) u = true by rw [hn]; decide)]
    omega
  · rw [if_neg e] at hw
    have h1 := hT u hu w hw
    by_cases z : hbt (Org G a) u = true
    · rw [if_pos z, if_pos (Org_cl z hw)]
      exact h1
    · rw [if_neg z]
      split <;> omega
end

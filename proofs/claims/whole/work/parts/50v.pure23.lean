/-! Every state that the log leads back to is free of rounds. -/
def ChOk : (Nat → Int64) → List (Nat × Int64) → Prop
  | G, [] => Acy G
  | G, e :: L => Acy G ∧ ChOk (vp_updL G e.1 e.2) L
theorem ChOk_acy {G : Nat → Int64} : ∀ {L : List (Nat × Int64)}, ChOk G L → Acy G
  | [], h => h
  | _ :: _, h => h.1
theorem updL_back (G : Nat → Int64) (y : Nat) (R : Int64) : vp_updL (vp_updL G y R) y (G y) = G := by
  funext u
  unfold vp_updL
  by_cases h : u = y
  · rw [if_pos h, h]
  · rw [if_neg h, if_neg h]
theorem ChOk_push {G : Nat → Int64} {L : List (Nat × Int64)} {y : Nat} {R : Int64} (h : ChOk G L) (hA : Acy (vp_updL G y R)) : ChOk (vp_updL G y R) ((y, G y) :: L) := by
  refine ⟨hA, ?_⟩
  show ChOk (vp_updL (vp_updL G y R) y (G y)) L
  rw [updL_back]
  exact h
theorem ChOk_init {G : Nat → Int64} : ∀ {L : List (Nat × Int64)} {e : Nat × Int64}, ChOk G (L ++ [e]) → ChOk G L
  | [], _, h => h.1
  | _ :: L, _, h => ⟨h.1, ChOk_init (L := L) h.2⟩
theorem ChOk_pop {G : Nat → Int64} {L : List (Nat × Int64)} {y : Nat} {R : Int64} (h : ChOk G ((y, R) :: L)) : ChOk (vp_updL G y R) L := h.2
theorem Acy_sub {G : Nat → Int64} {y : Nat} (h : Acy G) : Acy (vp_updL G y 0) := by
  obtain ⟨rk, hr⟩ := h
  refine ⟨rk, fun u w hu hw => ?_⟩
  unfold vp_updL at hw
  by_cases e : u = y
  · rw [if_pos e, hbt_0] at hw
    cases hw
  · rw [if_neg e] at hw
    exact hr u w hu hw
theorem Top_upd {G : Nat → Int64} {p : Nat → Nat} {y : Nat} {R : Int64} (h : ∀ u, u < 64 → ∀ w, hbt (G u) w = true → p w < p u) : Top (vp_updL G y R) p y := by
  intro u hu hne w hw
  unfold vp_updL at hw
  rw [if_neg hne] at hw
  exact h u hu w hw
theorem Acy_enter2 {G : Nat → Int64} {p : Nat → Nat} {y : Nat} {a : Int64} (hT : ∀ u, u < 64 → ∀ w, hbt (G u) w = true → p w < p u) (hp : ∀ i, i < 64 → p i < 64) (hn : hbt (Org G a) y = false) : Acy (vp_updL G y a) := by
  have := Acy_enter (y := y) hT hp hn
  have e : vp_updL G y a = fun u => if u = y then a else G u := by
    funext u
    unfold vp_updL
    rfl
  rw [e]
  exact this
/-- nothing moves where nothing is referred to -/
theorem cRef_0 {G : Nat → Int64} {y : Nat} (h : G y = 0) : ∀ (k s : Nat) (t : (Nat → Nat) × (Nat → Nat) × (Nat → Nat)), cRef G y k s t = t
  | 0, _, _ => rfl
  | k + 1, s, t => by
    rw [cRef, if_neg (fun w => by rw [h, hbt_0] at w; cases w.1)]
    exact cRef_0 h k (s + 1) t

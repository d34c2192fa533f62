/-! One step of bringing the places up to date: what moves where. -/
def rgl : Nat → Nat → List Nat
  | 0, _ => []
  | k + 1, q => q :: rgl k (q + 1)
theorem mem_rgl : ∀ (k q x : Nat), x ∈ rgl k q ↔ q ≤ x ∧ x < q + k
  | 0, q, x => by simp [rgl]
  | k + 1, q, x => by
    rw [rgl, List.mem_cons, mem_rgl k (q + 1) x]
    omega
theorem rgl_app : ∀ (a b q : Nat), rgl (a + b) q = rgl a q ++ rgl b (q + a)
  | 0, b, q => by rw [Nat.zero_add]; rfl
  | a + 1, b, q => by
    rw [show a + 1 + b = (a + b) + 1 by omega, rgl, rgl, rgl_app a b (q + 1), List.cons_append, show q + 1 + a = q + (a + 1) by omega]
theorem rgl_sorted : ∀ (k q : Nat), (rgl k q).Pairwise (· < ·)
  | 0, _ => List.Pairwise.nil
  | k + 1, q => by
    rw [rgl]
    refine List.pairwise_cons.mpr ⟨fun x hx => ?_, rgl_sorted k (q + 1)⟩
    have := (mem_rgl k (q + 1) x).mp hx
    omega
def cGat (c : Nat → Nat) (S : Int64) : Nat → Nat → (Nat → Nat) → Nat → (Nat → Nat) × Nat
  | 0, _, mo, n => (mo, n)
  | k + 1, q, mo, n => if hbt S (c q) = true then cGat c S k (q + 1) (upN mo n (c q)) (n + 1) else cGat c S k (q + 1) mo n
theorem cGat_ok {c : Nat → Nat} {S : Int64} : ∀ (k q : Nat) (mo : Nat → Nat) (n : Nat), cGat c S k q mo n = (wl mo n (((rgl k q).filter (fun q => hbt S (c q))).map c), n + ((rgl k q).filter (fun q => hbt S (c q))).length)
  | 0, _, _, _ => rfl
  | k + 1, q, mo, n => by
    rw [cGat, rgl, List.filter_cons]
    by_cases z : hbt S (c q) = true
    · rw [if_pos z, if_pos z, cGat_ok k, List.map_cons, wl, List.length_cons, show n + 1 + (List.filter (fun q => hbt S (c q)) (rgl k (q + 1))).length = n + ((List.filter (fun q => hbt S (c q)) (rgl k (q + 1))).length + 1) by omega]
    · rw [if_neg z, if_neg z, cGat_ok k]
def cAsg (fb : Int64) (mo : Nat → Nat) : Nat → Nat → (Nat → Nat) → (Nat → Nat) → Nat → (Nat → Nat) × (Nat → Nat)
  | 0, _, c, p, _ => (c, p)
  | k + 1, q, c, p, nx => if hbt fb (c q) = true then cAsg fb mo k (q + 1) (upN c q (mo nx)) (upN p (mo nx) q) (nx + 1) else cAsg fb mo k (q + 1) c p nx
theorem cAsg_ok {fb : Int64} {mo : Nat → Nat} {Mv : List Nat} (hmo : ∀ i a, Mv[i]? = some a → mo i = a) : ∀ (k q : Nat) (c p : Nat → Nat) (nx : Nat), nx + ((rgl k q).filter (fun q => hbt fb (c q))).length ≤ Mv.length →
    cAsg fb mo k q c p nx = (zu c ((rgl k q).filter (fun q => hbt fb (c q))) (Mv.drop nx), zu p (Mv.drop nx) ((rgl k q).filter (fun q => hbt fb (c q))))
  | 0, _, c, p, nx, _ => by
    rw [cAsg, rgl, List.filter_nil]
    have h1 : zu c [] (List.drop nx Mv) = c := by rw [zu]; intro _ _ _ _ h; cases h
    have h2 : zu p (List.drop nx Mv) [] = p := by
      cases List.drop nx Mv with
      | nil => rw [zu]; intro _ _ _ _ h; cases h
      | cons a l => rw [zu]; intro _ _ _ _ _ h; cases h
    rw [h1, h2]
  | k + 1, q, c, p, nx, hl => by
    rw [cAsg]
    rw [rgl, List.filter_cons] at hl ⊢
    by_cases z : hbt fb (c q) = true
    · rw [if_pos z] at hl ⊢
      rw [if_pos z]
      rw [List.length_cons] at hl
      have e : (rgl k (q + 1)).filter (fun q' => hbt fb (upN c q (mo nx) q')) = (rgl k (q + 1)).filter (fun q => hbt fb (c q)) := by
        apply List.filter_congr
        intro x hx
        have := (mem_rgl k (q + 1) x).mp hx
        rw [upN_ne (by omega)]
      have hnx : nx < Mv.length := by omega
      have hd : Mv.drop nx = mo nx :: Mv.drop (nx + 1) := by
        rw [List.drop_eq_getElem_cons hnx, hmo nx _ (List.getElem?_eq_getElem hnx)]
      rw [cAsg_ok hmo k (q + 1) (upN c q (mo nx)) (upN p (mo nx) q) (nx + 1) (by rw [e]; omega), e, hd, zu, zu]
    · rw [if_neg z] at hl ⊢
      rw [if_neg z]
      exact cAsg_ok hmo k (q + 1) c p nx hl
theorem filt_or {A B : Nat → Bool} : ∀ (l : List Nat), (∀ x ∈ l, A x = true → B x = true → False) → (l.filter (fun x => A x || B x)).length = (l.filter A).length + (l.filter B).length
  | [], _ => rfl
  | x :: l, h => by
    have ih := filt_or l (fun y hy => h y (List.mem_cons_of_mem _ hy))
    have hx := h x List.mem_cons_self
    rw [List.filter_cons, List.filter_cons, List.filter_cons]
    cases a : A x <;> cases b : B x
    · simpa using ih
    · simp; omega
    · simp; omega
    · exact absurd (hx a b) id
theorem nd_map {c : Nat → Nat} : ∀ (l : List Nat), (∀ a ∈ l, ∀ b ∈ l, c a = c b → a = b) → l.Nodup → (l.map c).Nodup
  | [], _, _ => List.nodup_nil
  | a :: l, h, hn => by
    rw [List.map_cons]
    obtain ⟨h1, h2⟩ := List.nodup_cons.mp hn
    refine List.nodup_cons.mpr ⟨fun w => ?_, nd_map l (fun x hx y hy => h x (List.mem_cons_of_mem _ hx) y (List.mem_cons_of_mem _ hy)) h2⟩
    obtain ⟨b, hb, e⟩ := List.mem_map.mp w
    have := h b (List.mem_cons_of_mem _ hb) a List.mem_cons_self e
    subst this
    exact h1 hb
theorem pw_get {l : List Nat} (h : l.Pairwise (· < ·)) {i j a b : Nat} (hi : l[i]? = some a) (hj : l[j]? = some b) (hij : i < j) : a < b := by
  obtain ⟨h1, e1⟩ := List.getElem?_eq_some_iff.mp hi
  obtain ⟨h2, e2⟩ := List.getElem?_eq_some_iff.mp hj
  rw [← e1, ← e2]
  exact List.pairwise_iff_getElem.mp h i j h1 h2 hij
section
variable {G : Nat → Int64} {c p : Nat → Nat} {x y : Nat}
/-- the sets that move, and the places at which they stand -/
def fro (G : Nat → Int64) (c p : Nat → Nat) (x y : Nat) : Int64 := cSrc G c (p y + 1) (p x - p y) (bit1 x)
def bac (G : Nat → Int64) (c p : Nat → Nat) (x y : Nat) : Int64 := cUse G c (p x - p y) (p y) (bit1 y)
def Q1 (G : Nat → Int64) (c p : Nat → Nat) (x y : Nat) : List Nat := (rgl (p x - p y + 1) (p y)).filter (fun q => hbt (fro G c p x y) (c q))
def Q2 (G : Nat → Int64) (c p : Nat → Nat) (x y : Nat) : List Nat := (rgl (p x - p y + 1) (p y)).filter (fun q => hbt (bac G c p x y) (c q))
def Ps (G : Nat → Int64) (c p : Nat → Nat) (x y : Nat) : List Nat := (rgl (p x - p y + 1) (p y)).filter (fun q => hbt (fro G c p x y ||| bac G c p x y) (c q))
def Mvs (G : Nat → Int64) (c p : Nat → Nat) (x y : Nat) : List Nat := (Q1 G c p x y).map c ++ (Q2 G c p x y).map c
theorem Q1_eq (hP : Prm p c) (hT : Top G p y) (hA : Acy G) (hy : y < 64) (hxy : hbt (G y) x = true) (hlt : p y < p x) : (rgl (p x - p y) (p y + 1)).filter (fun q => hbt (fro G c p x y) (c q)) = Q1 G c p x y := by
  obtain ⟨-, s2, -, -, s5, -, -⟩ := sets_ok hP hT hA hy hxy hlt
  unfold Q1
  rw [rgl, List.filter_cons, if_neg]
  intro h
  rw [(hP.1 y hy).2] at h
  exact (s2 y (s5 y h)).2 rfl
theorem Q2_eq (hP : Prm p c) (hT : Top G p y) (hA : Acy G) (hy : y < 64) (hxy : hbt (G y) x = true) (hlt : p y < p x) : (rgl (p x - p y) (p y)).filter (fun q => hbt (bac G c p x y) (c q)) = Q2 G c p x y := by
  obtain ⟨-, -, -, s4, -, s6, -⟩ := sets_ok hP hT hA hy hxy hlt
  unfold Q2
  rw [rgl_app (p x - p y) 1 (p y), List.filter_append]
  have hx := hbt_lt hxy
  have e : (rgl 1 (p y + (p x - p y))).filter (fun q => hbt (bac G c p x y) (c q)) = [] := by
    rw [rgl, rgl, List.filter_cons, if_neg, List.filter_nil]
    intro h
    rw [show p y + (p x - p y) = p x by omega, (hP.1 x hx).2] at h
    exact (s4 x (s6 x h)).2 rfl
  rw [e, List.append_nil]
theorem step_ok (hP : Prm p c) (hT : Top G p y) (hA : Acy G) (hy : y < 64) (hxy : hbt (G y) x = true) (hlt : p y < p x) :
    (Ps G c p x y).length = (Mvs G c p x y).length ∧
    Prm (zu p (Mvs G c p x y) (Ps G c p x y)) (zu c (Ps G c p x y) (Mvs G c p x y)) ∧
    Top G (zu p (Mvs G c p x y) (Ps G c p x y)) y ∧
    zu p (Mvs G c p x y) (Ps G c p x y) x < zu p (Mvs G c p x y) (Ps G c p x y) y ∧
    (∀ v, v < 64 → p v < p y → zu p (Mvs G c p x y) (Ps G c p x y) v < zu p (Mvs G c p x y) (Ps G c p x y) y) ∧
    (Mvs G c p x y).Nodup ∧ (∀ v ∈ Mvs G c p x y, v < 64) ∧ (∀ q, q < 64 → (q ∈ Ps G c p x y ↔ c q ∈ Mvs G c p x y)) := by
  obtain ⟨s1, s2, s3, s4, s5, s6, s7⟩ := sets_ok hP hT hA hy hxy hlt
  have hx : x < 64 := hbt_lt hxy
  have px := hP.1 x hx
  have py := hP.1 y hy
  have hr : ∀ q, q ∈ rgl (p x - p y + 1) (p y) ↔ p y ≤ q ∧ q ≤ p x := by
    intro q
    rw [mem_rgl]
    omega
  have m1 : ∀ q, q ∈ Q1 G c p x y ↔ (p y ≤ q ∧ q ≤ p x) ∧ hbt (fro G c p x y) (c q) = true := by
    intro q; unfold Q1; rw [List.mem_filter, hr]
  have m2 : ∀ q, q ∈ Q2 G c p x y ↔ (p y ≤ q ∧ q ≤ p x) ∧ hbt (bac G c p x y) (c q) = true := by
    intro q; unfold Q2; rw [List.mem_filter, hr]
  have m3 : ∀ q, q ∈ Ps G c p x y ↔ (p y ≤ q ∧ q ≤ p x) ∧ (hbt (fro G c p x y) (c q) = true ∨ hbt (bac G c p x y) (c q) = true) := by
    intro q; unfold Ps; rw [List.mem_filter, hr, hbt_or, Bool.or_eq_true]
  have o1 : (Q1 G c p x y).Pairwise (· < ·) := (rgl_sorted _ _).filter _
  have o2 : (Q2 G c p x y).Pairwise (· < ·) := (rgl_sorted _ _).filter _
  have o3 : (Ps G c p x y).Pairwise (· < ·) := (rgl_sorted _ _).filter _
  have dj : ∀ v, hbt (fro G c p x y) v = true → hbt (bac G c p x y) v = true → False := fun v h1 h2 => s7 v (s5 v h1) (s6 v h2)
  have hlen : (Ps G c p x y).length = (Q1 G c p x y).length + (Q2 G c p x y).length := by
    unfold Ps Q1 Q2
    rw [← filt_or]
    · simp only [hbt_or]
    · intro q _ h1 h2
      exact dj _ h1 h2
  have hl2 : (Mvs G c p x y).length = (Q1 G c p x y).length + (Q2 G c p x y).length := by
    unfold Mvs
    rw [List.length_append, List.length_map, List.length_map]
  have cinj : ∀ q q', q < 64 → q' < 64 → c q = c q' → q = q' := by
    intro q q' h1 h2 e
    rw [← (hP.2 q h1).2, e, (hP.2 q' h2).2]
  have nd : (Mvs G c p x y).Nodup := by
    unfold Mvs
    rw [← List.map_append]
    refine nd_map _ ?_ ?_
    · intro a ha b hb e
      have h1 : a < 64 := by
        rcases List.mem_append.mp ha with h | h
        · have := (m1 a).mp h; omega
        · have := (m2 a).mp h; omega
      have h2 : b < 64 := by
        rcases List.mem_append.mp hb with h | h
        · have := (m1 b).mp h; omega
        · have := (m2 b).mp h; omega
      exact cinj a b h1 h2 e
    · refine List.nodup_append.mpr ⟨o1.imp (fun h => Nat.ne_of_lt h), o2.imp (fun h => Nat.ne_of_lt h), ?_⟩
      intro a ha b hb e
      subst e
      exact dj _ ((m1 a).mp ha).2 ((m2 a).mp hb).2
  have mm : ∀ v, v ∈ Mvs G c p x y ↔ ∃ q, q ∈ Ps G c p x y ∧ c q = v := by
    intro v
    unfold Mvs
    rw [List.mem_append, List.mem_map, List.mem_map]
    constructor
    · rintro (⟨q, h, e⟩ | ⟨q, h, e⟩)
      · exact ⟨q, (m3 q).mpr ⟨((m1 q).mp h).1, Or.inl ((m1 q).mp h).2⟩, e⟩
      · exact ⟨q, (m3 q).mpr ⟨((m2 q).mp h).1, Or.inr ((m2 q).mp h).2⟩, e⟩
    · rintro ⟨q, h, e⟩
      rcases ((m3 q).mp h).2 with g | g
      · exact Or.inl ⟨q, (m1 q).mpr ⟨((m3 q).mp h).1, g⟩, e⟩
      · exact Or.inr ⟨q, (m2 q).mpr ⟨((m3 q).mp h).1, g⟩, e⟩
  have mv : ∀ v, v < 64 → (v ∈ Mvs G c p x y ↔ p v ∈ Ps G c p x y) := by
    intro v hv
    rw [mm]
    constructor
    · rintro ⟨q, h, e⟩
      have hq : q < 64 := by have := (m3 q).mp h; omega
      rw [← e, (hP.2 q hq).2]
      exact h
    · intro h
      exact ⟨p v, h, (hP.1 v hv).2⟩
  have mlt : ∀ v ∈ Mvs G c p x y, v < 64 := by
    intro v hv
    obtain ⟨q, h, e⟩ := (mm v).mp hv
    have hq : q < 64 := by have := (m3 q).mp h; omega
    rw [← e]
    exact (hP.2 q hq).1
  have mps : ∀ q, q < 64 → (q ∈ Ps G c p x y ↔ c q ∈ Mvs G c p x y) := by
    intro q hq
    rw [mv _ (hP.2 q hq).1, (hP.2 q hq).2]
  have leq : (Ps G c p x y).length = (Mvs G c p x y).length := by omega
  have pF : ∀ v, v < 64 → p v ∈ Q1 G c p x y → ∃ k a : Nat, (Q1 G c p x y)[k]? = some (p v) ∧ (Ps G c p x y)[k]? = some a ∧ zu p (Mvs G c p x y) (Ps G c p x y) v = a ∧ a ≤ p v := by
    intro v hv h
    obtain ⟨k, hk, e⟩ := List.getElem_of_mem h
    have hk1 : (Q1 G c p x y)[k]? = some (p v) := by rw [List.getElem?_eq_getElem hk, e]
    obtain ⟨a, ha, hle⟩ := sub_le _ _ o3 o1 (fun q hq => (m3 q).mpr ⟨((m1 q).mp hq).1, Or.inl ((m1 q).mp hq).2⟩) k _ hk1
    refine ⟨k, a, hk1, ha, zu_get _ _ _ k v a nd ?_ ha, hle⟩
    unfold Mvs
    rw [List.getElem?_append_left (by rw [List.length_map]; exact hk), List.getElem?_map, hk1]
    show some (c (p v)) = some v
    rw [(hP.1 v hv).2]
  have pB : ∀ v, v < 64 → p v ∈ Q2 G c p x y → ∃ k a : Nat, (Q2 G c p x y)[k]? = some (p v) ∧ (Ps G c p x y)[(Q1 G c p x y).length + k]? = some a ∧ zu p (Mvs G c p x y) (Ps G c p x y) v = a ∧ p v ≤ a := by
    intro v hv h
    obtain ⟨k, hk, e⟩ := List.getElem_of_mem h
    have hk1 : (Q2 G c p x y)[k]? = some (p v) := by rw [List.getElem?_eq_getElem hk, e]
    obtain ⟨a, ha, hle⟩ := sub_ge _ _ (Q1 G c p x y).length o3 o2 (fun q hq => (m3 q).mpr ⟨((m2 q).mp hq).1, Or.inr ((m2 q).mp hq).2⟩) hlen k _ hk1
    refine ⟨k, a, hk1, ha, zu_get _ _ _ ((Q1 G c p x y).length + k) v a nd ?_ ha, hle⟩
    unfold Mvs
    rw [List.getElem?_append_right (by rw [List.length_map]; omega), List.length_map, Nat.add_sub_cancel_left, List.getElem?_map, hk1]
    show some (c (p v)) = some v
    rw [(hP.1 v hv).2]
  have pN : ∀ v, v < 64 → p v ∉ Q1 G c p x y → p v ∉ Q2 G c p x y → zu p (Mvs G c p x y) (Ps G c p x y) v = p v := by
    intro v hv h1 h2
    refine zu_not _ _ _ _ (fun w => ?_)
    have h := (m3 _).mp ((mv v hv).mp w)
    rcases h.2 with g | g
    · exact h1 ((m1 _).mpr ⟨h.1, g⟩)
    · exact h2 ((m2 _).mpr ⟨h.1, g⟩)
  have inPs : ∀ k a : Nat, (Ps G c p x y)[k]? = some a → p y ≤ a ∧ a ≤ p x := fun k a h => ((m3 a).mp (List.mem_of_getElem? h)).1
  have hxF : p x ∈ Q1 G c p x y := (m1 _).mpr ⟨by omega, by rw [px.2]; exact src_sup _ _ _ _ ((hbt_b1 hx).mpr rfl)⟩
  have hyB : p y ∈ Q2 G c p x y := (m2 _).mpr ⟨by omega, by rw [py.2]; exact use_sup _ _ _ _ ((hbt_b1 hy).mpr rfl)⟩
  have FB : ∀ u v, u < 64 → v < 64 → p u ∈ Q1 G c p x y → p v ∈ Q2 G c p x y → zu p (Mvs G c p x y) (Ps G c p x y) u < zu p (Mvs G c p x y) (Ps G c p x y) v := by
    intro u v hu hv h1 h2
    obtain ⟨k, a, k1, k2, k3, -⟩ := pF u hu h1
    obtain ⟨j, b, j1, j2, j3, -⟩ := pB v hv h2
    rw [k3, j3]
    have := (List.getElem?_eq_some_iff.mp k1).1
    exact pw_get o3 k2 j2 (by omega)
  refine ⟨leq, ⟨?_, ?_⟩, ?_, FB x y hx hy hxF hyB, ?_, nd, mlt, mps⟩
  · intro i hi
    by_cases z : i ∈ Mvs G c p x y
    · obtain ⟨k, hk, e⟩ := List.getElem_of_mem z
      have hk2 : k < (Ps G c p x y).length := by omega
      have g1 : (Mvs G c p x y)[k]? = some i := by rw [List.getElem?_eq_getElem hk, e]
      have g2 : (Ps G c p x y)[k]? = some (Ps G c p x y)[k] := List.getElem?_eq_getElem hk2
      rw [zu_get _ _ _ k i _ nd g1 g2]
      have := inPs _ _ g2
      refine ⟨by omega, zu_get _ _ _ k _ _ (o3.imp (fun h => Nat.ne_of_lt h)) g2 g1⟩
    · rw [zu_not _ _ _ _ z]
      refine ⟨(hP.1 i hi).1, ?_⟩
      rw [zu_not _ _ _ _ (fun w => z ((mv i hi).mpr w)), (hP.1 i hi).2]
  · intro q hq
    by_cases z : q ∈ Ps G c p x y
    · obtain ⟨k, hk, e⟩ := List.getElem_of_mem z
      have hk2 : k < (Mvs G c p x y).length := by omega
      have g1 : (Ps G c p x y)[k]? = some q := by rw [List.getElem?_eq_getElem hk, e]
      have g2 : (Mvs G c p x y)[k]? = some (Mvs G c p x y)[k] := List.getElem?_eq_getElem hk2
      rw [zu_get _ _ _ k q _ (o3.imp (fun h => Nat.ne_of_lt h)) g1 g2]
      exact ⟨mlt _ (List.getElem_mem hk2), zu_get _ _ _ k _ _ nd g2 g1⟩
    · rw [zu_not _ _ _ _ z]
      refine ⟨(hP.2 q hq).1, ?_⟩
      rw [zu_not _ _ _ _ (fun w => z ((mps q hq).mpr w)), (hP.2 q hq).2]
  · intro u hu hne w hw
    have hw64 := hbt_lt hw
    have hlt1 := hT u hu hne w hw
    by_cases uF : p u ∈ Q1 G c p x y
    · by_cases wF : p w ∈ Q1 G c p x y
      · obtain ⟨k, a, k1, k2, k3, -⟩ := pF w hw64 wF
        obtain ⟨j, b, j1, j2, j3, -⟩ := pF u hu uF
        rw [k3, j3]
        refine pw_get o3 k2 j2 ?_
        rcases Nat.lt_or_ge k j with z | z
        · exact z
        · rcases Nat.eq_or_lt_of_le z with z | z
          · subst z
            rw [k1] at j1
            have := Option.some.inj j1
            omega
          · have := pw_get o1 j1 k1 z
            omega
      · have hu1 := (m1 _).mp uF
        rw [(hP.1 u hu).2] at hu1
        have hO : hbt (Org G (bit1 x)) w = true := Org_cl (s5 u hu1.2) hw
        have hwlow : p w < p y := by
          rcases Nat.lt_trichotomy (p w) (p y) with z | z | z
          · exact z
          · exfalso
            have : w = y := by rw [← (hP.1 w hw64).2, z, py.2]
            exact (s2 w hO).2 this
          · exfalso
            apply wF
            refine (m1 _).mpr ⟨⟨by omega, (s2 w hO).1⟩, ?_⟩
            rw [(hP.1 w hw64).2]
            exact (s1 w hw64 z).mpr hO
        have wB : p w ∉ Q2 G c p x y := fun h => by have := (m2 _).mp h; omega
        rw [pN w hw64 wF wB]
        obtain ⟨j, b, j1, j2, j3, -⟩ := pF u hu uF
        rw [j3]
        have := inPs _ _ j2
        omega
    · by_cases uB : p u ∈ Q2 G c p x y
      · by_cases wF : p w ∈ Q1 G c p x y
        · exact FB w u hw64 hu wF uB
        · by_cases wB : p w ∈ Q2 G c p x y
          · obtain ⟨k, a, k1, k2, k3, -⟩ := pB w hw64 wB
            obtain ⟨j, b, j1, j2, j3, -⟩ := pB u hu uB
            rw [k3, j3]
            refine pw_get o3 k2 j2 ?_
            rcases Nat.lt_or_ge k j with z | z
            · omega
            · rcases Nat.eq_or_lt_of_le z with z | z
              · subst z
                rw [k1] at j1
                have := Option.some.inj j1
                omega
              · have := pw_get o2 j1 k1 z
                omega
          · rw [pN w hw64 wF wB]
            obtain ⟨j, b, j1, j2, j3, j4⟩ := pB u hu uB
            rw [j3]
            omega
      · rw [pN u hu uF uB]
        by_cases wF : p w ∈ Q1 G c p x y
        · obtain ⟨j, b, j1, j2, j3, j4⟩ := pF w hw64 wF
          rw [j3]
          omega
        · by_cases wB : p w ∈ Q2 G c p x y
          · obtain ⟨j, b, j1, j2, j3, j4⟩ := pB w hw64 wB
            rw [j3]
            have hb := inPs _ _ j2
            have hw1 := (m2 _).mp wB
            rw [(hP.1 w hw64).2] at hw1
            have hFu : hbt (Fol G y) u = true := Fol_cl hu (s6 w hw1.2) hw
            have h4 := s4 u hFu
            have : ¬ p u < p x := by
              intro z
              apply uB
              refine (m2 _).mpr ⟨⟨h4.1, by omega⟩, ?_⟩
              rw [(hP.1 u hu).2]
              exact (s3 u hu z).mpr hFu
            have : p u ≠ p x := by
              intro z
              apply h4.2
              rw [← (hP.1 u hu).2, z, px.2]
            omega
          · rw [pN w hw64 wF wB]
            exact hlt1
  · intro v hv hvl
    have vF : p v ∉ Q1 G c p x y := fun h => by have := (m1 _).mp h; omega
    have vB : p v ∉ Q2 G c p x y := fun h => by have := (m2 _).mp h; omega
    rw [pN v hv vF vB]
    obtain ⟨j, b, j1, j2, j3, j4⟩ := pB y hy hyB
    rw [j3]
    omega
end

/-! putBehind and putBefore, refer and arrange. -/
def tk1 (p : Nat → Nat) (S : Int64) (q : Nat) : Nat → Nat → List Nat
  | 0, _ => []
  | k + 1, c => if p c = q ∧ hbt S c = true then c :: tk1 p S q k (c + 1) else tk1 p S q k (c + 1)
def tk2 (p : Nat → Nat) (S : Int64) : Nat → Nat → List Nat
  | 0, _ => []
  | k + 1, q => tk1 p S q 64 0 ++ tk2 p S k (q + 1)
def fr1 (p : Nat → Nat) (q : Nat) : List Nat → List Nat
  | [] => []
  | m :: ms => if p m = q then q :: fr1 p q ms else fr1 p q ms
def fr2 (p : Nat → Nat) (mv : List Nat) : Nat → Nat → List Nat
  | 0, _ => []
  | k + 1, q => fr1 p q mv ++ fr2 p mv k (q + 1)
/-- putBefore: who moves, and the places after it -/
def mvR (G : Nat → Int64) (p : Nat → Nat) (x y : Nat) : List Nat := tk2 p (Org G (bit1 x)) (63 - p y) (p y + 1) ++ tk2 p (Fol G y) (p x) 0
def putR (G : Nat → Int64) (p : Nat → Nat) (x y : Nat) : Nat → Nat := zu p (mvR G p x y) (fr2 p (mvR G p x y) 64 0)
/-- putBehind: moving, cells, places after it -/
def gatC (G : Nat → Int64) (c p mo : Nat → Nat) (x y : Nat) : Nat → Nat :=
  (cGat c (bac G c p x y) (p x - p y) (p y) (cGat c (fro G c p x y) (p x - p y) (p y + 1) mo 0).1 (cGat c (fro G c p x y) (p x - p y) (p y + 1) mo 0).2).1
def putC (G : Nat → Int64) (c p mo : Nat → Nat) (x y : Nat) : (Nat → Nat) × (Nat → Nat) :=
  cAsg (fro G c p x y ||| bac G c p x y) (gatC G c p mo x y) (p x - p y + 1) (p y) c p 0
section
variable {G : Nat → Int64} {c p mo : Nat → Nat} {x y : Nat}
theorem tk1_ok (hP : Prm p c) {S : Int64} {q : Nat} (hq : q < 64) : ∀ (k c0 : Nat), c0 + k ≤ 64 → tk1 p S q k c0 = if c0 ≤ c q ∧ c q < c0 + k ∧ hbt S (c q) = true then [c q] else []
  | 0, c0, _ => by
    rw [tk1, if_neg]
    omega
  | k + 1, c0, h => by
    rw [tk1, tk1_ok hP hq k (c0 + 1) (by omega)]
    have hc := hP.2 q hq
    have iff : p c0 = q ↔ c0 = c q := by
      constructor
      · intro e; rw [← e, (hP.1 c0 (by omega)).2]
      · intro e; rw [e, hc.2]
    by_cases e : c0 = c q
    · have e2 : p c0 = q := iff.mpr e
      rw [if_neg (show ¬ (c0 + 1 ≤ c q ∧ c q < c0 + 1 + k ∧ hbt S (c q) = true) by omega)]
      by_cases z : hbt S c0 = true
      · rw [if_pos ⟨e2, z⟩, if_pos ⟨by omega, by omega, by rw [← e]; exact z⟩, e]
      · rw [if_neg (fun w => z w.2), if_neg (fun w => z (by rw [e]; exact w.2.2))]
    · rw [if_neg (fun w => e (iff.mp w.1))]
      by_cases z : c0 + 1 ≤ c q ∧ c q < c0 + 1 + k ∧ hbt S (c q) = true
      · rw [if_pos z, if_pos ⟨by omega, by omega, z.2.2⟩]
      · rw [if_neg z, if_neg (fun w => z ⟨by omega, by omega, w.2.2⟩)]
theorem tk2_ok (hP : Prm p c) {S : Int64} : ∀ (k q : Nat), q + k ≤ 64 → tk2 p S k q = ((rgl k q).filter (fun q => hbt S (c q))).map c
  | 0, _, _ => rfl
  | k + 1, q, h => by
    have hc := hP.2 q (by omega)
    rw [tk2, tk1_ok hP (by omega) 64 0 (Nat.le_refl _), tk2_ok hP k (q + 1) (by omega), rgl, List.filter_cons]
    by_cases z : hbt S (c q) = true
    · rw [if_pos ⟨Nat.zero_le _, by omega, z⟩, if_pos z]
      rfl
    · rw [if_neg (fun w => z w.2.2), if_neg z]
      rfl
theorem fr1_ok (hP : Prm p c) {q : Nat} (hq : q < 64) : ∀ (mv : List Nat), mv.Nodup → (∀ v ∈ mv, v < 64) → fr1 p q mv = if c q ∈ mv then [q] else []
  | [], _, _ => by rw [fr1, if_neg]; simp
  | m :: ms, hn, h => by
    obtain ⟨h1, h2⟩ := List.nodup_cons.mp hn
    rw [fr1, fr1_ok hP hq ms h2 (fun v hv => h v (List.mem_cons_of_mem _ hv))]
    have hm := h m List.mem_cons_self
    have iff : p m = q ↔ m = c q := by
      constructor
      · intro e; rw [← e, (hP.1 m hm).2]
      · intro e; rw [e, (hP.2 q hq).2]
    by_cases e : m = c q
    · rw [if_pos (iff.mpr e), if_neg (by rw [← e]; exact h1), if_pos (by rw [← e]; exact List.mem_cons_self)]
    · rw [if_neg (fun w => e (iff.mp w))]
      by_cases z : c q ∈ ms
      · rw [if_pos z, if_pos (List.mem_cons_of_mem _ z)]
      · rw [if_neg z, if_neg (fun w => (List.mem_cons.mp w).elim (fun w => e w.symm) z)]
theorem fr2_ok (hP : Prm p c) {mv : List Nat} (hn : mv.Nodup) (hm : ∀ v ∈ mv, v < 64) : ∀ (k q : Nat), q + k ≤ 64 → fr2 p mv k q = (rgl k q).filter (fun q => decide (c q ∈ mv))
  | 0, _, _ => rfl
  | k + 1, q, h => by
    rw [fr2, fr1_ok hP (by omega) mv hn hm, fr2_ok hP hn hm k (q + 1) (by omega), rgl, List.filter_cons]
    by_cases z : c q ∈ mv
    · rw [if_pos z, if_pos (by simpa using z)]
      rfl
    · rw [if_neg z, if_neg (by simpa using z)]
      rfl
theorem filt_none {P : Nat → Bool} (l : List Nat) (h : ∀ x ∈ l, P x = false) : l.filter P = [] := by
  apply List.filter_eq_nil_iff.mpr
  intro x hx w
  rw [h x hx] at w
  cases w
theorem mvR_eq (hP : Prm p c) (hT : Top G p y) (hA : Acy G) (hy : y < 64) (hxy : hbt (G y) x = true) (hlt : p y < p x) : mvR G p x y = Mvs G c p x y := by
  obtain ⟨s1, s2, s3, s4, s5, s6, s7⟩ := sets_ok hP hT hA hy hxy hlt
  have hx : x < 64 := hbt_lt hxy
  have px := hP.1 x hx
  unfold mvR Mvs
  rw [tk2_ok hP _ _ (by omega), tk2_ok hP _ _ (by omega), ← Q1_eq hP hT hA hy hxy hlt, ← Q2_eq hP hT hA hy hxy hlt]
  congr 2
  · rw [show 63 - p y = (p x - p y) + (63 - p x) by omega, rgl_app, List.filter_append, filt_none (rgl (63 - p x) (p y + 1 + (p x - p y)))]
    · rw [List.append_nil]
      apply List.filter_congr
      intro q hq
      have h := (mem_rgl _ _ _).mp hq
      have hc := hP.2 q (by omega)
      rw [Bool.eq_iff_iff]
      exact (s1 (c q) hc.1 (by omega)).symm
    · intro q hq
      have h := (mem_rgl _ _ _).mp hq
      have hc := hP.2 q (by omega)
      cases e : hbt (Org G (bit1 x)) (c q) with
      | false => rfl
      | true =>
        have := (s2 _ e).1
        omega
  · have hpx : rgl (p x) 0 = rgl (p y) 0 ++ rgl (p x - p y) (p y) := by
      have := rgl_app (p y) (p x - p y) 0
      rw [show p y + (p x - p y) = p x by omega, Nat.zero_add] at this
      exact this
    rw [hpx, List.filter_append, filt_none (rgl (p y) 0)]
    · rw [List.nil_append]
      apply List.filter_congr
      intro q hq
      have h := (mem_rgl _ _ _).mp hq
      have hc := hP.2 q (by omega)
      rw [Bool.eq_iff_iff]
      exact (s3 (c q) hc.1 (by omega)).symm
    · intro q hq
      have h := (mem_rgl _ _ _).mp hq
      have hc := hP.2 q (by omega)
      cases e : hbt (Fol G y) (c q) with
      | false => rfl
      | true =>
        have := (s4 _ e).1
        omega
theorem put_eq (hP : Prm p c) (hT : Top G p y) (hA : Acy G) (hy : y < 64) (hxy : hbt (G y) x = true) (hlt : p y < p x) :
    putR G p x y = zu p (Mvs G c p x y) (Ps G c p x y) ∧ putC G c p mo x y = (zu c (Ps G c p x y) (Mvs G c p x y), zu p (Mvs G c p x y) (Ps G c p x y)) ∧ (mvR G p x y).length ≤ 64 ∧ (fr2 p (mvR G p x y) 64 0).length = (mvR G p x y).length := by
  obtain ⟨t1, t2, t3, t4, t5, t6, t7, t8⟩ := step_ok hP hT hA hy hxy hlt
  have hx : x < 64 := hbt_lt hxy
  have px := hP.1 x hx
  have em := mvR_eq hP hT hA hy hxy hlt
  have ef : fr2 p (mvR G p x y) 64 0 = Ps G c p x y := by
    rw [em, fr2_ok hP t6 t7 64 0 (Nat.le_refl _)]
    have h64 : rgl 64 0 = rgl (p y) 0 ++ (rgl (p x - p y + 1) (p y) ++ rgl (63 - p x) (p x + 1)) := by
      have h1 := rgl_app (p y) ((p x - p y + 1) + (63 - p x)) 0
      have h2 := rgl_app (p x - p y + 1) (63 - p x) (p y)
      rw [show p y + ((p x - p y + 1) + (63 - p x)) = 64 by omega, Nat.zero_add, h2, show p y + (p x - p y + 1) = p x + 1 by omega] at h1
      exact h1
    have hin : ∀ q, q ∈ Ps G c p x y → p y ≤ q ∧ q ≤ p x := by
      intro q hq
      unfold Ps at hq
      have := (mem_rgl _ _ _).mp (List.mem_filter.mp hq).1
      omega
    rw [h64, List.filter_append, List.filter_append, filt_none (rgl (p y) 0), filt_none (rgl (63 - p x) (p x + 1)), List.append_nil, List.nil_append]
    · unfold Ps
      apply List.filter_congr
      intro q hq
      have h := (mem_rgl _ _ _).mp hq
      rw [Bool.eq_iff_iff, decide_eq_true_eq, ← t8 q (by omega)]
      unfold Ps
      rw [List.mem_filter]
      exact ⟨fun w => w.2, fun w => ⟨hq, w⟩⟩
    · intro q hq
      have h := (mem_rgl _ _ _).mp hq
      rw [decide_eq_false_iff_not, ← t8 q (by omega)]
      intro w
      have := hin q w
      omega
    · intro q hq
      have h := (mem_rgl _ _ _).mp hq
      rw [decide_eq_false_iff_not, ← t8 q (by omega)]
      intro w
      have := hin q w
      omega
  refine ⟨by unfold putR; rw [ef, em], ?_, ?_, by rw [ef, em]; exact t1⟩
  · unfold putC gatC
    rw [cGat_ok, cGat_ok]
    dsimp only
    rw [Q1_eq hP hT hA hy hxy hlt, Q2_eq hP hT hA hy hxy hlt]
    have hmo : ∀ (i a : Nat), (Mvs G c p x y)[i]? = some a → wl (wl mo 0 ((Q1 G c p x y).map c)) (0 + (Q1 G c p x y).length) ((Q2 G c p x y).map c) i = a := by
      intro i a h
      have e := wl_app ((Q1 G c p x y).map c) ((Q2 G c p x y).map c) mo 0
      rw [List.length_map] at e
      rw [← e]
      have := wl_get ((Q1 G c p x y).map c ++ (Q2 G c p x y).map c) mo 0 i a h
      rw [Nat.zero_add] at this
      exact this
    rw [cAsg_ok hmo _ _ _ _ _ (by
      show 0 + (Ps G c p x y).length ≤ _
      omega)]
    rfl
  · rw [em, ← t1]
    unfold Ps
    have h1 := List.length_filter_le (fun q => hbt (fro G c p x y ||| bac G c p x y) (c q)) (rgl (p x - p y + 1) (p y))
    have h2 : ∀ k q, (rgl k q).length = k := by
      intro k
      induction k with
      | zero => intro q; rfl
      | succ k ih => intro q; rw [rgl, List.length_cons, ih]
    rw [h2] at h1
    omega
end
/-- refer(): moving, cells, places -/
def cRef (G : Nat → Int64) (y : Nat) : Nat → Nat → (Nat → Nat) × (Nat → Nat) × (Nat → Nat) → (Nat → Nat) × (Nat → Nat) × (Nat → Nat)
  | 0, _, t => t
  | k + 1, s, t => cRef G y k (s + 1) (if hbt (G y) s = true ∧ t.2.2 y < t.2.2 s then (gatC G t.2.1 t.2.2 t.1 s y, (putC G t.2.1 t.2.2 t.1 s y).1, (putC G t.2.1 t.2.2 t.1 s y).2) else t)
/-- arrange(): places -/
def rArr (G : Nat → Int64) (y : Nat) : Nat → Nat → (Nat → Nat) → (Nat → Nat)
  | 0, _, p => p
  | k + 1, s, p => rArr G y k (s + 1) (if hbt (G y) s = true ∧ p y < p s then putR G p s y else p)
theorem arr_ok {G : Nat → Int64} {y : Nat} (hA : Acy G) (hy : y < 64) : ∀ (k s : Nat) (mo c p : Nat → Nat), s + k = 64 → Prm p c → Top G p y → (∀ v, v < s → hbt (G y) v = true → p v < p y) →
    (cRef G y k s (mo, c, p)).2.2 = rArr G y k s p ∧ Prm (rArr G y k s p) (cRef G y k s (mo, c, p)).2.1 ∧ (∀ u, u < 64 → ∀ w, hbt (G u) w = true → rArr G y k s p w < rArr G y k s p u) := by
  intro k
  induction k with
  | zero =>
    intro s mo c p hs hP hT hv
    refine ⟨rfl, hP, fun u hu w hw => ?_⟩
    by_cases e : u = y
    · subst e
      exact hv w (by have := hbt_lt hw; omega) hw
    · exact hT u hu e w hw
  | succ k ih =>
    intro s mo c p hs hP hT hv
    rw [cRef, rArr]
    dsimp only
    by_cases z : hbt (G y) s = true ∧ p y < p s
    · rw [if_pos z, if_pos z]
      obtain ⟨t1, t2, t3, t4, t5, t6, t7, t8⟩ := step_ok hP hT hA hy z.1 z.2
      obtain ⟨e1, e2, -⟩ := put_eq (mo := mo) hP hT hA hy z.1 z.2
      rw [e1, e2]
      refine ih (s + 1) _ _ _ (by omega) t2 t3 (fun v hvs hv2 => ?_)
      rcases Nat.lt_or_ge v s with g | g
      · exact t5 v (hbt_lt hv2) (hv v g hv2)
      · have e : v = s := by omega
        subst e
        exact t4
    · rw [if_neg z, if_neg z]
      refine ih (s + 1) _ _ _ (by omega) hP hT (fun v hvs hv2 => ?_)
      rcases Nat.lt_or_ge v s with g | g
      · exact hv v g hv2
      · have e : v = s := by omega
        subst e
        have hvy : v ≠ y := by
          intro e
          subst e
          obtain ⟨rk, hrk⟩ := hA
          have := hrk v v hy hv2
          omega
        have hpne : p v ≠ p y := by
          intro e
          apply hvy
          rw [← (hP.1 v (hbt_lt hv2)).2, e, (hP.1 y hy).2]
        have : ¬ p y < p v := fun w => z ⟨hv2, w⟩
        omega

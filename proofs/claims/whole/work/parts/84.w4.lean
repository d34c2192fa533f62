section
variable {th cg wk mv lg at_ en sa fi be : Int32} {se : Int64} {op va : Int32} {tx sz kd : Nat → Int32} {nb rs : Nat → Int64} {pc_ cd du mr fr lc ls_ lt oo pt me : Nat → Int32} {su : Nat → Int64} {vk : Nat → Int32} {vv : Nat → Int64} {A T : xH} {G : xG}
theorem isC_any {o' : Nat → Int64} {W : xH} {o : Option Nat} (h : isC (hM th cg wk mv lg at_ en sa fi be se op va tx sz kd nb rs pc_ cd du mr fr lc ls_ lt oo pt me su vk vv ++ (oC o' :: W)) o) : ∀ X : xH, X.length = 21 → isC (X ++ W) o := by
  intro X hX k hk
  obtain ⟨g1, vs, g2⟩ := h k hk
  have h21 : 21 ≤ k - 27 := by
    rcases Nat.lt_or_ge (k - 27) 21 with z | z
    · exfalso
      generalize k - 27 = j at g2 z
      match j, z with
      | 0, _ => exact absurd (congrArg (fun x => match x with | some (.inr (7, _)) => 1 | _ => 0) g2) (by decide : ¬ (1 : Nat) = 0)
      | 1, _ => cases g2
      | 2, _ => cases g2
      | 3, _ => cases g2
      | 4, _ => cases g2
      | 5, _ => cases g2
      | 6, _ => cases g2
      | 7, _ => cases g2
      | 8, _ => cases g2
      | 9, _ => cases g2
      | 10, _ => cases g2
      | 11, _ => cases g2
      | 12, _ => cases g2
      | 13, _ => cases g2
      | 14, _ => cases g2
      | 15, _ => cases g2
      | 16, _ => cases g2
      | 17, _ => cases g2
      | 18, _ => cases g2
      | 19, _ => cases g2
      | 20, _ => cases g2
      | t + 21, z => exact absurd z (by omega)
    · exact z
  refine ⟨g1, vs, ?_⟩
  have e : (hM th cg wk mv lg at_ en sa fi be se op va tx sz kd nb rs pc_ cd du mr fr lc ls_ lt oo pt me su vk vv ++ (oC o' :: W)) = (hM th cg wk mv lg at_ en sa fi be se op va tx sz kd nb rs pc_ cd du mr fr lc ls_ lt oo pt me su vk vv ++ [oC o']) ++ W := by
    rw [List.append_assoc]
    rfl
  rw [e, List.getElem?_append_right (by show 21 ≤ _; exact h21)] at g2
  rw [List.getElem?_append_right (by omega), hX]
  exact g2
end
theorem chg_len {V : Nat → (Nat → Int32) → (Nat → Int64) → VL} {G : Nat → Int64} {c : Nat → Nat} {y : Nat} : ∀ (k q : Nat) (t : CG), (chg V G c y k q t).2.2.2.1.length ≤ t.2.2.2.1.length + k ∧ (chg V G c y k q t).2.2.2.2 ≤ t.2.2.2.2 + k
  | 0, _, _ => ⟨Nat.le_refl _, Nat.le_refl _⟩
  | k + 1, q, t => by
    rw [chg]
    have ih := chg_len (V := V) (G := G) (c := c) (y := y) k (q + 1) (if c q = y ∨ G (c q) &&& t.2.2.1 ≠ 0 then cst V (c q) t else t)
    have h : (if c q = y ∨ G (c q) &&& t.2.2.1 ≠ 0 then cst V (c q) t else t).2.2.2.1.length ≤ t.2.2.2.1.length + 1 ∧ (if c q = y ∨ G (c q) &&& t.2.2.1 ≠ 0 then cst V (c q) t else t).2.2.2.2 ≤ t.2.2.2.2 + 1 := by
      split
      · unfold cst
        split
        · exact ⟨Nat.le_succ _, Nat.le_refl _⟩
        · refine ⟨?_, Nat.le_refl _⟩
          show (t.2.2.2.1 ++ [c q]).length ≤ _
          rw [List.length_append]
          exact Nat.le_refl _
      · exact ⟨Nat.le_succ _, Nat.le_succ _⟩
    omega
theorem CoR_none {T : xH} {co : Nat → Option Nat} {F : Nat → Nat → Int32} {nn : Nat → Nat} {y : Nat} (h : CoR T co F nn) : CoR T (va_up co y none) F (upN nn y 0) := by
  intro x hx
  unfold va_up upN
  by_cases e : x = y
  · rw [if_pos e, if_pos e]
    exact Or.inl ⟨rfl, rfl⟩
  · rw [if_neg e, if_neg e]
    exact h x hx
theorem CoR_some {T : xH} {co : Nat → Option Nat} {F : Nat → Nat → Int32} {nn : Nat → Nat} {y k n : Nat} {f : Nat → Int32} {R : Int64} (h : CoR T co F nn) (hc9 : Cnt T k f n R) (h0 : 0 < n) (h4 : n ≤ 40) (ht : Txt f n R) (hn : ∀ i, i < n → narrow .char (.int (f i)) = .int (f i)) : CoR T (va_up co y (some k)) (fun x => if x = y then f else F x) (upN nn y n) := by
  intro x hx
  unfold va_up upN
  by_cases e : x = y
  · rw [if_pos e, if_pos e]
    dsimp only
    rw [if_pos e]
    exact Or.inr ⟨k, R, rfl, hc9, h0, h4, ht, hn⟩
  · rw [if_neg e, if_neg e]
    dsimp only
    rw [if_neg e]
    exact h x hx
-- one more in the log
def leAdd (L : List LE) (e : LE) : List LE := (if L.length = 20 then L.tail else L) ++ [e]
theorem leAdd_lg {L : List LE} {e : LE} : (leAdd L e).map (fun e => (e.1, e.2.1)) = lgAdd (L.map (fun e => (e.1, e.2.1))) (e.1, e.2.1) := by
  unfold leAdd lgAdd
  rw [List.map_append, List.length_map]
  split
  · rw [List.map_tail]
    rfl
  · rfl
theorem leAdd_lm {L : List LE} {e : LE} : (leAdd L e).map (fun e => (e.1, e.2.2.1, e.2.2.2.1)) = lmAdd (L.map (fun e => (e.1, e.2.2.1, e.2.2.2.1))) (e.1, e.2.2.1, e.2.2.2.1) := by
  unfold leAdd lmAdd
  rw [List.map_append, List.length_map]
  split
  · rw [List.map_tail]
    rfl
  · rfl
theorem leAdd_len {L : List LE} {e : LE} (h : L.length ≤ 20) : (leAdd L e).length ≤ 20 := by
  unfold leAdd
  rw [List.length_append]
  split
  · rw [List.length_tail]
    show _ + 1 ≤ 20
    omega
  · show _ + 1 ≤ 20
    omega
theorem leAdd_mem {L : List LE} {e x : LE} (h : x ∈ leAdd L e) : x ∈ L ∨ x = e := by
  unfold leAdd at h
  rcases List.mem_append.mp h with h | h
  · split at h
    · exact Or.inl (List.mem_of_mem_tail h)
    · exact Or.inl h
  · exact Or.inr (List.mem_singleton.mp h)
theorem leAdd_ch {rf : Nat → Int64} {L : List LE} {y : Nat} {o : Option Nat} {n : Nat} {g : Nat → Int32} {R : Int64} (h : ChOk rf (L.reverse.map (fun e => (e.1, e.2.2.2.2)))) (hA : Acy (vp_updL rf y R)) : ChOk (vp_updL rf y R) ((leAdd L (y, o, n, g, rf y)).reverse.map (fun e => (e.1, e.2.2.2.2))) := by
  unfold leAdd
  rw [List.reverse_append, List.map_append]
  show ChOk (vp_updL rf y R) ((y, rf y) :: _)
  refine ChOk_push ?_ hA
  split
  · cases L with
    | nil => exact h
    | cons a L =>
      rw [List.reverse_cons, List.map_append] at h
      exact ChOk_init h
  · exact h
theorem cst_cv2 {V : Nat → (Nat → Int32) → (Nat → Int64) → VL} {x : Nat} {t : CG} (hW : ((V x t.1 t.2.1).1 = 0 ∨ (V x t.1 t.2.1).1 = 1 ∨ (V x t.1 t.2.1).1 = 2 ∨ (V x t.1 t.2.1).1 = 3) ∧ ((V x t.1 t.2.1).1 ≠ 1 → (V x t.1 t.2.1).2 = 0)) (h : CV t.1 t.2.1) : CV (cst V x t).1 (cst V x t).2.1 := by
  have key : CV (upd t.1 x (V x t.1 t.2.1).1) (vp_updL t.2.1 x (V x t.1 t.2.1).2) := by
    intro c hc
    unfold upd vp_updL
    by_cases e : c = x
    · rw [if_pos e, if_pos e]
      exact hW
    · rw [if_neg e, if_neg e]
      exact h c hc
  unfold cst
  split
  · exact key
  · exact key
theorem chg_cv2 {V : Nat → (Nat → Int32) → (Nat → Int64) → VL} {G : Nat → Int64} {c : Nat → Nat} {y : Nat} (hW : ∀ x, x < 64 → ∀ ki nu, CV ki nu → ((V x ki nu).1 = 0 ∨ (V x ki nu).1 = 1 ∨ (V x ki nu).1 = 2 ∨ (V x ki nu).1 = 3) ∧ ((V x ki nu).1 ≠ 1 → (V x ki nu).2 = 0)) (hc : ∀ q, q < 64 → c q < 64) : ∀ (k q : Nat) (t : CG), q + k ≤ 64 → CV t.1 t.2.1 → CV (chg V G c y k q t).1 (chg V G c y k q t).2.1
  | 0, _, _, _, h => h
  | k + 1, q, t, hk, h => by
    rw [chg]
    refine chg_cv2 hW hc k (q + 1) _ (by omega) ?_
    split
    · exact cst_cv2 (hW (c q) (hc q (by omega)) _ _ h) h
    · exact h

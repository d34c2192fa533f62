/-! Lists of cells that move. -/
def zu (f : Nat → Nat) : List Nat → List Nat → (Nat → Nat)
  | k :: ks, v :: vs => zu (upN f k v) ks vs
  | _, _ => f
/-- a list written down from a place on -/
def wl (f : Nat → Nat) : Nat → List Nat → (Nat → Nat)
  | _, [] => f
  | m, x :: xs => wl (upN f m x) (m + 1) xs
theorem upN_same (f : Nat → Nat) (i v : Nat) : upN f i v i = v := if_pos rfl
theorem upN_ne {f : Nat → Nat} {i v j : Nat} (h : j ≠ i) : upN f i v j = f j := if_neg h
theorem wl_lt : ∀ (xs : List Nat) (f : Nat → Nat) (m j : Nat), j < m → wl f m xs j = f j
  | [], _, _, _, _ => rfl
  | x :: xs, f, m, j, h => by
    rw [wl, wl_lt xs _ _ _ (by omega), upN_ne (by omega)]
theorem wl_get : ∀ (xs : List Nat) (f : Nat → Nat) (m i : Nat) (a : Nat), xs[i]? = some a → wl f m xs (m + i) = a
  | [], _, _, _, _, h => by simp at h
  | x :: xs, f, m, 0, a, h => by
    have : x = a := by simpa using h
    rw [wl, wl_lt xs _ _ _ (by omega), Nat.add_zero, upN_same, this]
  | x :: xs, f, m, i + 1, a, h => by
    rw [wl, show m + (i + 1) = m + 1 + i by omega]
    exact wl_get xs _ _ i a (by simpa using h)
theorem wl_app : ∀ (xs ys : List Nat) (f : Nat → Nat) (m : Nat), wl f m (xs ++ ys) = wl (wl f m xs) (m + xs.length) ys
  | [], _, _, _ => rfl
  | x :: xs, ys, f, m => by
    rw [List.cons_append, wl, wl, wl_app xs ys, List.length_cons, show m + 1 + xs.length = m + (xs.length + 1) by omega]
theorem zu_not : ∀ (ks vs : List Nat) (f : Nat → Nat) (x : Nat), x ∉ ks → zu f ks vs x = f x
  | [], _, _, _, _ => by rw [zu]; intro _ _ _ _ h; cases h
  | k :: ks, [], _, _, _ => by rw [zu]; intro _ _ _ _ _ h; cases h
  | k :: ks, v :: vs, f, x, h => by
    rw [zu, zu_not ks vs _ x (fun w => h (List.mem_cons_of_mem _ w)), upN_ne (fun e => h (by rw [e]; exact List.mem_cons_self))]
theorem zu_get : ∀ (ks vs : List Nat) (f : Nat → Nat) (i k v : Nat), ks.Nodup → ks[i]? = some k → vs[i]? = some v → zu f ks vs k = v
  | [], _, _, _, _, _, _, h, _ => by simp at h
  | k0 :: ks, [], _, _, _, _, _, _, h => by simp at h
  | k0 :: ks, v0 :: vs, f, 0, k, v, hn, h1, h2 => by
    have e1 : k0 = k := by simpa using h1
    have e2 : v0 = v := by simpa using h2
    subst e1
    subst e2
    rw [zu, zu_not ks vs _ _ (List.nodup_cons.mp hn).1, upN_same]
  | k0 :: ks, v0 :: vs, f, i + 1, k, v, hn, h1, h2 => by
    rw [zu]
    exact zu_get ks vs _ i k v (List.nodup_cons.mp hn).2 (by simpa using h1) (by simpa using h2)
/-- sorted lists, one in the other -/
theorem sub_le : ∀ (P Q : List Nat), P.Pairwise (· < ·) → Q.Pairwise (· < ·) → (∀ x ∈ Q, x ∈ P) → ∀ (k b : Nat), Q[k]? = some b → ∃ a, P[k]? = some a ∧ a ≤ b
  | [], Q, _, _, h => by
    intro k b hb
    have := h b (List.mem_of_getElem? hb)
    cases this
  | a :: P, [], _, _, _ => by
    intro k b hb
    simp at hb
  | a :: P, b0 :: Q, hP, hQ, h => by
    have hP' := List.pairwise_cons.mp hP
    have hQ' := List.pairwise_cons.mp hQ
    have hsub : ∀ x ∈ Q, x ∈ P := by
      intro x hx
      rcases List.mem_cons.mp (h x (List.mem_cons_of_mem _ hx)) with e | e
      · exfalso
        have h1 := hQ'.1 x hx
        rcases List.mem_cons.mp (h b0 List.mem_cons_self) with e2 | e2
        · omega
        · have := hP'.1 b0 e2
          omega
      · exact e
    intro k b hb
    match k, hb with
    | 0, hb =>
      have e : b0 = b := by simpa using hb
      subst e
      refine ⟨a, by simp, ?_⟩
      rcases List.mem_cons.mp (h b0 List.mem_cons_self) with e | e
      · omega
      · have := hP'.1 b0 e
        omega
    | k + 1, hb =>
      obtain ⟨a', h1, h2⟩ := sub_le P Q hP'.2 hQ'.2 hsub k b (by simpa using hb)
      exact ⟨a', by simpa using h1, h2⟩
theorem sub_len {P Q : List Nat} (hP : P.Pairwise (· < ·)) (hQ : Q.Pairwise (· < ·)) (h : ∀ x ∈ Q, x ∈ P) : Q.length ≤ P.length := by
  cases e : Q.length with
  | zero => omega
  | succ k =>
    have hk : k < Q.length := by omega
    obtain ⟨a, ha, -⟩ := sub_le P Q hP hQ h k Q[k] (List.getElem?_eq_getElem hk)
    have := (List.getElem?_eq_some_iff.mp ha).1
    omega
theorem sub_ge : ∀ (P Q : List Nat) (m : Nat), P.Pairwise (· < ·) → Q.Pairwise (· < ·) → (∀ x ∈ Q, x ∈ P) → P.length = m + Q.length → ∀ (k b : Nat), Q[k]? = some b → ∃ a, P[m + k]? = some a ∧ b ≤ a
  | [], Q, m, _, _, h, _ => by
    intro k b hb
    have := h b (List.mem_of_getElem? hb)
    cases this
  | a :: P, [], m, _, _, _, _ => by
    intro k b hb
    simp at hb
  | a :: P, b0 :: Q, m, hP, hQ, h, hl => by
    have hP' := List.pairwise_cons.mp hP
    have hQ' := List.pairwise_cons.mp hQ
    have hsub : ∀ x ∈ Q, x ∈ P := by
      intro x hx
      rcases List.mem_cons.mp (h x (List.mem_cons_of_mem _ hx)) with e | e
      · exfalso
        have h1 := hQ'.1 x hx
        rcases List.mem_cons.mp (h b0 List.mem_cons_self) with e2 | e2
        · omega
        · have := hP'.1 b0 e2
          omega
      · exact e
    intro k b hb
    rw [List.length_cons, List.length_cons] at hl
    rcases List.mem_cons.mp (h b0 List.mem_cons_self) with e | e
    · match k, hb with
      | 0, hb =>
        have e2 : b0 = b := by simpa using hb
        subst e2
        have hm : m < (a :: P).length := by rw [List.length_cons]; omega
        refine ⟨(a :: P)[m], List.getElem?_eq_getElem hm, ?_⟩
        rcases List.mem_cons.mp (List.getElem_mem hm) with e3 | e3
        · omega
        · have := hP'.1 _ e3
          omega
      | k + 1, hb =>
        obtain ⟨a', h1, h2⟩ := sub_ge P Q m hP'.2 hQ'.2 hsub (by omega) k b (by simpa using hb)
        exact ⟨a', by rw [show m + (k + 1) = m + k + 1 by omega]; simpa using h1, h2⟩
    · have hsub2 : ∀ x ∈ b0 :: Q, x ∈ P := by
        intro x hx
        rcases List.mem_cons.mp hx with e2 | e2
        · rw [e2]; exact e
        · exact hsub x e2
      have hlen := sub_len hP'.2 hQ hsub2
      rw [List.length_cons] at hlen
      obtain ⟨m', rfl⟩ : ∃ m', m = m' + 1 := ⟨m - 1, by omega⟩
      obtain ⟨a', h1, h2⟩ := sub_ge P (b0 :: Q) m' hP'.2 hQ hsub2 (by rw [List.length_cons]; omega) k b hb
      exact ⟨a', by rw [show m' + 1 + k = m' + k + 1 by omega]; simpa using h1, h2⟩

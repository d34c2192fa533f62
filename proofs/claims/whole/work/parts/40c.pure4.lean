theorem isD_t {x : Int32} (h : isD x) : ∃ t : Nat, t < 10 ∧ (x - 48).toInt64 = Int64.ofNat t ∧ x.toInt64 - 48 = Int64.ofNat t := by
  have h1 : 48 ≤ x.toInt := by simpa using Int32.le_iff_toInt_le.mp h.1
  have h2 : x.toInt ≤ 57 := by simpa using Int32.le_iff_toInt_le.mp h.2
  have e : ∀ t : Nat, t < 10 → (Int32.ofInt (48 + (t : Int)) - 48).toInt64 = Int64.ofNat t ∧ (Int32.ofInt (48 + (t : Int))).toInt64 - 48 = Int64.ofNat t := by decide
  have hx : x = Int32.ofInt (48 + ((x.toInt - 48).toNat : Int)) := by
    rw [show (48 : Int) + ((x.toInt - 48).toNat : Int) = x.toInt by omega, Int32.ofInt_toInt]
  have ht : (x.toInt - 48).toNat < 10 := by omega
  generalize (x.toInt - 48).toNat = t at hx ht
  subst hx
  exact ⟨t, ht, e t ht⟩
theorem dg_step {q : Nat} {x : Int32} (hq : q < 1000000000) (h : isD x) : ∃ q' : Nat, q' < 10 * q + 10 ∧ 10 * Int64.ofNat q + (x - 48).toInt64 = Int64.ofNat q' ∧ (if Int64.ofNat q < 10000000000 then 10 * Int64.ofNat q + x.toInt64 - 48 else Int64.ofNat q) = Int64.ofNat q' := by
  obtain ⟨t, ht, e1, e2⟩ := isD_t h
  have e3 : 10 * Int64.ofNat q + Int64.ofNat t = Int64.ofNat (10 * q + t) := by
    rw [Int64.ofNat_add, Int64.ofNat_mul]
    rfl
  refine ⟨10 * q + t, by omega, by rw [e1, e3], ?_⟩
  rw [if_pos]
  · rw [Int64.sub_eq_add_neg, Int64.add_assoc, ← Int64.sub_eq_add_neg, e2, e3]
  · rw [Int64.lt_iff_toInt_lt, Int64.toInt_ofNat_of_lt (by omega)]
    show (q : Int) < 10000000000
    omega
section
variable {f : Nat → Int32} {n : Nat} {ki : Nat → Int32} {nu : Nat → Int64}
theorem rDg_mDg : ∀ (k : Nat) (q : Nat) (c : Nat) (s : RS) (K : Nat), c + k ≤ 9 → q < 10 ^ c → s.1 ≤ n → n - s.1 ≤ K →
    ∃ q' j, rDg f n k (Int64.ofNat q) c s = (Int64.ofNat q', c + j, rAd s j) ∧ j ≤ k ∧ s.1 + j ≤ n ∧ mDg f n K (Int64.ofNat q) s.1 = mDg f n (K - j) (Int64.ofNat q') (s.1 + j) ∧ (j < k → ¬ isD (rPk f n (rAd s j) 0)) := by
  intro k
  induction k with
  | zero =>
    intro q c s K hc hq hs hK
    exact ⟨q, 0, rfl, Nat.le_refl _, hs, rfl, fun w => absurd w (Nat.lt_irrefl _)⟩
  | succ k ih =>
    intro q c s K hc hq hs hK
    rw [rDg]
    by_cases z : isD (rPk f n s 0)
    · rw [if_pos z]
      have hlt : s.1 + 0 < n := ahd_ne (j := 0) rfl (isD_ne z)
      have hq9 : q < 1000000000 := by
        have : (10 : Nat) ^ c ≤ 10 ^ 8 := Nat.pow_le_pow_right (by omega) (by omega)
        omega
      obtain ⟨q1, h1, h2, h3⟩ := dg_step hq9 z
      obtain ⟨K', rfl⟩ : ∃ K', K = K' + 1 := ⟨K - 1, by omega⟩
      obtain ⟨q', j, g1, g2, g3, g4, g5⟩ := ih q1 (c + 1) (rAd s 1) K' (by omega) (by rw [Nat.pow_succ]; omega) (show s.1 + 1 ≤ n by omega) (show n - (s.1 + 1) ≤ K' by omega)
      refine ⟨q', j + 1, ?_, by omega, ?_, ?_, ?_⟩
      · rw [h2, g1]
        refine Prod.ext rfl (Prod.ext ?_ (Prod.ext ?_ rfl))
        · show c + 1 + j = c + (j + 1); omega
        · show s.1 + 1 + j = s.1 + (j + 1); omega
      · have : s.1 + 1 + j ≤ n := g3
        omega
      · rw [mDg, if_pos (show isD (ahd f s.1 n 0) from z)]
        rw [show ahd f s.1 n 0 = rPk f n s 0 from rfl, h3]
        have e1 : s.1 + 1 + j = s.1 + (j + 1) := by omega
        have e2 : K' - j = K' + 1 - (j + 1) := by omega
        have : mDg f n K' (Int64.ofNat q1) (s.1 + 1) = mDg f n (K' - j) (Int64.ofNat q') (s.1 + 1 + j) := g4
        rw [this, e1, e2]
      · intro w
        have := g5 (by omega)
        rw [show rAd s (j + 1) = rAd (rAd s 1) j from Prod.ext (by show s.1 + (j + 1) = s.1 + 1 + j; omega) rfl]
        exact this
    · rw [if_neg z]
      exact ⟨q, 0, rfl, by omega, hs, rfl, fun _ => z⟩
/-- digits(): both sides -/
theorem digits_ok {s : RS} (hs : s.1 ≤ n) (hw : s.2.1 = 0) :
    ((rDigits f n s).2.2.1 = 1 ∧ ¬ (s.1 < (mDg f n (n - s.1) 0 s.1).2 ∧ (mDg f n (n - s.1) 0 s.1).2 ≤ s.1 + 9)) ∨
    ((rDigits f n s).2.2.1 = 0 ∧ (rDigits f n s).2.2.2.2.1 = 0 ∧ s.1 < (rDigits f n s).2.1 ∧ (rDigits f n s).2.1 ≤ n ∧ (rDigits f n s).2.2.2.1 = s.2.2.1 ∧ (rDigits f n s).2.2.2.2.2 = s.2.2.2.2 ∧ (s.1 < (mDg f n (n - s.1) 0 s.1).2 ∧ (mDg f n (n - s.1) 0 s.1).2 ≤ s.1 + 9) ∧ mDg f n (n - s.1) 0 s.1 = ((rDigits f n s).1, (rDigits f n s).2.1)) := by
  obtain ⟨q, j, h1, h2, h3, h4, h5⟩ := rDg_mDg (f := f) (n := n) 9 0 0 s (n - s.1) (by omega) (by decide) hs (Nat.le_refl _)
  have h1' : rDg f n 9 0 0 s = (Int64.ofNat q, 0 + j, rAd s j) := h1
  have h4' : mDg f n (n - s.1) 0 s.1 = mDg f n (n - s.1 - j) (Int64.ofNat q) (s.1 + j) := h4
  unfold rDigits
  rw [h1', h4']
  by_cases z2 : isD (rPk f n (rAd s j) 0)
  · rw [if_pos (Or.inr z2)]
    refine Or.inl ⟨rfl, ?_⟩
    have hj : j = 9 := by
      rcases Nat.lt_or_ge j 9 with w | w
      · exact absurd z2 (h5 w)
      · omega
    have hlt : s.1 + j + 0 < n := ahd_ne (f := f) (a := s.1 + j) (j := 0) rfl (isD_ne z2)
    obtain ⟨K, hK⟩ : ∃ K, n - s.1 - j = K + 1 := ⟨n - s.1 - j - 1, by omega⟩
    rw [hK, mDg, if_pos (show isD (ahd f (s.1 + j) n 0) from z2)]
    intro w
    have := mDg_lt (f := f) (n := n) K (if Int64.ofNat q < 10000000000 then 10 * Int64.ofNat q + (ahd f (s.1 + j) n 0).toInt64 - 48 else Int64.ofNat q) (s.1 + j + 1)
    omega
  · have e : mDg f n (n - s.1 - j) (Int64.ofNat q) (s.1 + j) = (Int64.ofNat q, s.1 + j) := by
      cases n - s.1 - j with
      | zero => rfl
      | succ K =>
        rw [mDg, if_neg (show ¬ isD (ahd f (s.1 + j) n 0) from z2)]
    rw [e]
    by_cases z : j = 0
    · rw [if_pos (Or.inl (show 0 + j = 0 by omega))]
      refine Or.inl ⟨rfl, ?_⟩
      show ¬ (s.1 < s.1 + j ∧ _)
      omega
    · rw [if_neg (fun w => w.elim (fun w => z (by have : 0 + j = 0 := w; omega)) z2)]
      refine Or.inr ⟨hw, rfl, ?_, h3, rfl, rfl, ⟨?_, ?_⟩, rfl⟩
      · show s.1 < s.1 + j; omega
      · show s.1 < s.1 + j; omega
      · show s.1 + j ≤ s.1 + 9; omega
end

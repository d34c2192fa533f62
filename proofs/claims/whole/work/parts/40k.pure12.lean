/-! Sets of cells as bits. -/
def hbt (x : Int64) (c : Nat) : Bool := x.toBitVec.getLsbD c
theorem hbt_or (x y : Int64) (c : Nat) : hbt (x ||| y) c = (hbt x c || hbt y c) := by
  unfold hbt
  rw [Int64.toBitVec_or, BitVec.getLsbD_or]
theorem hbt_and (x y : Int64) (c : Nat) : hbt (x &&& y) c = (hbt x c && hbt y c) := by
  unfold hbt
  rw [Int64.toBitVec_and, BitVec.getLsbD_and]
theorem hbt_0 (c : Nat) : hbt 0 c = false := by
  unfold hbt
  simp
theorem hbt_hi (x : Int64) {c : Nat} (h : 64 ≤ c) : hbt x c = false := BitVec.getLsbD_of_ge _ _ h
theorem bit1_bv : ∀ c, c < 64 → (bit1 c).toBitVec = BitVec.twoPow 64 c := by decide +kernel
theorem hbt_bit {c d : Nat} (hd : d < 64) : hbt (bit1 d) c = decide (c = d) := by
  unfold hbt
  rw [bit1_bv d hd, BitVec.getLsbD_twoPow]
  by_cases h : c = d
  · subst h; simp [hd]
  · have h2 : ¬ d = c := fun w => h w.symm
    simp [h, h2]
theorem hbt_ext {x y : Int64} (h : ∀ c, c < 64 → hbt x c = hbt y c) : x = y := by
  apply Int64.toBitVec_inj.mp
  apply BitVec.eq_of_getLsbD_eq
  intro i hi
  exact h i hi
theorem hbt_ne {x : Int64} : x ≠ 0 ↔ ∃ c, c < 64 ∧ hbt x c = true := by
  constructor
  · intro h
    apply Classical.byContradiction
    intro w
    apply h
    apply hbt_ext
    intro c hc
    rw [hbt_0]
    cases e : hbt x c with
    | false => rfl
    | true => exact absurd ⟨c, hc, e⟩ w
  · rintro ⟨c, hc, e⟩ h
    subst h
    rw [hbt_0] at e
    cases e
/-- as the class asks -/
theorem has_bit {x : Int64} {c : Nat} (hc : c < 64) : (x &&& bit1 c ≠ 0) ↔ hbt x c = true := by
  rw [hbt_ne]
  constructor
  · rintro ⟨d, hd, e⟩
    rw [hbt_and, hbt_bit hc, Bool.and_eq_true, decide_eq_true_eq] at e
    rw [← e.2]
    exact e.1
  · intro e
    exact ⟨c, hc, by rw [hbt_and, hbt_bit hc, e]; simp⟩
theorem sh_n : ∀ c, c < 64 → ((Int64.ofNat c).toBitVec.smod 64).toNat = c := by decide +kernel
/-- as the reference asks -/
theorem has_sh {x : Int64} {c : Nat} (hc : c < 64) : ((x >>> Int64.ofNat c) &&& 1 = 1) ↔ hbt x c = true := by
  have e0 : hbt ((x >>> Int64.ofNat c) &&& 1) 0 = hbt x c := by
    have h1 : hbt 1 0 = true := by decide
    rw [hbt_and, h1, Bool.and_true]
    unfold hbt
    rw [Int64.toBitVec_shiftRight]
    show ((x.toBitVec.sshiftRight ((Int64.ofNat c).toBitVec.smod 64).toNat)).getLsbD 0 = _
    rw [sh_n c hc, BitVec.getLsbD_sshiftRight]
    simp [hc]
  have e1 : ∀ d, d < 64 → d ≠ 0 → hbt ((x >>> Int64.ofNat c) &&& 1) d = false := by
    intro d hd h
    have : ∀ d, d < 64 → d ≠ 0 → hbt 1 d = false := by decide +kernel
    rw [hbt_and, this d hd h, Bool.and_false]
  constructor
  · intro h
    rw [← e0, h]
    decide
  · intro h
    apply hbt_ext
    intro d hd
    by_cases z : d = 0
    · subst z
      rw [e0, h]
      decide
    · rw [e1 d hd z]
      have : ∀ d, d < 64 → d ≠ 0 → hbt 1 d = false := by decide +kernel
      rw [this d hd z]

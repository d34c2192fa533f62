theorem xF0 : ((0 : Fin 4) : Nat) = 0 := rfl
theorem xF1 : ((1 : Fin 4) : Nat) = 1 := rfl
theorem xF2 : ((2 : Fin 4) : Nat) = 2 := rfl
theorem xF3 : ((3 : Fin 4) : Nat) = 3 := rfl
theorem xL0 : Int64.ofNat ((0 : Fin 2) : Nat) = 0 := rfl
theorem xL1 : Int64.ofNat ((1 : Fin 2) : Nat) = 1 := rfl
theorem xNar (x : Int32) : (narrow .int (.int x) = .int x) = True := eq_true rfl
theorem xFit (x : Int32) : (fits .int (.int x) = true) = True := eq_true rfl
theorem xD1 (d : Nat) : (1 ≤ d + 1) = True := eq_true (Nat.le_add_left _ _)
theorem xD2 (d k : Nat) : (1 ≤ d + (k + 1)) = True := eq_true (by omega)
theorem xNb0 : (narrow .boolean (.int 0) = .int 0) = True := eq_true rfl
theorem xNb1 : (narrow .boolean (.int 1) = .int 1) = True := eq_true rfl
theorem xNc0 : (narrow .char (.int 0) = .int 0) = True := eq_true rfl
theorem xNz (x : Nat) (C : String) : (narrow (.object C) (.ref x) = .ref x) = True := eq_true rfl
theorem xFz0 : (fits .boolean (.int 0) = true) = True := eq_true rfl
theorem xFz1 : (fits .boolean (.int 1) = true) = True := eq_true rfl
theorem xNl (x : Int64) : (narrow .long (.long x) = .long x) = True := eq_true rfl
theorem xFl (x : Int64) : (fits .long (.long x) = true) = True := eq_true rfl
theorem xcell {P0 P1 : Prop} (c : Int32) {n : Nat} (hn : n < 2 ^ 30) (k : Int32) (hk : k = nI n) (h1 : ∀ j, j < n → c = nI j → P1) (h0 : (∀ j, j < n → c ≠ nI j) → P0) : (c < 0 → P0) ∧ (¬ c < 0 → (k ≤ c → P0) ∧ (¬ k ≤ c → P1)) := by
  subst hk
  have hn' : n < 2 ^ 31 := by omega
  refine ⟨fun a => h0 fun j hj e => ?_, fun a => ⟨fun b => h0 fun j hj e => ?_, fun b => ?_⟩⟩
  · subst e; exact nI_pos (by omega) a
  · subst e; exact nI_ge hj hn' b
  · rcases pk_ix c hn' with q | q | ⟨j, hj, e⟩
    · exact absurd q a
    · exact absurd q b
    · exact h1 j hj e
theorem xcl {n N : Nat} (h : n < N) (hN : N < 2 ^ 30) : (nI n).toNatClampNeg = n := nI_clamp (by omega)
theorem xvi {n N : Nat} (h : n < N) (hN : N < 2 ^ 30) : vp_in (nI n) N = True := eq_true (vp_in_nI h (by omega))
theorem x10 : ((1 : Int32) = 0) = False := eq_false (by decide)
theorem x00 : ((0 : Int32) = 0) = True := eq_true rfl
theorem xm10 : ((-1 : Int32) = 0) = False := eq_false (by decide)
theorem x20 : ((2 : Int32) = 0) = False := eq_false (by decide)
theorem x30 : ((3 : Int32) = 0) = False := eq_false (by decide)
theorem Rn_sub {l : Launch} {d : Nat} {M : xM} {pc : Nat} {lv : xL} (lv' : xL) {st : List Value} {h : xH} {kc ks : Nat} {Q : xQ} (hs : ∀ q ∈ lv', q ∈ lv) (k : Rn l d M pc lv' st h kc ks Q) : Rn l d M pc lv st h kc ks Q := by
  intro G p e R s m args below meth c H locs cells slots ls X P hl h1 h2
  refine k G p e R s m args below meth c H locs cells slots ls X P ⟨hl.1, hl.2.1, fun q hq => ?_⟩ h1 h2
  obtain ⟨r, hr, e1⟩ := List.mem_map.mp hq
  exact hl.2.2 q (List.mem_map.mpr ⟨r, hs r hr, e1⟩)
theorem xge_f {i k : Nat} (h : i < k) (hk : k < 2 ^ 30) : (nI k ≤ nI i) = False := eq_false (nI_ge h (by omega))
theorem xge_t {i k : Nat} (h : k ≤ i) (hk : i < 2 ^ 30) : (nI k ≤ nI i) = True := eq_true (nI_le h (by omega))
theorem xlt_f {i k : Nat} (h : k ≤ i) (hk : i < 2 ^ 30) : (nI i < nI k) = False := eq_false (nI_nlt h (by omega))
theorem xlt_t {i k : Nat} (h : i < k) (hk : k < 2 ^ 30) : (nI i < nI k) = True := eq_true (nI_lt h (by omega))
theorem xlt0 {i : Nat} (h : i < 2 ^ 30) : (nI i < 0) = False := eq_false (nI_pos (by omega))
theorem xge0 {i : Nat} (h : i < 2 ^ 30) : (0 ≤ nI i) = True := eq_true (nI_pos' (by omega))
theorem xm1 : (nI 0 - 1 < 0) = True := eq_true (by decide)
theorem xpred (n : Nat) : nI (n + 1) - 1 = nI n := nI_pred n
theorem xpredm (n : Nat) : nI (n + 1) + (-1) = nI n := pk_m1 n

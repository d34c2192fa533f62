theorem xF0 : ((0 : Fin 4) : Nat) = 0 := rfl
theorem xF1 : ((1 : Fin 4) : Nat) = 1 := rfl
theorem xF2 : ((2 : Fin 4) : Nat) = 2 := rfl
theorem xF3 : ((3 : Fin 4) : Nat) = 3 := rfl
theorem xL0 : Int64.ofNat ((0 : Fin 2) : Nat) = 0 := rfl
theorem xL1 : Int64.ofNat ((1 : Fin 2) : Nat) = 1 := rfl
theorem xNar (x : Int32) : (narrow .int (.int x) = .int x) = True := eq_true rfl
theorem xFit (x : Int32) : (fits .int (.int x) = true) = True := eq_true rfl
theorem xD1 (d : Nat) : (1 ≤ d + 1) = True := eq_true (Nat.le_add_left _ _)
theorem xD2 (d k : Nat) : (1 ≤ d + (k + 1)) = True := eq_true (by omega)
theorem xNb0 : (narrow .boolean (.int 0) = .int 0) = True := eq_true rfl
theorem xNb1 : (narrow .boolean (.int 1) = .int 1) = True := eq_true rfl
theorem xNc0 : (narrow .char (.int 0) = .int 0) = True := eq_true rfl
theorem xNz (x : Nat) (C : String) : (narrow (.object C) (.ref x) = .ref x) = True := eq_true rfl
theorem xFz0 : (fits .boolean (.int 0) = true) = True := eq_true rfl
theorem xFz1 : (fits .boolean (.int 1) = true) = True := eq_true rfl
theorem xNl (x : Int64) : (narrow .long (.long x) = .long x) = True := eq_true rfl
theorem xFl (x : Int64) : (fits .long (.long x) = true) = True := eq_true rfl
theorem xcell {P0 P1 : Prop} (c : Int32) {n : Nat} (hn : n < 2 ^ 30) (k : Int32) (hk : k = nI n) (h1 : ∀ j, j < n → c = nI j → P1) (h0 : (∀ j, j < n → c ≠ nI j) → P0) : (c < 0 → P0) ∧ (¬ c < 0 → (k ≤ c → P0) ∧ (¬ k ≤ c → P1)) := by
  subst hk
  have hn' : n < 2 ^ 31 := by omega
  refine ⟨fun a => h0 fun j hj e => ?_, fun a => ⟨fun b => h0 fun j hj e => ?_, fun b => ?_⟩⟩
  · subst e; exact nI_pos (by omega) a
  · subst e; exact nI_ge hj hn' b
  · rcases pk_ix c hn' with q | q | ⟨j, hj, e⟩
    · exact absurd q a
    · exact absurd q b
    · exact h1 j hj e
theorem xcl {n N : Nat} (h : n < N) (hN : N < 2 ^ 30) : (nI n).toNatClampNeg = n := nI_clamp (by omega)
theorem xvi {n N : Nat} (h : n < N) (hN : N < 2 ^ 30) : vp_in (nI n) N = True := eq_true (vp_in_nI h (by omega))
theorem x10 : ((1 : Int32) = 0) = False := eq_false (by decide)
theorem x00 : ((0 : Int32) = 0) = True := eq_true rfl
theorem xm10 : ((-1 : Int32) = 0) = False := eq_false (by decide)
theorem x20 : ((2 : Int32) = 0) = False := eq_false (by decide)
theorem x30 : ((3 : Int32) = 0) = False := eq_false (by decide)
theorem Rn_sub {G : xG} {l : Launch} {d : Nat} {M : xM} {pc : Nat} {lv : xL} (lv' : xL) {st : List Value} {h : xH} {kc ks : Nat} {Q : xQ} (hs : ∀ q ∈ lv', q ∈ lv) (k : Rn G l d M pc lv' st h kc ks Q) : Rn G l d M pc lv st h kc ks Q := by
  intro p e R s m args below meth c H locs cells slots ls X P hl h1 h2
  refine k p e R s m args below meth c H locs cells slots ls X P ⟨hl.1, hl.2.1, fun q hq => ?_⟩ h1 h2
  obtain ⟨r, hr, e1⟩ := List.mem_map.mp hq
  exact hl.2.2 q (List.mem_map.mpr ⟨r, hs r hr, e1⟩)
theorem xge_f {i k : Nat} (h : i < k) (hk : k < 2 ^ 30) : (nI k ≤ nI i) = False := eq_false (nI_ge h (by omega))
theorem xge_t {i k : Nat} (h : k ≤ i) (hk : i < 2 ^ 30) : (nI k ≤ nI i) = True := eq_true (nI_le h (by omega))
theorem xlt_f {i k : Nat} (h : k ≤ i) (hk : i < 2 ^ 30) : (nI i < nI k) = False := eq_false (nI_nlt h (by omega))
theorem xlt_t {i k : Nat} (h : i < k) (hk : k < 2 ^ 30) : (nI i < nI k) = True := eq_true (nI_lt h (by omega))
theorem xlt0 {i : Nat} (h : i < 2 ^ 30) : (nI i < 0) = False := eq_false (nI_pos (by omega))
theorem xge0 {i : Nat} (h : i < 2 ^ 30) : (0 ≤ nI i) = True := eq_true (nI_pos' (by omega))
theorem xm1 : (nI 0 - 1 < 0) = True := eq_true (by decide)
theorem xpred (n : Nat) : nI (n + 1) - 1 = nI n := nI_pred n
theorem xpredm (n : Nat) : nI (n + 1) + (-1) = nI n := pk_m1 n
theorem xltc {b : Nat} (hb : b < 2 ^ 30) (c : Nat) {k : Int32} (hc : c < 2 ^ 30) (hk : k = nI c) : (nI b < k) = (b < c) := by
  subst hk; exact propext (nI_ltI (by omega) (by omega))
theorem xlec {b : Nat} (hb : b < 2 ^ 30) (c : Nat) {k : Int32} (hc : c < 2 ^ 30) (hk : k = nI c) : (nI b ≤ k) = (b ≤ c) := by
  subst hk; exact propext (nI_leI (by omega) (by omega))
theorem xclt {b : Nat} (hb : b < 2 ^ 30) (c : Nat) {k : Int32} (hc : c < 2 ^ 30) (hk : k = nI c) : (k < nI b) = (c < b) := by
  subst hk; exact propext (nI_ltI (by omega) (by omega))
theorem xcle {b : Nat} (hb : b < 2 ^ 30) (c : Nat) {k : Int32} (hc : c < 2 ^ 30) (hk : k = nI c) : (k ≤ nI b) = (c ≤ b) := by
  subst hk; exact propext (nI_leI (by omega) (by omega))
theorem xnle (a b : Nat) (ha : a < 2 ^ 30) (hb : b < 2 ^ 30) : (nI a ≤ nI b) = (a ≤ b) := propext (nI_leI (by omega) (by omega))
theorem xnlt (a b : Nat) (ha : a < 2 ^ 30) (hb : b < 2 ^ 30) : (nI a < nI b) = (a < b) := propext (nI_ltI (by omega) (by omega))
theorem xneq (a b : Nat) (ha : a < 2 ^ 30) (hb : b < 2 ^ 30) : (nI a = nI b) = (a = b) := propext (nI_eq (by omega) (by omega))
theorem xv64 : vp_in 64 65 = True := eq_true (by rw [show (64 : Int32) = nI 64 by decide]; exact vp_in_nI (by decide) (by decide))
theorem xc64 : (64 : Int32).toNatClampNeg = 64 := by decide
theorem xcmp_lt (x y : Int64) : (lg_cmp x y < 0) = (x < y) := by
  unfold lg_cmp
  by_cases h1 : x > y
  · rw [if_pos h1]
    exact propext ⟨fun z => absurd z (by decide), fun z => absurd h1 (Int64.not_lt.mpr (Int64.le_of_lt z))⟩
  · rw [if_neg h1]
    by_cases h2 : x = y
    · rw [if_pos h2]
      exact propext ⟨fun z => absurd z (by decide), fun z => absurd h2 (Int64.ne_of_lt z)⟩
    · rw [if_neg h2]
      exact propext ⟨fun _ => Int64.lt_of_le_of_ne (Int64.not_lt.mp h1) h2, fun _ => by decide⟩
theorem xcmp_eq (x y : Int64) : (lg_cmp x y = 0) = (x = y) := by
  unfold lg_cmp
  by_cases h1 : x > y
  · rw [if_pos h1]
    exact propext ⟨fun z => absurd z (by decide), fun z => absurd z.symm (Int64.ne_of_lt h1)⟩
  · rw [if_neg h1]
    by_cases h2 : x = y
    · rw [if_pos h2]
      exact propext ⟨fun _ => h2, fun _ => rfl⟩
    · rw [if_neg h2]
      exact propext ⟨fun z => absurd z (by decide), fun z => absurd z h2⟩
theorem xcmp_le (x y : Int64) : (lg_cmp x y ≤ 0) = (x ≤ y) := by
  unfold lg_cmp
  by_cases h1 : x > y
  · rw [if_pos h1]
    exact propext ⟨fun z => absurd z (by decide), fun z => absurd h1 (Int64.not_lt.mpr z)⟩
  · rw [if_neg h1]
    have h3 : x ≤ y := Int64.not_lt.mp h1
    by_cases h2 : x = y
    · rw [if_pos h2]
      exact propext ⟨fun _ => h3, fun _ => by decide⟩
    · rw [if_neg h2]
      exact propext ⟨fun _ => h3, fun _ => by decide⟩
theorem xcmp_ge (x y : Int64) : (0 ≤ lg_cmp x y) = (y ≤ x) := by
  have h := xcmp_lt x y
  have h2 : (¬ lg_cmp x y < 0) = (¬ x < y) := by rw [h]
  rwa [Int32.not_lt, Int64.not_lt] at h2
theorem xcmp_gt (x y : Int64) : (0 < lg_cmp x y) = (y < x) := by
  have h := xcmp_le x y
  have h2 : (¬ lg_cmp x y ≤ 0) = (¬ x ≤ y) := by rw [h]
  rwa [Int32.not_le, Int64.not_le] at h2
theorem xlltc {b : Nat} (hb : b < 2 ^ 30) (c : Nat) {k : Int64} (hc : c < 2 ^ 30) (hk : k = lN c) : (lN b < k) = (b < c) := by
  subst hk; exact propext (lN_lt (by omega) (by omega))
theorem xllec {b : Nat} (hb : b < 2 ^ 30) (c : Nat) {k : Int64} (hc : c < 2 ^ 30) (hk : k = lN c) : (lN b ≤ k) = (b ≤ c) := by
  subst hk; exact propext (lN_le (by omega) (by omega))
theorem xNa (x : Nat) (t : FieldType) : (narrow (.array t) (.ref x) = .ref x) = True := eq_true rfl
theorem xFa (x : Nat) (t : FieldType) : (fits (.array t) (.ref x) = true) = True := eq_true rfl
theorem xFo (x : Nat) (C : String) : (fits (.object C) (.ref x) = true) = True := eq_true rfl
theorem xNna (t : FieldType) : (narrow (.array t) .null = .null) = True := eq_true rfl
theorem xFna (t : FieldType) : (fits (.array t) .null = true) = True := eq_true rfl
theorem xNno (C : String) : (narrow (.object C) .null = .null) = True := eq_true rfl
theorem xFno (C : String) : (fits (.object C) .null = true) = True := eq_true rfl

theorem cRef_lt {G : Nat → Int64} {y : Nat} (hA : Acy G) (hy : y < 64) : ∀ (k s : Nat) (m c p : Nat → Nat), s + k = 64 → Prm p c → Top G p y → (∀ i, i < 64 → m i < 64) → ∀ i, i < 64 → (cRef G y k s (m, c, p)).1 i < 64 := by
  intro k
  induction k with
  | zero =>
    intro s m c p _ _ _ hm
    exact hm
  | succ k ih =>
    intro s m c p hs hP hT hm
    rw [cRef]
    dsimp only
    by_cases z : hbt (G y) s = true ∧ p y < p s
    · rw [if_pos z]
      obtain ⟨t1, t2, t3, t4, t5, t6, t7, t8⟩ := step_ok hP hT hA hy z.1 z.2
      obtain ⟨e1, e2, -⟩ := put_eq (mo := m) hP hT hA hy z.1 z.2
      rw [e2]
      exact ih (s + 1) _ _ _ (by omega) t2 t3 (gatC_lt hP (by omega) hm z.2)
    · rw [if_neg z]
      exact ih (s + 1) _ _ _ (by omega) hP hT hm
theorem LmR_init {lc ls_ lt : Nat → Int32} {L : List (Nat × Nat × (Nat → Int32))} (h : LmR lc ls_ lt L) : LmR lc ls_ lt L.dropLast := by
  intro i e he
  rw [List.getElem?_dropLast] at he
  split at he
  · exact h i e he
  · cases he
theorem last_split {α : Type} {L : List α} (h : L ≠ []) : ∃ e, L[L.dropLast.length]? = some e ∧ L.length = L.dropLast.length + 1 ∧ L = L.dropLast ++ [e] := by
  have h1 : 0 < L.length := List.length_pos_iff.mpr h
  have h2 : L.dropLast.length = L.length - 1 := List.length_dropLast
  refine ⟨L.getLast h, ?_, by omega, (List.dropLast_concat_getLast h).symm⟩
  rw [h2, List.getLast_eq_getElem]
  exact List.getElem?_eq_getElem _
theorem Cnt_k {T : xH} {k : Nat} {f : Nat → Int32} {N : Nat} {R : Int64} (h : Cnt T k f N R) : 27 ≤ k ∧ ∃ k2, T[k - 27]? = some (.inr (0, [.ref k2, .long R])) := by
  obtain ⟨k2, h1, h2, h3, h4⟩ := h
  exact ⟨h1, k2, h3⟩
theorem LEok_now {ty : Nat → Int32} {n0 : Nat} {co : Nat → Option Nat} {Lc : List Nat} {wn : Nat} {ki : Nat → Int32} {nu : Nat → Int64} {rf : Nat → Int64} {p : Nat → Nat} {c : Nat → Nat} {m : Nat → Nat} {hc : Nat → Int32} {hb : Nat → Option Nat} {L : List LE} {ch : Nat → Int32} {tx : Nat → Int32} {sz : Nat → Int32} {cd : Nat → Int32} {lc : Nat → Int32} {ls_ : Nat → Int32} {lt : Nat → Int32} {W : xH} {F : Nat → Nat → Int32} {nn : Nat → Nat} (h : Rel ty n0 co Lc wn ki nu rf p c m hc hb L ch tx sz cd lc ls_ lt W F nn) {y : Nat} (hy : y < 64) : LEok W (y, co y, nn y, sh tx (40 * y), rf y) := by
  obtain ⟨r1, r2, r3, r4, r5, r6, r7, r8, r9⟩ := h
  refine ⟨hy, (r3.1 y hy).2.1, ?_⟩
  cases hk : co y with
  | none =>
    refine Or.inl ⟨rfl, ?_, (r4 y hy).1 hk⟩
    rcases r2 (List.replicate 21 (exC 8)) rfl y hy with ⟨-, z1⟩ | ⟨k0, R0, z1, -⟩
    · exact z1
    · rw [hk] at z1
      cases z1
  | some k =>
    refine Or.inr ⟨k, F y, rfl, ?_⟩
    obtain ⟨-, q2⟩ := (r4 y hy).2 k hk
    rcases r2 (List.replicate 21 (exC 8)) rfl y hy with ⟨z1, -⟩ | ⟨k0, R0, z1, z2, z3, z4, z5, z6⟩
    · rw [hk] at z1
      cases z1
    · have ek : k0 = k := by rw [hk] at z1; exact (Option.some.inj z1).symm
      subst ek
      have hR : R0 = rf y := by
        obtain ⟨k2, g1, g2, g3, g4⟩ := z2
        obtain ⟨k3, g5⟩ := q2 (List.replicate 21 (exC 8)) rfl
        rw [g3] at g5
        injection g5 with g5
        injection g5 with g5
        injection g5 with _ g5
        injection g5 with _ g5
        injection g5 with g5 _
        injection g5
      refine ⟨z3, ?_, fun i hi => ⟨r3.2 y hy i hi, z6 i hi⟩, fun X hX => ?_⟩
      · show Txt (sh tx (40 * y)) (nn y) (rf y)
        rw [← hR]
        exact Txt_cg (fun i hi => r3.2 y hy i hi) z5
      · rcases r2 X hX y hy with ⟨y1, -⟩ | ⟨k4, R4, y1, y2, y3, y4, y5, y6⟩
        · rw [hk] at y1
          cases y1
        · have ek4 : k4 = k0 := by rw [hk] at y1; exact (Option.some.inj y1).symm
          subst ek4
          have hR4 : R4 = rf y := by
            obtain ⟨k2, g1, g2, g3, g4⟩ := y2
            obtain ⟨k3, g5⟩ := q2 X hX
            rw [g3] at g5
            injection g5 with g5
            injection g5 with g5
            injection g5 with _ g5
            injection g5 with _ g5
            injection g5 with g5 _
            injection g5
          show Cnt (X ++ W) k4 (F y) (nn y) (rf y)
          rw [← hR4]
          exact y2
-- the texts after undo()
theorem undo_F {W : xH} {co : Nat → Option Nat} {F : Nat → Nat → Int32} {nn : Nat → Nat} (r2 : ∀ X : xH, X.length = 21 → CoR (X ++ W) co F nn) {y n : Nat} {o : Option Nat} {g0 : Nat → Int32} {R : Int64} (h : LEok W (y, o, n, g0, R)) : ∃ F' : Nat → Nat → Int32, (∀ X : xH, X.length = 21 → CoR (X ++ W) (va_up co y o) F' (upN nn y n)) ∧ (∀ x, x ≠ y → F' x = F x) ∧ (∀ i, i < n → F' y i = g0 i) ∧ (o = none → R = 0) ∧ (n = 0 → R = 0) ∧ (0 < n → Txt g0 n R) ∧ (∀ k, o = some k → 27 ≤ k ∧ ∀ X : xH, X.length = 21 → ∃ k2, (X ++ W)[k - 27]? = some (.inr (0, [.ref k2, .long R]))) := by
  obtain ⟨h1, h2, h3⟩ := h
  dsimp only at h1 h2 h3
  rcases h3 with ⟨rfl, rfl, rfl⟩ | ⟨k, f, rfl, q1, q2, q3, q4⟩
  · exact ⟨F, fun X hX => CoR_none (r2 X hX), fun _ _ => rfl, fun i hi => absurd hi (Nat.not_lt_zero _), fun _ => rfl, fun _ => rfl, fun w => absurd w (Nat.lt_irrefl _), fun k hk => by cases hk⟩
  · refine ⟨fun x => if x = y then f else F x, fun X hX => ?_, fun x hx => if_neg hx, fun i hi => ?_, fun w => (by cases w), fun w => (by omega), fun _ => q2, fun k1 hk1 => ?_⟩
    · exact CoR_some (r2 X hX) (q4 X hX) q1 h2 (Txt_cg (fun i hi => (q3 i hi).1.symm) q2) (fun i hi => (q3 i hi).2)
    · dsimp only
      rw [if_pos rfl]
      exact (q3 i hi).1
    · obtain rfl := Option.some.inj hk1
      exact ⟨(Cnt_k (q4 (List.replicate 21 (exC 8)) rfl)).1, fun X hX => (Cnt_k (q4 X hX)).2⟩
theorem undo_acy {rf : Nat → Int64} {L : List LE} {y n : Nat} {o : Option Nat} {g0 : Nat → Int32} {R : Int64} (hL : L = L.dropLast ++ [(y, o, n, g0, R)]) (h : ChOk rf (L.reverse.map (fun e => (e.1, e.2.2.2.2)))) : ChOk (vp_updL rf y R) (L.dropLast.reverse.map (fun e => (e.1, e.2.2.2.2))) := by
  rw [hL, List.reverse_append, List.map_append] at h
  exact ChOk_pop h
-- the state after undo() of what the log holds last
theorem Rel_undo {ty : Nat → Int32} {n0 : Nat} {co : Nat → Option Nat} {Lc : List Nat} {wn : Nat} {ki : Nat → Int32} {nu : Nat → Int64} {rf : Nat → Int64} {p : Nat → Nat} {c : Nat → Nat} {m : Nat → Nat} {hc : Nat → Int32} {hb : Nat → Option Nat} {L : List LE} {ch : Nat → Int32} {tx : Nat → Int32} {sz : Nat → Int32} {cd : Nat → Int32} {lc : Nat → Int32} {ls_ : Nat → Int32} {lt : Nat → Int32} {W : xH} {F : Nat → Nat → Int32} {nn : Nat → Nat} (h : Rel ty n0 co Lc wn ki nu rf p c m hc hb L ch tx sz cd lc ls_ lt W F nn) {y n : Nat} {o : Option Nat} {g0 : Nat → Int32} {R : Int64} (hL : L = L.dropLast ++ [(y, o, n, g0, R)]) {t : CG} {m' c' p' : Nat → Nat} {F' : Nat → Nat → Int32} {hb' : Nat → Option Nat} {ch' cd' tx' : Nat → Int32} (hcr : (m', c', p') = cRef (vp_updL rf y R) y 64 0 (m, c, p)) (hF1 : ∀ X : xH, X.length = 21 → CoR (X ++ W) (va_up co y o) F' (upN nn y n)) (hF2 : ∀ x, x ≠ y → F' x = F x) (hF3 : ∀ i, i < n → F' y i = g0 i) (hF4 : o = none → R = 0) (hF6 : 0 < n → Txt g0 n R) (hF7 : ∀ k, o = some k → 27 ≤ k ∧ ∀ X : xH, X.length = 21 → ∃ k2, (X ++ W)[k - 27]? = some (.inr (0, [.ref k2, .long R]))) (ht : t = chg (fun x => wv (F' x) (upN nn y n x)) (vp_updL rf y R) c' y (64 - p' y) (p' y) (ki, nu, 0, [], 0)) (hch : ∀ (i a : Nat), t.2.2.2.1[i]? = some a → ch' i = nI a) (hcd : ∀ (i a : Nat), t.2.2.2.1[i]? = some a → cd' i = nI a) (hlg : LgR hc hb' (L.map (fun e => (e.1, e.2.1))).dropLast) (hhb : ∀ X : xH, X.length = 21 → ∀ j, j < 20 → isC (X ++ W) (hb' j)) (hx1 : ∀ i, i < 40 → tx' (40 * y + i) = g0 i) (hx2 : ∀ i, i < 40 * y ∨ 40 * y + 40 ≤ i → tx' i = tx i) : Rel ty n0 (va_up co y o) t.2.2.2.1 t.2.2.2.2 t.1 t.2.1 (vp_updL rf y R) p' c' m' hc hb' L.dropLast ch' tx' (upd sz y (nI n)) cd' lc ls_ lt W F' (upN nn y n) := by
  obtain ⟨r1, r2, r3, r4, r5, r6, r7, r8, r9⟩ := h
  have hE : LEok W (y, o, n, g0, R) := r8.2.2.2.2 _ (by rw [hL]; exact List.mem_append_right _ List.mem_cons_self)
  have hy : y < 64 := hE.1
  have hn : n ≤ 40 := hE.2.1
  have hch9 := undo_acy hL r9
  have hAc := ChOk_acy hch9
  have hT : Top (vp_updL rf y R) p y := Top_upd r6.2.1
  have hTop0 : (∀ v, v < 0 → hbt (vp_updL rf y R y) v = true → p v < p y) := fun v hv => absurd hv (Nat.not_lt_zero _)
  obtain ⟨a1, a2, a3⟩ := arr_ok hAc hy 64 0 m c p (by omega) r6.1 hT hTop0
  have a4 := cRef_lt hAc hy 64 0 m c p (by omega) r6.1 hT r6.2.2
  rw [← hcr] at a1 a2 a4
  dsimp only at a1 a2 a4
  rw [← a1] at a2 a3
  have hpy := (a2.1 y hy).1
  have hnn : ∀ x, x < 64 → upN nn y n x ≤ 40 := by
    intro x hx
    unfold upN
    split
    · exact hn
    · exact (r3.1 x hx).2.1
  refine ⟨⟨r1.1, ?_, fun i hi => ?_⟩, hF1, ⟨?_, ?_⟩, ?_, ?_, ⟨a2, a3, a4⟩, ⟨?_, ?_, fun i a hia => ⟨hch i a hia, hcd i a hia⟩⟩, ⟨?_, ?_, ?_, hhb, ?_⟩, hch9⟩
  · unfold upd
    rw [if_neg (by omega)]
    exact r1.2.1
  · rw [hx2 (2560 + i) (by omega)]
    exact r1.2.2 i hi
  · intro x hx
    by_cases e : x = y
    · subst e
      refine ⟨?_, hnn x hx, fun hp => ?_⟩
      · unfold upd upN
        rw [if_pos rfl, if_pos rfl]
      · have eu : upN nn x n x = n := if_pos rfl
        rw [eu] at hp ⊢
        exact ⟨R, Txt_cg (fun i hi => (hx1 i (by omega)).symm) (hF6 hp)⟩
    · have eu : upN nn y n x = nn x := if_neg e
      rw [eu]
      obtain ⟨t1, t2, t3⟩ := r3.1 x hx
      refine ⟨?_, t2, fun hp => ?_⟩
      · unfold upd
        rw [if_neg e]
        exact t1
      · obtain ⟨R', hR'⟩ := t3 hp
        exact ⟨R', Txt_cg (fun i hi => (hx2 (40 * x + i) (by omega)).symm) hR'⟩
  · intro x hx i hi
    by_cases e : x = y
    · subst e
      have eu : upN nn x n x = n := if_pos rfl
      rw [eu] at hi
      rw [hx1 i (by omega)]
      exact hF3 i hi
    · have eu : upN nn y n x = nn x := if_neg e
      rw [eu] at hi
      have := (r3.1 x hx).2.1
      rw [hF2 x e, hx2 (40 * x + i) (by omega)]
      exact r3.2 x hx i hi
  · intro x hx
    unfold va_up vp_updL
    by_cases e : x = y
    · rw [if_pos e, if_pos e]
      exact ⟨hF4, hF7⟩
    · rw [if_neg e, if_neg e]
      exact r4 x hx
  · rw [ht]
    exact chg_cv2 (fun x hx ki nu hV => wv_cv (hnn x hx) hV) (fun q hq => (a2.2 q hq).1) _ _ _ (by omega) r5
  · have := (chg_len (V := fun x => wv (F' x) (upN nn y n x)) (G := vp_updL rf y R) (c := c') (y := y) (64 - p' y) (p' y) (ki, nu, 0, [], 0)).1
    rw [ht]
    have e0 : ((ki, nu, (0 : Int64), ([] : List Nat), (0 : Nat)) : CG).2.2.2.1.length = 0 := rfl
    omega
  · have := (chg_len (V := fun x => wv (F' x) (upN nn y n x)) (G := vp_updL rf y R) (c := c') (y := y) (64 - p' y) (p' y) (ki, nu, 0, [], 0)).2
    rw [ht]
    have e0 : ((ki, nu, (0 : Int64), ([] : List Nat), (0 : Nat)) : CG).2.2.2.2 = 0 := rfl
    omega
  · have h2 : L.dropLast.length = L.length - 1 := List.length_dropLast
    have := r8.1
    omega
  · rw [List.map_dropLast]
    exact hlg
  · rw [List.map_dropLast]
    exact LmR_init r8.2.2.1
  · intro e he
    exact r8.2.2.2.2 e (List.dropLast_subset _ he)
-- the state after enter()
theorem Rel_enter {ty : Nat → Int32} {n0 : Nat} {co : Nat → Option Nat} {Lc : List Nat} {wn : Nat} {ki : Nat → Int32} {nu : Nat → Int64} {rf : Nat → Int64} {p : Nat → Nat} {c : Nat → Nat} {m : Nat → Nat} {hc : Nat → Int32} {hb : Nat → Option Nat} {L : List LE} {ch : Nat → Int32} {tx : Nat → Int32} {sz : Nat → Int32} {cd : Nat → Int32} {lc : Nat → Int32} {ls_ : Nat → Int32} {lt : Nat → Int32} {W : xH} {F : Nat → Nat → Int32} {nn : Nat → Nat} (h : Rel ty n0 co Lc wn ki nu rf p c m hc hb L ch tx sz cd lc ls_ lt W F nn) {y : Nat} (hy : y < 64) {v : VL} {R : Int64} (hs : scn ty n0 ki nu = some (v, R)) (hAc : Acy (vp_updL rf y R)) {t : CG} {m' c' p' : Nat → Nat} {F' : Nat → Nat → Int32} {hc' : Nat → Int32} {hb' : Nat → Option Nat} {ch' cd' tx' lc' ls' lt' : Nat → Int32} {W' : xH} (hcr : (m', c', p') = cRef (vp_updL rf y R) y 64 0 (m, c, p)) (hW : W' = W ++ [.inr (0, [.ref (27 + (21 + W.length) + 1), .long R]), .inl (2, n0, .inl (va_cpy ty (fun _ => 0) 0 0 n0))]) (hF : F' = fun x => if x = y then va_cpy ty (fun _ => 0) 0 0 n0 else F x) (hF1 : ∀ X : xH, X.length = 21 → CoR (X ++ W') (va_up co y (some (27 + (21 + W.length)))) F' (upN nn y n0)) (ht : t = chg (fun x => wv (F' x) (upN nn y n0 x)) (vp_updL rf y R) c' y (64 - p' y) (p' y) (ki, nu, 0, [], 0)) (hch : ∀ (i a : Nat), t.2.2.2.1[i]? = some a → ch' i = nI a) (hcd : ∀ (i a : Nat), t.2.2.2.1[i]? = some a → cd' i = nI a) (hlg : LgR hc' hb' (lgAdd (L.map (fun e => (e.1, e.2.1))) (y, co y))) (hlm : LmR lc' ls' lt' (lmAdd (L.map (fun e => (e.1, e.2.2.1, e.2.2.2.1))) (y, nn y, sh tx (40 * y)))) (hhb : ∀ X : xH, X.length = 21 → ∀ j, j < 20 → isC (X ++ W') (hb' j)) (hx1 : ∀ i, i < 40 → tx' (40 * y + i) = tx (2560 + i)) (hx2 : ∀ i, i < 40 * y ∨ 40 * y + 40 ≤ i → tx' i = tx i) : Rel ty 0 (va_up co y (some (27 + (21 + W.length)))) t.2.2.2.1 t.2.2.2.2 t.1 t.2.1 (vp_updL rf y R) p' c' m' hc' hb' (leAdd L (y, co y, nn y, sh tx (40 * y), rf y)) ch' tx' (upd (upd sz y (nI n0)) 64 0) cd' lc' ls' lt' W' F' (upN nn y n0) := by
  have hnow := LEok_now h hy
  have hR0 := h
  obtain ⟨r1, r2, r3, r4, r5, r6, r7, r8, r9⟩ := h
  have hT : Top (vp_updL rf y R) p y := Top_upd r6.2.1
  have hTop0 : (∀ v, v < 0 → hbt (vp_updL rf y R y) v = true → p v < p y) := fun v hv => absurd hv (Nat.not_lt_zero _)
  obtain ⟨a1, a2, a3⟩ := arr_ok hAc hy 64 0 m c p (by omega) r6.1 hT hTop0
  have a4 := cRef_lt hAc hy 64 0 m c p (by omega) r6.1 hT r6.2.2
  rw [← hcr] at a1 a2 a4
  dsimp only at a1 a2 a4
  rw [← a1] at a2 a3
  have hpy := (a2.1 y hy).1
  have hnn : ∀ x, x < 64 → upN nn y n0 x ≤ 40 := by
    intro x hx
    unfold upN
    split
    · exact r1.1
    · exact (r3.1 x hx).2.1
  refine ⟨⟨Nat.zero_le _, ?_, fun i hi => absurd hi (Nat.not_lt_zero _)⟩, hF1, ⟨?_, ?_⟩, ?_, ?_, ⟨a2, a3, a4⟩, ⟨?_, ?_, fun i a hia => ⟨hch i a hia, hcd i a hia⟩⟩, ⟨leAdd_len r8.1, ?_, ?_, hhb, ?_⟩, leAdd_ch r9 hAc⟩
  · unfold upd
    rw [if_pos rfl]
    rfl
  · intro x hx
    by_cases e : x = y
    · subst e
      have eu : upN nn x n0 x = n0 := if_pos rfl
      refine ⟨?_, hnn x hx, fun hp => ?_⟩
      · unfold upd
        rw [if_neg (by omega), if_pos rfl, eu]
      · rw [eu]
        exact ⟨R, Txt_cg (fun i hi => by rw [(r1.2.2 i hi).1]; exact (hx1 i (by omega)).symm) (scn_txt r1.1 r5 hs)⟩
    · have eu : upN nn y n0 x = nn x := if_neg e
      rw [eu]
      obtain ⟨t1, t2, t3⟩ := r3.1 x hx
      refine ⟨?_, t2, fun hp => ?_⟩
      · unfold upd
        rw [if_neg (by omega), if_neg e]
        exact t1
      · obtain ⟨R', hR'⟩ := t3 hp
        exact ⟨R', Txt_cg (fun i hi => (hx2 (40 * x + i) (by omega)).symm) hR'⟩
  · intro x hx i hi
    by_cases e : x = y
    · subst e
      have eu : upN nn x n0 x = n0 := if_pos rfl
      rw [eu] at hi
      have := r1.1
      rw [hx1 i (by omega), hF]
      dsimp only
      rw [if_pos rfl, va_cpy_lt hi]
      exact (r1.2.2 i hi).1
    · have eu : upN nn y n0 x = nn x := if_neg e
      rw [eu] at hi
      have := (r3.1 x hx).2.1
      rw [hx2 (40 * x + i) (by omega), hF]
      dsimp only
      rw [if_neg e]
      exact r3.2 x hx i hi
  · intro x hx
    unfold va_up vp_updL
    by_cases e : x = y
    · rw [if_pos e, if_pos e]
      refine ⟨fun w => (by cases w), fun k hk => ?_⟩
      obtain rfl := Option.some.inj hk
      refine ⟨by omega, fun X hX => ⟨27 + (21 + W.length) + 1, ?_⟩⟩
      rw [hW, ← List.append_assoc, show 27 + (21 + W.length) - 27 = (X ++ W).length by rw [List.length_append, hX]; omega, List.getElem?_append_right (Nat.le_refl _), Nat.sub_self]
      rfl
    · rw [if_neg e, if_neg e]
      refine ⟨(r4 x hx).1, fun k hk => ⟨((r4 x hx).2 k hk).1, fun X hX => ?_⟩⟩
      obtain ⟨k2, g⟩ := ((r4 x hx).2 k hk).2 X hX
      refine ⟨k2, ?_⟩
      rw [hW, ← List.append_assoc]
      exact get_mono g
  · rw [ht]
    exact chg_cv2 (fun x hx ki nu hV => wv_cv (hnn x hx) hV) (fun q hq => (a2.2 q hq).1) _ _ _ (by omega) r5
  · have := (chg_len (V := fun x => wv (F' x) (upN nn y n0 x)) (G := vp_updL rf y R) (c := c') (y := y) (64 - p' y) (p' y) (ki, nu, 0, [], 0)).1
    rw [ht]
    have e0 : ((ki, nu, (0 : Int64), ([] : List Nat), (0 : Nat)) : CG).2.2.2.1.length = 0 := rfl
    omega
  · have := (chg_len (V := fun x => wv (F' x) (upN nn y n0 x)) (G := vp_updL rf y R) (c := c') (y := y) (64 - p' y) (p' y) (ki, nu, 0, [], 0)).2
    rw [ht]
    have e0 : ((ki, nu, (0 : Int64), ([] : List Nat), (0 : Nat)) : CG).2.2.2.2 = 0 := rfl
    omega
  · rw [leAdd_lg]
    exact hlg
  · rw [leAdd_lm]
    exact hlm
  · intro e he
    rw [hW]
    rcases leAdd_mem he with q | q
    · exact LEok_mono (r8.2.2.2.2 e q)
    · subst q
      exact LEok_mono hnow
theorem new_tx {tx tx' : Nat → Int32} {F F' : Nat → Nat → Int32} {nn : Nat → Nat} {y n : Nat} {g : Nat → Int32} (r3 : ∀ x, x < 64 → ∀ i, i < nn x → F x i = tx (40 * x + i)) (hnn : ∀ x, x < 64 → nn x ≤ 40) (hn : n ≤ 40) (hF2 : ∀ x, x ≠ y → F' x = F x) (hF3 : ∀ i, i < n → F' y i = g i) (hx1 : ∀ i, i < 40 → tx' (40 * y + i) = g i) (hx2 : ∀ i, i < 40 * y ∨ 40 * y + 40 ≤ i → tx' i = tx i) : ∀ x, x < 64 → ∀ i, i < upN nn y n x → F' x i = tx' (40 * x + i) := by
  intro x hx i hi
  by_cases e : x = y
  · subst e
    have eu : upN nn x n x = n := if_pos rfl
    rw [eu] at hi
    rw [hx1 i (by omega)]
    exact hF3 i hi
  · have eu : upN nn y n x = nn x := if_neg e
    rw [eu] at hi
    have := hnn x hx
    rw [hF2 x e, hx2 (40 * x + i) (by omega)]
    exact r3 x hx i hi
-- the contents after enter()
theorem enter_F {W : xH} {co : Nat → Option Nat} {F : Nat → Nat → Int32} {nn : Nat → Nat} {ty : Nat → Int32} {n0 y : Nat} {R : Int64} (r2 : ∀ X : xH, X.length = 21 → CoR (X ++ W) co F nn) (h0 : 0 < n0) (h4 : n0 ≤ 40) (ht : Txt ty n0 R) (hn : ∀ i, i < n0 → narrow .char (.int (ty i)) = .int (ty i)) : ∀ X : xH, X.length = 21 → CoR (X ++ (W ++ [.inr (0, [.ref (27 + (21 + W.length) + 1), .long R]), .inl (2, n0, .inl (va_cpy ty (fun _ => 0) 0 0 n0))])) (va_up co y (some (27 + (21 + W.length)))) (fun x => if x = y then va_cpy ty (fun _ => 0) 0 0 n0 else F x) (upN nn y n0) := by
  intro X hX
  rw [← List.append_assoc]
  have hl : (X ++ W).length = 21 + W.length := by rw [List.length_append, hX]
  refine CoR_some (k := 27 + (21 + W.length)) (n := n0) (f := va_cpy ty (fun _ => 0) 0 0 n0) (R := R) (CoR_mono (r2 X hX)) ⟨27 + (21 + W.length) + 1, Nat.le_add_right _ _, Nat.le_trans (Nat.le_add_right _ _) (Nat.le_succ _), ?_, ?_⟩ h0 h4 (Txt_cg (fun i hi => (va_cpy_lt hi).symm) ht) (fun i hi => by rw [va_cpy_lt hi]; exact hn i hi)
  · rw [show 27 + (21 + W.length) - 27 = (X ++ W).length by omega, List.getElem?_append_right (Nat.le_refl _), Nat.sub_self]
    rfl
  · rw [show 27 + (21 + W.length) + 1 - 27 = (X ++ W).length + 1 by omega, List.getElem?_append_right (by omega), Nat.add_sub_cancel_left]
    rfl

section
variable {G : xG} {l : Launch} {d : Nat} {M : xM} {pc : Nat} {lv : xL} {st : List Value} {h : xH} {kc ks : Nat} {Q : xQ}
theorem xk_copyC {a0 a n0 n1 n : Nat} {f g : Nat → Int32} (hM : M.2.1.cls = "RecalcSheet$Content") (hd : decode M.1 pc = .ok (.invokestatic 13, 3)) (h0 : h[a0]? = some (.inl (2, n0, .inl f))) (h9 : h[a]? = some (.inl (2, n1, .inl g))) (hn0 : n ≤ n0) (hn1 : n ≤ n1) (hn : n < 2 ^ 30) (hfit : ∀ i, i < n → fits .char (.int (f i)) = true) (hdd : 1 ≤ d) (hst : (st.map fun v => v.category).sum ≤ 8) (k : Rn G l d M (pc + 3) lv st (h.set a (.inl (2, n1, .inl (va_cpy f g 0 0 n)))) kc ks Q) : Rn G l d M pc lv (.int (nI n) :: .int 0 :: .ref a :: .int 0 :: .ref a0 :: st) h kc ks Q := by
  intro p e R s m args below meth c H locs cells slots ls X P hl h1 h2
  have hts := X.2.2.2.2.1
  have hX := X.2.2.2.2.2.2.2.2
  have hnw : nativeFrameWords "java/lang/System" "arraycopy" 5 = 7 := by decide
  have c0 : (0 : Int32).toNatClampNeg = 0 := by decide
  have cn : (nI n).toNatClampNeg = n := nI_clamp (by omega)
  have hla : a < h.length := (List.getElem?_eq_some_iff.mp h9).1
  have nn : ∀ z : Int32, ¬ z < 0 → z.toInt = (z.toNatClampNeg : Int) := by
    intro z hz
    have hz0 : (0 : Int) ≤ z.toInt := by
      have := Int32.not_lt.mp hz
      simpa using Int32.le_iff_toInt_le.mp this
    show z.toInt = ((z.toInt.toNat : Nat) : Int)
    omega
  have g0 : ¬ (0 : Int32) < 0 := by decide
  have gn : ¬ nI n < 0 := nI_pos (by omega)
  intro T hT S
  have hc0 : H[G.1 + a0]? = some (vp_cell (G.2.2.2.1 2) (n0, .inl f)) := P.1 a0 _ (xws_get G h a0 _ h0)
  have hc1 : H[G.1 + a]? = some (vp_cell (G.2.2.2.1 2) (n1, .inl g)) := P.1 a _ (xws_get G h a _ h9)
  obtain ⟨-, k0, hk0, cm0, hkk0⟩ := (P.2.1.2 2 _ rfl).1 n0 (fun j => .int (f j))
  obtain ⟨-, k1, hk1, cm1, hkk1⟩ := (P.2.1.2 2 _ rfl).1 n1 (fun j => .int (g j))
  obtain ⟨vm', X', step⟩ := S.arraycopy X.1 (own := "RecalcSheet$Content") (by rw [← hM]; exact X.2.2.2.1) (hts _ xw_532) (hts _ xw_534) (hts _ xw_533) (hts _ xw_19) (src := G.1 + a0) (dst := G.1 + a) (cs := vp_cell (G.2.2.2.1 2) (n0, .inl f)) (cd := vp_cell (G.2.2.2.1 2) (n1, .inl g)) (srcPos := 0) (destPos := 0) (n := nI n) (by rw [hT]; exact hc0) (by rw [hT]; exact hc1)
    (fun _ h => by cases h) (fun _ h => by cases h) (fun h => by cases h) (fun h => by cases h) hk0 hk1 hkk0 hkk1 (by simp [refKind]) g0 g0 gn
    (by rw [nn 0 g0, nn _ gn, c0, cn]; show ¬ _ > ((arrV _ n0 (fun j => .int (f j))).slots.size : Int); rw [arrV_size]; omega)
    (by rw [nn 0 g0, nn _ gn, c0, cn]; show ¬ _ > ((arrV _ n1 (fun j => .int (g j))).slots.size : Int); rw [arrV_size]; omega)
    (fun vm₁ _ i hi => by
      rw [cn] at hi
      have e : (vp_cell (G.2.2.2.1 2) (n0, .inl f)).slots.getD ((0 : Int32).toNatClampNeg + i) .null = .int (f i) := by
        show (arrV _ n0 (fun j => .int (f j))).slots.getD _ _ = _
        rw [c0, Nat.zero_add, Array.getD_eq_getD_getElem?, arrV_read _ _ (by omega)]
        rfl
      refine ⟨?_, ?_⟩
      · rw [e]
        exact hfit i hi
      · rw [e]
        exact trivial)
    (g := F0 m pc ls (xst G (.int (nI n) :: .int 0 :: .ref a :: .int 0 :: .ref a0 :: st))) rfl (hl.1.trans X.2.2.1.symm) (rest := xst G st) rfl (by rw [X.2.1]; exact hd) (by omega) (by have hc := xcat (G := G) hst; show 2 * 0 + _ + _ ≤ _; rw [hnw]; omega)
  have e1 : copied (vp_cell (G.2.2.2.1 2) (n0, .inl f)) (vp_cell (G.2.2.2.1 2) (n1, .inl g)) 0 0 (nI n) = vp_cell (G.2.2.2.1 2) (n1, .inl (va_cpy f g 0 0 n)) := by
    have z := va_copied (fun z => Value.int z) (G.2.2.2.1 2) (G.2.2.2.1 2) (n0 := n0) (n1 := n1) (sp := (0 : Int32).toNatClampNeg) (dp := (0 : Int32).toNatClampNeg) (n := (nI n).toNatClampNeg) f g (by rw [c0, cn]; omega)
    have z2 : copied (vp_cell (G.2.2.2.1 2) (n0, .inl f)) (vp_cell (G.2.2.2.1 2) (n1, .inl g)) 0 0 (nI n) = vp_cell (G.2.2.2.1 2) (n1, .inl (va_cpy f g (0 : Int32).toNatClampNeg (0 : Int32).toNatClampNeg (nI n).toNatClampNeg)) := z
    rw [c0, cn] at z2
    exact z2
  rw [e1] at X' step
  have hlt : G.1 + a < H.size := (Array.getElem?_eq_some_iff.mp hc1).1
  have hheap : ((T.setVm vm').setCell (G.1 + a) (vp_cell (G.2.2.2.1 2) (n1, .inl (va_cpy f g 0 0 n)))).heap = H.setIfInBounds (G.1 + a) (vp_cell (G.2.2.2.1 2) (n1, .inl (va_cpy f g 0 0 n))) := by rw [← hT]; rfl
  have oq : ∀ q : Nat, q ≠ G.1 + a → (H.setIfInBounds (G.1 + a) (vp_cell (G.2.2.2.1 2) (n1, .inl (va_cpy f g 0 0 n))))[q]? = H[q]? := fun q hq => by simp [Array.getElem?_setIfInBounds, Ne.symm hq]
  have he : va_at G.2.2.1 xCl (G.1 + a, xce G (.inl (2, n1, .inl (va_cpy f g 0 0 n)))) (H.setIfInBounds (G.1 + a) (vp_cell (G.2.2.2.1 2) (n1, .inl (va_cpy f g 0 0 n)))) := by
    show (H.setIfInBounds (G.1 + a) _)[G.1 + a]? = some _
    simp [Array.getElem?_setIfInBounds, hlt]
  have P1 := xpc_put (k0 := 0) P hla he (by simp) oq
  have P2 : ∀ L : List Loc, (∀ q ∈ L, q ∈ locs ∨ q.base = G.1 + a) → xPc G (h.set a (.inl (2, n1, .inl (va_cpy f g 0 0 n)))) s (H.setIfInBounds (G.1 + a) (vp_cell (G.2.2.2.1 2) (n1, .inl (va_cpy f g 0 0 n)))) L := by
    intro L hL
    refine ⟨P1.1, P1.2.1, P1.2.2.1, P1.2.2.2.1, ⟨P1.2.2.2.2.1.1, P1.2.2.2.2.1.2.1, fun q hq => ?_⟩, P1.2.2.2.2.2⟩
    rcases hL q hq with z | z
    · exact P.2.2.2.2.1.2.2 q z
    · show G.1 ≤ q.base
      rw [z]
      exact Nat.le_add_right _ _
  obtain ⟨t, a1, b1⟩ := k p e R s m args below meth c _ _ cells slots ls X (P2 _ (fun q hq => by
      rcases List.mem_append.mp hq with h | h
      · exact Or.inl h
      · obtain ⟨z, -, hz⟩ := List.mem_map.mp h
        exact Or.inr (by rw [← hz]))) hl h1 h2 _ hheap X'
  exact ⟨t, step t a1, b1⟩
theorem xk_maxI {x y : Int32} (hM : M.2.1.cls = "RecalcSheet$Reader") (hd : decode M.1 pc = .ok (.invokestatic 158, 3)) (hdd : 1 ≤ d) (hst : (st.map fun v => v.category).sum ≤ 8) (k : Rn G l d M (pc + 3) lv (.int (if x < y then y else x) :: st) h kc ks Q) : Rn G l d M pc lv (.int y :: .int x :: st) h kc ks Q := by
  intro p e R s m args below meth c H locs cells slots ls X P hl h1 h2
  have hts := X.2.2.2.2.1
  have hX := X.2.2.2.2.2.2.2.2
  exact va_mmax (rest := xst G st) X.1 X.2.1 (X.2.2.1.trans hl.1.symm) (own := "RecalcSheet$Reader") (by rw [← hM]; exact X.2.2.2.1) (hts _ xw_402) (hts _ xw_403) (hts _ xw_12) (hts _ xw_404) (by omega) (by have hc := xcat (G := G) hst; omega) (by omega) (by omega) hd (k p e R s m args below meth c H locs cells slots ls X P hl h1 h2)
theorem xk_minI {x y : Int32} (hM : M.2.1.cls = "RecalcSheet$Reader") (hd : decode M.1 pc = .ok (.invokestatic 164, 3)) (hdd : 1 ≤ d) (hst : (st.map fun v => v.category).sum ≤ 8) (k : Rn G l d M (pc + 3) lv (.int (if y < x then y else x) :: st) h kc ks Q) : Rn G l d M pc lv (.int y :: .int x :: st) h kc ks Q := by
  intro p e R s m args below meth c H locs cells slots ls X P hl h1 h2
  have hts := X.2.2.2.2.1
  have hX := X.2.2.2.2.2.2.2.2
  exact va_mmin (rest := xst G st) X.1 X.2.1 (X.2.2.1.trans hl.1.symm) (own := "RecalcSheet$Reader") (by rw [← hM]; exact X.2.2.2.1) (hts _ xw_405) (hts _ xw_406) (hts _ xw_12) (hts _ xw_407) (by omega) (by have hc := xcat (G := G) hst; omega) (by omega) (by omega) hd (k p e R s m args below meth c H locs cells slots ls X P hl h1 h2)
theorem xk_maxL {x y : Int64} (hM : M.2.1.cls = "RecalcSheet$Tally") (hd : decode M.1 pc = .ok (.invokestatic 34, 3)) (hdd : 1 ≤ d) (hst : (st.map fun v => v.category).sum ≤ 8) (k : Rn G l d M (pc + 3) lv (.long (if y < x then x else y) :: st) h kc ks Q) : Rn G l d M pc lv (.long y :: .long x :: st) h kc ks Q := by
  intro p e R s m args below meth c H locs cells slots ls X P hl h1 h2
  have hts := X.2.2.2.2.1
  have hX := X.2.2.2.2.2.2.2.2
  exact va_mmax_long (rest := xst G st) X.1 X.2.1 (X.2.2.1.trans hl.1.symm) (own := "RecalcSheet$Tally") (by rw [← hM]; exact X.2.2.2.1) (hts _ xw_395) (hts _ xw_396) (hts _ xw_12) (hts _ xw_397) (by omega) (by have hc := xcat (G := G) hst; omega) (by omega) (by omega) hd (k p e R s m args below meth c H locs cells slots ls X P hl h1 h2)
theorem xk_minL {x y : Int64} (hM : M.2.1.cls = "RecalcSheet$Tally") (hd : decode M.1 pc = .ok (.invokestatic 28, 3)) (hdd : 1 ≤ d) (hst : (st.map fun v => v.category).sum ≤ 8) (k : Rn G l d M (pc + 3) lv (.long (if y < x then y else x) :: st) h kc ks Q) : Rn G l d M pc lv (.long y :: .long x :: st) h kc ks Q := by
  intro p e R s m args below meth c H locs cells slots ls X P hl h1 h2
  have hts := X.2.2.2.2.1
  have hX := X.2.2.2.2.2.2.2.2
  exact va_mmin_long (rest := xst G st) X.1 X.2.1 (X.2.2.1.trans hl.1.symm) (own := "RecalcSheet$Tally") (by rw [← hM]; exact X.2.2.2.1) (hts _ xw_392) (hts _ xw_393) (hts _ xw_12) (hts _ xw_394) (by omega) (by have hc := xcat (G := G) hst; omega) (by omega) (by omega) hd (k p e R s m args below meth c H locs cells slots ls X P hl h1 h2)
end

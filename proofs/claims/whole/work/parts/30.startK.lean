theorem xarr {s : State} {args : Array Value} {ty : FieldType} (hno : ∀ C, ty ≠ .object C) (h : (Jvm.Cond.arrayClass ty).before args s = true) : ∃ cA : ClassId, ArrOfT s cA ty ∧ va_RA s cA ty := by
  obtain ⟨c, k, comp, h1, h2, h3⟩ := Cond.arrayClass_spec h
  refine ⟨c, fun n z => ⟨fun k h => (by cases h), k, h2, comp, h3⟩, ?_⟩
  cases ty with
  | object C => exact absurd rfl (hno C)
  | _ => exact h1
theorem xarrO {s : State} {args : Array Value} {C : String} (h : (Jvm.Cond.arrayOver (.object C)).before args s = true) : ∃ cA : ClassId, ArrOfT s cA (.object C) ∧ va_RA s cA (.object C) := by
  obtain ⟨comp, c, k, h1, h2, h3, h4, h5⟩ := Cond.arrayOver_spec h
  exact ⟨c, fun n z => ⟨fun k h => (by cases h), k, h3, comp, h4⟩, k, comp, h3, h4, h1, h5⟩
/-- the numbers of all classes and array classes, at the law's entry -/
theorem xstartK {s : State} {args : Array Value} (htA : ∀ w ∈ xALL, w.before args s = true) (hts : ∀ w ∈ lw_tbl, w.before args s = true) : ∃ (D : va_G) (cid : Nat → ClassId), va_K D xCl (xtys (s.heap.size, fun _ => 0, D, cid, 0, fun _ => 0)) s := by
  obtain ⟨c0, i0, k0⟩ := u_known (C := xR0) (T := xT0) (N := 2) (n := 2) htA xU0 (hts _ (by decide +kernel))
  obtain ⟨c1, i1, k1⟩ := u_known (C := xR1) (T := xT1) (N := 3) (n := 3) htA xU1 (hts _ (by decide +kernel))
  obtain ⟨c2, i2, k2⟩ := u_known (C := xR2) (T := xT2) (N := 4) (n := 4) htA xU2 (hts _ (by decide +kernel))
  obtain ⟨c3, i3, k3⟩ := u_known (C := xR3) (T := xT3) (N := 9) (n := 9) htA xU3 (hts _ (by decide +kernel))
  obtain ⟨c4, i4, k4⟩ := u_known (C := xR4) (T := xT4) (N := 5) (n := 5) htA xU4 (hts _ (by decide +kernel))
  obtain ⟨c5, i5, k5⟩ := u_known (C := xR5) (T := xT5) (N := 2) (n := 2) htA xU5 (hts _ (by decide +kernel))
  obtain ⟨c6, i6, k6⟩ := u_known (C := xR6) (T := xT6) (N := 10) (n := 10) htA xU6 (hts _ (by decide +kernel))
  obtain ⟨c7, i7, k7⟩ := u_known (C := xR7) (T := xT7) (N := 32) (n := 32) htA xU7 (hts _ (by decide +kernel))
  obtain ⟨c8, i8, k8⟩ := u_known (C := "java/lang/IllegalArgumentException") (T := xTE) (N := 0) (n := 6) htA (fun _ h => nomatch h) (hts _ (by decide +kernel))
  obtain ⟨c9, i9, k9⟩ := u_known (C := "java/lang/IllegalStateException") (T := xTE) (N := 0) (n := 6) htA (fun _ h => nomatch h) (hts _ (by decide +kernel))
  obtain ⟨c10, i10, k10⟩ := u_known (C := "java/util/NoSuchElementException") (T := xTE) (N := 0) (n := 6) htA (fun _ h => nomatch h) (hts _ (by decide +kernel))
  obtain ⟨c11, i11, k11⟩ := u_known (C := "java/lang/ArithmeticException") (T := xTE) (N := 0) (n := 6) htA (fun _ h => nomatch h) (hts _ (by decide +kernel))
  obtain ⟨a0, r0⟩ := xarr (by intro C h; cases h) (htA _ xac_int)
  obtain ⟨a1, r1⟩ := xarr (by intro C h; cases h) (htA _ xac_long)
  obtain ⟨a2, r2⟩ := xarr (by intro C h; cases h) (htA _ xac_char)
  obtain ⟨a3, r3⟩ := xarr (by intro C h; cases h) (htA _ xac_boolean)
  obtain ⟨a4, r4⟩ := xarrO (htA _ xao_Content)
  obtain ⟨a5, r5⟩ := xarrO (htA _ xao_Tally)
  refine ⟨(fun c => [c0, c1, c2, c3, c4, c5, c6, c7, c8, c9, c10, c11].getD c 0, fun c => [i0, i1, i2, i3, i4, i5, i6, i7, i8, i9, i10, i11].getD c (fun _ => 0)), fun t => [a0, a1, a2, a3, a4, a5].getD t 0, fun c q hq => ?_, fun k q hk => ?_⟩
  · have hc : c < 12 := (List.getElem?_eq_some_iff.mp hq).1
    match c, hc with
    | 0, _ => cases hq; exact k0
    | 1, _ => cases hq; exact k1
    | 2, _ => cases hq; exact k2
    | 3, _ => cases hq; exact k3
    | 4, _ => cases hq; exact k4
    | 5, _ => cases hq; exact k5
    | 6, _ => cases hq; exact k6
    | 7, _ => cases hq; exact k7
    | 8, _ => cases hq; exact k8
    | 9, _ => cases hq; exact k9
    | 10, _ => cases hq; exact k10
    | 11, _ => cases hq; exact k11
  · have hc : k < 6 := (List.getElem?_eq_some_iff.mp hk).1
    match k, hc with
    | 0, _ => cases hk; exact r0
    | 1, _ => cases hk; exact r1
    | 2, _ => cases hk; exact r2
    | 3, _ => cases hk; exact r3
    | 4, _ => cases hk; exact r4
    | 5, _ => cases hk; exact r5

-- the state after clear() of a cell that held something
theorem Rel_clear {ty : Nat → Int32} {n0 : Nat} {co : Nat → Option Nat} {Lc : List Nat} {wn : Nat} {ki : Nat → Int32} {nu : Nat → Int64} {rf : Nat → Int64} {p : Nat → Nat} {c : Nat → Nat} {m : Nat → Nat} {hc : Nat → Int32} {hb : Nat → Option Nat} {L : List LE} {ch : Nat → Int32} {tx : Nat → Int32} {sz : Nat → Int32} {cd : Nat → Int32} {lc : Nat → Int32} {ls_ : Nat → Int32} {lt : Nat → Int32} {W : xH} {F : Nat → Nat → Int32} {nn : Nat → Nat} (h : Rel ty n0 co Lc wn ki nu rf p c m hc hb L ch tx sz cd lc ls_ lt W F nn) {y : Nat} (hy : y < 64) {k : Nat} (hk : co y = some k) {t : CG} {hc' : Nat → Int32} {hb' : Nat → Option Nat} {ch' cd' lc' ls' lt' : Nat → Int32} (ht : t = chg (fun x => wv (F x) (upN nn y 0 x)) (vp_updL rf y 0) c y (64 - p y) (p y) (ki, nu, 0, [], 0)) (hch : ∀ (i a : Nat), t.2.2.2.1[i]? = some a → ch' i = nI a) (hcd : ∀ (i a : Nat), t.2.2.2.1[i]? = some a → cd' i = nI a) (hlg : LgR hc' hb' (lgAdd (L.map (fun e => (e.1, e.2.1))) (y, co y))) (hlm : LmR lc' ls' lt' (lmAdd (L.map (fun e => (e.1, e.2.2.1, e.2.2.2.1))) (y, nn y, sh tx (40 * y)))) (hhb : ∀ X : xH, X.length = 21 → ∀ j, j < 20 → isC (X ++ W) (hb' j)) : Rel ty n0 (va_up co y none) t.2.2.2.1 t.2.2.2.2 t.1 t.2.1 (vp_updL rf y 0) p c m hc' hb' (leAdd L (y, co y, nn y, sh tx (40 * y), rf y)) ch' tx (upd sz y 0) cd' lc' ls' lt' W F (upN nn y 0) := by
  obtain ⟨r1, r2, r3, r4, r5, r6, r7, r8, r9⟩ := h
  have hpy := (r6.1.1 y hy).1
  have hnn : ∀ x, x < 64 → nn x ≤ 40 := fun x hx => (r3.1 x hx).2.1
  refine ⟨⟨r1.1, ?_, r1.2.2⟩, fun X hX => CoR_none (r2 X hX), ⟨?_, ?_⟩, ?_, ?_, ⟨r6.1, ?_, r6.2.2⟩, ⟨?_, ?_, fun i a hia => ⟨hch i a hia, hcd i a hia⟩⟩, ⟨leAdd_len r8.1, ?_, ?_, hhb, ?_⟩, ?_⟩
  · unfold upd
    rw [if_neg (by omega)]
    exact r1.2.1
  · intro x hx
    by_cases e : x = y
    · subst e
      refine ⟨?_, ?_, fun hp => ?_⟩
      · unfold upd upN
        rw [if_pos rfl, if_pos rfl]
        rfl
      · unfold upN
        rw [if_pos rfl]
        omega
      · unfold upN at hp
        rw [if_pos rfl] at hp
        omega
    · have eu : upN nn y 0 x = nn x := if_neg e
      rw [eu]
      obtain ⟨t1, t2, t3⟩ := r3.1 x hx
      refine ⟨?_, t2, t3⟩
      unfold upd
      rw [if_neg e]
      exact t1
  · intro x hx i hi
    unfold upN at hi
    by_cases e : x = y
    · rw [if_pos e] at hi
      omega
    · rw [if_neg e] at hi
      exact r3.2 x hx i hi
  · intro x hx
    unfold va_up vp_updL
    by_cases e : x = y
    · rw [if_pos e]
      refine ⟨fun _ => if_pos e, fun k hk => by cases hk⟩
    · rw [if_neg e, if_neg e]
      exact r4 x hx
  · rw [ht]
    refine chg_cv2 (fun x hx ki nu hV => wv_cv ?_ hV) (fun q hq => (r6.1.2 q hq).1) _ _ _ (by omega) r5
    unfold upN
    split
    · omega
    · exact hnn x hx
  · intro u hu w hw
    unfold vp_updL at hw
    by_cases e : u = y
    · rw [if_pos e, hbt_0] at hw
      cases hw
    · rw [if_neg e] at hw
      exact r6.2.1 u hu w hw
  · have := (chg_len (V := fun x => wv (F x) (upN nn y 0 x)) (G := vp_updL rf y 0) (c := c) (y := y) (64 - p y) (p y) (ki, nu, 0, [], 0)).1
    rw [ht]
    have e0 : ((ki, nu, (0 : Int64), ([] : List Nat), (0 : Nat)) : CG).2.2.2.1.length = 0 := rfl
    omega
  · have := (chg_len (V := fun x => wv (F x) (upN nn y 0 x)) (G := vp_updL rf y 0) (c := c) (y := y) (64 - p y) (p y) (ki, nu, 0, [], 0)).2
    rw [ht]
    have e0 : ((ki, nu, (0 : Int64), ([] : List Nat), (0 : Nat)) : CG).2.2.2.2 = 0 := rfl
    omega
  · rw [leAdd_lg]
    exact hlg
  · rw [leAdd_lm]
    exact hlm
  · intro e he
    rcases leAdd_mem he with q | q
    · exact r8.2.2.2.2 e q
    · subst q
      refine ⟨hy, hnn y hy, Or.inr ⟨k, F y, hk, ?_⟩⟩
      obtain ⟨-, q2⟩ := (r4 y hy).2 k hk
      rcases r2 (List.replicate 21 (exC 8)) rfl y hy with ⟨z1, -⟩ | ⟨k0, R0, z1, z2, z3, z4, z5, z6⟩
      · rw [hk] at z1
        cases z1
      · have ek : k0 = k := by rw [hk] at z1; exact (Option.some.inj z1).symm
        subst ek
        have hR : R0 = rf y := by
          obtain ⟨k2, g1, g2, g3, g4⟩ := z2
          obtain ⟨k3, g5⟩ := q2 (List.replicate 21 (exC 8)) rfl
          rw [g3] at g5
          injection g5 with g5
          injection g5 with g5
          injection g5 with _ g5
          injection g5 with _ g5
          injection g5 with g5 _
          injection g5
        refine ⟨z3, ?_, fun i hi => ⟨r3.2 y hy i hi, z6 i hi⟩, fun X hX => ?_⟩
        · show Txt (sh tx (40 * y)) (nn y) (rf y)
          rw [← hR]
          exact Txt_cg (fun i hi => r3.2 y hy i hi) z5
        · rcases r2 X hX y hy with ⟨y1, -⟩ | ⟨k4, R4, y1, y2, y3, y4, y5, y6⟩
          · rw [hk] at y1
            cases y1
          · have ek4 : k4 = k0 := by rw [hk] at y1; exact (Option.some.inj y1).symm
            subst ek4
            have hR4 : R4 = rf y := by
              obtain ⟨k2, g1, g2, g3, g4⟩ := y2
              obtain ⟨k3, g5⟩ := q2 X hX
              rw [g3] at g5
              injection g5 with g5
              injection g5 with g5
              injection g5 with _ g5
              injection g5 with _ g5
              injection g5 with g5 _
              injection g5
            show Cnt (X ++ W) k4 (F y) (nn y) (rf y)
            rw [← hR4]
            exact y2
  · exact leAdd_ch r9 (Acy_sub (ChOk_acy r9))
section
variable {G : xG} {l : Launch} {d kc ks kc0 ks0 : Nat} {Q : xQ} {h : xH}
set_option maxRecDepth 20000 in
set_option maxHeartbeats 4000000 in
theorem lg_clear1 (hl0 : l.stackTraces = false) (hG : G.2.2.2.2.1 ≤ 2048) {i : Nat} (hi : i + 3 < G.2.2.2.2.1) (hk0 : kc + 2 ≤ kc0) (hs0 : ks + 48 ≤ ks0) (K : ∀ (kc0 ks0 : Nat) (h : xH), kc ≤ kc0 → ks ≤ ks0 → Inv h → Rn G l (d + 81) m_Law_law 561 (lvL (nI i)) [] h kc0 ks0 Q) {y : Nat} (hy : y < 64) (ey : G.2.2.2.2.2 (i + 1) = nI y) {k : Nat} {ty : Nat → Int32} {n0 : Nat} {co : Nat → Option Nat} {Lc : List Nat} {wn : Nat} {rt : Nat} {rl : Int32} {ra : Int32} {rw : Int32} {rr : Int64} {rn : Int64} {re : Int32} {ta : Nat → TY} {ki : Nat → Int32} {nu : Nat → Int64} {rf : Nat → Int64} {p : Nat → Nat} {c : Nat → Nat} {m : Nat → Nat} {hc : Nat → Int32} {hb : Nat → Option Nat} {L : List LE} {ch : Nat → Int32} {th : Int32} {mv : Int32} {at_ : Int32} {en : Int32} {sa : Int32} {fi : Int32} {be : Int32} {se : Int64} {op : Int32} {va : Int32} {tx : Nat → Int32} {sz : Nat → Int32} {cd : Nat → Int32} {du : Nat → Int32} {m1 : Nat → Nat} {g1 : Nat → Nat} {lc : Nat → Int32} {ls_ : Nat → Int32} {lt : Nat → Int32} {oo : Nat → Int32} {pt : Nat → Int32} {me : Nat → Int32} {su : Nat → Int64} {vk : Nat → Int32} {vv : Nat → Int64} {o : Nat → Int64} {W : xH} {F : Nat → Nat → Int32} {nn : Nat → Nat} (hR : Rel ty n0 co Lc wn ki nu rf p c m hc hb L ch tx sz cd lc ls_ lt W F nn) (hk : co y = some k) : Rn G l (d + 81) m_Law_law 242 (lvL (nI i)) [] (hS ty (nI n0) co (nI Lc.length) (nI wn) rt rl ra rw rr rn re ta ki nu rf (nF p) (nF c) (nF m) hc hb (nI L.length) ch ++ (hM th (nI Lc.length) (nI wn) mv (nI L.length) at_ en sa fi be se op va tx sz ki nu rf (nF p) cd du (nF m1) (nF g1) lc ls_ lt oo pt me su vk vv ++ (oC o :: W))) kc0 ks0 Q := by
  have i1 : i + 1 < G.2.2.2.2.1 := by omega
  obtain ⟨a, rfl⟩ : ∃ a, kc0 = a + 2 := ⟨kc0 - 2, by omega⟩
  obtain ⟨b, rfl⟩ : ∃ b, ks0 = b + 48 := ⟨ks0 - 48, by omega⟩
  have hR0 := hR
  obtain ⟨r1, r2, r3, r4, r5, r6, r7, r8, r9⟩ := hR0
  have hnn : ∀ x, x < 64 → nn x ≤ 40 := fun x hx => (r3.1 x hx).2.1
  have eT : ∀ co F nn, (∀ X : xH, X.length = 21 → CoR (X ++ W) co F nn) → CoR (hM th (nI Lc.length) (nI wn) mv (nI L.length) at_ en sa fi be se op va tx sz ki nu rf (nF p) cd du (nF m1) (nF g1) lc ls_ lt oo pt me su vk vv ++ (oC o :: W)) co F nn := by
    intro co F nn h
    have := h (hM th (nI Lc.length) (nI wn) mv (nI L.length) at_ en sa fi be se op va tx sz ki nu rf (nF p) cd du (nF m1) (nF g1) lc ls_ lt oo pt me su vk vv ++ [oC o]) rfl
    rw [List.append_assoc] at this
    exact this
  have eI : ∀ j, j < 20 → isC (hM th (nI Lc.length) (nI wn) mv (nI L.length) at_ en sa fi be se op va tx sz ki nu rf (nF p) cd du (nF m1) (nF g1) lc ls_ lt oo pt me su vk vv ++ (oC o :: W)) (hb j) := by
    intro j hj
    have := r8.2.2.2.1 (hM th (nI Lc.length) (nI wn) mv (nI L.length) at_ en sa fi be se op va tx sz ki nu rf (nF p) cd du (nF m1) (nF g1) lc ls_ lt oo pt me su vk vv ++ [oC o]) rfl j hj
    rw [List.append_assoc] at this
    exact this
  have hkc : isC (hM th (nI Lc.length) (nI wn) mv (nI L.length) at_ en sa fi be se op va tx sz ki nu rf (nF p) cd du (nF m1) (nF g1) lc ls_ lt oo pt me su vk vv ++ (oC o :: W)) (co y) := by
    intro k1 hk1
    obtain ⟨u1, u2⟩ := (r4 y hy).2 k1 hk1
    obtain ⟨k2, u3⟩ := u2 (hM th (nI Lc.length) (nI wn) mv (nI L.length) at_ en sa fi be se op va tx sz ki nu rf (nF p) cd du (nF m1) (nF g1) lc ls_ lt oo pt me su vk vv ++ [oC o]) rfl
    rw [List.append_assoc] at u3
    exact ⟨u1, _, u3⟩
  have hAc : Acy (vp_updL rf y 0) := Acy_sub (ChOk_acy r9)
  have hlen : L.length = (L.map (fun e => (e.1, e.2.1))).length := (List.length_map _).symm
  refine xrun_ok [250] 7 _ _ _ _ ?_
  simp only [xrun, xRt_inl, xRX_inl, xset, xset2, lv_args, List.lookup_cons, List.filter_cons, List.filter_nil, List.lookup_nil, Value.category, List.contains_cons, List.contains_nil, Bool.or_false, Bool.false_or, Bool.or_true, Bool.true_or, Bool.and_true, Bool.true_and, Bool.and_false, Bool.false_and, Bool.not_true, Bool.not_false, Bool.false_eq_true, beq_self_eq_true, if_true, if_false, reduceIte, true_and, and_true, false_and, and_false, xF0, xF1, xF2, xF3, xL0, xL1, Nat.reduceAdd, Nat.reduceBEq, Nat.reduceLT, Nat.reduceSub, Nat.reduceEqDiff, List.getElem?_cons_zero, List.getElem?_cons_succ, List.set_cons_zero, List.set_cons_succ, List.length_cons, List.length_nil, List.take_succ_cons, List.take_zero, List.drop_succ_cons, List.drop_zero, List.reverse_cons, List.reverse_nil, List.nil_append, List.cons_append, List.map_cons, List.map_nil, List.sum_cons, List.sum_nil, Option.toList_some, Option.toList_none, forall_const, Option.some.injEq, exists_eq_left', xNar, xFit, xNb0, xNb1, xNc0, xNz, xFz0, xFz1, xFl, xNl, xNa, xFa, xFo, xNna, xFna, xNno, xFno, Nat.reduceLeDiff, Nat.add_sub_cancel, Nat.add_one_sub_one, xD1, xD2, reduceCtorEq, Nat.zero_add, not_true_eq_false, not_false_eq_true, true_or, or_true, false_or, or_false, eq_self, false_implies, true_implies, implies_true, x10, x00, xm10, x20, x30, Int32.reduceLT, Int32.reduceLE, Int32.reduceAdd, xe_0, xe_1, xe_2, xe_3, xe_4, xe_5, xe_6, xe_7, xe_8, xe_9, xe_10, xe_11, xe_12, xe_13, xe_14, xe_15, xe_16, xe_17, xe_18, xe_19, xe_20, xe_21, xe_22, xe_23, xe_24, xe_25, xe_26, xe_27, xe_28, xe_29, xe_30, xe_31, xe_32, xe_33, xe_34, xe_35, xe_36, xe_37, xe_38, xe_39, xe_40, xe_41, xe_42, xe_43, xe_44, xe_45, xe_46, xe_47, xe_48, xe_49, xe_50, xe_51, xe_52, xe_53, xe_54, xe_55, xe_56, xe_57, xe_58, xe_59, xe_60, xe_61, xe_62, xe_63, xe_64, xe_65, xe_66, xe_67, xe_68, xe_69, xe_70, xe_71, xe_72, xe_73, xe_74, xe_75, xe_76, xe_77, xe_78, xe_79, xe_80, xe_81, xe_82, xe_83, xe_84, xe_85, xe_86, D0_Law_law, D1_Law_law, D2_Law_law, D3_Law_law, D4_Law_law, D5_Law_law, D6_Law_law, D7_Law_law, D8_Law_law, DX_Law_law, lvL, HG, HMG hSlen, nI_1, xvi i1 (by omega), xcl i1 (by omega)]
  refine xk_callSW (idx := 56) (kc1 := 2) (ks1 := 48) (st := []) (d1 := d + 80) (M1 := m_Law_clear) [.ref 0, .int (G.2.2.2.2.2 (i + 1)), .ref 47] (by simp only [D0_Law_law, D1_Law_law, D2_Law_law, D3_Law_law]) rfl xcw_clear xini_law (by decide) (show (parseMethodDescriptor m_Law_clear.2.1.desc).map (fun d => d.parameters.length) = some 3 by decide +kernel) (by decide) xlk_Law_clear xst_clear
    (s_Law_clear (P1 := fun v h' => ∃ (t : CG) (hc1 : Nat → Int32) (hb1 : Nat → Option Nat) (ch1 : Nat → Int32) (rt1 : Nat) (rl1 ra1 rw1 : Int32) (rr1 rn1 : Int64) (re1 : Int32) (ta1 : Nat → TY), v = some (.int (nI t.2.2.2.1.length)) ∧ (LgR hc1 hb1 (lgAdd (L.map (fun e => (e.1, e.2.1))) (y, co y)) ∧ (∀ j, j < 20 → isC (hM th (nI Lc.length) (nI wn) mv (nI L.length) at_ en sa fi be se op va tx sz ki nu rf (nF p) cd du (nF m1) (nF g1) lc ls_ lt oo pt me su vk vv ++ (oC o :: W)) (hb1 j)) ∧ t = chg (fun x => wv (F x) (upN nn y 0 x)) (vp_updL rf y 0) c y (64 - p y) (p y) (ki, nu, 0, [], 0) ∧ (∀ (i a : Nat), t.2.2.2.1[i]? = some a → ch1 i = nI a)) ∧ h' = (hS ty (nI n0) (va_up co y none) (nI t.2.2.2.1.length) (nI t.2.2.2.2) rt1 rl1 ra1 rw1 rr1 rn1 re1 ta1 t.1 t.2.1 (vp_updL rf y 0) (nF p) (nF c) (nF m) hc1 hb1 (nI (lgAdd (L.map (fun e => (e.1, e.2.1))) (y, co y)).length) ch1 ++ (hM th (nI Lc.length) (nI wn) mv (nI L.length) at_ en sa fi be se op va tx sz ki nu rf (nF p) cd du (nF m1) (nF g1) lc ls_ lt oo pt me su vk vv ++ (oC o :: W)))) (QX := fun _ _ => False) (P := fun v h' => ∃ (t : CG) (hc1 : Nat → Int32) (hb1 : Nat → Option Nat) (ch1 : Nat → Int32) (rt1 : Nat) (rl1 ra1 rw1 : Int32) (rr1 rn1 : Int64) (re1 : Int32) (ta1 : Nat → TY), v = some (.int 0) ∧ (LgR hc1 hb1 (lgAdd (L.map (fun e => (e.1, e.2.1))) (y, co y)) ∧ (∀ j, j < 20 → isC (hM th (nI Lc.length) (nI wn) mv (nI L.length) at_ en sa fi be se op va tx sz ki nu rf (nF p) cd du (nF m1) (nF g1) lc ls_ lt oo pt me su vk vv ++ (oC o :: W)) (hb1 j)) ∧ t = chg (fun x => wv (F x) (upN nn y 0 x)) (vp_updL rf y 0) c y (64 - p y) (p y) (ki, nu, 0, [], 0) ∧ (∀ (i a : Nat), t.2.2.2.1[i]? = some a → ch1 i = nI a)) ∧ h' = (hS ty (nI n0) (va_up co y none) (nI t.2.2.2.1.length) (nI t.2.2.2.2) rt1 rl1 ra1 rw1 rr1 rn1 re1 ta1 t.1 t.2.1 (vp_updL rf y 0) (nF p) (nF c) (nF m) hc1 hb1 (nI (lgAdd (L.map (fun e => (e.1, e.2.1))) (y, co y)).length) ch1 ++ (hM th (nI Lc.length) (nI wn) mv (nI L.length) at_ en sa fi be se op va tx sz ki nu rf (nF p) cd du (nF m1) (nF g1) lc ls_ lt oo pt me su vk vv ++ (oC (vp_updL o 0 (nI t.2.2.2.1.length).toInt64) :: W)))) rfl _
      (by
        rw [ey]
        refine s_sh_clear (d := d) (F := F) (nn := upN nn y 0) (L := L.map (fun e => (e.1, e.2.1))) (m := m) (c := c) (p := p) hy hk r8.2.1 (by rw [← hlen]; exact r8.1) hlen eI hkc (eT _ _ _ (fun X hX => CoR_none (r2 X hX))) (fun x hx => ?_) r6.1 (Top_upd r6.2.1) hAc r6.2.2 r5 (fun t m' c' p' hc1 hb1 ch1 rt1 rl1 ra1 rw1 rr1 rn1 re1 ta1 w1 w2 w3 w4 w5 => ?_)
        · unfold upN
          split
          · omega
          · exact hnn x hx
        · rw [cRef_0 (updL_at _ _ _)] at w3
          obtain ⟨e1, e2⟩ := Prod.mk.inj w3
          obtain ⟨e3, e4⟩ := Prod.mk.inj e2
          refine ⟨t, hc1, hb1, ch1, rt1, rl1, ra1, rw1, rr1, rn1, re1, ta1, rfl, ⟨w1, w2, ?_, w5⟩, ?_⟩
          · rw [e3, e4] at w4
            exact w4
          · rw [e1, e3, e4])
      (fun v h' z => by
        obtain ⟨t, hc1, hb1, ch1, rt1, rl1, ra1, rw1, rr1, rn1, re1, ta1, rfl, z2, rfl⟩ := z
        exact ⟨_, o, rfl, rfl, t, hc1, hb1, ch1, rt1, rl1, ra1, rw1, rr1, rn1, re1, ta1, rfl, z2, rfl⟩)
      (fun ci h' z => z.elim)) (by omega) rfl (by decide) (fun v h' hp => ?_)
  obtain ⟨t, hc1, hb1, ch1, rt1, rl1, ra1, rw1, rr1, rn1, re1, ta1, rfl, ⟨w1, w2, w4, w5⟩, rfl⟩ := hp
  have hlm : L.length = (L.map (fun e => (e.1, e.2.2.1, e.2.2.2.1))).length := (List.length_map _).symm
  have hnz : 0 < nn y := by
    rcases r2 (List.replicate 21 (exC 8)) rfl y hy with ⟨z1, -⟩ | ⟨k0, R0, z1, z2, z3, -⟩
    · rw [hk] at z1
      cases z1
    · exact z3
  refine xrun_ok [] 8 _ _ _ _ ?_
  simp only [xrun, xRt_inl, xRX_inl, xset, xset2, lv_args, List.lookup_cons, List.filter_cons, List.filter_nil, List.lookup_nil, Value.category, List.contains_cons, List.contains_nil, Bool.or_false, Bool.false_or, Bool.or_true, Bool.true_or, Bool.and_true, Bool.true_and, Bool.and_false, Bool.false_and, Bool.not_true, Bool.not_false, Bool.false_eq_true, beq_self_eq_true, if_true, if_false, reduceIte, true_and, and_true, false_and, and_false, xF0, xF1, xF2, xF3, xL0, xL1, Nat.reduceAdd, Nat.reduceBEq, Nat.reduceLT, Nat.reduceSub, Nat.reduceEqDiff, List.getElem?_cons_zero, List.getElem?_cons_succ, List.set_cons_zero, List.set_cons_succ, List.length_cons, List.length_nil, List.take_succ_cons, List.take_zero, List.drop_succ_cons, List.drop_zero, List.reverse_cons, List.reverse_nil, List.nil_append, List.cons_append, List.map_cons, List.map_nil, List.sum_cons, List.sum_nil, Option.toList_some, Option.toList_none, forall_const, Option.some.injEq, exists_eq_left', xNar, xFit, xNb0, xNb1, xNc0, xNz, xFz0, xFz1, xFl, xNl, xNa, xFa, xFo, xNna, xFna, xNno, xFno, Nat.reduceLeDiff, Nat.add_sub_cancel, Nat.add_one_sub_one, xD1, xD2, reduceCtorEq, Nat.zero_add, not_true_eq_false, not_false_eq_true, true_or, or_true, false_or, or_false, eq_self, false_implies, true_implies, implies_true, x10, x00, xm10, x20, x30, Int32.reduceLT, Int32.reduceLE, Int32.reduceAdd, xe_0, xe_1, xe_2, xe_3, xe_4, xe_5, xe_6, xe_7, xe_8, xe_9, xe_10, xe_11, xe_12, xe_13, xe_14, xe_15, xe_16, xe_17, xe_18, xe_19, xe_20, xe_21, xe_22, xe_23, xe_24, xe_25, xe_26, xe_27, xe_28, xe_29, xe_30, xe_31, xe_32, xe_33, xe_34, xe_35, xe_36, xe_37, xe_38, xe_39, xe_40, xe_41, xe_42, xe_43, xe_44, xe_45, xe_46, xe_47, xe_48, xe_49, xe_50, xe_51, xe_52, xe_53, xe_54, xe_55, xe_56, xe_57, xe_58, xe_59, xe_60, xe_61, xe_62, xe_63, xe_64, xe_65, xe_66, xe_67, xe_68, xe_69, xe_70, xe_71, xe_72, xe_73, xe_74, xe_75, xe_76, xe_77, xe_78, xe_79, xe_80, xe_81, xe_82, xe_83, xe_84, xe_85, xe_86, D0_Law_law, D1_Law_law, D2_Law_law, D3_Law_law, D4_Law_law, D5_Law_law, D6_Law_law, D7_Law_law, D8_Law_law, DX_Law_law, lvL, HG, HMG hSlen, nI_1, xvi i1 (by omega), xcl i1 (by omega)]
  rw [ey]
  refine s_mo_clear (d := d + 69) (L := L.map (fun e => (e.1, e.2.2.1, e.2.2.2.1))) (c := c) (nn := nn) hSlen hy r5 r3.1 hnz r8.2.2.1 (by rw [← hlm]; exact r8.1) hlm r6.1 (fun t2 lc2 ls2 lt2 cd2 du2 at2 en2 sa2 fi2 be2 op2 va2 se2 oo2 pt2 me2 su2 vk2 vv2 q1 q2 q3 => ?_)
  have et : t2 = t := by
    rw [q2, w4]
    have := (r6.1.1 y hy).1
    refine chg_cg (fun x hx => ?_) (fun q hq => (r6.1.2 q hq).1) _ _ _ (by omega)
    funext ki nu
    refine wv_cg (fun i hi => ?_)
    unfold upN at hi
    split at hi
    · omega
    · exact (r3.2 x hx i hi).symm
  subst et
  refine xrun_ok [] 3 _ _ _ _ ?_
  simp only [xrun, xRt_inl, xRX_inl, xset, xset2, lv_args, List.lookup_cons, List.filter_cons, List.filter_nil, List.lookup_nil, Value.category, List.contains_cons, List.contains_nil, Bool.or_false, Bool.false_or, Bool.or_true, Bool.true_or, Bool.and_true, Bool.true_and, Bool.and_false, Bool.false_and, Bool.not_true, Bool.not_false, Bool.false_eq_true, beq_self_eq_true, if_true, if_false, reduceIte, true_and, and_true, false_and, and_false, xF0, xF1, xF2, xF3, xL0, xL1, Nat.reduceAdd, Nat.reduceBEq, Nat.reduceLT, Nat.reduceSub, Nat.reduceEqDiff, List.getElem?_cons_zero, List.getElem?_cons_succ, List.set_cons_zero, List.set_cons_succ, List.length_cons, List.length_nil, List.take_succ_cons, List.take_zero, List.drop_succ_cons, List.drop_zero, List.reverse_cons, List.reverse_nil, List.nil_append, List.cons_append, List.map_cons, List.map_nil, List.sum_cons, List.sum_nil, Option.toList_some, Option.toList_none, forall_const, Option.some.injEq, exists_eq_left', xNar, xFit, xNb0, xNb1, xNc0, xNz, xFz0, xFz1, xFl, xNl, xNa, xFa, xFo, xNna, xFna, xNno, xFno, Nat.reduceLeDiff, Nat.add_sub_cancel, Nat.add_one_sub_one, xD1, xD2, reduceCtorEq, Nat.zero_add, not_true_eq_false, not_false_eq_true, true_or, or_true, false_or, or_false, eq_self, false_implies, true_implies, implies_true, x10, x00, xm10, x20, x30, Int32.reduceLT, Int32.reduceLE, Int32.reduceAdd, xe_0, xe_1, xe_2, xe_3, xe_4, xe_5, xe_6, xe_7, xe_8, xe_9, xe_10, xe_11, xe_12, xe_13, xe_14, xe_15, xe_16, xe_17, xe_18, xe_19, xe_20, xe_21, xe_22, xe_23, xe_24, xe_25, xe_26, xe_27, xe_28, xe_29, xe_30, xe_31, xe_32, xe_33, xe_34, xe_35, xe_36, xe_37, xe_38, xe_39, xe_40, xe_41, xe_42, xe_43, xe_44, xe_45, xe_46, xe_47, xe_48, xe_49, xe_50, xe_51, xe_52, xe_53, xe_54, xe_55, xe_56, xe_57, xe_58, xe_59, xe_60, xe_61, xe_62, xe_63, xe_64, xe_65, xe_66, xe_67, xe_68, xe_69, xe_70, xe_71, xe_72, xe_73, xe_74, xe_75, xe_76, xe_77, xe_78, xe_79, xe_80, xe_81, xe_82, xe_83, xe_84, xe_85, xe_86, D0_Law_law, D1_Law_law, D2_Law_law, D3_Law_law, D4_Law_law, D5_Law_law, D6_Law_law, D7_Law_law, D8_Law_law, DX_Law_law, lvL, HG, HMG hSlen]
  refine s_Model_thrown hSlen ?_
  have hl1 : (lgAdd (L.map (fun e => (e.1, e.2.1))) (y, co y)).length = (leAdd L (y, co y, nn y, sh tx (40 * y), rf y)).length := by rw [← leAdd_lg (e := (y, co y, nn y, sh tx (40 * y), rf y)), List.length_map]
  have hl2 : (lmAdd (L.map (fun e => (e.1, e.2.2.1, e.2.2.2.1))) (y, nn y, sh tx (40 * y))).length = (leAdd L (y, co y, nn y, sh tx (40 * y), rf y)).length := by rw [← leAdd_lm (e := (y, co y, nn y, sh tx (40 * y), rf y)), List.length_map]
  rw [hl1, hl2]
  refine xrun_ok [561] 12 _ _ _ _ ?_
  simp only [xrun, xRt_inl, xRX_inl, xset, xset2, lv_args, List.lookup_cons, List.filter_cons, List.filter_nil, List.lookup_nil, Value.category, List.contains_cons, List.contains_nil, Bool.or_false, Bool.false_or, Bool.or_true, Bool.true_or, Bool.and_true, Bool.true_and, Bool.and_false, Bool.false_and, Bool.not_true, Bool.not_false, Bool.false_eq_true, beq_self_eq_true, if_true, if_false, reduceIte, true_and, and_true, false_and, and_false, xF0, xF1, xF2, xF3, xL0, xL1, Nat.reduceAdd, Nat.reduceBEq, Nat.reduceLT, Nat.reduceSub, Nat.reduceEqDiff, List.getElem?_cons_zero, List.getElem?_cons_succ, List.set_cons_zero, List.set_cons_succ, List.length_cons, List.length_nil, List.take_succ_cons, List.take_zero, List.drop_succ_cons, List.drop_zero, List.reverse_cons, List.reverse_nil, List.nil_append, List.cons_append, List.map_cons, List.map_nil, List.sum_cons, List.sum_nil, Option.toList_some, Option.toList_none, forall_const, Option.some.injEq, exists_eq_left', xNar, xFit, xNb0, xNb1, xNc0, xNz, xFz0, xFz1, xFl, xNl, xNa, xFa, xFo, xNna, xFna, xNno, xFno, Nat.reduceLeDiff, Nat.add_sub_cancel, Nat.add_one_sub_one, xD1, xD2, reduceCtorEq, Nat.zero_add, not_true_eq_false, not_false_eq_true, true_or, or_true, false_or, or_false, eq_self, false_implies, true_implies, implies_true, x10, x00, xm10, x20, x30, Int32.reduceLT, Int32.reduceLE, Int32.reduceAdd, xe_0, xe_1, xe_2, xe_3, xe_4, xe_5, xe_6, xe_7, xe_8, xe_9, xe_10, xe_11, xe_12, xe_13, xe_14, xe_15, xe_16, xe_17, xe_18, xe_19, xe_20, xe_21, xe_22, xe_23, xe_24, xe_25, xe_26, xe_27, xe_28, xe_29, xe_30, xe_31, xe_32, xe_33, xe_34, xe_35, xe_36, xe_37, xe_38, xe_39, xe_40, xe_41, xe_42, xe_43, xe_44, xe_45, xe_46, xe_47, xe_48, xe_49, xe_50, xe_51, xe_52, xe_53, xe_54, xe_55, xe_56, xe_57, xe_58, xe_59, xe_60, xe_61, xe_62, xe_63, xe_64, xe_65, xe_66, xe_67, xe_68, xe_69, xe_70, xe_71, xe_72, xe_73, xe_74, xe_75, xe_76, xe_77, xe_78, xe_79, xe_80, xe_81, xe_82, xe_83, xe_84, xe_85, xe_86, D0_Law_law, D1_Law_law, D2_Law_law, D3_Law_law, D4_Law_law, D5_Law_law, D6_Law_law, D7_Law_law, D8_Law_law, DX_Law_law, lvL, HO, xv01, xcn0, pk_uLs, xcmp_eq]
  exact Rn_sub _ (by simp [lvL]) (K _ _ _ (by omega) (by omega) ⟨ty, n0, (va_up co y none), t2.2.2.2.1, t2.2.2.2.2, rt1, rl1, ra1, rw1, rr1, rn1, re1, ta1, t2.1, t2.2.1, (vp_updL rf y 0), p, c, m, hc1, hb1, (leAdd L (y, co y, nn y, sh tx (40 * y), rf y)), ch1, 0, mv, _, _, _, _, _, _, _, _, tx, (upd sz y 0), _, _, m1, g1, _, _, _, _, _, _, _, _, _, (vp_updL o 0 (nI t2.2.2.2.1.length).toInt64), W, F, (upN nn y 0), rfl, Rel_clear hR hy hk w4 w5 q3 w1 q1 (fun X hX j hj => isC_any (w2 j hj) X hX)⟩)
end

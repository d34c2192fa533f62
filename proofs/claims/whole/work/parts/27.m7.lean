section
variable {ty : Nat → Int32} {tc : Int32} {co : Nat → Option Nat} {cc wc : Int32} {rt : Nat} {rl ra rw : Int32} {rr rn : Int64} {re : Int32} {ta : Nat → Int32 × Int32 × Int64 × Int64 × Int64} {ki : Nat → Int32} {nu rf : Nat → Int64} {pl ce mo hc : Nat → Int32} {hb : Nat → Option Nat} {hz : Int32} {ch : Nat → Int32} {T : xH} {G : xG}
theorem hSlen : (hS ty tc co cc wc rt rl ra rw rr rn re ta ki nu rf pl ce mo hc hb hz ch).length = 27 := rfl
end
section
variable {ty : Nat → Int32} {tc : Int32} {co : Nat → Option Nat} {cc wc : Int32} {rt : Nat} {rl ra rw : Int32} {rr rn : Int64} {re : Int32} {ta : Nat → Int32 × Int32 × Int64 × Int64 × Int64} {ki : Nat → Int32} {nu rf : Nat → Int64} {pl ce mo hc : Nat → Int32} {hb : Nat → Option Nat} {hz : Int32} {ch : Nat → Int32} {th cg wk mv lg at_ en sa fi be : Int32} {se : Int64} {op va : Int32} {tx sz kd : Nat → Int32} {nb rs : Nat → Int64} {pc_ cd du mr fr lc ls_ lt oo pt me : Nat → Int32} {su : Nat → Int64} {vk : Nat → Int32} {vv : Nat → Int64}
theorem HO {c : xC} {T : xH} : (hS ty tc co cc wc rt rl ra rw rr rn re ta ki nu rf pl ce mo hc hb hz ch ++ (hM th cg wk mv lg at_ en sa fi be se op va tx sz kd nb rs pc_ cd du mr fr lc ls_ lt oo pt me su vk vv ++ (c :: T)))[47]? = some c := rfl
end
section
variable {G : xG} {l : Launch} {d kc ks : Nat} {Q : xQ}
-- the law's own places
def lvL (i : Int32) : xL := [(0, .retAddr 0), (1, .ref 0), (2, .ref 27), (3, .ref 47), (4, .int i)]
abbrev oC (f : Nat → Int64) : xC := .inl (1, 1, .inr (.inl f))
-- behind the only call: the end
set_option maxRecDepth 20000 in
set_option maxHeartbeats 4000000 in
theorem l1_Law_end {h : xH} (hL : G.2.2.2.2.1 = 4) (hq : Q (.inl (some (.int 1))) h) : Rn G l (d + 1) m_Law_law 561 (lvL 0) [] h kc ks Q := by
  have e1 : (Int32.ofNat 4 - 4 < (4 : Int32)) = True := eq_true (by decide)
  refine xrun_ok [] 10 _ _ _ _ ?_
  simp only [xrun, xRt_inl, xRX_inl, xset, xset2, lv_args, List.lookup_cons, List.filter_cons, List.filter_nil, List.lookup_nil, Value.category, List.contains_cons, List.contains_nil, Bool.or_false, Bool.false_or, Bool.or_true, Bool.true_or, Bool.and_true, Bool.true_and, Bool.and_false, Bool.false_and, Bool.not_true, Bool.not_false, Bool.false_eq_true, beq_self_eq_true, if_true, if_false, reduceIte, true_and, and_true, false_and, and_false, xF0, xF1, xF2, xF3, xL0, xL1, Nat.reduceAdd, Nat.reduceBEq, Nat.reduceLT, Nat.reduceSub, Nat.reduceEqDiff, List.getElem?_cons_zero, List.getElem?_cons_succ, List.set_cons_zero, List.set_cons_succ, List.length_cons, List.length_nil, List.take_succ_cons, List.take_zero, List.drop_succ_cons, List.drop_zero, List.reverse_cons, List.reverse_nil, List.nil_append, List.cons_append, List.map_cons, List.map_nil, List.sum_cons, List.sum_nil, Option.toList_some, Option.toList_none, forall_const, Option.some.injEq, exists_eq_left', xNar, xFit, xNb0, xNb1, xNc0, xNz, xFz0, xFz1, xFl, xNl, xNa, xFa, xFo, xNna, xFna, xNno, xFno, Nat.reduceLeDiff, Nat.add_sub_cancel, Nat.add_one_sub_one, xD1, xD2, reduceCtorEq, Nat.zero_add, not_true_eq_false, not_false_eq_true, true_or, or_true, false_or, or_false, eq_self, false_implies, true_implies, implies_true, x10, x00, xm10, x20, x30, Int32.reduceLT, Int32.reduceLE, Int32.reduceAdd, xe_0, xe_1, xe_2, xe_3, xe_4, xe_5, xe_6, xe_7, xe_8, xe_9, xe_10, xe_11, xe_12, xe_13, xe_14, xe_15, xe_16, xe_17, xe_18, xe_19, xe_20, xe_21, xe_22, xe_23, xe_24, xe_25, xe_26, xe_27, xe_28, xe_29, xe_30, xe_31, xe_32, xe_33, xe_34, xe_35, xe_36, xe_37, xe_38, xe_39, xe_40, xe_41, xe_42, xe_43, xe_44, xe_45, xe_46, xe_47, xe_48, xe_49, xe_50, xe_51, xe_52, xe_53, xe_54, xe_55, xe_56, xe_57, xe_58, xe_59, xe_60, xe_61, xe_62, xe_63, xe_64, xe_65, xe_66, xe_67, xe_68, xe_69, xe_70, xe_71, xe_72, xe_73, xe_74, xe_75, xe_76, xe_77, xe_78, xe_79, xe_80, xe_81, xe_82, xe_83, xe_84, xe_85, xe_86, D0_Law_law, D1_Law_law, D2_Law_law, D3_Law_law, D4_Law_law, D5_Law_law, D6_Law_law, D7_Law_law, D8_Law_law, DX_Law_law, lvL, hL, e1]
  exact ⟨.boolean, rfl, rfl, hq⟩
set_option maxRecDepth 20000 in
set_option maxHeartbeats 4000000 in
theorem l2_Law_none {h : xH} (hL : G.2.2.2.2.1 < 4) (hq : Q (.inl (some (.int 1))) h) : Rn G l (d + 1) m_Law_law 23 (lvL 0) [] h kc ks Q := by
  have e1 : ∀ n, n < 4 → (Int32.ofNat n - 4 < (0 : Int32)) = True := fun n hn => eq_true (by
    have : ∀ n, n < 4 → Int32.ofNat n - 4 < (0 : Int32) := by decide
    exact this n hn)
  refine xrun_ok [] 10 _ _ _ _ ?_
  simp only [xrun, xRt_inl, xRX_inl, xset, xset2, lv_args, List.lookup_cons, List.filter_cons, List.filter_nil, List.lookup_nil, Value.category, List.contains_cons, List.contains_nil, Bool.or_false, Bool.false_or, Bool.or_true, Bool.true_or, Bool.and_true, Bool.true_and, Bool.and_false, Bool.false_and, Bool.not_true, Bool.not_false, Bool.false_eq_true, beq_self_eq_true, if_true, if_false, reduceIte, true_and, and_true, false_and, and_false, xF0, xF1, xF2, xF3, xL0, xL1, Nat.reduceAdd, Nat.reduceBEq, Nat.reduceLT, Nat.reduceSub, Nat.reduceEqDiff, List.getElem?_cons_zero, List.getElem?_cons_succ, List.set_cons_zero, List.set_cons_succ, List.length_cons, List.length_nil, List.take_succ_cons, List.take_zero, List.drop_succ_cons, List.drop_zero, List.reverse_cons, List.reverse_nil, List.nil_append, List.cons_append, List.map_cons, List.map_nil, List.sum_cons, List.sum_nil, Option.toList_some, Option.toList_none, forall_const, Option.some.injEq, exists_eq_left', xNar, xFit, xNb0, xNb1, xNc0, xNz, xFz0, xFz1, xFl, xNl, xNa, xFa, xFo, xNna, xFna, xNno, xFno, Nat.reduceLeDiff, Nat.add_sub_cancel, Nat.add_one_sub_one, xD1, xD2, reduceCtorEq, Nat.zero_add, not_true_eq_false, not_false_eq_true, true_or, or_true, false_or, or_false, eq_self, false_implies, true_implies, implies_true, x10, x00, xm10, x20, x30, Int32.reduceLT, Int32.reduceLE, Int32.reduceAdd, xe_0, xe_1, xe_2, xe_3, xe_4, xe_5, xe_6, xe_7, xe_8, xe_9, xe_10, xe_11, xe_12, xe_13, xe_14, xe_15, xe_16, xe_17, xe_18, xe_19, xe_20, xe_21, xe_22, xe_23, xe_24, xe_25, xe_26, xe_27, xe_28, xe_29, xe_30, xe_31, xe_32, xe_33, xe_34, xe_35, xe_36, xe_37, xe_38, xe_39, xe_40, xe_41, xe_42, xe_43, xe_44, xe_45, xe_46, xe_47, xe_48, xe_49, xe_50, xe_51, xe_52, xe_53, xe_54, xe_55, xe_56, xe_57, xe_58, xe_59, xe_60, xe_61, xe_62, xe_63, xe_64, xe_65, xe_66, xe_67, xe_68, xe_69, xe_70, xe_71, xe_72, xe_73, xe_74, xe_75, xe_76, xe_77, xe_78, xe_79, xe_80, xe_81, xe_82, xe_83, xe_84, xe_85, xe_86, D0_Law_law, D1_Law_law, D2_Law_law, D3_Law_law, D4_Law_law, D5_Law_law, D6_Law_law, D7_Law_law, D8_Law_law, DX_Law_law, lvL, e1 _ hL]
  exact ⟨.boolean, rfl, rfl, hq⟩
-- the switch
set_option maxRecDepth 20000 in
set_option maxHeartbeats 4000000 in
theorem l3_Law_switch {h : xH} (hL : G.2.2.2.2.1 = 4) (K : ∀ j : Nat, j < 13 → Rn G l (d + 1) m_Law_law ([104, 173, 186, 242, 298, 342, 397, 422, 459, 485, 510, 535, 548].getD j 0) (lvL 0) [] h kc ks Q) (K0 : Rn G l (d + 1) m_Law_law 561 (lvL 0) [] h kc ks Q) : Rn G l (d + 1) m_Law_law 23 (lvL 0) [] h kc ks Q := by
  have e1 : (Int32.ofNat 4 - 4 < (0 : Int32)) = False := eq_false (by decide)
  have e2 : vp_in 0 4 = True := eq_true (by rw [show (0 : Int32) = nI 0 from rfl]; exact vp_in_nI (by decide) (by decide))
  refine xrun_ok [39] 11 _ _ _ _ ?_
  simp only [xrun, xRt_inl, xRX_inl, xset, xset2, lv_args, List.lookup_cons, List.filter_cons, List.filter_nil, List.lookup_nil, Value.category, List.contains_cons, List.contains_nil, Bool.or_false, Bool.false_or, Bool.or_true, Bool.true_or, Bool.and_true, Bool.true_and, Bool.and_false, Bool.false_and, Bool.not_true, Bool.not_false, Bool.false_eq_true, beq_self_eq_true, if_true, if_false, reduceIte, true_and, and_true, false_and, and_false, xF0, xF1, xF2, xF3, xL0, xL1, Nat.reduceAdd, Nat.reduceBEq, Nat.reduceLT, Nat.reduceSub, Nat.reduceEqDiff, List.getElem?_cons_zero, List.getElem?_cons_succ, List.set_cons_zero, List.set_cons_succ, List.length_cons, List.length_nil, List.take_succ_cons, List.take_zero, List.drop_succ_cons, List.drop_zero, List.reverse_cons, List.reverse_nil, List.nil_append, List.cons_append, List.map_cons, List.map_nil, List.sum_cons, List.sum_nil, Option.toList_some, Option.toList_none, forall_const, Option.some.injEq, exists_eq_left', xNar, xFit, xNb0, xNb1, xNc0, xNz, xFz0, xFz1, xFl, xNl, xNa, xFa, xFo, xNna, xFna, xNno, xFno, Nat.reduceLeDiff, Nat.add_sub_cancel, Nat.add_one_sub_one, xD1, xD2, reduceCtorEq, Nat.zero_add, not_true_eq_false, not_false_eq_true, true_or, or_true, false_or, or_false, eq_self, false_implies, true_implies, implies_true, x10, x00, xm10, x20, x30, Int32.reduceLT, Int32.reduceLE, Int32.reduceAdd, xe_0, xe_1, xe_2, xe_3, xe_4, xe_5, xe_6, xe_7, xe_8, xe_9, xe_10, xe_11, xe_12, xe_13, xe_14, xe_15, xe_16, xe_17, xe_18, xe_19, xe_20, xe_21, xe_22, xe_23, xe_24, xe_25, xe_26, xe_27, xe_28, xe_29, xe_30, xe_31, xe_32, xe_33, xe_34, xe_35, xe_36, xe_37, xe_38, xe_39, xe_40, xe_41, xe_42, xe_43, xe_44, xe_45, xe_46, xe_47, xe_48, xe_49, xe_50, xe_51, xe_52, xe_53, xe_54, xe_55, xe_56, xe_57, xe_58, xe_59, xe_60, xe_61, xe_62, xe_63, xe_64, xe_65, xe_66, xe_67, xe_68, xe_69, xe_70, xe_71, xe_72, xe_73, xe_74, xe_75, xe_76, xe_77, xe_78, xe_79, xe_80, xe_81, xe_82, xe_83, xe_84, xe_85, xe_86, D0_Law_law, D1_Law_law, D2_Law_law, D3_Law_law, D4_Law_law, D5_Law_law, D6_Law_law, D7_Law_law, D8_Law_law, DX_Law_law, lvL, hL, e1, e2]
  obtain ⟨j, hj, ej⟩ := pk_andE (G.2.2.2.2.2 (0 : Int32).toNatClampNeg) (m := 15) 4 (by decide)
  rw [ej]
  have hj16 : j < 16 := hj
  have hd : decode m_Law_law.1 39 = .ok (.tableswitch 522 0 12 #[65, 134, 147, 203, 259, 303, 358, 383, 420, 446, 471, 496, 509], 65) := by decide +kernel
  have et : (nI j).toInt = (j : Int) := nI_toInt (by omega)
  by_cases h13 : j < 13
  · have hK := K j h13
    have hx : ∀ j, j < 13 → ∃ off : Int, (#[65, 134, 147, 203, 259, 303, 358, 383, 420, 446, 471, 496, 509] : Array Int)[j]? = some off ∧ (39 : Int) + off = (([104, 173, 186, 242, 298, 342, 397, 422, 459, 485, 510, 535, 548].getD j 0 : Nat) : Int) := by
      intro j hj
      match j, hj with
      | 0, _ => exact ⟨65, rfl, rfl⟩
      | 1, _ => exact ⟨134, rfl, rfl⟩
      | 2, _ => exact ⟨147, rfl, rfl⟩
      | 3, _ => exact ⟨203, rfl, rfl⟩
      | 4, _ => exact ⟨259, rfl, rfl⟩
      | 5, _ => exact ⟨303, rfl, rfl⟩
      | 6, _ => exact ⟨358, rfl, rfl⟩
      | 7, _ => exact ⟨383, rfl, rfl⟩
      | 8, _ => exact ⟨420, rfl, rfl⟩
      | 9, _ => exact ⟨446, rfl, rfl⟩
      | 10, _ => exact ⟨471, rfl, rfl⟩
      | 11, _ => exact ⟨496, rfl, rfl⟩
      | 12, _ => exact ⟨509, rfl, rfl⟩
    obtain ⟨off, h1, h2⟩ := hx j h13
    refine xk_tableIn _ hd (by rw [et]; omega) (by rw [et]; omega) (off := off) (by rw [et]; simpa using h1) h2 ?_
    exact Rn_sub _ (by simp [lvL]) hK
  · refine xk_tableOut 561 hd (by rw [et]; omega) rfl ?_
    exact Rn_sub _ (by simp [lvL]) K0
end

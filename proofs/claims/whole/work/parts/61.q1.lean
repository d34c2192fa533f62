def b2i (b : Bool) : Int32 := if b = true then 1 else 0
def sh (tx : Nat → Int32) (B : Nat) : Nat → Int32 := fun i => tx (B + i)
theorem ahd_sh {tx : Nat → Int32} {B a n j : Nat} : ahd tx (B + a) (B + n) j = ahd (sh tx B) a n j := by
  unfold ahd sh
  by_cases h : a + j < n
  · rw [if_pos h, if_pos (by omega), Nat.add_assoc]
  · rw [if_neg h, if_neg (by omega)]
set_option maxRecDepth 20000 in
set_option maxHeartbeats 4000000 in
theorem s_Model_tightness (w : Int32) {l : Launch} {d : Nat} {P : Option Value → xH → Prop} {h : xH} (hq : P (some (.int (nI (tg w)))) h) : Mt l (d + 1) m_Model_tightness [.int w] h 0 0 (xRt P) := by
  refine xMr (by decide) rfl (by simp [lg_sl, Value.category, DX_Model_tightness]) (fun G => ?_)
  unfold tg at hq
  refine xrun_ok [] 30 _ _ _ _ ?_
  simp only [xrun, xRt_inl, xRX_inl, xset, xset2, lv_args, List.lookup_cons, List.filter_cons, List.filter_nil, List.lookup_nil, Value.category, List.contains_cons, List.contains_nil, Bool.or_false, Bool.false_or, Bool.or_true, Bool.true_or, Bool.and_true, Bool.true_and, Bool.and_false, Bool.false_and, Bool.not_true, Bool.not_false, Bool.false_eq_true, beq_self_eq_true, if_true, if_false, reduceIte, true_and, and_true, false_and, and_false, xF0, xF1, xF2, xF3, xL0, xL1, Nat.reduceAdd, Nat.reduceBEq, Nat.reduceLT, Nat.reduceSub, Nat.reduceEqDiff, List.getElem?_cons_zero, List.getElem?_cons_succ, List.set_cons_zero, List.set_cons_succ, List.length_cons, List.length_nil, List.take_succ_cons, List.take_zero, List.drop_succ_cons, List.drop_zero, List.reverse_cons, List.reverse_nil, List.nil_append, List.cons_append, List.map_cons, List.map_nil, List.sum_cons, List.sum_nil, Option.toList_some, Option.toList_none, forall_const, Option.some.injEq, exists_eq_left', xNar, xFit, xNb0, xNb1, xNc0, xNz, xFz0, xFz1, xFl, xNl, xNa, xFa, xFo, xNna, xFna, xNno, xFno, Nat.reduceLeDiff, Nat.add_sub_cancel, Nat.add_one_sub_one, xD1, xD2, reduceCtorEq, Nat.zero_add, not_true_eq_false, not_false_eq_true, true_or, or_true, false_or, or_false, eq_self, false_implies, true_implies, implies_true, x10, x00, xm10, x20, x30, Int32.reduceLT, Int32.reduceLE, Int32.reduceAdd, xe_0, xe_1, xe_2, xe_3, xe_4, xe_5, xe_6, xe_7, xe_8, xe_9, xe_10, xe_11, xe_12, xe_13, xe_14, xe_15, xe_16, xe_17, xe_18, xe_19, xe_20, xe_21, xe_22, xe_23, xe_24, xe_25, xe_26, xe_27, xe_28, xe_29, xe_30, xe_31, xe_32, xe_33, xe_34, xe_35, xe_36, xe_37, xe_38, xe_39, xe_40, xe_41, xe_42, xe_43, xe_44, xe_45, xe_46, xe_47, xe_48, xe_49, xe_50, xe_51, xe_52, xe_53, xe_54, xe_55, xe_56, xe_57, xe_58, xe_59, xe_60, xe_61, xe_62, xe_63, xe_64, xe_65, xe_66, xe_67, xe_68, xe_69, xe_70, xe_71, xe_72, xe_73, xe_74, xe_75, xe_76, xe_77, xe_78, xe_79, xe_80, xe_81, xe_82, xe_83, xe_84, xe_85, xe_86, D0_Model_tightness, DX_Model_tightness]
  by_cases z20 : w = 20
  · rw [if_pos z20] at hq
    exact ⟨fun z => absurd z20 z, fun _ => hq⟩
  rw [if_neg z20] at hq
  refine ⟨fun _ => ?_, fun z => absurd z z20⟩
  by_cases z3 : w = 42 ∨ w = 47 ∨ w = 37
  · rw [if_pos z3] at hq
    refine ⟨fun _ => hq, fun n1 => ⟨fun _ => hq, fun n2 => ⟨fun n3 => absurd z3 (fun q => q.elim n1 (fun q => q.elim n2 n3)), fun _ => hq⟩⟩⟩
  rw [if_neg z3] at hq
  refine ⟨fun z => absurd (Or.inl z) z3, fun _ => ⟨fun z => absurd (Or.inr (Or.inl z)) z3, fun _ => ⟨fun _ => ?_, fun z => absurd (Or.inr (Or.inr z)) z3⟩⟩⟩
  by_cases z2 : w = 43 ∨ w = 45
  · rw [if_pos z2] at hq
    refine ⟨fun _ => hq, fun n1 => ⟨fun n2 => absurd z2 (fun q => q.elim n1 n2), fun _ => hq⟩⟩
  rw [if_neg z2] at hq
  refine ⟨fun z => absurd (Or.inl z) z2, fun _ => ⟨fun _ => ?_, fun z => absurd (Or.inr z) z2⟩⟩
  by_cases z1 : 40 < w
  · rw [if_pos z1] at hq
    exact ⟨fun z => absurd z1 (Int32.not_lt.mpr z), fun _ => hq⟩
  · rw [if_neg z1] at hq
    exact ⟨fun _ => hq, fun z => absurd (Int32.not_lt.mp z1) z⟩
set_option maxRecDepth 20000 in
set_option maxHeartbeats 4000000 in
theorem s_Model_signOf {l : Launch} {d : Nat} {P : Option Value → xH → Prop} {h : xH} (b : Bool) (hq : P (some (.int (b2i b))) h) : Mt l (d + 1) m_Model_signOf [.int (b2i b)] h 0 0 (xRt P) := by
  refine xMr (by decide) rfl (by simp [lg_sl, Value.category, DX_Model_signOf]) (fun G => ?_)
  cases b with
  | true =>
    unfold b2i at hq ⊢
    refine xrun_ok [] 12 _ _ _ _ ?_
    simp only [xrun, xRt_inl, xRX_inl, xset, xset2, lv_args, List.lookup_cons, List.filter_cons, List.filter_nil, List.lookup_nil, Value.category, List.contains_cons, List.contains_nil, Bool.or_false, Bool.false_or, Bool.or_true, Bool.true_or, Bool.and_true, Bool.true_and, Bool.and_false, Bool.false_and, Bool.not_true, Bool.not_false, Bool.false_eq_true, beq_self_eq_true, if_true, if_false, reduceIte, true_and, and_true, false_and, and_false, xF0, xF1, xF2, xF3, xL0, xL1, Nat.reduceAdd, Nat.reduceBEq, Nat.reduceLT, Nat.reduceSub, Nat.reduceEqDiff, List.getElem?_cons_zero, List.getElem?_cons_succ, List.set_cons_zero, List.set_cons_succ, List.length_cons, List.length_nil, List.take_succ_cons, List.take_zero, List.drop_succ_cons, List.drop_zero, List.reverse_cons, List.reverse_nil, List.nil_append, List.cons_append, List.map_cons, List.map_nil, List.sum_cons, List.sum_nil, Option.toList_some, Option.toList_none, forall_const, Option.some.injEq, exists_eq_left', xNar, xFit, xNb0, xNb1, xNc0, xNz, xFz0, xFz1, xFl, xNl, xNa, xFa, xFo, xNna, xFna, xNno, xFno, Nat.reduceLeDiff, Nat.add_sub_cancel, Nat.add_one_sub_one, xD1, xD2, reduceCtorEq, Nat.zero_add, not_true_eq_false, not_false_eq_true, true_or, or_true, false_or, or_false, eq_self, false_implies, true_implies, implies_true, x10, x00, xm10, x20, x30, Int32.reduceLT, Int32.reduceLE, Int32.reduceAdd, xe_0, xe_1, xe_2, xe_3, xe_4, xe_5, xe_6, xe_7, xe_8, xe_9, xe_10, xe_11, xe_12, xe_13, xe_14, xe_15, xe_16, xe_17, xe_18, xe_19, xe_20, xe_21, xe_22, xe_23, xe_24, xe_25, xe_26, xe_27, xe_28, xe_29, xe_30, xe_31, xe_32, xe_33, xe_34, xe_35, xe_36, xe_37, xe_38, xe_39, xe_40, xe_41, xe_42, xe_43, xe_44, xe_45, xe_46, xe_47, xe_48, xe_49, xe_50, xe_51, xe_52, xe_53, xe_54, xe_55, xe_56, xe_57, xe_58, xe_59, xe_60, xe_61, xe_62, xe_63, xe_64, xe_65, xe_66, xe_67, xe_68, xe_69, xe_70, xe_71, xe_72, xe_73, xe_74, xe_75, xe_76, xe_77, xe_78, xe_79, xe_80, xe_81, xe_82, xe_83, xe_84, xe_85, xe_86, D0_Model_signOf, DX_Model_signOf]
    exact hq
  | false =>
    unfold b2i at hq ⊢
    refine xrun_ok [] 12 _ _ _ _ ?_
    simp only [xrun, xRt_inl, xRX_inl, xset, xset2, lv_args, List.lookup_cons, List.filter_cons, List.filter_nil, List.lookup_nil, Value.category, List.contains_cons, List.contains_nil, Bool.or_false, Bool.false_or, Bool.or_true, Bool.true_or, Bool.and_true, Bool.true_and, Bool.and_false, Bool.false_and, Bool.not_true, Bool.not_false, Bool.false_eq_true, beq_self_eq_true, if_true, if_false, reduceIte, true_and, and_true, false_and, and_false, xF0, xF1, xF2, xF3, xL0, xL1, Nat.reduceAdd, Nat.reduceBEq, Nat.reduceLT, Nat.reduceSub, Nat.reduceEqDiff, List.getElem?_cons_zero, List.getElem?_cons_succ, List.set_cons_zero, List.set_cons_succ, List.length_cons, List.length_nil, List.take_succ_cons, List.take_zero, List.drop_succ_cons, List.drop_zero, List.reverse_cons, List.reverse_nil, List.nil_append, List.cons_append, List.map_cons, List.map_nil, List.sum_cons, List.sum_nil, Option.toList_some, Option.toList_none, forall_const, Option.some.injEq, exists_eq_left', xNar, xFit, xNb0, xNb1, xNc0, xNz, xFz0, xFz1, xFl, xNl, xNa, xFa, xFo, xNna, xFna, xNno, xFno, Nat.reduceLeDiff, Nat.add_sub_cancel, Nat.add_one_sub_one, xD1, xD2, reduceCtorEq, Nat.zero_add, not_true_eq_false, not_false_eq_true, true_or, or_true, false_or, or_false, eq_self, false_implies, true_implies, implies_true, x10, x00, xm10, x20, x30, Int32.reduceLT, Int32.reduceLE, Int32.reduceAdd, xe_0, xe_1, xe_2, xe_3, xe_4, xe_5, xe_6, xe_7, xe_8, xe_9, xe_10, xe_11, xe_12, xe_13, xe_14, xe_15, xe_16, xe_17, xe_18, xe_19, xe_20, xe_21, xe_22, xe_23, xe_24, xe_25, xe_26, xe_27, xe_28, xe_29, xe_30, xe_31, xe_32, xe_33, xe_34, xe_35, xe_36, xe_37, xe_38, xe_39, xe_40, xe_41, xe_42, xe_43, xe_44, xe_45, xe_46, xe_47, xe_48, xe_49, xe_50, xe_51, xe_52, xe_53, xe_54, xe_55, xe_56, xe_57, xe_58, xe_59, xe_60, xe_61, xe_62, xe_63, xe_64, xe_65, xe_66, xe_67, xe_68, xe_69, xe_70, xe_71, xe_72, xe_73, xe_74, xe_75, xe_76, xe_77, xe_78, xe_79, xe_80, xe_81, xe_82, xe_83, xe_84, xe_85, xe_86, D0_Model_signOf, DX_Model_signOf]
    exact hq

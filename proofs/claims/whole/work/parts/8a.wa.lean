-- the places of a new object
def pI : Nat → Nat := fun j => if j < 64 then j else 0
theorem pI_ini : ini 64 = nF pI := by
  funext j
  unfold ini nF pI
  by_cases h : j < 64
  · rw [if_pos h, if_pos h]
  · rw [if_neg h, if_neg h]
    rfl
theorem pI_prm : Prm pI pI := by
  have e : ∀ i, i < 64 → pI i = i := fun i hi => if_pos hi
  exact ⟨fun i hi => by rw [e i hi, e i hi]; exact ⟨hi, rfl⟩, fun i hi => by rw [e i hi, e i hi]; exact ⟨hi, rfl⟩⟩
theorem Inv_new : Inv (hS0 ++ (hM0 ++ [oC (fun _ => 0)])) := by
  have hb0 : ∀ u : Nat, hbt (0 : Int64) u = true → False := by
    intro u hu
    rw [hbt_0] at hu
    cases hu
  refine ⟨(fun _ => 0), 0, (fun _ => none), [], 0, 17, 0, 0, 0, 0, 0, 0, (fun _ => (0, 0, 0, 0, 0)), (fun _ => 0), (fun _ => 0), (fun _ => 0), pI, pI, (fun _ => 0), (fun _ => 0), (fun _ => none), [], (fun _ => 0), 0, 0, 0, 0, 0, 0, 0, 0, 0, 0, (fun _ => 0), (fun _ => 0), (fun _ => 0), (fun _ => 0), (fun _ => 0), (fun _ => 0), (fun _ => 0), (fun _ => 0), (fun _ => 0), (fun _ => 0), (fun _ => 0), (fun _ => 0), (fun _ => 0), (fun _ => 0), (fun _ => 0), (fun _ => 0), [], (fun _ _ => 0), (fun _ => 0), ?_, ?_⟩
  · unfold hS0 hM0
    rw [pI_ini]
    rfl
  · refine ⟨⟨Nat.zero_le _, rfl, fun i hi => absurd hi (Nat.not_lt_zero _)⟩, fun X hX y hy => Or.inl ⟨rfl, rfl⟩, ⟨fun y hy => ⟨rfl, Nat.zero_le _, fun w => absurd w (Nat.lt_irrefl _)⟩, fun y hy i hi => absurd hi (Nat.not_lt_zero _)⟩, fun y hy => ⟨fun _ => rfl, fun k hk => (by cases hk)⟩, CV_0, ⟨pI_prm, fun u hu w hw => (hb0 w hw).elim, fun i hi => Nat.lt_of_le_of_lt (Nat.zero_le i) hi⟩, ⟨Nat.zero_le _, Nat.zero_le _, fun i a h => (by cases h)⟩, ⟨Nat.zero_le _, fun i e h => (by cases h), fun i e h => (by cases h), fun X hX j hj k hk => (by cases hk), fun e he => (by cases he)⟩, ⟨fun _ => 0, fun u w hu hw => (hb0 w hw).elim⟩⟩

section
variable {G : xG} {l : Launch} {d kc ks : Nat} {Q : xQ}
theorem len_sub (hG : G.2.2.2.2.1 ≤ 2048) (h4 : 4 ≤ G.2.2.2.2.1) : Int32.ofNat G.2.2.2.2.1 - 4 = nI (G.2.2.2.2.1 - 4) := by
  have := nI_subl 4 (G.2.2.2.2.1 - 4)
  rw [show 4 + (G.2.2.2.2.1 - 4) = G.2.2.2.2.1 by omega] at this
  exact this
-- the switch, at any call
set_option maxRecDepth 20000 in
set_option maxHeartbeats 4000000 in
theorem l6_Law_switch {h : xH} (hG : G.2.2.2.2.1 ≤ 2048) {i : Nat} (hi : i + 3 < G.2.2.2.2.1) (K : ∀ j : Nat, j < 13 → Rn G l (d + 1) m_Law_law ([104, 173, 186, 242, 298, 342, 397, 422, 459, 485, 510, 535, 548].getD j 0) (lvL (nI i)) [] h kc ks Q) (K0 : Rn G l (d + 1) m_Law_law 561 (lvL (nI i)) [] h kc ks Q) : Rn G l (d + 1) m_Law_law 23 (lvL (nI i)) [] h kc ks Q := by
  have i0 : i < G.2.2.2.2.1 := by omega
  have e1 : (Int32.ofNat G.2.2.2.2.1 - 4 < nI i) = False := by
    rw [len_sub hG (by omega), xnlt _ _ (by omega) (by omega)]
    exact eq_false (by omega)
  refine xrun_ok [39] 11 _ _ _ _ ?_
  simp only [xrun, xRt_inl, xRX_inl, xset, xset2, lv_args, List.lookup_cons, List.filter_cons, List.filter_nil, List.lookup_nil, Value.category, List.contains_cons, List.contains_nil, Bool.or_false, Bool.false_or, Bool.or_true, Bool.true_or, Bool.and_true, Bool.true_and, Bool.and_false, Bool.false_and, Bool.not_true, Bool.not_false, Bool.false_eq_true, beq_self_eq_true, if_true, if_false, reduceIte, true_and, and_true, false_and, and_false, xF0, xF1, xF2, xF3, xL0, xL1, Nat.reduceAdd, Nat.reduceBEq, Nat.reduceLT, Nat.reduceSub, Nat.reduceEqDiff, List.getElem?_cons_zero, List.getElem?_cons_succ, List.set_cons_zero, List.set_cons_succ, List.length_cons, List.length_nil, List.take_succ_cons, List.take_zero, List.drop_succ_cons, List.drop_zero, List.reverse_cons, List.reverse_nil, List.nil_append, List.cons_append, List.map_cons, List.map_nil, List.sum_cons, List.sum_nil, Option.toList_some, Option.toList_none, forall_const, Option.some.injEq, exists_eq_left', xNar, xFit, xNb0, xNb1, xNc0, xNz, xFz0, xFz1, xFl, xNl, xNa, xFa, xFo, xNna, xFna, xNno, xFno, Nat.reduceLeDiff, Nat.add_sub_cancel, Nat.add_one_sub_one, xD1, xD2, reduceCtorEq, Nat.zero_add, not_true_eq_false, not_false_eq_true, true_or, or_true, false_or, or_false, eq_self, false_implies, true_implies, implies_true, x10, x00, xm10, x20, x30, Int32.reduceLT, Int32.reduceLE, Int32.reduceAdd, xe_0, xe_1, xe_2, xe_3, xe_4, xe_5, xe_6, xe_7, xe_8, xe_9, xe_10, xe_11, xe_12, xe_13, xe_14, xe_15, xe_16, xe_17, xe_18, xe_19, xe_20, xe_21, xe_22, xe_23, xe_24, xe_25, xe_26, xe_27, xe_28, xe_29, xe_30, xe_31, xe_32, xe_33, xe_34, xe_35, xe_36, xe_37, xe_38, xe_39, xe_40, xe_41, xe_42, xe_43, xe_44, xe_45, xe_46, xe_47, xe_48, xe_49, xe_50, xe_51, xe_52, xe_53, xe_54, xe_55, xe_56, xe_57, xe_58, xe_59, xe_60, xe_61, xe_62, xe_63, xe_64, xe_65, xe_66, xe_67, xe_68, xe_69, xe_70, xe_71, xe_72, xe_73, xe_74, xe_75, xe_76, xe_77, xe_78, xe_79, xe_80, xe_81, xe_82, xe_83, xe_84, xe_85, xe_86, D0_Law_law, D1_Law_law, D2_Law_law, D3_Law_law, D4_Law_law, D5_Law_law, D6_Law_law, D7_Law_law, D8_Law_law, DX_Law_law, lvL, e1, xvi i0 (by omega), xcl i0 (by omega)]
  obtain ⟨j, hj, ej⟩ := pk_andE (G.2.2.2.2.2 i) (m := 15) 4 (by decide)
  rw [ej]
  have hj16 : j < 16 := hj
  have hd : decode m_Law_law.1 39 = .ok (.tableswitch 522 0 12 #[65, 134, 147, 203, 259, 303, 358, 383, 420, 446, 471, 496, 509], 65) := by decide +kernel
  have et : (nI j).toInt = (j : Int) := nI_toInt (by omega)
  by_cases h13 : j < 13
  · have hK := K j h13
    have hx : ∀ j, j < 13 → ∃ off : Int, (#[65, 134, 147, 203, 259, 303, 358, 383, 420, 446, 471, 496, 509] : Array Int)[j]? = some off ∧ (39 : Int) + off = (([104, 173, 186, 242, 298, 342, 397, 422, 459, 485, 510, 535, 548].getD j 0 : Nat) : Int) := by
      intro j hj
      match j, hj with
      | 0, _ => exact ⟨65, rfl, rfl⟩
      | 1, _ => exact ⟨134, rfl, rfl⟩
      | 2, _ => exact ⟨147, rfl, rfl⟩
      | 3, _ => exact ⟨203, rfl, rfl⟩
      | 4, _ => exact ⟨259, rfl, rfl⟩
      | 5, _ => exact ⟨303, rfl, rfl⟩
      | 6, _ => exact ⟨358, rfl, rfl⟩
      | 7, _ => exact ⟨383, rfl, rfl⟩
      | 8, _ => exact ⟨420, rfl, rfl⟩
      | 9, _ => exact ⟨446, rfl, rfl⟩
      | 10, _ => exact ⟨471, rfl, rfl⟩
      | 11, _ => exact ⟨496, rfl, rfl⟩
      | 12, _ => exact ⟨509, rfl, rfl⟩
    obtain ⟨off, h1, h2⟩ := hx j h13
    refine xk_tableIn _ hd (by rw [et]; omega) (by rw [et]; omega) (off := off) (by rw [et]; simpa using h1) h2 ?_
    exact Rn_sub _ (by simp [lvL]) hK
  · refine xk_tableOut 561 hd (by rw [et]; omega) rfl ?_
    exact Rn_sub _ (by simp [lvL]) K0
-- the loop ends
set_option maxRecDepth 20000 in
set_option maxHeartbeats 4000000 in
theorem l6_Law_end {h : xH} (hG : G.2.2.2.2.1 ≤ 2048) (h4 : 4 ≤ G.2.2.2.2.1) {i : Nat} (hi : i ≤ G.2.2.2.2.1) (hN : G.2.2.2.2.1 < i + 4) (hq : Q (.inl (some (.int 1))) h) : Rn G l (d + 1) m_Law_law 23 (lvL (nI i)) [] h kc ks Q := by
  have e1 : (Int32.ofNat G.2.2.2.2.1 - 4 < nI i) = True := by
    rw [len_sub hG h4, xnlt _ _ (by omega) (by omega)]
    exact eq_true (by omega)
  refine xrun_ok [] 10 _ _ _ _ ?_
  simp only [xrun, xRt_inl, xRX_inl, xset, xset2, lv_args, List.lookup_cons, List.filter_cons, List.filter_nil, List.lookup_nil, Value.category, List.contains_cons, List.contains_nil, Bool.or_false, Bool.false_or, Bool.or_true, Bool.true_or, Bool.and_true, Bool.true_and, Bool.and_false, Bool.false_and, Bool.not_true, Bool.not_false, Bool.false_eq_true, beq_self_eq_true, if_true, if_false, reduceIte, true_and, and_true, false_and, and_false, xF0, xF1, xF2, xF3, xL0, xL1, Nat.reduceAdd, Nat.reduceBEq, Nat.reduceLT, Nat.reduceSub, Nat.reduceEqDiff, List.getElem?_cons_zero, List.getElem?_cons_succ, List.set_cons_zero, List.set_cons_succ, List.length_cons, List.length_nil, List.take_succ_cons, List.take_zero, List.drop_succ_cons, List.drop_zero, List.reverse_cons, List.reverse_nil, List.nil_append, List.cons_append, List.map_cons, List.map_nil, List.sum_cons, List.sum_nil, Option.toList_some, Option.toList_none, forall_const, Option.some.injEq, exists_eq_left', xNar, xFit, xNb0, xNb1, xNc0, xNz, xFz0, xFz1, xFl, xNl, xNa, xFa, xFo, xNna, xFna, xNno, xFno, Nat.reduceLeDiff, Nat.add_sub_cancel, Nat.add_one_sub_one, xD1, xD2, reduceCtorEq, Nat.zero_add, not_true_eq_false, not_false_eq_true, true_or, or_true, false_or, or_false, eq_self, false_implies, true_implies, implies_true, x10, x00, xm10, x20, x30, Int32.reduceLT, Int32.reduceLE, Int32.reduceAdd, xe_0, xe_1, xe_2, xe_3, xe_4, xe_5, xe_6, xe_7, xe_8, xe_9, xe_10, xe_11, xe_12, xe_13, xe_14, xe_15, xe_16, xe_17, xe_18, xe_19, xe_20, xe_21, xe_22, xe_23, xe_24, xe_25, xe_26, xe_27, xe_28, xe_29, xe_30, xe_31, xe_32, xe_33, xe_34, xe_35, xe_36, xe_37, xe_38, xe_39, xe_40, xe_41, xe_42, xe_43, xe_44, xe_45, xe_46, xe_47, xe_48, xe_49, xe_50, xe_51, xe_52, xe_53, xe_54, xe_55, xe_56, xe_57, xe_58, xe_59, xe_60, xe_61, xe_62, xe_63, xe_64, xe_65, xe_66, xe_67, xe_68, xe_69, xe_70, xe_71, xe_72, xe_73, xe_74, xe_75, xe_76, xe_77, xe_78, xe_79, xe_80, xe_81, xe_82, xe_83, xe_84, xe_85, xe_86, D0_Law_law, D1_Law_law, D2_Law_law, D3_Law_law, D4_Law_law, D5_Law_law, D6_Law_law, D7_Law_law, D8_Law_law, DX_Law_law, lvL, e1]
  exact ⟨.boolean, rfl, rfl, hq⟩
-- to the next call
set_option maxRecDepth 20000 in
set_option maxHeartbeats 4000000 in
theorem l6_Law_next {h : xH} {i : Nat} (k : Rn G l (d + 1) m_Law_law 23 (lvL (nI (i + 4))) [] h kc ks Q) : Rn G l (d + 1) m_Law_law 561 (lvL (nI i)) [] h kc ks Q := by
  have ex : nI i + 4 = nI (i + 4) := by rw [show (4 : Int32) = nI 4 by decide, nI_add]
  refine xrun_ok [23] 3 _ _ _ _ ?_
  simp only [xrun, xRt_inl, xRX_inl, xset, xset2, lv_args, List.lookup_cons, List.filter_cons, List.filter_nil, List.lookup_nil, Value.category, List.contains_cons, List.contains_nil, Bool.or_false, Bool.false_or, Bool.or_true, Bool.true_or, Bool.and_true, Bool.true_and, Bool.and_false, Bool.false_and, Bool.not_true, Bool.not_false, Bool.false_eq_true, beq_self_eq_true, if_true, if_false, reduceIte, true_and, and_true, false_and, and_false, xF0, xF1, xF2, xF3, xL0, xL1, Nat.reduceAdd, Nat.reduceBEq, Nat.reduceLT, Nat.reduceSub, Nat.reduceEqDiff, List.getElem?_cons_zero, List.getElem?_cons_succ, List.set_cons_zero, List.set_cons_succ, List.length_cons, List.length_nil, List.take_succ_cons, List.take_zero, List.drop_succ_cons, List.drop_zero, List.reverse_cons, List.reverse_nil, List.nil_append, List.cons_append, List.map_cons, List.map_nil, List.sum_cons, List.sum_nil, Option.toList_some, Option.toList_none, forall_const, Option.some.injEq, exists_eq_left', xNar, xFit, xNb0, xNb1, xNc0, xNz, xFz0, xFz1, xFl, xNl, xNa, xFa, xFo, xNna, xFna, xNno, xFno, Nat.reduceLeDiff, Nat.add_sub_cancel, Nat.add_one_sub_one, xD1, xD2, reduceCtorEq, Nat.zero_add, not_true_eq_false, not_false_eq_true, true_or, or_true, false_or, or_false, eq_self, false_implies, true_implies, implies_true, x10, x00, xm10, x20, x30, Int32.reduceLT, Int32.reduceLE, Int32.reduceAdd, xe_0, xe_1, xe_2, xe_3, xe_4, xe_5, xe_6, xe_7, xe_8, xe_9, xe_10, xe_11, xe_12, xe_13, xe_14, xe_15, xe_16, xe_17, xe_18, xe_19, xe_20, xe_21, xe_22, xe_23, xe_24, xe_25, xe_26, xe_27, xe_28, xe_29, xe_30, xe_31, xe_32, xe_33, xe_34, xe_35, xe_36, xe_37, xe_38, xe_39, xe_40, xe_41, xe_42, xe_43, xe_44, xe_45, xe_46, xe_47, xe_48, xe_49, xe_50, xe_51, xe_52, xe_53, xe_54, xe_55, xe_56, xe_57, xe_58, xe_59, xe_60, xe_61, xe_62, xe_63, xe_64, xe_65, xe_66, xe_67, xe_68, xe_69, xe_70, xe_71, xe_72, xe_73, xe_74, xe_75, xe_76, xe_77, xe_78, xe_79, xe_80, xe_81, xe_82, xe_83, xe_84, xe_85, xe_86, D0_Law_law, D1_Law_law, D2_Law_law, D3_Law_law, D4_Law_law, D5_Law_law, D6_Law_law, D7_Law_law, D8_Law_law, DX_Law_law, lvL, ex]
  exact Rn_sub _ (by simp [lvL]) k
-- the loop
set_option maxRecDepth 20000 in
set_option maxHeartbeats 4000000 in
theorem l7_Law_loop (hl0 : l.stackTraces = false) (hG : G.2.2.2.2.1 ≤ 2048) (h4 : 4 ≤ G.2.2.2.2.1) (hq : ∀ h, Q (.inl (some (.int 1))) h) : ∀ (k i kc ks : Nat) (h : xH), G.2.2.2.2.1 < i + 4 * k + 4 → i ≤ G.2.2.2.2.1 → 2 * k ≤ kc → 48 * k ≤ ks → Inv h → Rn G l (d + 81) m_Law_law 23 (lvL (nI i)) [] h kc ks Q := by
  intro k
  induction k with
  | zero =>
    intro i kc ks h h1 h2 _ _ _
    exact l6_Law_end (d := d + 80) hG h4 h2 (by omega) (hq _)
  | succ k ih =>
    intro i kc ks h h1 h2 hk1 hk2 hI
    rcases Nat.lt_or_ge (i + 3) G.2.2.2.2.1 with hi | hi
    · have K : ∀ (kc0 ks0 : Nat) (h : xH), 2 * k ≤ kc0 → 48 * k ≤ ks0 → Inv h → Rn G l (d + 81) m_Law_law 561 (lvL (nI i)) [] h kc0 ks0 Q := fun kc0 ks0 h a b hI => l6_Law_next (d := d + 80) (ih (i + 4) kc0 ks0 h (by omega) (by omega) a b hI)
      have K1 : ∀ h, Inv h → Rn G l (d + 81) m_Law_law 561 (lvL (nI i)) [] h kc ks Q := fun h hI => K kc ks h (by omega) (by omega) hI
      refine l6_Law_switch (d := d + 80) hG hi (fun j hj => ?_) (K1 h hI)
      match j, hj with
      | 0, _ => exact lg_type (d := d + 78) hG hi hI K1
      | 1, _ => exact lg_wipe (d := d + 78) hG hi hI K1
      | 2, _ => exact lg_enter hl0 hG hi hI (kc := 2 * k) (ks := 48 * k) (by omega) (by omega) K
      | 3, _ => exact lg_clear hl0 hG hi hI (kc := 2 * k) (ks := 48 * k) (by omega) (by omega) K
      | 4, _ => exact lg_undo hl0 hG hi hI (kc := 2 * k) (ks := 48 * k) (by omega) (by omega) K
      | 5, _ => exact lg_value hl0 hG hi hI (kc := 2 * k) (ks := 48 * k) (by omega) (by omega) K
      | 6, _ => exact lg_kind (d := d + 78) hG hi hI K1
      | 7, _ => exact lg_content (d := d + 78) hG hi hI K1
      | 8, _ => exact lg_refers (d := d + 78) hG hi hI K1
      | 9, _ => exact lg_place (d := d + 78) hG hi hI K1
      | 10, _ => exact lg_changed (d := d + 78) hG hi hI K1
      | 11, _ => exact lg_worked (d := d + 78) hG hi hI K1
      | 12, _ => exact lg_log (d := d + 78) hG hi hI K1
    · exact l6_Law_end (d := d + 80) hG h4 h2 (by omega) (hq _)
-- every run of calls
set_option maxRecDepth 20000 in
set_option maxHeartbeats 4000000 in
theorem l8_Law_whole (hl0 : l.stackTraces = false) (hG : G.2.2.2.2.1 ≤ 2048) (hq : ∀ h, Q (.inl (some (.int 1))) h) : Rn G l (d + 81) m_Law_law 0 [(0, .retAddr 0)] [] [] (1024 + 1 + 19 + 1 + 26 + 1) (24576 + 1 + 4305 + 32 + 664 + 10) Q := by
  refine l4_Law_begin (d := d + 73) (kc := 1024) (ks := 24576) ?_
  rcases Nat.lt_or_ge G.2.2.2.2.1 4 with h4 | h4
  · exact l2_Law_none (d := d + 80) h4 (hq _)
  · have h9 := l7_Law_loop (d := d) hl0 hG h4 hq 512 0 1024 24576 _ (by omega) (by omega) (by omega) (by omega) Inv_new
    have e : lvL (nI 0) = lvL 0 := rfl
    rw [e] at h9
    exact h9
end

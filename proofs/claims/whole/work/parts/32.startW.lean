/-! What lies below the base at the law's entry: the script (0), the words' strings (1 to 8), their bytes (9 to 16), a static (17). -/
def sPl (b fm : Nat) (adK adV : Nat → Nat) : Nat → Nat
  | 0 => b
  | j + 1 => if j < 8 then adK j else if j < 16 then adV (j - 8) else fm
theorem sPl_k {b fm : Nat} {adK adV : Nat → Nat} {i : Nat} (hi : i < 8) : sPl b fm adK adV (1 + i) = adK i := by
  rw [Nat.add_comm]
  exact if_pos hi
theorem sPl_v {b fm : Nat} {adK adV : Nat → Nat} {i : Nat} (hi : i < 8) : sPl b fm adK adV (9 + i) = adV i := by
  rw [show 9 + i = (8 + i) + 1 by omega]
  show (if 8 + i < 8 then adK (8 + i) else if 8 + i < 16 then adV (8 + i - 8) else fm) = adV i
  rw [if_neg (by omega), if_pos (by omega), Nat.add_sub_cancel_left]
theorem vk_S_cg {N : Nat} {len : List Nat} {byt : List (List Int32)} {adK adV adK' adV' : Nat → Nat} {A : Nat → Prop} {U : State} {H : Heap} (h1 : ∀ i, i < N → adK' i = adK i) (h2 : ∀ i, i < N → adV' i = adV i) (h : vk_S N len byt adK adV A U H) : vk_S N len byt adK' adV' A U H := by
  refine ⟨fun i hi => ?_, fun i j hi hj e => ?_⟩
  · rw [h1 i hi, h2 i hi]
    exact h.1 i hi
  · rw [h1 i hi, h1 j hj] at e
    exact h.2 i j hi hj e
abbrev sTm (i : Nat) : Term := .string "RecalcSheet$Reader" (sIdx.getD i 0)
abbrev sFl : List Jvm.Cond := flatC (Jvm.Cond.and given_1 narrow_1)
theorem sM1 : ∀ i, i < 8 → Jvm.Cond.exactly (sTm i) "java/lang/String" ∈ sFl := by decide +kernel
theorem sM2 : ∀ i, i < 8 → Jvm.Cond.eq (.field (sTm i) "java/lang/String" "coder" "B") (.int 0) ∈ sFl := by decide +kernel
theorem sM3 : ∀ i, i < 8 → Jvm.Cond.arrayOf (.field (sTm i) "java/lang/String" "value" "[B") .byte ∈ sFl := by decide +kernel
theorem sM4 : ∀ i, i < 8 → Jvm.Cond.eq (.length (.field (sTm i) "java/lang/String" "value" "[B")) (.int (Int32.ofNat (sLen.getD i 0))) ∈ sFl := by decide +kernel
theorem sM5 : ∀ i, i < 8 → ∀ j, j < sLen.getD i 0 → Jvm.Cond.eq (.elem (.field (sTm i) "java/lang/String" "value" "[B") (.int (Int32.ofNat j))) (.int ((sByt.getD i []).getD j 0)) ∈ sFl := by decide +kernel
theorem sM6 : ∀ i, i < 8 → ∀ j, j < 8 → i ≠ j → Jvm.Cond.not (Jvm.Cond.eq (sTm i) (sTm j)) ∈ sFl ∨ Jvm.Cond.not (Jvm.Cond.eq (sTm j) (sTm i)) ∈ sFl := by decide +kernel
theorem sM7 : ∀ i, i < 8 → Jvm.Cond.stringRef "RecalcSheet$Reader" (sIdx.getD i 0) (sTxt.getD i "") ∈ lw_tbl := by decide +kernel
theorem xStrW {s : State} {b : Nat} (hts : ∀ w ∈ lw_tbl, w.before #[Value.ref b] s = true) (hflat : ∀ w ∈ sFl, w.before #[Value.ref b] s = true) : ∃ (fm : Nat) (adK adV : Nat → Nat), vk_S 8 sLen sByt (fun i => sPl b fm adK adV (1 + i)) (fun i => sPl b fm adK adV (9 + i)) (fun q => s.heap.size ≤ q) s s.heap ∧ (∀ i, i < 8 → vk_R "RecalcSheet$Reader" (sIdx.getD i 0) (sTxt.getD i "") (sPl b fm adK adV (1 + i)) s) ∧ va_Z "java/lang/String" "COMPACT_STRINGS" "Z" (.int 1) (fun q => s.heap.size ≤ q) s s.heap ∧ (va_Z "jdk/internal/util/Preconditions" "SIOOBE_FORMATTER" "Ljava/util/function/BiFunction;" .null (fun q => s.heap.size ≤ q) s s.heap ∨ va_Z "jdk/internal/util/Preconditions" "SIOOBE_FORMATTER" "Ljava/util/function/BiFunction;" (.ref (sPl b fm adK adV 17)) (fun q => s.heap.size ≤ q) s s.heap) := by
  have hA0 : ∀ a : Nat, a < s.heap.size → ¬ (s.heap.size ≤ a) := fun a ha => Nat.not_le.mpr ha
  obtain ⟨adK, adV, hSt, hEv⟩ := vk_Sof (args := #[Value.ref b]) (s := s) (N := 8) (tm := sTm) (len := sLen) (byt := sByt) (A := fun q => s.heap.size ≤ q) (by decide) (fun i hi => hflat _ (sM1 i hi)) (fun i hi => hflat _ (sM2 i hi)) (fun i hi => hflat _ (sM3 i hi)) (fun i hi => hflat _ (sM4 i hi)) (fun i hi j hj => hflat _ (sM5 i hi j hj)) (fun i j hi hj hij => (sM6 i hi j hj hij).imp (hflat _) (hflat _)) hA0
  have hC : va_Z "java/lang/String" "COMPACT_STRINGS" "Z" (.int 1) (fun q => s.heap.size ≤ q) s s.heap := va_Zof (args := #[Value.ref b]) (hts _ (by decide +kernel)) (hts _ (by decide +kernel)) (va_eqi (hflat _ (by decide +kernel))) hA0
  have hF : va_Zq "jdk/internal/util/Preconditions" "SIOOBE_FORMATTER" "Ljava/util/function/BiFunction;" (fun q => s.heap.size ≤ q) s s.heap := va_Zqof (args := #[Value.ref b]) (hts _ (by decide +kernel)) (hts _ (by decide +kernel)) (hflat _ (by decide +kernel)) hA0
  have hR : ∀ fm i, i < 8 → vk_R "RecalcSheet$Reader" (sIdx.getD i 0) (sTxt.getD i "") (sPl b fm adK adV (1 + i)) s := by
    intro fm i hi
    rw [sPl_k hi]
    exact vk_R.of (A := #[Value.ref b]) (hts _ (sM7 i hi)) (hEv i hi)
  rcases hF with h | ⟨t, h⟩
  · exact ⟨0, adK, adV, vk_S_cg (fun i hi => sPl_k hi) (fun i hi => sPl_v hi) hSt, hR 0, hC, Or.inl h⟩
  · exact ⟨t, adK, adV, vk_S_cg (fun i hi => sPl_k hi) (fun i hi => sPl_v hi) hSt, hR t, hC, Or.inr h⟩

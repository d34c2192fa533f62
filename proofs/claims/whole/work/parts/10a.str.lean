def m_st_len : xM := (prog_16_method_54_code, ({ cls := "java/lang/String", name := "length", desc := "()I" } : Jvm.MethodName), 1, (Option.some Jvm.ClassFile.FieldType.int), (Jvm.Cond.code ({ cls := "java/lang/String", name := "length", desc := "()I" } : Jvm.MethodName) prog_16_method_54_code (1 : Nat) (Option.some Jvm.ClassFile.FieldType.int)))
def m_st_coder : xM := (prog_16_method_152_code, ({ cls := "java/lang/String", name := "coder", desc := "()B" } : Jvm.MethodName), 1, (Option.some Jvm.ClassFile.FieldType.byte), (Jvm.Cond.code ({ cls := "java/lang/String", name := "coder", desc := "()B" } : Jvm.MethodName) prog_16_method_152_code (1 : Nat) (Option.some Jvm.ClassFile.FieldType.byte)))
def m_st_lat : xM := (prog_16_method_154_code, ({ cls := "java/lang/String", name := "isLatin1", desc := "()Z" } : Jvm.MethodName), 1, (Option.some Jvm.ClassFile.FieldType.boolean), (Jvm.Cond.code ({ cls := "java/lang/String", name := "isLatin1", desc := "()Z" } : Jvm.MethodName) prog_16_method_154_code (1 : Nat) (Option.some Jvm.ClassFile.FieldType.boolean)))
def m_st_chr : xM := (prog_16_method_56_code, ({ cls := "java/lang/String", name := "charAt", desc := "(I)C" } : Jvm.MethodName), 2, (Option.some Jvm.ClassFile.FieldType.char), (Jvm.Cond.code ({ cls := "java/lang/String", name := "charAt", desc := "(I)C" } : Jvm.MethodName) prog_16_method_56_code (2 : Nat) (Option.some Jvm.ClassFile.FieldType.char)))
def m_st_l1 : xM := (prog_17_method_2_code, ({ cls := "java/lang/StringLatin1", name := "charAt", desc := "([BI)C" } : Jvm.MethodName), 2, (Option.some Jvm.ClassFile.FieldType.char), (Jvm.Cond.code ({ cls := "java/lang/StringLatin1", name := "charAt", desc := "([BI)C" } : Jvm.MethodName) prog_17_method_2_code (2 : Nat) (Option.some Jvm.ClassFile.FieldType.char)))
def m_st_chk : xM := (prog_16_method_155_code, ({ cls := "java/lang/String", name := "checkIndex", desc := "(II)V" } : Jvm.MethodName), 2, (Option.none : Option Jvm.ClassFile.FieldType), (Jvm.Cond.code ({ cls := "java/lang/String", name := "checkIndex", desc := "(II)V" } : Jvm.MethodName) prog_16_method_155_code (2 : Nat) (Option.none : Option Jvm.ClassFile.FieldType)))
def m_st_pre : xM := (prog_22_method_11_code, ({ cls := "jdk/internal/util/Preconditions", name := "checkIndex", desc := "(IILjava/util/function/BiFunction;)I" } : Jvm.MethodName), 3, (Option.some Jvm.ClassFile.FieldType.int), (Jvm.Cond.code ({ cls := "jdk/internal/util/Preconditions", name := "checkIndex", desc := "(IILjava/util/function/BiFunction;)I" } : Jvm.MethodName) prog_22_method_11_code (3 : Nat) (Option.some Jvm.ClassFile.FieldType.int)))
theorem xca_len : xCa "RecalcSheet$Reader" 184 m_st_len 0 := ⟨rfl, xw_319, xw_8, ⟨by decide, by decide⟩, by decide +kernel, by decide, Or.inl xw_316⟩
theorem xca_chr : xCa "RecalcSheet$Reader" 188 m_st_chr 1 := ⟨rfl, xw_329, xw_8, ⟨by decide, by decide⟩, by decide +kernel, by decide, Or.inl xw_326⟩
theorem xca_coder : xCa "java/lang/String" 335 m_st_coder 0 := ⟨rfl, xw_323, xw_8, ⟨by decide, by decide⟩, by decide +kernel, by decide, Or.inl xw_320⟩
theorem xca_lat : xCa "java/lang/String" 492 m_st_lat 0 := ⟨rfl, xw_333, xw_8, ⟨by decide, by decide⟩, by decide +kernel, by decide, Or.inl xw_330⟩
theorem xca_l1 : xCa "java/lang/String" 495 m_st_l1 2 := ⟨rfl, xw_336, xw_9, ⟨by decide, by decide⟩, by decide +kernel, by decide, Or.inl xw_334⟩
theorem xca_chk : xCa "java/lang/StringLatin1" 9 m_st_chk 2 := ⟨rfl, xw_339, xw_8, ⟨by decide, by decide⟩, by decide +kernel, by decide, Or.inl xw_337⟩
theorem xca_pre : xCa "java/lang/String" 1059 m_st_pre 3 := ⟨rfl, xw_344, xw_10, ⟨by decide, by decide⟩, by decide +kernel, by decide, Or.inl xw_342⟩
section
variable {G : xG} {l : Launch} {d : Nat} {M : xM} {pc : Nat} {lv : xL} {st : List Value} {h : xH} {kc ks : Nat} {Q : xQ}
theorem xk_lval {i : Nat} (hi : i < 8) (hM : M.2.1.cls = "java/lang/String") (hd : decode M.1 pc = .ok (.getfield 9, 3)) (k : Rn G l d M (pc + 3) lv (.retAddr (9 + i) :: st) h kc ks Q) : Rn G l d M pc lv (.retAddr (1 + i) :: st) h kc ks Q := by
  intro p e R s m args below meth c H locs cells slots ls X P hl h1 h2
  exact vk_getf X.1 X.2.1 (P.2.2.2.1.2.2.2.2.2.2.1.1 i hi).2.2.1 P.2.2.2.2.1 (own := "java/lang/String") (by rw [← hM]; exact X.2.2.2.1) (X.2.2.2.2.1 _ xw_963) (fun _ z => z) hd (k p e R s m args below meth c H locs cells slots ls X P hl h1 h2)
theorem xk_lcod {i : Nat} (hi : i < 8) (hM : M.2.1.cls = "java/lang/String") (hd : decode M.1 pc = .ok (.getfield 15, 3)) (k : Rn G l d M (pc + 3) lv (.int 0 :: st) h kc ks Q) : Rn G l d M pc lv (.retAddr (1 + i) :: st) h kc ks Q := by
  intro p e R s m args below meth c H locs cells slots ls X P hl h1 h2
  exact vk_getf X.1 X.2.1 (P.2.2.2.1.2.2.2.2.2.2.1.1 i hi).2.1 P.2.2.2.2.1 (own := "java/lang/String") (by rw [← hM]; exact X.2.2.2.1) (X.2.2.2.2.1 _ xw_964) (fun _ z => z) hd (k p e R s m args below meth c H locs cells slots ls X P hl h1 h2)
theorem xk_lcs (hM : M.2.1.cls = "java/lang/String") (hd : decode M.1 pc = .ok (.getstatic 38, 3)) (k : Rn G l d M (pc + 3) lv (.int 1 :: st) h kc ks Q) : Rn G l d M pc lv st h kc ks Q := by
  intro p e R s m args below meth c H locs cells slots ls X P hl h1 h2
  exact va_gets X.1 X.2.1 P.2.2.2.1.2.2.2.2.2.2.2.2.1 P.2.2.2.2.1 (own := "java/lang/String") (by rw [← hM]; exact X.2.2.2.1) (X.2.2.2.2.1 _ xw_324) (fun _ z => z) hd (k p e R s m args below meth c H locs cells slots ls X P hl h1 h2)
theorem xk_lfm (hM : M.2.1.cls = "java/lang/String") (hd : decode M.1 pc = .ok (.getstatic 1053, 3)) (k : ∀ v : Value, v = .null ∨ v = .retAddr 17 → Rn G l d M (pc + 3) lv (v :: st) h kc ks Q) : Rn G l d M pc lv st h kc ks Q := by
  intro p e R s m args below meth c H locs cells slots ls X P hl h1 h2
  rcases P.2.2.2.1.2.2.2.2.2.2.2.2.2 with z | z
  · exact va_gets X.1 X.2.1 z P.2.2.2.2.1 (own := "java/lang/String") (by rw [← hM]; exact X.2.2.2.1) (X.2.2.2.2.1 _ xw_340) (fun _ z => z) hd (k .null (Or.inl rfl) p e R s m args below meth c H locs cells slots ls X P hl h1 h2)
  · exact va_gets X.1 X.2.1 z P.2.2.2.2.1 (own := "java/lang/String") (by rw [← hM]; exact X.2.2.2.1) (X.2.2.2.2.1 _ xw_340) (fun _ z => z) hd (k (.retAddr 17) (Or.inr rfl) p e R s m args below meth c H locs cells slots ls X P hl h1 h2)
theorem xk_llen {i : Nat} (hi : i < 8) (hd : decode M.1 pc = .ok (.arraylength, 1)) (k : Rn G l d M (pc + 1) lv (.int (nI (sLen.getD i 0)) :: st) h kc ks Q) : Rn G l d M pc lv (.retAddr (9 + i) :: st) h kc ks Q := by
  intro p e R s m args below meth c H locs cells slots ls X P hl h1 h2
  exact va_tlen X.1 X.2.1 (P.2.2.2.1.2.2.2.2.2.2.1.1 i hi).2.2.2 P.2.2.2.2.1 rfl hd (k p e R s m args below meth c H locs cells slots ls X P hl h1 h2)
theorem xk_lb {i j : Nat} (hi : i < 8) (hj : j < sLen.getD i 0) (hj2 : sLen.getD i 0 < 2 ^ 30) (hd : decode M.1 pc = .ok (.baload, 1)) (k : Rn G l d M (pc + 1) lv (.int ((sByt.getD i []).getD j 0) :: st) h kc ks Q) : Rn G l d M pc lv (.int (nI j) :: .retAddr (9 + i) :: st) h kc ks Q := by
  intro p e R s m args below meth c H locs cells slots ls X P hl h1 h2
  exact va_tb X.1 X.2.1 (P.2.2.2.1.2.2.2.2.2.2.1.1 i hi).2.2.2 P.2.2.2.2.1 (vp_in_nI hj (by omega)) (by rw [nI_clamp (by omega)]; rfl) hd (k p e R s m args below meth c H locs cells slots ls X P hl h1 h2)
theorem xk_ldcS {i : Nat} (hi : i < 8) (hM : M.2.1.cls = "RecalcSheet$Reader") (hd : decode M.1 pc = .ok (.ldc (sIdx.getD i 0), 2)) (k : Rn G l d M (pc + 2) lv (.retAddr (1 + i) :: st) h kc ks Q) : Rn G l d M pc lv st h kc ks Q := by
  intro p e R s m args below meth c H locs cells slots ls X P hl h1 h2
  exact va_ldcS X.1 X.2.1 (own := "RecalcSheet$Reader") (by rw [← hM]; exact X.2.2.2.1) (P.2.2.2.1.2.2.2.2.2.2.2.1 i hi) hd (k p e R s m args below meth c H locs cells slots ls X P hl h1 h2)
theorem xk_callVL {idx d1 kc1 ks1 i : Nat} {M1 : xM} {st0 : List Value} {Q1 : xQ} (av : List Value) (hi : i < 8) (hd : decode M.1 pc = .ok (.invokevirtual idx, 3)) (hC : xCa M.2.1.cls idx M1 av.length) (hC2 : Jvm.Cond.instanceMethod M1.2.1 ∈ xALL) (hC3 : Jvm.Cond.selects M1.2.1.cls M1.2.1 M1.2.1 ∈ xALL) (hq : M1.2.1.cls = "java/lang/String") (hM : Mt l d1 M1 (.retAddr (1 + i) :: av) h kc1 ks1 Q1) (hdd : d1 + 1 ≤ d) (hs : st0 = av.reverse ++ .retAddr (1 + i) :: st) (hst : (st.map fun v => v.category).sum ≤ 8) (k : ∀ v h', Q1 (.inl v) h' → Rn G l d M (pc + 3) lv (v.toList ++ st) h' kc ks Q) : Rn G l d M pc lv st0 h (kc + kc1) (ks + ks1) Q := by
  intro p e R s m args below meth c H locs cells slots ls X P hl h1 h2
  obtain ⟨a1, a2, a3, a4, a5, a6, a7⟩ := hC
  have hts := X.2.2.2.2.1
  have hp := xpay xALL_ok hts
  have hX := X.2.2.2.2.2.2.2.2
  subst hs
  have hpay : ∀ w ∈ M1.2.2.2.2 :: xALL, ∀ (a' : Array Value) (U : State), s.WarmedH U.vm → w.before a' U = true := by
    intro w hw
    rcases List.mem_cons.mp hw with rfl | hw
    · rw [a1]; exact hp _ a2
    · exact hp w hw
  have hcm : Jvm.Cond.code M1.2.1 M1.1 M1.2.2.1 M1.2.2.2.1 ∈ M1.2.2.2.2 :: xALL := by rw [a1]; exact List.mem_cons_self
  have hrec := vk_recv P.2.2.2.1.2.2.2.2.2.2.1 hi P.2.2.2.2.1
  rw [← hq] at hrec
  refine xW_call (a := (Value.ref (G.2.1 (1 + i)) :: xst G av).toArray) (Q1 := Q1) (kc1 := kc1) (ks1 := ks1) X P hl (by omega) (by omega) ?_ k
  rcases a7 with a7 | ⟨host, a7⟩
  · exact va_runV (C := M1.2.1.cls) (bytes := M1.1) (maxL := M1.2.2.1) (ret := M1.2.2.2.1) (n := av.length) (As := xst G av) (b := G.2.1 (1 + i)) (Ts := xALL) ⟨X.1, X.2.1, X.2.2.1, X.2.2.2.1, hts⟩ (hM G) ⟨⟨rfl, rfl, by simp only [xrm]; omega, by simp only [xrm]; omega, hpay, hcm, hts _ a2, hts _ a3, a4, xlen a5, hts _ a7⟩, hts _ hC2, hts _ hC3⟩ ⟨xblind, hrec, fun U hU hW => ⟨rfl, xpc_ps P hU hW⟩⟩ rfl (by simp [xst]) hl.1 (xstk G av) (lv_room (xcat hst)) hd ⟨by omega, by omega⟩
  · exact va_runVN (C := M1.2.1.cls) (host := host) (bytes := M1.1) (maxL := M1.2.2.1) (ret := M1.2.2.2.1) (n := av.length) (As := xst G av) (b := G.2.1 (1 + i)) (Ts := xALL) ⟨X.1, X.2.1, X.2.2.1, X.2.2.2.1, hts⟩ (hM G) ⟨⟨⟨rfl, rfl, by simp only [xrm]; omega, by simp only [xrm]; omega, hpay, hcm⟩, hts _ a2, hts _ a3, a4, xlen a5, hts _ a7⟩, hts _ hC2, hts _ hC3⟩ ⟨xblind, hrec, fun U hU hW => ⟨rfl, xpc_ps P hU hW⟩⟩ rfl (by simp [xst]) hl.1 (xstk G av) (lv_room (xcat hst)) hd ⟨by omega, by omega⟩
end
section
variable {l : Launch} {d : Nat} {h : xH} {P : Option Value → xH → Prop}
theorem s_st_coder {i : Nat} (hi : i < 8) (hq : P (some (.int 0)) h) : Mt l (d + 1) m_st_coder [.retAddr (1 + i)] h 0 0 (xRt P) := by
  refine xMr (by decide) rfl (by simp [lg_sl, Value.category, m_st_coder]) (fun G => ?_)
  refine xk_lcs rfl (by decide +kernel) ?_
  refine xk_if_eq (off := 10) 13 (by decide +kernel) rfl ⟨fun z => absurd z (by decide), fun _ => ?_⟩
  refine xk_aload_nR (k0 := 0) (x := 1 + i) (by decide +kernel) rfl ?_
  refine xk_lcod hi rfl (by decide +kernel) ?_
  refine xk_goto (off := 4) 14 (by decide +kernel) rfl ?_
  exact xk_iret (by decide +kernel) rfl rfl hq
theorem s_st_lat {i : Nat} (hi : i < 8) (hq : P (some (.int 1)) h) : Mt l (d + 1) m_st_lat [.retAddr (1 + i)] h 0 0 (xRt P) := by
  refine xMr (by decide) rfl (by simp [lg_sl, Value.category, m_st_lat]) (fun G => ?_)
  refine xk_lcs rfl (by decide +kernel) ?_
  refine xk_if_eq (off := 14) 17 (by decide +kernel) rfl ⟨fun z => absurd z (by decide), fun _ => ?_⟩
  refine xk_aload_nR (k0 := 0) (x := 1 + i) (by decide +kernel) rfl ?_
  refine xk_lcod hi rfl (by decide +kernel) ?_
  refine xk_if_ne (off := 7) 17 (by decide +kernel) rfl ⟨fun z => absurd rfl z, fun _ => ?_⟩
  refine xk_iconst (z := 1) (by decide +kernel) ?_
  refine xk_goto (off := 4) 18 (by decide +kernel) rfl ?_
  exact xk_iret (by decide +kernel) rfl rfl hq
theorem s_st_len {i : Nat} (hi : i < 8) (hq : P (some (.int (nI (sLen.getD i 0)))) h) : Mt l (d + 2) m_st_len [.retAddr (1 + i)] h 0 0 (xRt P) := by
  refine xMr (by decide) rfl (by simp [lg_sl, Value.category, m_st_len]) (fun G => ?_)
  refine xk_aload_nR (k0 := 0) (x := 1 + i) (by decide +kernel) rfl ?_
  refine xk_lval hi rfl (by decide +kernel) ?_
  refine xk_llen hi (by decide +kernel) ?_
  refine xk_aload_nR (k0 := 0) (x := 1 + i) (by decide +kernel) rfl ?_
  refine xk_callVL (kc := 0) (ks := 0) (st := [.int (nI (sLen.getD i 0))]) [] hi (by decide +kernel) xca_coder xw_321 xw_322 rfl (s_st_coder (d := d) (P := fun v h' => v = some (.int 0) ∧ h' = h) hi ⟨rfl, rfl⟩) (by omega) rfl (by simp [Value.category]) (fun v h' hp => ?_)
  obtain ⟨rfl, rfl⟩ := hp
  refine xk_ishr (by decide +kernel) ?_
  have e : nI (sLen.getD i 0) >>> ((0 : Int32) &&& 31) = nI (sLen.getD i 0) := by
    have z : ∀ i, i < 8 → nI (sLen.getD i 0) >>> ((0 : Int32) &&& 31) = nI (sLen.getD i 0) := by decide +kernel
    exact z i hi
  rw [e]
  exact xk_iret (by decide +kernel) rfl rfl hq
theorem s_st_pre {a b : Nat} {v : Value} (hv : v = .null ∨ v = .retAddr 17) (hab : a < b) (hb : b < 2 ^ 30) (hq : P (some (.int (nI a))) h) : Mt l (d + 1) m_st_pre [.int (nI a), .int (nI b), v] h 0 0 (xRt P) := by
  refine xMr (by decide) rfl (by rcases hv with rfl | rfl <;> simp [lg_sl, Value.category, m_st_pre]) (fun G => ?_)
  refine xk_iload_n (k0 := 0) (x := nI a) (by decide +kernel) rfl ?_
  refine xk_if_lt (off := 8) 9 (by decide +kernel) rfl ⟨fun z => absurd z (nI_pos (by omega)), fun _ => ?_⟩
  refine xk_iload_n (k0 := 0) (x := nI a) (by decide +kernel) rfl ?_
  refine xk_iload_n (k0 := 1) (x := nI b) (by decide +kernel) rfl ?_
  refine xk_icmp_lt (off := 10) 16 (by decide +kernel) rfl ⟨fun _ => ?_, fun z => absurd (nI_lt hab (by omega)) z⟩
  refine xk_iload_n (k0 := 0) (x := nI a) (by decide +kernel) rfl ?_
  exact xk_iret (by decide +kernel) rfl rfl hq
theorem s_st_chk {a b : Nat} (hab : a < b) (hb : b < 2 ^ 30) (hq : P none h) : Mt l (d + 2) m_st_chk [.int (nI a), .int (nI b)] h 0 0 (xRt P) := by
  refine xMr (by decide) rfl (by simp [lg_sl, Value.category, m_st_chk]) (fun G => ?_)
  refine xk_iload_n (k0 := 0) (x := nI a) (by decide +kernel) rfl ?_
  refine xk_iload_n (k0 := 1) (x := nI b) (by decide +kernel) rfl ?_
  refine xk_lfm rfl (by decide +kernel) (fun v hv => ?_)
  refine xk_callS (kc := 0) (ks := 0) (st := []) [.int (nI a), .int (nI b), v] (by decide +kernel) xca_pre xw_343 (s_st_pre (d := d) (P := fun v h' => v = some (.int (nI a)) ∧ h' = h) hv hab hb ⟨rfl, rfl⟩) (by omega) rfl (by decide) (fun v h' hp => ?_)
  obtain ⟨rfl, rfl⟩ := hp
  refine xk_pop (by decide +kernel) rfl ?_
  exact xk_vret (by decide +kernel) rfl hq
def sChr (i j : Nat) : Int32 := (sByt.getD i []).getD j 0
theorem sChr_ok : ∀ i, i < 8 → ∀ j, j < 6 → ((sChr i j &&& (Int16.ofInt 255).toInt32).toUInt32 % 65536).toInt32 = sChr i j ∧ narrow .char (.int (sChr i j)) = .int (sChr i j) := by decide +kernel
theorem sLen_le : ∀ i, i < 8 → sLen.getD i 0 ≤ 6 := by decide
theorem s_st_l1 {i j : Nat} (hi : i < 8) (hj : j < sLen.getD i 0) (hq : P (some (.int (sChr i j))) h) : Mt l (d + 3) m_st_l1 [.retAddr (9 + i), .int (nI j)] h 0 0 (xRt P) := by
  have h6 := sLen_le i hi
  obtain ⟨c1, c2⟩ := sChr_ok i hi j (by omega)
  refine xMr (by decide) rfl (by simp [lg_sl, Value.category, m_st_l1]) (fun G => ?_)
  refine xk_iload_n (k0 := 1) (x := nI j) (by decide +kernel) rfl ?_
  refine xk_aload_nR (k0 := 0) (x := 9 + i) (by decide +kernel) rfl ?_
  refine xk_llen hi (by decide +kernel) ?_
  refine xk_callS (kc := 0) (ks := 0) (st := []) [.int (nI j), .int (nI (sLen.getD i 0))] (by decide +kernel) xca_chk xw_338 (s_st_chk (d := d) (P := fun v h' => v = none ∧ h' = h) hj (by omega) ⟨rfl, rfl⟩) (by omega) rfl (by decide) (fun v h' hp => ?_)
  obtain ⟨rfl, rfl⟩ := hp
  refine xk_aload_nR (k0 := 0) (x := 9 + i) (by decide +kernel) rfl ?_
  refine xk_iload_n (k0 := 1) (x := nI j) (by decide +kernel) rfl ?_
  refine xk_lb hi hj (by omega) (by decide +kernel) ?_
  refine xk_sipush (z := 255) (by decide +kernel) ?_
  refine xk_iand (by decide +kernel) ?_
  refine xk_i2c (by decide +kernel) ?_
  rw [show (((sByt.getD i []).getD j 0 &&& (Int16.ofInt 255).toInt32).toUInt32 % 65536).toInt32 = sChr i j from c1]
  exact xk_iret (by decide +kernel) rfl c2 hq
theorem s_st_chr {i j : Nat} (hi : i < 8) (hj : j < sLen.getD i 0) (hq : P (some (.int (sChr i j))) h) : Mt l (d + 4) m_st_chr [.retAddr (1 + i), .int (nI j)] h 0 0 (xRt P) := by
  have h6 := sLen_le i hi
  obtain ⟨c1, c2⟩ := sChr_ok i hi j (by omega)
  refine xMr (by decide) rfl (by simp [lg_sl, Value.category, m_st_chr]) (fun G => ?_)
  refine xk_aload_nR (k0 := 0) (x := 1 + i) (by decide +kernel) rfl ?_
  refine xk_callVL (kc := 0) (ks := 0) (st := []) [] hi (by decide +kernel) xca_lat xw_331 xw_332 rfl (s_st_lat (d := d) (P := fun v h' => v = some (.int 1) ∧ h' = h) hi ⟨rfl, rfl⟩) (by omega) rfl (by decide) (fun v h' hp => ?_)
  obtain ⟨rfl, rfl⟩ := hp
  refine xk_if_eq (off := 12) 16 (by decide +kernel) rfl ⟨fun z => absurd z (by decide), fun _ => ?_⟩
  refine xk_aload_nR (k0 := 0) (x := 1 + i) (by decide +kernel) rfl ?_
  refine xk_lval hi rfl (by decide +kernel) ?_
  refine xk_iload_n (k0 := 1) (x := nI j) (by decide +kernel) rfl ?_
  refine xk_callS (kc := 0) (ks := 0) (st := []) [.retAddr (9 + i), .int (nI j)] (by decide +kernel) xca_l1 xw_335 (s_st_l1 (d := d) (P := fun v h0 => v = some (.int (sChr i j)) ∧ h0 = h') hi hj ⟨rfl, rfl⟩) (by omega) rfl (by decide) (fun v h' hp => ?_)
  obtain ⟨rfl, rfl⟩ := hp
  exact xk_iret (by decide +kernel) rfl c2 hq
end
theorem xi_stlen : Jvm.Cond.instanceMethod m_st_len.2.1 ∈ xALL ∧ Jvm.Cond.selects m_st_len.2.1.cls m_st_len.2.1 m_st_len.2.1 ∈ xALL := ⟨xw_317, xw_318⟩
theorem xi_stchr : Jvm.Cond.instanceMethod m_st_chr.2.1 ∈ xALL ∧ Jvm.Cond.selects m_st_chr.2.1.cls m_st_chr.2.1 m_st_chr.2.1 ∈ xALL := ⟨xw_327, xw_328⟩

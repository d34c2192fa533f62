section
variable {G : xG} {l : Launch} {d : Nat} {M : xM} {pc : Nat} {lv : xL} {st : List Value} {h : xH} {kc ks : Nat} {Q : xQ}
theorem xpay {args : Array Value} {s : State} (hall : xALL.all (fun w => goodWord w || xisN w) = true) (ht : ∀ w ∈ xALL, w.before args s = true) : ∀ w ∈ xALL, ∀ (a' : Array Value) (U : State), s.WarmedH U.vm → w.before a' U = true := by
  intro w hw a' U hW
  have h1 := List.all_eq_true.mp hall w hw
  simp only [Bool.or_eq_true] at h1
  rcases h1 with h1 | h1
  · exact word_at hW (good_of_word h1) (ht w hw)
  · have h2 := ht w hw
    unfold xisN at h1
    split at h1
    · exact va_Nw.use rfl (va_Nw.warmF hW (va_Nw.of rfl h2))
    · exact va_Nw.use rfl (va_Nw.warmM hW (va_Nw.of rfl h2))
    · exact va_AO.use (va_AO.moved hW.alike (va_AO.of h2))
    · exact va_Nw.use rfl (va_Nw.warmD hW (va_Nw.of rfl h2))
    · have hvm := hW.alike
      simp only [Cond.before, Cond.holds, Cond.value] at h2 ⊢
      simp only [hvm.findClass, hvm.assignable]
      exact h2
    · cases h1
def xCa (own : String) (idx : Nat) (M1 : xM) (n : Nat) : Prop := M1.2.2.2.2 = .code M1.2.1 M1.1 M1.2.2.1 M1.2.2.2.1 ∧ Jvm.Cond.code M1.2.1 M1.1 M1.2.2.1 M1.2.2.2.1 ∈ xALL ∧ Jvm.Cond.initialized M1.2.1.cls ∈ xALL ∧ (M1.2.1.cls ≠ "java/lang/invoke/MethodHandle" ∧ M1.2.1.cls ≠ "java/lang/invoke/VarHandle") ∧ (parseMethodDescriptor M1.2.1.desc).map (fun d => d.parameters.length) = some n ∧ M1.2.2.1 ≤ 45 ∧ (Jvm.Cond.methodLink own idx M1.2.1 ∈ xALL ∨ ∃ host, Jvm.Cond.methodLinkNest own idx M1.2.1 host ∈ xALL)
theorem xlen {M1 : xM} {n : Nat} (h : (parseMethodDescriptor M1.2.1.desc).map (fun d => d.parameters.length) = some n) : ∀ sig, parseMethodDescriptor M1.2.1.desc = some sig → n = sig.parameters.length := by
  intro sig h2
  rw [h2] at h
  exact (Option.some.inj h).symm
theorem xstk (G : xG) (av : List Value) : xst G (av.reverse ++ st) = (xst G av).reverse ++ xst G st := by
  simp [xst, List.map_reverse]
theorem xk_callS {idx d1 kc1 ks1 : Nat} {M1 : xM} {st0 : List Value} {Q1 : xQ} (av : List Value) (hd : decode M.1 pc = .ok (.invokestatic idx, 3)) (hC : xCa M.2.1.cls idx M1 av.length) (hC2 : Jvm.Cond.static M1.2.1 ∈ xALL) (hM : Mt l d1 M1 av h kc1 ks1 Q1) (hdd : d1 + 1 ≤ d) (hs : st0 = av.reverse ++ st) (hst : (st.map fun v => v.category).sum ≤ 8) (k : ∀ v h', Q1 (.inl v) h' → Rn G l d M (pc + 3) lv (v.toList ++ st) h' kc ks Q) : Rn G l d M pc lv st0 h (kc + kc1) (ks + ks1) Q := by
  intro p e R s m args below meth c H locs cells slots ls X P hl h1 h2
  obtain ⟨a1, a2, a3, a4, a5, a6, a7⟩ := hC
  have hts := X.2.2.2.2.1
  have hp := xpay xALL_ok hts
  have hX := X.2.2.2.2.2.2.2.2
  subst hs
  have hpay : ∀ w ∈ M1.2.2.2.2 :: xALL, ∀ (a' : Array Value) (U : State), s.WarmedH U.vm → w.before a' U = true := by
    intro w hw
    rcases List.mem_cons.mp hw with rfl | hw
    · rw [a1]; exact hp _ a2
    · exact hp w hw
  have hcm : Jvm.Cond.code M1.2.1 M1.1 M1.2.2.1 M1.2.2.2.1 ∈ M1.2.2.2.2 :: xALL := by rw [a1]; exact List.mem_cons_self
  refine xW_call (a := (xst G av).toArray) (Q1 := Q1) (kc1 := kc1) (ks1 := ks1) X P hl (by omega) (by omega) ?_ k
  rcases a7 with a7 | ⟨host, a7⟩
  · exact va_runS (bytes := M1.1) (maxL := M1.2.2.1) (ret := M1.2.2.2.1) (n := av.length) (As := xst G av) (Ts := xALL) ⟨X.1, X.2.1, X.2.2.1, X.2.2.2.1, hts⟩ (hM G) ⟨⟨rfl, rfl, by simp only [xrm]; omega, by simp only [xrm]; omega, hpay, hcm, hts _ a2, hts _ a3, a4, xlen a5, hts _ a7⟩, hts _ hC2⟩ ⟨xblind, fun U hU hW => ⟨rfl, xpc_ps P hU hW⟩⟩ rfl (by simp [xst]) hl.1 (xstk G av) (lv_room (xcat hst)) hd ⟨by omega, by omega⟩
  · exact va_runSN (host := host) (bytes := M1.1) (maxL := M1.2.2.1) (ret := M1.2.2.2.1) (n := av.length) (As := xst G av) (Ts := xALL) ⟨X.1, X.2.1, X.2.2.1, X.2.2.2.1, hts⟩ (hM G) ⟨⟨⟨rfl, rfl, by simp only [xrm]; omega, by simp only [xrm]; omega, hpay, hcm⟩, hts _ a2, hts _ a3, a4, xlen a5, hts _ a7⟩, hts _ hC2, trivial⟩ ⟨xblind, fun U hU hW => ⟨rfl, xpc_ps P hU hW⟩⟩ rfl (by simp [xst]) hl.1 (xstk G av) (lv_room (xcat hst)) hd ⟨by omega, by omega⟩
theorem xk_callV {idx d1 kc1 ks1 a ci : Nat} {M1 : xM} {st0 : List Value} {Q1 : xQ} {fs : List Value} {q : vw_C} (av : List Value) (hd : decode M.1 pc = .ok (.invokevirtual idx, 3)) (hC : xCa M.2.1.cls idx M1 av.length) (hC2 : Jvm.Cond.instanceMethod M1.2.1 ∈ xALL) (hC3 : Jvm.Cond.selects M1.2.1.cls M1.2.1 M1.2.1 ∈ xALL) (hh : h[a]? = some (.inr (ci, fs))) (hc : xCl[ci]? = some q) (hq : q.1 = M1.2.1.cls) (hM : Mt l d1 M1 (.ref a :: av) h kc1 ks1 Q1) (hdd : d1 + 1 ≤ d) (hs : st0 = av.reverse ++ .ref a :: st) (hst : (st.map fun v => v.category).sum ≤ 8) (k : ∀ v h', Q1 (.inl v) h' → Rn G l d M (pc + 3) lv (v.toList ++ st) h' kc ks Q) : Rn G l d M pc lv st0 h (kc + kc1) (ks + ks1) Q := by
  intro p e R s m args below meth c H locs cells slots ls X P hl h1 h2
  obtain ⟨a1, a2, a3, a4, a5, a6, a7⟩ := hC
  have hts := X.2.2.2.2.1
  have hp := xpay xALL_ok hts
  have hX := X.2.2.2.2.2.2.2.2
  subst hs
  have hpay : ∀ w ∈ M1.2.2.2.2 :: xALL, ∀ (a' : Array Value) (U : State), s.WarmedH U.vm → w.before a' U = true := by
    intro w hw
    rcases List.mem_cons.mp hw with rfl | hw
    · rw [a1]; exact hp _ a2
    · exact hp w hw
  have hcm : Jvm.Cond.code M1.2.1 M1.1 M1.2.2.1 M1.2.2.2.1 ∈ M1.2.2.2.2 :: xALL := by rw [a1]; exact List.mem_cons_self
  have hrec := va_recv P.2.1 P.1 hc (xws_get G h a _ hh)
  rw [hq] at hrec
  refine xW_call (a := (Value.ref (G.1 + a) :: xst G av).toArray) (Q1 := Q1) (kc1 := kc1) (ks1 := ks1) X P hl (by omega) (by omega) ?_ k
  rcases a7 with a7 | ⟨host, a7⟩
  · exact va_runV (C := M1.2.1.cls) (bytes := M1.1) (maxL := M1.2.2.1) (ret := M1.2.2.2.1) (n := av.length) (As := xst G av) (b := G.1 + a) (Ts := xALL) ⟨X.1, X.2.1, X.2.2.1, X.2.2.2.1, hts⟩ (hM G) ⟨⟨rfl, rfl, by simp only [xrm]; omega, by simp only [xrm]; omega, hpay, hcm, hts _ a2, hts _ a3, a4, xlen a5, hts _ a7⟩, hts _ hC2, hts _ hC3⟩ ⟨xblind, hrec, fun U hU hW => ⟨rfl, xpc_ps P hU hW⟩⟩ rfl (by simp [xst]) hl.1 (xstk G av) (lv_room (xcat hst)) hd ⟨by omega, by omega⟩
  · exact va_runVN (C := M1.2.1.cls) (host := host) (bytes := M1.1) (maxL := M1.2.2.1) (ret := M1.2.2.2.1) (n := av.length) (As := xst G av) (b := G.1 + a) (Ts := xALL) ⟨X.1, X.2.1, X.2.2.1, X.2.2.2.1, hts⟩ (hM G) ⟨⟨⟨rfl, rfl, by simp only [xrm]; omega, by simp only [xrm]; omega, hpay, hcm⟩, hts _ a2, hts _ a3, a4, xlen a5, hts _ a7⟩, hts _ hC2, hts _ hC3⟩ ⟨xblind, hrec, fun U hU hW => ⟨rfl, xpc_ps P hU hW⟩⟩ rfl (by simp [xst]) hl.1 (xstk G av) (lv_room (xcat hst)) hd ⟨by omega, by omega⟩
theorem xk_callI {idx d1 kc1 ks1 a : Nat} {M1 : xM} {st0 : List Value} {Q1 : xQ} (av : List Value) (hd : decode M.1 pc = .ok (.invokespecial idx, 3)) (hC : xCa M.2.1.cls idx M1 av.length) (hr : M1.2.2.2.1 = none) (hC2 : Jvm.Cond.instanceMethod M1.2.1 ∈ xALL) (hC3 : M1.2.1.name = "<init>") (hM : Mt l d1 M1 (.ref a :: av) h kc1 ks1 Q1) (hdd : d1 + 1 ≤ d) (hs : st0 = av.reverse ++ .ref a :: st) (hst : (st.map fun v => v.category).sum ≤ 8) (k : ∀ v h', Q1 (.inl v) h' → Rn G l d M (pc + 3) lv (v.toList ++ st) h' kc ks Q) : Rn G l d M pc lv st0 h (kc + kc1) (ks + ks1) Q := by
  intro p e R s m args below meth c H locs cells slots ls X P hl h1 h2
  obtain ⟨a1, a2, a3, a4, a5, a6, a7⟩ := hC
  rw [hr] at a1 a2
  have hts := X.2.2.2.2.1
  have hp := xpay xALL_ok hts
  have hX := X.2.2.2.2.2.2.2.2
  subst hs
  have hpay : ∀ w ∈ M1.2.2.2.2 :: xALL, ∀ (a' : Array Value) (U : State), s.WarmedH U.vm → w.before a' U = true := by
    intro w hw
    rcases List.mem_cons.mp hw with rfl | hw
    · rw [a1]; exact hp _ a2
    · exact hp w hw
  have hcm : Jvm.Cond.code M1.2.1 M1.1 M1.2.2.1 none ∈ M1.2.2.2.2 :: xALL := by rw [a1]; exact List.mem_cons_self
  refine xW_call (a := (Value.ref (G.1 + a) :: xst G av).toArray) (Q1 := Q1) (kc1 := kc1) (ks1 := ks1) X P hl (by omega) (by omega) ?_ k
  rcases a7 with a7 | ⟨host, a7⟩
  · exact va_runI (bytes := M1.1) (maxL := M1.2.2.1) (n := av.length) (As := xst G av) (b := G.1 + a) (Ts := xALL) ⟨X.1, X.2.1, X.2.2.1, X.2.2.2.1, hts⟩ (hM G) ⟨⟨rfl, rfl, by simp only [xrm]; omega, by simp only [xrm]; omega, hpay, hcm, hts _ a2, hts _ a3, a4, xlen a5, hts _ a7⟩, hC3, hts _ hC2⟩ ⟨xblind, fun U hU hW => ⟨rfl, xpc_ps P hU hW⟩⟩ rfl (by simp [xst]) hl.1 (xstk G av) (lv_room (xcat hst)) hd ⟨by omega, by omega⟩
  · exact va_runIN (host := host) (bytes := M1.1) (maxL := M1.2.2.1) (n := av.length) (As := xst G av) (b := G.1 + a) (Ts := xALL) ⟨X.1, X.2.1, X.2.2.1, X.2.2.2.1, hts⟩ (hM G) ⟨⟨⟨rfl, rfl, by simp only [xrm]; omega, by simp only [xrm]; omega, hpay, hcm⟩, hts _ a2, hts _ a3, a4, xlen a5, hts _ a7⟩, hC3, hts _ hC2⟩ ⟨xblind, fun U hU hW => ⟨rfl, xpc_ps P hU hW⟩⟩ rfl (by simp [xst]) hl.1 (xstk G av) (lv_room (xcat hst)) hd ⟨by omega, by omega⟩
theorem xk_objinit {idx a : Nat} (hd : decode M.1 pc = .ok (.invokespecial idx, 3)) (hw1 : Jvm.Cond.methodLink M.2.1.cls idx Lib.objectInit ∈ xALL) (hw2 : Jvm.Cond.instanceMethod Lib.objectInit ∈ xALL) (hw3 : Jvm.Cond.code Lib.objectInit ⟨#[0xb1]⟩ 1 none ∈ xALL) (hdd : 1 ≤ d) (hst : (st.map fun v => v.category).sum ≤ 8) (k : Rn G l d M (pc + 3) lv st h kc ks Q) : Rn G l d M pc lv (.ref a :: st) h kc ks Q := by
  intro p e R s m args below meth c H locs cells slots ls X P hl h1 h2
  have hts := X.2.2.2.2.1
  have hX := X.2.2.2.2.2.2.2.2
  have hr := lv_room (m := m) (pc := pc) (ls := ls) (rest := xst G (.ref a :: st)) (xcat (G := G) hst)
  exact W.objInit X.1 X.2.1 X.2.2.2.1 (hts _ hw1) (hts _ hw2) (hts _ hw3) rfl (hl.1.trans X.2.2.1.symm) (rest := xst G st) rfl hd (by omega) (by omega) (k p e R s m args below meth c H locs cells slots ls X P hl h1 h2)
/-- ends that are returns -/
def xRt (P : Option Value → xH → Prop) : xQ := fun o h' => match o with
  | .inl v => P v h'
  | .inr _ => False
theorem xRt_inl {P : Option Value → xH → Prop} {v : Option Value} {h' : xH} : xRt P (.inl v) h' = P v h' := rfl
theorem xMr {av : List Value} {P : Option Value → xH → Prop} (hy : plainName M.2.1.cls = true) (hw : M.2.2.2.2 = .code M.2.1 M.1 M.2.2.1 M.2.2.2.1) (hlen : (lg_sl av).length ≤ M.2.2.1) (k : ∀ G : xG, Rn G l d M 0 (lv_args 0 av) [] h kc ks (xRt P)) : Mt l d M av h kc ks (xRt P) := xMt hy hw hlen (fun _ _ z => z) k
end

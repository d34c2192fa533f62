section
variable {G : xG} {l : Launch} {d : Nat} {M : xM} {pc : Nat} {lv : xL} {st : List Value} {h : xH} {kc ks : Nat} {Q : xQ}
/-- new; dup; invokespecial; athrow of an exception without a text: the method ends so (after the law of such a throw, with the heap's size said) -/
theorem xk_throw0 {ik ic ci : Nat} (cls : String) (names : List String) (hl0 : l.stackTraces = false)
    (d0 : decode M.1 pc = .ok (.new ik, 3)) (d3 : decode M.1 (pc + 3) = .ok (.dup, 1)) (d4 : decode M.1 (pc + 4) = .ok (.invokespecial ic, 3)) (d7 : decode M.1 (pc + 7) = .ok (.athrow, 1))
    (hw : M.2.2.2.2 = .code M.2.1 M.1 M.2.2.1 M.2.2.2.1) (hci : xCl[ci]? = some (cls, xTE, 0)) (hcls : Bundle.fit cls = true) (hnames : ∀ n ∈ names, Bundle.fit n = true)
    (hk : Jvm.Cond.classLink M.2.1.cls ik cls ∈ xALL) (hini : Jvm.Cond.initialized cls ∈ xALL) (hat : ∀ w ∈ vx_at0 M.2.1.cls ic cls names, w ∈ xALL)
    (hgood : ∀ w ∈ Jvm.Cond.classLink M.2.1.cls ik cls :: Jvm.Cond.initialized cls :: vx_at0 M.2.1.cls ic cls names, vx_ot w = true)
    (hdd : names.length + 4 ≤ d) (hn4 : names.length ≤ 4) (hst : (st.map fun v => v.category).sum ≤ 8) (hq : Q (.inr h.length) (h ++ [.inr (ci, [])])) : Rn G l d M pc lv st h (kc + 1) (ks + 6) Q := by
  intro p e R s m args below meth c H locs cells slots ls X0 P hl h1 h2 T hT X
  have hst' := xcat (G := G) hst
  have hX := X0.2.2.2.2.2.2.2.2
  have hexec := X0.1
  have hb := X0.2.1
  have hts := X0.2.2.2.2.1
  have htr : e.platform.stackTraces = false := (show e.platform.stackTraces = l.stackTraces by rw [X.admits.platform]).trans hl0
  have Y := vx_rebase X (R' := { frames := R.frames, locals := R.locals, cells := 1, slots := 6 }) (Nat.le_refl _) (Nat.le_refl _) (show cells + 1 ≤ R.cells by omega) (show slots + 6 ≤ R.slots by omega)
  have hout : ∀ x ∈ c.exceptionTable.toList, covers x (pc + 7) = false := by
    have hw9 : (Cond.code M.2.1 M.1 M.2.2.1 M.2.2.2.1).before args s = true := by rw [← hw]; exact hX.2.2.1
    obtain ⟨meth9, c9, q1, q2, -, -, -, -, q7, -⟩ := Cond.code_spec hX.2.2.2 hw9
    cases Option.some.inj (q1.symm.trans X.method)
    cases Option.some.inj (q2.symm.trans X.code)
    intro x hx
    rw [Array.isEmpty_iff.mp q7] at hx
    cases hx
  obtain ⟨s', hA⟩ : ∃ z, z = (T.setVm s.vm).setFrames (.invoking m args :: below) := ⟨_, rfl⟩
  rw [← hA] at Y
  have hvm : s'.vm = s.vm := by rw [hA]; rfl
  have hhp : s'.heap = H := by rw [hA]; exact hT
  have hW0 : s.WarmedH s'.vm := by rw [hvm]; exact State.WarmedH.refl s
  have hat' : ∀ w ∈ vx_at0 M.2.1.cls ic cls names, w.before args s' = true := fun w hw => vx_ot_at hW0 hvm.symm (hgood w (List.mem_cons_of_mem _ (List.mem_cons_of_mem _ hw))) (hts w (hat w hw))
  have hk' : (Cond.classLink M.2.1.cls ik cls).before args s' = true := vx_ot_at hW0 hvm.symm (hgood _ List.mem_cons_self) (hts _ hk)
  have hini' : (Cond.initialized cls).before args s' = true := vx_ot_at hW0 hvm.symm (hgood _ (List.mem_cons_of_mem _ List.mem_cons_self)) (hts _ hini)
  obtain ⟨p1, p2, p3, p4, p5, p6⟩ := P
  have hU := p4.2.2.1
  have hN := p4.2.2.2.1
  have hU' : vx_Zq Bundle.tN "UNASSIGNED_STACK" Bundle.steD (xA G) s' s'.heap := by rw [hhp]; exact vx_Zq.moved hW0.alike (hU.kept p5.2.1)
  have hN' : vx_Zq Bundle.tN "SUPPRESSED_SENTINEL" Bundle.listD (xA G) s' s'.heap := by rw [hhp]; exact vx_Zq.moved hW0.alike (hN.kept p5.2.1)
  have hall0 : ∀ w ∈ Bundle.ownAtoms0 M.2.1.cls ic cls names, w.before args s' = true := vx_own hat' (vx_isRefq hU'.1) (vx_isRefq hN'.1) hU'.2.word hN'.2.word
  have hown' : s'.vm.findClass M.2.1.cls = some m.cls := by rw [hvm]; exact X0.2.2.2.1
  have hins : (Cond.instantiable cls 6).before args s' = true := hall0 _ (by simp [Bundle.ownAtoms0])
  obtain ⟨vm₁, cX, kX, hfX, hkX, -, -, X₁, st1⟩ := Y.newCold hexec (own := M.2.1.cls) (C := cls) (index := ik) (n := 6) hown' hk' hins hini'
    (g := F0 m pc ls (xst G st)) rfl (by rw [hb]; exact d0) (Nat.le_refl _) (Nat.le_refl _)
  generalize hT1 : (T.setVm vm₁).pushCell { cls := cX, slots := kX.instanceTypes.map defaultValue, vm := .none } = T1 at X₁ st1
  have hcat : (Value.ref T.heap.size).category = 1 := rfl
  have hcellA : T1.heap[T.heap.size]? = some (freshCell cX kX) := by rw [← hT1]; exact State.heap_pushCell_size _ _
  have d3' : decode c.code (pc + 3) = .ok (.dup, 1) := by rw [hb]; exact d3
  obtain ⟨U, hsteps, hrun, hend, hW, hsame, ce, hce, hO⟩ := X₁.ctorThrow0 hexec htr (own := M.2.1.cls) (cls := cls) (names := names) (ic := ic) hown' hcls hnames hall0 (fun x hx => nomatch hx) hfX hkX hcellA (by rw [hhp, hT]; exact Nat.le_refl _)
    (g := { method := m, pc := pc + 4, locals := ls, stack := .ref T.heap.size :: .ref T.heap.size :: xst G st, locked := none }) rfl (hl.1.trans X0.2.2.1.symm) rfl rfl (rest := xst G st) rfl
    (by rw [hb]; exact d4) (by rw [hb]; exact d7) hout (show names.length + 3 < R.frames by omega) (by simp only [List.map_cons, List.sum_cons, hcat]; show 2 * 0 + _ + _ ≤ R.locals; omega) X0.2.2.2.2.2.2.1
  obtain ⟨f1, f2⟩ := vx_frame hsame
  have f3 : U.heap.size ≤ s'.heap.size + 1 := hsame.2.2.1
  rw [hhp] at f1 f2 f3
  have f4 : U.heap.size = H.size + 1 := by
    have := (Array.getElem?_eq_some_iff.mp hce).1
    rw [hT] at this
    omega
  have hWs : s.WarmedH U.vm := State.WarmedH.trans hW0 hW
  have hcl : s.vm.findClass cls = some ce.cls := by
    have h9 := hO.cls
    rw [hvm] at h9
    exact h9
  have hall : s.sameButNew ({ U with vm := s.vm } : State) locs R.cells R.slots := by
    subst hA
    obtain ⟨e1, e2⟩ := hsame
    rw [State.setFrames_setFrames] at e1
    have h2' : (T.setVm s.vm).sameButNew ({ U with vm := s.vm } : State) [] (0 + 1) (0 + 6) := ⟨e1, e2⟩
    have h3 := X.same.trans h2'
    rw [List.append_nil] at h3
    exact h3.mono (by omega) (by omega)
  have f5 : ∀ q : Nat, q < H.size → U.heap[q]? = H[q]? := fun q hq => f2 q hq (fun z hz => nomatch hz)
  have hclD : ce.cls = G.2.2.1.1 ci := by
    have h9 := (p2.1 ci _ hci).2.1
    exact Option.some.inj (hcl.symm.trans h9)
  have hPs : xPc G (h ++ [.inr (ci, [])]) s U.heap locs := by
    refine xpc_push (H := H) (c := .inr (ci, [])) ⟨p1, p2, p3, p4, p5, p6⟩ ?_ f4 f5
    refine ⟨_, hci, ce, ?_, hclD, hO.vm, fun k9 h9 => absurd h9 (Nat.not_lt_zero _)⟩
    show U.heap[G.1 + h.length]? = some ce
    rw [← p3, ← hT]
    exact hce
  refine ⟨U, ?_, .threw T.heap.size, hrun, hend, ⟨⟨.inr h.length, _, hq, xpc_ps hPs rfl hWs, ?_⟩, ?_⟩, locs, ⟨hWs, hall⟩, p5.2.2⟩
  · refine st1 _ ?_
    show Steps p.tables e below (T1.setTop { method := m, pc := pc + 3, locals := ls, stack := .ref T.heap.size :: xst G st, locked := none }) _
    jvm_step X₁.here [X₁.here.top, hexec, d3', Value.category]
    exact hsteps
  · show Outcome.threw T.heap.size = .threw (G.1 + h.length)
    rw [hT, p3]
  · exact ⟨Nat.le_trans p5.1 f1, fun q g1 g2 => (f5 q (Nat.lt_of_lt_of_le g1 p5.1)).trans (p5.2.1 q g1 g2)⟩
def xXC (G : xG) (QX : Nat → xH → Prop) : String → State → State → Prop := fun E st t => ∃ (ci : Nat) (h' : xH) (r : vw_C), QX ci h' ∧ xCl[ci]? = some r ∧ r.1 = E ∧ xPs G h' t ∧ va_F (xA G) st t
/-- a method that returns or throws -/
def MtX (l : Launch) (d : Nat) (M : xM) (av : List Value) (h : xH) (kc ks : Nat) (P : Option Value → xH → Prop) (QX : Nat → xH → Prop) : Prop :=
  ∀ G : xG, vx_Met l M.2.1 (M.2.2.2.2 :: xALL) (xrm d kc ks) (fun v U => v = (xst G av).toArray ∧ xPs G h U) (xEnd G (xRt P)) (xXC G QX) kc ks (xA G)
def xRX (P : Option Value → xH → Prop) (QX : Nat → xH → Prop) : xQ := fun o h' => match o with
  | .inl v => P v h'
  | .inr k => ∃ (ci : Nat) (r : vw_C), h'[k]? = some (.inr (ci, [])) ∧ xCl[ci]? = some r ∧ QX ci h'
theorem xRX_inl {P : Option Value → xH → Prop} {QX : Nat → xH → Prop} {v : Option Value} {h' : xH} : xRX P QX (.inl v) h' = P v h' := rfl
theorem xMx {av : List Value} {P : Option Value → xH → Prop} {QX : Nat → xH → Prop} (hy : plainName M.2.1.cls = true) (hw : M.2.2.2.2 = .code M.2.1 M.1 M.2.2.1 M.2.2.2.1) (hlen : (lg_sl av).length ≤ M.2.2.1) (k : ∀ G : xG, Rn G l d M 0 (lv_args 0 av) [] h kc ks (xRX P QX)) : MtX l d M av h kc ks P QX := by
  intro G
  refine vx_ofW (cc := M.1) (maxL := M.2.2.1) (ret := M.2.2.2.1) (ws' := xALL) hy (by rw [hw]) ?_
  intro p e s m args below meth c s₁ B hml _ hv
  obtain ⟨rfl, hP⟩ := hv
  have hts := atoms_spec (ws := M.2.2.2.2 :: xALL) B.pre
  have hl := lv_entry (xst G av) (n := M.2.2.1) (by rw [xlg]; exact hlen)
  rw [lg_entry_eq]
  rw [xargs] at hl
  have kk := k G p e (headSpec (M.2.2.2.2 :: xALL) (xrm d kc ks)).room s m (xst G av).toArray below meth c s.heap [] 0 0 _ ⟨B.exec, B.bytes, hml, findClass_of_methodNamed B.named, fun w h9 => hts w (List.mem_cons_of_mem _ h9), B.returns, B.notSynchronized, (name_of_methodNamed B.named B.method).1, Nat.le_refl _, Nat.le_refl _, hts _ List.mem_cons_self, B.named⟩ ⟨hP.1, hP.2.1, hP.2.2.1, hP.2.2.2, va_S.rf, by rw [hP.2.2.1]; exact Nat.le_add_right _ _⟩ hl (by simp [headSpec, xrm]) (by simp [headSpec, xrm])
  intro T hT S
  obtain ⟨t, a1, o, b1, b2, b3, L, b4, b5⟩ := kk T hT S
  refine ⟨t, a1, o, b1, b2, ?_⟩
  obtain ⟨⟨o', h', c1, c2, c3⟩, c4⟩ := b3
  cases o' with
  | inl v => exact Or.inl ⟨⟨⟨.inl v, h', c1, c2, c3⟩, c4⟩, L, ⟨⟨_, c3⟩, b4⟩, b5⟩
  | inr k0 =>
    obtain ⟨ci, r, g1, g2, g3⟩ := c1
    obtain ⟨r', q1, ce, q2, q3, q4, -⟩ := c2.1 k0 _ (xws_get G h' k0 _ g1)
    refine Or.inr ⟨G.1 + k0, c3, r.1, ce, L, ⟨ci, h', r, g3, g2, rfl, c2, c4⟩, q2, q4, ?_, b4.1, b4.2, b5⟩
    rw [q3]
    have h9 := (c2.2.1.1 ci r g2).2.1
    rw [b4.1.alike.findClass] at h9
    exact h9
/-- a method with a table of handlers of its own -/
theorem xMw {av : List Value} {P : Option Value → xH → Prop} {hh : List (Nat × Nat × Nat × Nat)} (hy : plainName M.2.1.cls = true) (hw : M.2.2.2.2 = .codeWith M.2.1 M.1 M.2.2.1 M.2.2.2.1 hh) (hlen : (lg_sl av).length ≤ M.2.2.1) (k : ∀ G : xG, Rn G l d M 0 (lv_args 0 av) [] h kc ks (xRt P)) : Mt l d M av h kc ks (xRt P) := by
  intro G
  refine va_MetW (hh := hh) (cc := M.1) (maxL := M.2.2.1) (ret := M.2.2.2.1) (ws' := xALL) hy (by rw [hw]) ?_
  intro p e s m args below meth c s₁ B hml hv
  obtain ⟨rfl, hP⟩ := hv
  have hts := atoms_spec (ws := M.2.2.2.2 :: xALL) B.pre
  have hl := lv_entry (xst G av) (n := M.2.2.1) (by rw [xlg]; exact hlen)
  rw [lg_entry_eq]
  rw [xargs] at hl
  have kk := k G p e (headSpec (M.2.2.2.2 :: xALL) (xrm d kc ks)).room s m (xst G av).toArray below meth c s.heap [] 0 0 _ ⟨B.exec, B.bytes, hml, findClass_of_methodNamed B.named, fun w h9 => hts w (List.mem_cons_of_mem _ h9), B.returns, B.notSynchronized, (name_of_methodNamed B.named B.method).1, Nat.le_refl _, Nat.le_refl _, hts _ List.mem_cons_self, B.named⟩ ⟨hP.1, hP.2.1, hP.2.2.1, hP.2.2.2, va_S.rf, by rw [hP.2.2.1]; exact Nat.le_add_right _ _⟩ hl (by simp [headSpec, xrm]) (by simp [headSpec, xrm])
  intro T hT S
  obtain ⟨t, a1, o, b1, b2, b3, L, b4, b5⟩ := kk T hT S
  refine ⟨t, a1, o, b1, b2, b3, L, ⟨?_, b4⟩, b5⟩
  obtain ⟨⟨o', h', c1, c2, c3⟩, -⟩ := b3
  cases o' with
  | inl v => exact ⟨_, c3⟩
  | inr k0 => exact c1.elim
/-- a call that may throw, in a frame whose table takes it: the handler begins with astore -/
theorem xk_callVX {idx d1 kc1 ks1 a ci : Nat} {M1 : xM} {st0 : List Value} {P1 : Option Value → xH → Prop} {QX : Nat → xH → Prop} {fs : List Value} {q : vw_C} {hh0 : List (Nat × Nat × Nat × Nat)} (av : List Value) (hd : decode M.1 pc = .ok (.invokevirtual idx, 3)) (hC : xCa M.2.1.cls idx M1 av.length) (hlk : Jvm.Cond.methodLink M.2.1.cls idx M1.2.1 ∈ xALL) (hC2 : Jvm.Cond.instanceMethod M1.2.1 ∈ xALL) (hC3 : Jvm.Cond.selects M1.2.1.cls M1.2.1 M1.2.1 ∈ xALL) (hh : h[a]? = some (.inr (ci, fs))) (hc : xCl[ci]? = some q) (hq : q.1 = M1.2.1.cls) (hw : M.2.2.2.2 = .codeWith M.2.1 M.1 M.2.2.1 M.2.2.2.1 hh0) (hM : MtX l d1 M1 (.ref a :: av) h kc1 ks1 P1 QX) (hdd : d1 + 1 ≤ d) (hs : st0 = av.reverse ++ .ref a :: st) (hst : (st.map fun v => v.category).sum ≤ 8) (k : ∀ v h', P1 v h' → Rn G l d M (pc + 3) lv (v.toList ++ st) h' kc ks Q)
    (kx : ∀ (ci : Nat) (h' : xH) (r : vw_C), QX ci h' → xCl[ci]? = some r → ∃ (pre suf : List (Nat × Nat × Nat × Nat)) (x : Nat × Nat × Nat × Nat) (nm : String) (k0 : Fin 4), hh0 = pre ++ x :: suf ∧ (∀ z ∈ pre, z.2.2.2 ≠ 0 ∧ ∃ nz : String, Jvm.Cond.classLink M.2.1.cls z.2.2.2 nz ∈ xALL ∧ ((r.1 = "java/lang/IllegalStateException" ∨ r.1 = "java/lang/ArithmeticException") ∧ nz = "java/lang/IllegalArgumentException")) ∧ x.1 ≤ pc ∧ pc < x.2.1 ∧ x.2.2.2 ≠ 0 ∧ Jvm.Cond.classLink M.2.1.cls x.2.2.2 nm ∈ xALL ∧ Jvm.Cond.castable r.1 nm ∈ xALL ∧ decode M.1 x.2.2.1 = .ok (.astore_n k0, 1) ∧ (k0 : Nat) < M.2.2.1 ∧ Rn G l d M (x.2.2.1 + 1) (lv.filter (fun q => !(q.1 == (k0 : Nat)) && !(q.1 + 1 == (k0 : Nat) && q.2.category == 2))) [] h' kc ks Q) : Rn G l d M pc lv st0 h (kc + kc1) (ks + ks1) Q := by
  intro p e R s m args below meth c H locs cells slots ls X P hl h1 h2
  obtain ⟨a1, a2, a3, a4, a5, a6, a7⟩ := hC
  have hts := X.2.2.2.2.1
  have hp := xpay xALL_ok hts
  have hX := X.2.2.2.2.2.2.2.2
  subst hs
  have hpay : ∀ w ∈ M1.2.2.2.2 :: xALL, ∀ (a' : Array Value) (U : State), s.WarmedH U.vm → w.before a' U = true := by
    intro w hw
    rcases List.mem_cons.mp hw with rfl | hw
    · rw [a1]; exact hp _ a2
    · exact hp w hw
  have hcm : Jvm.Cond.code M1.2.1 M1.1 M1.2.2.1 M1.2.2.2.1 ∈ M1.2.2.2.2 :: xALL := by rw [a1]; exact List.mem_cons_self
  have hrec := va_recv P.2.1 P.1 hc (xws_get G h a _ hh)
  rw [hq] at hrec
  · have hr := vx_runV (R := R) (rm := xrm d1 kc1 ks1) (mc := kc1) (ms := ks1) (C := M1.2.1.cls) (bytes := M1.1) (maxL := M1.2.2.1) (ret := M1.2.2.2.1) (n := av.length) (As := xst G av) (b := G.1 + a) (Ts := xALL) (cells := cells) (slots := slots) (locs := locs) (e := e) (below := below) (meth := meth) (g := F0 m pc ls (xst G (av.reverse ++ .ref a :: st))) (rest := xst G st) ⟨X.1, X.2.1, X.2.2.1, X.2.2.2.1, hts⟩ (hM G) ⟨⟨rfl, rfl, by simp only [xrm]; omega, by simp only [xrm]; omega, hpay, hcm, hts _ a2, hts _ a3, a4, xlen a5, hts _ hlk⟩, hts _ hC2, hts _ hC3⟩ ⟨xblind, hrec, fun U hU hW => ⟨rfl, xpc_ps P hU hW⟩⟩ rfl (by simp [xst]) hl.1 (xstk G av) (lv_room (xcat hst)) hd ⟨by omega, by omega⟩
    intro T hT S
    have fr : ∀ {st₀ t T' : State} {L : List Loc}, st₀.heap = H → T'.heap = t.heap → va_F (xA G) st₀ t → (∀ q ∈ L, xA G q.base) → ∀ h' : xH, xPs G h' t → xPc G h' s T'.heap (locs ++ L) := by
      intro st₀ t T' L g0 e1 c4 gL h' c2
      obtain ⟨p1, p2, p3, p4, p5, p6⟩ := P
      obtain ⟨z1, z2⟩ := c4
      rw [g0] at z1 z2
      refine ⟨by rw [e1]; exact c2.1, p2, by rw [e1]; exact c2.2.2.1, p4, ⟨by rw [e1]; exact Nat.le_trans p5.1 z1, fun q g1 g2 => ?_, fun q hq => ?_⟩, p6⟩
      · rw [e1, z2 q (Nat.lt_of_lt_of_le g1 p5.1) g2]
        exact p5.2.1 q g1 g2
      · rcases List.mem_append.mp hq with hq | hq
        · exact p5.2.2 q hq
        · exact gL q hq
    rcases hr T hT S with ⟨v, st₀, t, T', L, g0, S', gL, e1, e2, ⟨⟨o', h', c1, c2, c3⟩, c4⟩, go⟩ | ⟨q9, st₀, t, T', L, E, ce, g0, S', gL, e1, e2, ⟨cj, h', r, x1, x2, x3, x4, x5⟩, hce, hcv, hcl, go⟩
    · cases o' with
      | inr k0 => cases c3
      | inl v' =>
        have hv : v = v'.map (xab G) := Outcome.returned.inj c3
        subst hv
        have kk := k v' h' c1 p e R s m args below meth c T'.heap (locs ++ L) (cells + kc1) (slots + ks1) ls X (fr g0 e1 c4 gL h' c2) hl (by omega) (by omega) T' rfl S'
        obtain ⟨t2, y1, y2⟩ := kk
        refine ⟨t2, go t2 ?_, y2⟩
        have e9 : (v'.map (xab G)).toList ++ xst G st = xst G (v'.toList ++ st) := by cases v' <;> rfl
        show Steps _ _ _ (T'.setTop (F0 m (pc + 3) ls ((v'.map (xab G)).toList ++ xst G st))) _
        rw [e9]
        exact y1
    · obtain ⟨pre, suf, x, nm, k0, w1, w2, w3, w4, w5, w6, w7, w8, w9, w10⟩ := kx cj h' r x1 x2
      have htab : c.exceptionTable.toList = tableOf hh0 := by
        have hw9 : (Cond.codeWith M.2.1 M.1 M.2.2.1 M.2.2.2.1 hh0).before args s = true := by rw [← hw]; exact hX.2.2.1
        obtain ⟨m9, meth9, c9, hn9, q1, q2, -, -, q6, -⟩ := Cond.codeWith_spec hw9
        cases Option.some.inj (hn9.symm.trans hX.2.2.2)
        cases Option.some.inj (q1.symm.trans S.method)
        cases Option.some.inj (q2.symm.trans S.code)
        rw [← q6, table_eq]
      have hP' := fr g0 e1 x5 gL h' x4
      have hcatch : vx_W p l e R s m args below meth c T'.heap (locs ++ L) (cells + kc1) (slots + ks1) (xMQ below G Q args s R.cells R.slots) (F0 m pc ls (xst G st)) q9 := by
        refine vx_catch (own := M.2.1.cls) (name := nm) (E := E) (ce := ce) X.2.2.2.1 (tableOf pre) ⟨x.1, x.2.1, x.2.2.1, x.2.2.2⟩ (tableOf suf) (by rw [htab, w1]; simp [tableOf]) (fun z hz => ?_) (by simp only [covers, w3, w4, decide_true, Bool.and_self]) w5 (hts _ w6) (by rw [← x3]; exact hts _ w7) (by rw [e1]; exact hce) hcv hcl ?_
        · obtain ⟨z0, hz0, hz1⟩ := List.mem_map.mp hz
          obtain ⟨u1, nz, u2, u3, u4⟩ := w2 z0 hz0
          subst hz1
          refine Or.inr ⟨u1, nz, hts _ u2, ?_⟩
          subst u4
          rw [x3] at u3
          rcases u3 with u3 | u3
          · rw [u3]; exact P.2.2.2.1.2.2.2.2.1
          · rw [u3]; exact P.2.2.2.1.2.2.2.2.2.1
        · refine lv_astore_n X.1 X.2.1 w8 rfl hl w9 rfl (fun ls' hl' => ?_)
          refine w10 p e R s m args below meth c T'.heap (locs ++ L) (cells + kc1) (slots + ks1) ls' X hP' ⟨hl'.1, hl'.2.1, fun q hq => hl'.2.2 q (List.mem_cons_of_mem _ ?_)⟩ (by omega) (by omega)
          have e8 := xlv_set G lv (k0 : Nat) .null
          have e7 : (xlv G lv).filter (fun q => !(q.1 == (k0 : Nat)) && !(q.1 + 1 == (k0 : Nat) && q.2.category == 2)) = xlv G (lv.filter (fun q => !(q.1 == (k0 : Nat)) && !(q.1 + 1 == (k0 : Nat) && q.2.category == 2))) := (List.cons.inj e8).2
          rw [e7]
          exact hq
      obtain ⟨t2, y1, y2⟩ := hcatch T' rfl S'
      exact ⟨t2, go.trans y1, y2⟩
/-- a static call of a method with a table of its own -/
theorem xk_callSW {idx d1 kc1 ks1 : Nat} {M1 : xM} {st0 : List Value} {Q1 : xQ} {hh0 : List (Nat × Nat × Nat × Nat)} (av : List Value) (hd : decode M.1 pc = .ok (.invokestatic idx, 3)) (hw : M1.2.2.2.2 = .codeWith M1.2.1 M1.1 M1.2.2.1 M1.2.2.2.1 hh0) (hcd : Jvm.Cond.codeWith M1.2.1 M1.1 M1.2.2.1 M1.2.2.2.1 hh0 ∈ xALL) (hini : Jvm.Cond.initialized M1.2.1.cls ∈ xALL) (hnm : M1.2.1.cls ≠ "java/lang/invoke/MethodHandle" ∧ M1.2.1.cls ≠ "java/lang/invoke/VarHandle") (hpar : (parseMethodDescriptor M1.2.1.desc).map (fun d => d.parameters.length) = some av.length) (h45 : M1.2.2.1 ≤ 45) (hlk : Jvm.Cond.methodLink M.2.1.cls idx M1.2.1 ∈ xALL) (hC2 : Jvm.Cond.static M1.2.1 ∈ xALL) (hM : Mt l d1 M1 av h kc1 ks1 Q1) (hdd : d1 + 1 ≤ d) (hs : st0 = av.reverse ++ st) (hst : (st.map fun v => v.category).sum ≤ 8) (k : ∀ v h', Q1 (.inl v) h' → Rn G l d M (pc + 3) lv (v.toList ++ st) h' kc ks Q) : Rn G l d M pc lv st0 h (kc + kc1) (ks + ks1) Q := by
  intro p e R s m args below meth c H locs cells slots ls X P hl h1 h2
  have hts := X.2.2.2.2.1
  have hp := xpay xALL_ok hts
  have hX := X.2.2.2.2.2.2.2.2
  subst hs
  have hpay : ∀ w ∈ M1.2.2.2.2 :: xALL, ∀ (a' : Array Value) (U : State), s.WarmedH U.vm → w.before a' U = true := by
    intro w hw9
    rcases List.mem_cons.mp hw9 with rfl | hw9
    · rw [hw]; exact hp _ hcd
    · exact hp w hw9
  have hcm : Jvm.Cond.codeWith M1.2.1 M1.1 M1.2.2.1 M1.2.2.2.1 hh0 ∈ M1.2.2.2.2 :: xALL := by rw [hw]; exact List.mem_cons_self
  refine xW_call (a := (xst G av).toArray) (Q1 := Q1) (kc1 := kc1) (ks1 := ks1) X P hl (by omega) (by omega) ?_ k
  exact vx_runSW (hh := hh0) (bytes := M1.1) (maxL := M1.2.2.1) (ret := M1.2.2.2.1) (n := av.length) (As := xst G av) (Ts := xALL) ⟨X.1, X.2.1, X.2.2.1, X.2.2.2.1, hts⟩ (hM G) ⟨⟨rfl, rfl, by simp only [xrm]; omega, by simp only [xrm]; omega, hpay, hcm⟩, hts _ hcd, hts _ hini, hnm, xlen hpar, hts _ hlk, hts _ hC2⟩ ⟨xblind, fun U hU hW => ⟨rfl, xpc_ps P hU hW⟩⟩ rfl (by simp [xst]) hl.1 (xstk G av) (lv_room (xcat hst)) hd ⟨by omega, by omega⟩
end
section
variable {G : xG} {l : Launch} {d : Nat} {M : xM} {pc : Nat} {lv : xL} {st : List Value} {h : xH} {kc ks : Nat} {Q : xQ}
theorem xk_slen (hd : decode M.1 pc = .ok (.arraylength, 1)) (k : Rn G l d M (pc + 1) lv (.int (Int32.ofNat G.2.2.2.2.1) :: st) h kc ks Q) : Rn G l d M pc lv (.retAddr 0 :: st) h kc ks Q := by
  intro p e R s m args below meth c H locs cells slots ls X P hl h1 h2
  obtain ⟨p1, p2, p3, p4, p5, p6⟩ := P
  exact va_slen X.1 X.2.1 p4.1 (Nat.lt_of_lt_of_le p4.2.1 p6) (Nat.not_le.mpr p4.2.1) p5 hd (k p e R s m args below meth c H locs cells slots ls X ⟨p1, p2, p3, p4, p5, p6⟩ hl h1 h2)
theorem xk_sld {i : Int32} (hd : decode M.1 pc = .ok (.iaload, 1)) (hi : vp_in i G.2.2.2.2.1) (k : Rn G l d M (pc + 1) lv (.int (G.2.2.2.2.2 i.toNatClampNeg) :: st) h kc ks Q) : Rn G l d M pc lv (.int i :: .retAddr 0 :: st) h kc ks Q := by
  intro p e R s m args below meth c H locs cells slots ls X P hl h1 h2
  obtain ⟨p1, p2, p3, p4, p5, p6⟩ := P
  exact va_sld X.1 X.2.1 p4.1 (Nat.lt_of_lt_of_le p4.2.1 p6) (Nat.not_le.mpr p4.2.1) p5 hi hd (k p e R s m args below meth c H locs cells slots ls X ⟨p1, p2, p3, p4, p5, p6⟩ hl h1 h2)
end

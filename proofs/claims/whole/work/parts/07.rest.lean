section
variable {G : xG} {l : Launch} {d : Nat} {M : xM} {pc : Nat} {lv : xL} {st : List Value} {h : xH} {kc ks : Nat} {Q : xQ}
theorem xk_iald {a n : Nat} {f : Nat → Int32} {i : Int32} (hd : decode M.1 pc = .ok (.iaload, 1)) (hh : h[a]? = some (.inl (0, n, .inl f))) (hi : vp_in i n) (k : Rn G l d M (pc + 1) lv (.int (f i.toNatClampNeg) :: st) h kc ks Q) : Rn G l d M pc lv (.int i :: .ref a :: st) h kc ks Q := by
  intro p e R s m args below meth c H locs cells slots ls X P hl h1 h2
  exact va_iald X.1 X.2.1 P.2.1 P.1 a 0 (xws_get G h a _ hh) rfl hi hd (k p e R s m args below meth c H locs cells slots ls X P hl h1 h2)
theorem xk_lald {a n : Nat} {f : Nat → Int64} {i : Int32} (hd : decode M.1 pc = .ok (.laload, 1)) (hh : h[a]? = some (.inl (1, n, .inr (.inl f)))) (hi : vp_in i n) (k : Rn G l d M (pc + 1) lv (.long (f i.toNatClampNeg) :: st) h kc ks Q) : Rn G l d M pc lv (.int i :: .ref a :: st) h kc ks Q := by
  intro p e R s m args below meth c H locs cells slots ls X P hl h1 h2
  exact va_lald X.1 X.2.1 P.2.1 P.1 a 1 (xws_get G h a _ hh) rfl hi hd (k p e R s m args below meth c H locs cells slots ls X P hl h1 h2)
theorem xk_cald {a n : Nat} {f : Nat → Int32} {i : Int32} (hd : decode M.1 pc = .ok (.caload, 1)) (hh : h[a]? = some (.inl (2, n, .inl f))) (hi : vp_in i n) (k : Rn G l d M (pc + 1) lv (.int (f i.toNatClampNeg) :: st) h kc ks Q) : Rn G l d M pc lv (.int i :: .ref a :: st) h kc ks Q := by
  intro p e R s m args below meth c H locs cells slots ls X P hl h1 h2
  exact va_cald X.1 X.2.1 P.2.1 P.1 a 2 (xws_get G h a _ hh) rfl hi hd (k p e R s m args below meth c H locs cells slots ls X P hl h1 h2)
theorem xk_zald {a n : Nat} {f : Nat → Int32} {i : Int32} (hd : decode M.1 pc = .ok (.baload, 1)) (hh : h[a]? = some (.inl (3, n, .inl f))) (hi : vp_in i n) (k : Rn G l d M (pc + 1) lv (.int (f i.toNatClampNeg) :: st) h kc ks Q) : Rn G l d M pc lv (.int i :: .ref a :: st) h kc ks Q := by
  intro p e R s m args below meth c H locs cells slots ls X P hl h1 h2
  exact va_zald X.1 X.2.1 P.2.1 P.1 a 3 (xws_get G h a _ hh) rfl hi hd (k p e R s m args below meth c H locs cells slots ls X P hl h1 h2)
theorem xab_rf (G : xG) (r : Option Nat) : va_rf (r.map (fun k => G.1 + k)) = xab G (va_rf r) := by cases r <;> rfl
theorem xk_aald {a n t : Nat} {f : Nat → Option Nat} {i : Int32} (hd : decode M.1 pc = .ok (.aaload, 1)) (hh : h[a]? = some (.inl (t, n, .inr (.inr (.inr (.inr f)))))) (ht : t = 4 ∨ t = 5) (hi : vp_in i n) (k : Rn G l d M (pc + 1) lv (va_rf (f i.toNatClampNeg) :: st) h kc ks Q) : Rn G l d M pc lv (.int i :: .ref a :: st) h kc ks Q := by
  intro p e R s m args below meth c H locs cells slots ls X P hl h1 h2
  have kk := k p e R s m args below meth c H locs cells slots ls X P hl h1 h2
  have e9 : xst G (va_rf (f i.toNatClampNeg) :: st) = va_rf ((f i.toNatClampNeg).map (fun k => G.1 + k)) :: xst G st := by rw [xab_rf]; rfl
  rw [e9] at kk
  rcases ht with rfl | rfl
  · exact va_aldq X.1 X.2.1 P.2.1 P.1 a 4 (xws_get G h a _ hh) rfl hi hd kk
  · exact va_aldq X.1 X.2.1 P.2.1 P.1 a 5 (xws_get G h a _ hh) rfl hi hd kk
theorem xtys_at (G : xG) {t : Nat} (ht : t < 6) : ∃ ty, (xtys G)[t]? = some (G.2.2.2.1 t, ty) := by
  match t, ht with
  | 0, _ => exact ⟨_, rfl⟩
  | 1, _ => exact ⟨_, rfl⟩
  | 2, _ => exact ⟨_, rfl⟩
  | 3, _ => exact ⟨_, rfl⟩
  | 4, _ => exact ⟨_, rfl⟩
  | 5, _ => exact ⟨_, rfl⟩
theorem xk_alen {a t : Nat} {x : vp_A} (hd : decode M.1 pc = .ok (.arraylength, 1)) (hh : h[a]? = some (.inl (t, x))) (ht : t < 6) (k : Rn G l d M (pc + 1) lv (.int (Int32.ofNat x.1) :: st) h kc ks Q) : Rn G l d M pc lv (.ref a :: st) h kc ks Q := by
  intro p e R s m args below meth c H locs cells slots ls X P hl h1 h2
  have kk := k p e R s m args below meth c H locs cells slots ls X P hl h1 h2
  have he := xws_get G h a _ hh
  obtain ⟨ty, h9⟩ := xtys_at G ht
  obtain ⟨n, f | f | f | f | f⟩ := x
  · exact va_alen X.1 X.2.1 P.2.1 P.1 a t he h9 rfl hd kk
  · exact va_alen X.1 X.2.1 P.2.1 P.1 a t he h9 rfl hd kk
  · exact va_alen X.1 X.2.1 P.2.1 P.1 a t he h9 rfl hd kk
  · exact va_alen X.1 X.2.1 P.2.1 P.1 a t he h9 rfl hd kk
  · exact va_alen X.1 X.2.1 P.2.1 P.1 a t he h9 rfl hd kk
theorem xk_iast {a n : Nat} {f : Nat → Int32} {i : Int32} {x : Int32} (hd : decode M.1 pc = .ok (.iastore, 1)) (hh : h[a]? = some (.inl (0, n, .inl f))) (hi : vp_in i n) (k : Rn G l d M (pc + 1) lv st (h.set a (.inl (0, n, .inl (upd f i.toNatClampNeg x)))) kc ks Q) : Rn G l d M pc lv (.int x :: .int i :: .ref a :: st) h kc ks Q := by
  intro p e R s m args below meth c H locs cells slots ls X P hl h1 h2
  have he := P.1 a _ (xws_get G h a _ hh)
  have hla : a < h.length := (List.getElem?_eq_some_iff.mp hh).1
  refine W.iast X.1 X.2.1 he ((P.2.1.2 0 _ rfl).1 n (fun j => .int (f j))) (fun q => by cases q) (by show ¬ (i < 0 ∨ (arrV _ _ _).slots.size ≤ _); rw [arrV_size]; exact hi) rfl rfl hd fun H1 e0 z oq => ?_
  refine k p e R s m args below meth c H1 _ cells slots ls X (xpc_put P hla ?_ z oq) hl h1 h2
  show H1[G.1 + a]? = some (vp_cell _ _)
  rw [e0, vp_cell_i, vp_cell_i, arrV_store]
  congr 2
  funext q
  by_cases hq : q = i.toNatClampNeg
  · subst hq
    simp [updV, upd, vp_updL, vp_nar]
    try rfl
  · simp [updV, upd, vp_updL, hq]
theorem xk_cast {a n : Nat} {f : Nat → Int32} {i : Int32} {x : Int32} (hd : decode M.1 pc = .ok (.castore, 1)) (hh : h[a]? = some (.inl (2, n, .inl f))) (hi : vp_in i n) (k : Rn G l d M (pc + 1) lv st (h.set a (.inl (2, n, .inl (upd f i.toNatClampNeg (vp_nar .char x))))) kc ks Q) : Rn G l d M pc lv (.int x :: .int i :: .ref a :: st) h kc ks Q := by
  intro p e R s m args below meth c H locs cells slots ls X P hl h1 h2
  have he := P.1 a _ (xws_get G h a _ hh)
  have hla : a < h.length := (List.getElem?_eq_some_iff.mp hh).1
  refine W.cast X.1 X.2.1 he ((P.2.1.2 2 _ rfl).1 n (fun j => .int (f j))) (fun q => by cases q) (by show ¬ (i < 0 ∨ (arrV _ _ _).slots.size ≤ _); rw [arrV_size]; exact hi) rfl rfl hd fun H1 e0 z oq => ?_
  refine k p e R s m args below meth c H1 _ cells slots ls X (xpc_put P hla ?_ z oq) hl h1 h2
  show H1[G.1 + a]? = some (vp_cell _ _)
  rw [e0, vp_cell_i, vp_cell_i, arrV_store]
  congr 2
  funext q
  by_cases hq : q = i.toNatClampNeg
  · subst hq
    simp [updV, upd, vp_updL, vp_nar]
    try rfl
  · simp [updV, upd, vp_updL, hq]
theorem xk_zast {a n : Nat} {f : Nat → Int32} {i : Int32} {x : Int32} (hd : decode M.1 pc = .ok (.bastore, 1)) (hh : h[a]? = some (.inl (3, n, .inl f))) (hi : vp_in i n) (k : Rn G l d M (pc + 1) lv st (h.set a (.inl (3, n, .inl (upd f i.toNatClampNeg (vp_nar .boolean x))))) kc ks Q) : Rn G l d M pc lv (.int x :: .int i :: .ref a :: st) h kc ks Q := by
  intro p e R s m args below meth c H locs cells slots ls X P hl h1 h2
  have he := P.1 a _ (xws_get G h a _ hh)
  have hla : a < h.length := (List.getElem?_eq_some_iff.mp hh).1
  refine W.zast X.1 X.2.1 he ((P.2.1.2 3 _ rfl).1 n (fun j => .int (f j))) (fun q => by cases q) (by show ¬ (i < 0 ∨ (arrV _ _ _).slots.size ≤ _); rw [arrV_size]; exact hi) rfl rfl hd fun H1 e0 z oq => ?_
  refine k p e R s m args below meth c H1 _ cells slots ls X (xpc_put P hla ?_ z oq) hl h1 h2
  show H1[G.1 + a]? = some (vp_cell _ _)
  rw [e0, vp_cell_i, vp_cell_i, arrV_store]
  congr 2
  funext q
  by_cases hq : q = i.toNatClampNeg
  · subst hq
    simp [updV, upd, vp_updL, vp_nar]
    try rfl
  · simp [updV, upd, vp_updL, hq]
theorem xk_last {a n : Nat} {f : Nat → Int64} {i : Int32} {x : Int64} (hd : decode M.1 pc = .ok (.lastore, 1)) (hh : h[a]? = some (.inl (1, n, .inr (.inl f)))) (hi : vp_in i n) (k : Rn G l d M (pc + 1) lv st (h.set a (.inl (1, n, .inr (.inl (vp_updL f i.toNatClampNeg x))))) kc ks Q) : Rn G l d M pc lv (.long x :: .int i :: .ref a :: st) h kc ks Q := by
  intro p e R s m args below meth c H locs cells slots ls X P hl h1 h2
  have he := P.1 a _ (xws_get G h a _ hh)
  have hla : a < h.length := (List.getElem?_eq_some_iff.mp hh).1
  refine W.last X.1 X.2.1 he ((P.2.1.2 1 _ rfl).1 n (fun j => .long (f j))) (fun q => by cases q) (by show ¬ (i < 0 ∨ (arrV _ _ _).slots.size ≤ _); rw [arrV_size]; exact hi) rfl rfl hd fun H1 e0 z oq => ?_
  refine k p e R s m args below meth c H1 _ cells slots ls X (xpc_put P hla ?_ z oq) hl h1 h2
  show H1[G.1 + a]? = some (vp_cell _ _)
  rw [e0, vp_cell_l, vp_cell_l, arrV_store]
  congr 2
  funext q
  by_cases hq : q = i.toNatClampNeg
  · subst hq
    simp [updV, upd, vp_updL, vp_nar]
    try rfl
  · simp [updV, upd, vp_updL, hq]
theorem xk_aast {a n t v ci : Nat} {vs : List Value} {f : Nat → Option Nat} {i : Int32} {r : vw_C} (hd : decode M.1 pc = .ok (.aastore, 1)) (hh : h[a]? = some (.inl (t, n, .inr (.inr (.inr (.inr f)))))) (hv : h[v]? = some (.inr (ci, vs))) (hc : xCl[ci]? = some r) (ht : ∀ G : xG, (xtys G)[t]? = some (G.2.2.2.1 t, .object r.1)) (hi : vp_in i n) (k : Rn G l d M (pc + 1) lv st (h.set a (.inl (t, n, .inr (.inr (.inr (.inr (va_up f i.toNatClampNeg (some v)))))))) kc ks Q) : Rn G l d M pc lv (.ref v :: .int i :: .ref a :: st) h kc ks Q := by
  intro p e R s m args below meth c H locs cells slots ls X P hl h1 h2
  have he := P.1 a _ (xws_get G h a _ hh)
  have hla : a < h.length := (List.getElem?_eq_some_iff.mp hh).1
  have hlt : i.toNatClampNeg < n := Nat.not_le.mp fun q => hi (Or.inr q)
  have h0 : ¬ i < 0 := fun q => hi (Or.inl q)
  obtain ⟨r', hr', cellV, g1, g2, g3, -⟩ := P.1 v _ (xws_get G h v _ hv)
  have hcls := (P.2.1.1 ci r hc).2
  obtain ⟨kA, comp, k1, k2, k3, -⟩ := (P.2.1.2 t _ (ht G)).2
  have hcomp : comp = G.2.2.1.1 ci := Option.some.inj (k3.symm.trans hcls.1)
  subst hcomp
  obtain ⟨kC, hkC, -⟩ := hcls.2
  refine W.aast X.1 X.2.1 he (fun q h => by cases h) (fun h => by cases h) k1 k2 rfl hkC ⟨h0, by show _ < (arrV _ _ _).slots.size; rw [arrV_size]; exact hlt⟩ g1 (fun q h => by rw [g3] at h; cases h) (by rw [g2]; exact hkC) (by rw [g2]; exact va_assign hcls) rfl rfl hd fun H1 e0 z oq => ?_
  refine k p e R s m args below meth c H1 _ cells slots ls X (xpc_put P hla ?_ z oq) hl h1 h2
  show H1[G.1 + a]? = some (vp_cell _ _)
  rw [e0, vp_cell_q, vp_cell_q, arrV_store]
  congr 2
  funext q
  by_cases hq : q = i.toNatClampNeg
  · subst hq
    simp [updV, va_up, va_rf]
  · simp [updV, va_up, hq]
theorem xk_aastN {a n t : Nat} {f : Nat → Option Nat} {i : Int32} (hd : decode M.1 pc = .ok (.aastore, 1)) (hh : h[a]? = some (.inl (t, n, .inr (.inr (.inr (.inr f)))))) (ht : ∃ C : String, ∀ G : xG, (xtys G)[t]? = some (G.2.2.2.1 t, .object C)) (hi : vp_in i n) (k : Rn G l d M (pc + 1) lv st (h.set a (.inl (t, n, .inr (.inr (.inr (.inr (va_up f i.toNatClampNeg none))))))) kc ks Q) : Rn G l d M pc lv (.null :: .int i :: .ref a :: st) h kc ks Q := by
  intro p e R s m args below meth c H locs cells slots ls X P hl h1 h2
  have he := P.1 a _ (xws_get G h a _ hh)
  have hla : a < h.length := (List.getElem?_eq_some_iff.mp hh).1
  obtain ⟨C, ht⟩ := ht
  refine va_WaastN (C := C) X.1 X.2.1 he ((P.2.1.2 t _ (ht G)).1 n (fun j => va_rf ((f j).map (fun k => G.1 + k)))) (fun h => by cases h) (by show ¬ (i < 0 ∨ (arrV _ _ _).slots.size ≤ _); rw [arrV_size]; exact hi) rfl rfl hd fun H1 e0 z oq => ?_
  refine k p e R s m args below meth c H1 _ cells slots ls X (xpc_put P hla ?_ z oq) hl h1 h2
  show H1[G.1 + a]? = some (vp_cell _ _)
  rw [e0, vp_cell_q, vp_cell_q, arrV_store]
  congr 2
  funext q
  by_cases hq : q = i.toNatClampNeg
  · subst hq
    simp [updV, va_up, va_rf]
  · simp [updV, va_up, hq]
def xNw (own : String) (idx ci : Nat) (fs : List Value) (n : Nat) : Prop := ∃ (C : String) (T : u_T) (N : Nat) (ty : Nat → FieldType), xCl[ci]? = some (C, T, N) ∧ (∀ w ∈ u_ws C T N, w ∈ xALL) ∧ (∀ k, k < N → parseFieldDescriptor (T k).2.2.1 = some (ty k)) ∧ Jvm.Cond.classLink own idx C ∈ xALL ∧ Jvm.Cond.instantiable C n ∈ xALL ∧ Jvm.Cond.initialized C ∈ xALL ∧ ∀ (G : xG) (j : Nat), j < N → defaultValue (ty j) = vp_V (fs.map (xab G)) j
theorem xk_new {idx : Nat} (ci : Nat) (fs : List Value) (n : Nat) (hd : decode M.1 pc = .ok (.new idx, 3)) (hN : xNw M.2.1.cls idx ci fs n) (k : Rn G l d M (pc + 3) lv (.ref h.length :: st) (h ++ [.inr (ci, fs)]) kc ks Q) : Rn G l d M pc lv st h (kc + 1) (ks + n) Q := by
  intro p e R s m args below meth c H locs cells slots ls X P hl h1 h2
  obtain ⟨C, T, N, ty, f1, f2, f3, f4, f5, f6, f7⟩ := hN
  have hts := X.2.2.2.2.1
  have hKn := P.2.1.1 ci _ f1
  refine W.newcK X.1 X.2.1 X.2.2.2.1 (hts _ f4) (hts _ f5) (hts _ f6) rfl hd (by omega) (by omega) hKn.2.1 rfl fun H1 kC hkC e1 z1 o1 => ?_
  have hz := P.2.2.1
  have kk := k p e R s m args below meth c H1 locs (cells + 1) (slots + n) ls X (xpc_push P (c := .inr (ci, fs)) (by rw [← hz]; exact ⟨_, f1, (u_born ty hts f2 hKn hkC e1 f3).to (f7 G)⟩) z1 o1) hl (by omega) (by omega)
  rw [hz]
  exact kk
theorem xk_newa {idx : Nat} {i : Int32} {at0 : ArrayType} (t n : Nat) (a0 : (Nat → Int32) ⊕ (Nat → Int64) ⊕ (Nat → UInt32) ⊕ (Nat → UInt64) ⊕ (Nat → Option Nat)) (hd : decode M.1 pc = .ok (.newarray at0, 2)) (hw : Jvm.Cond.arrayClass (newarray.typeOf at0) ∈ xALL) (ht : ∀ G : xG, (xtys G)[t]? = some (G.2.2.2.1 t, newarray.typeOf at0)) (hn : ¬ i < 0) (hN : i.toNatClampNeg = n) (hb : n * componentBytes (newarray.typeOf at0) ≤ 536870912)
    (ha : ∀ (G : xG) (H1 : Heap) (q : Nat), H1[q]? = some (arrV (G.2.2.2.1 t) n (fun _ => defaultValue (newarray.typeOf at0))) → va_at G.2.2.1 xCl (q, xce G (.inl (t, n, a0))) H1) (k : Rn G l d M (pc + 2) lv (.ref h.length :: st) (h ++ [.inl (t, n, a0)]) kc ks Q) : Rn G l d M pc lv (.int i :: st) h (kc + 1) (ks + n) Q := by
  intro p e R s m args below meth c H locs cells slots ls X P hl h1 h2
  have hts := X.2.2.2.2.1
  refine va_newaK X.1 X.2.1 (hts _ hw) rfl hd rfl hn hN hb (by omega) (by omega) rfl fun H1 cA e1 z1 o1 hAr hNm => ?_
  have hz := P.2.2.1
  have hcA : cA = G.2.2.2.1 t := by
    have g := (P.2.1.2 t _ (ht G)).2
    have g2 : s.vm.findClass ("[" ++ (newarray.typeOf at0).toString) = some (G.2.2.2.1 t) := by cases at0 <;> exact g
    exact Option.some.inj (hNm.symm.trans g2)
  subst hcA
  have kk := k p e R s m args below meth c H1 locs (cells + 1) (slots + n) ls X (xpc_push P (c := .inl (t, n, a0)) (by rw [← hz]; exact ha G H1 _ e1) z1 o1) hl (by omega) (by omega)
  rw [hz]
  exact kk
theorem xk_anewa {idx : Nat} {i : Int32} (C : String) (t n : Nat) (hd : decode M.1 pc = .ok (.anewarray idx, 3)) (hw : Jvm.Cond.classLink M.2.1.cls idx C ∈ xALL) (hw2 : Jvm.Cond.arrayOver (.object C) ∈ xALL) (ht : ∀ G : xG, (xtys G)[t]? = some (G.2.2.2.1 t, .object C)) (hn : ¬ i < 0) (hN : i.toNatClampNeg = n) (hb : n * 4 ≤ 536870912)
    (k : Rn G l d M (pc + 3) lv (.ref h.length :: st) (h ++ [.inl (t, n, .inr (.inr (.inr (.inr (fun _ => none)))))]) kc ks Q) : Rn G l d M pc lv (.int i :: st) h (kc + 1) (ks + n) Q := by
  intro p e R s m args below meth c H locs cells slots ls X P hl h1 h2
  have hts := X.2.2.2.2.1
  subst hN
  refine W.anew X.1 X.2.1 X.2.2.2.1 (hts _ hw) (hts _ hw2) rfl hd rfl hn hb (by omega) (by omega) fun cA kA comp f1 f2 f3 f4 => ?_
  have hz := P.2.2.1
  generalize hH1 : H.push ({ cls := cA, slots := Array.replicate i.toNatClampNeg .null, vm := .none } : Cell) = H1
  have z1 : H1.size = H.size + 1 := by rw [← hH1, Array.size_push]
  have e1 : H1[H.size]? = some (arrV cA i.toNatClampNeg (fun _ => .null)) := by rw [← hH1, Array.getElem?_push_size, ← arrV_new]
  have o1 : ∀ q : Nat, q < H.size → H1[q]? = H[q]? := fun q hq => by rw [← hH1, Array.getElem?_push, if_neg (Nat.ne_of_lt hq)]
  have hcA : cA = G.2.2.2.1 t := by
    obtain ⟨kA', comp', -, -, -, g4⟩ := (P.2.1.2 t _ (ht G)).2
    exact Option.some.inj (f1.symm.trans g4)
  subst hcA
  have kk := k p e R s m args below meth c H1 locs (cells + 1) (slots + i.toNatClampNeg) ls X (xpc_push P (c := .inl (t, i.toNatClampNeg, .inr (.inr (.inr (.inr (fun _ => none)))))) (by rw [← hz]; exact e1) z1 o1) hl (by omega) (by omega)
  rw [hz]
  exact kk
theorem xW_end {p : Program} {e : Env} {R : Room} {s : State} {m : MethodId} {args : Array Value} {below : List Frame} {meth : Method} {c : Code} {H : Heap} {locs : List Loc} {cells slots : Nat} {g : JFrame} (h1 : cells ≤ R.cells) (h2 : slots ≤ R.slots) (k : W p l e R s m args below meth c H locs R.cells R.slots (MQ below (xEnd G Q) args s R.cells R.slots (xA G)) g) : W p l e R s m args below meth c H locs cells slots (xMQ below G Q args s R.cells R.slots) g := by
  intro T hT S
  obtain ⟨t, a1, o, b1, b2, b3, L, b4, b5⟩ := W.widen h1 h2 k T hT S
  exact ⟨t, a1, o, b1, b2, b3, L, b4.2, b5⟩
theorem xk_iret {v : Int32} {ty : FieldType} (hd : decode M.1 pc = .ok (.ireturn, 1)) (hr : M.2.2.2.1 = some ty) (hn : narrow ty (.int v) = .int v) (hq : Q (.inl (some (.int v))) h) : Rn G l d M pc lv [.int v] h kc ks Q := by
  intro p e R s m args below meth c H locs cells slots ls X P hl h1 h2
  exact xW_end (by omega) (by omega) (W.zret X.1 X.2.1 (X.2.2.2.2.2.1.trans hr) hn (fun t ht hW => ⟨⟨.inl (some (.int v)), h, hq, xpc_ps P ht hW, rfl⟩, P.2.2.2.2.1.F ht⟩) P.2.2.2.2.1.2.2 hd X.2.2.2.2.2.2.1)
theorem xk_lret {v : Int64} (hd : decode M.1 pc = .ok (.lreturn, 1)) (hr : M.2.2.2.1 = some .long) (hq : Q (.inl (some (.long v))) h) : Rn G l d M pc lv [.long v] h kc ks Q := by
  intro p e R s m args below meth c H locs cells slots ls X P hl h1 h2
  exact xW_end (by omega) (by omega) (W.lret X.1 X.2.1 (X.2.2.2.2.2.1.trans hr) (fun t ht hW => ⟨⟨.inl (some (.long v)), h, hq, xpc_ps P ht hW, rfl⟩, P.2.2.2.2.1.F ht⟩) P.2.2.2.2.1.2.2 hd X.2.2.2.2.2.2.1)
theorem xk_vret (hd : decode M.1 pc = .ok (.return_, 1)) (hr : M.2.2.2.1 = none) (hq : Q (.inl none) h) : Rn G l d M pc lv [] h kc ks Q := by
  intro p e R s m args below meth c H locs cells slots ls X P hl h1 h2
  exact xW_end (by omega) (by omega) (W.vret X.1 X.2.1 (X.2.2.2.2.2.1.trans hr) (fun t ht hW => ⟨⟨.inl none, h, hq, xpc_ps P ht hW, rfl⟩, P.2.2.2.2.1.F ht⟩) P.2.2.2.2.1.2.2 hd X.2.2.2.2.2.2.1)
theorem xk_aret {v : Value} {rt : FieldType} (hd : decode M.1 pc = .ok (.areturn, 1)) (hr : M.2.2.2.1 = some rt) (hrt : (∃ n, rt = .object n) ∨ ∃ t, rt = .array t) (hv : v = .null ∨ ∃ a, v = .ref a) (hq : Q (.inl (some v)) h) : Rn G l d M pc lv [v] h kc ks Q := by
  intro p e R s m args below meth c H locs cells slots ls X P hl h1 h2
  refine xW_end (by omega) (by omega) (W.aret (v := xab G v) X.1 X.2.1 (X.2.2.2.2.2.1.trans hr) hrt ?_ (fun t ht hW => ⟨⟨.inl (some v), h, hq, xpc_ps P ht hW, rfl⟩, P.2.2.2.2.1.F ht⟩) P.2.2.2.2.1.2.2 hd X.2.2.2.2.2.2.1)
  rcases hv with rfl | ⟨a, rfl⟩
  · exact Or.inl rfl
  · exact Or.inr ⟨_, rfl⟩
theorem xargs (G : xG) (av : List Value) : ∀ n, lv_args n (xst G av) = xlv G (lv_args n av) := by
  induction av with
  | nil => intro n; rfl
  | cons v t ih =>
    intro n
    show (n, xab G v) :: lv_args (if (xab G v).category = 2 then n + 2 else n + 1) (xst G t) = (n, xab G v) :: xlv G (lv_args (if v.category = 2 then n + 2 else n + 1) t)
    rw [xab_cat, ih]
theorem xlg (G : xG) (av : List Value) : (lg_sl (xst G av)).length = (lg_sl av).length := by
  induction av with
  | nil => rfl
  | cons v t ih =>
    have e1 : ∀ (u : Value) (w : List Value), (lg_sl (u :: w)).length = (if u.category = 2 then 2 else 1) + (lg_sl w).length := by
      intro u w
      simp only [lg_sl, List.flatMap_cons, List.length_append]
      split <;> rfl
    show (lg_sl (xab G v :: xst G t)).length = _
    rw [e1, e1, xab_cat, ih]
/-- no throw: the ends are returns -/
theorem xMt {av : List Value} (hy : plainName M.2.1.cls = true) (hw : M.2.2.2.2 = .code M.2.1 M.1 M.2.2.1 M.2.2.2.1) (hlen : (lg_sl av).length ≤ M.2.2.1) (hq : ∀ k h', ¬ Q (.inr k) h') (k : ∀ G : xG, Rn G l d M 0 (lv_args 0 av) [] h kc ks Q) : Mt l d M av h kc ks Q := by
  intro G
  refine Met.ofW (cc := M.1) (maxL := M.2.2.1) (ret := M.2.2.2.1) (ws' := xALL) hy (by rw [hw]) ?_
  intro p e s m args below meth c s₁ B hml hv
  obtain ⟨rfl, hP⟩ := hv
  have hts := atoms_spec (ws := M.2.2.2.2 :: xALL) B.pre
  have hl := lv_entry (xst G av) (n := M.2.2.1) (by rw [xlg]; exact hlen)
  rw [lg_entry_eq]
  rw [xargs] at hl
  have kk := k G p e (headSpec (M.2.2.2.2 :: xALL) (xrm d kc ks)).room s m (xst G av).toArray below meth c s.heap [] 0 0 _ ⟨B.exec, B.bytes, hml, findClass_of_methodNamed B.named, fun w h9 => hts w (List.mem_cons_of_mem _ h9), B.returns, B.notSynchronized, (name_of_methodNamed B.named B.method).1, Nat.le_refl _, Nat.le_refl _, hts _ List.mem_cons_self, B.named⟩ ⟨hP.1, hP.2.1, hP.2.2.1, hP.2.2.2, va_S.rf, by rw [hP.2.2.1]; exact Nat.le_add_right _ _⟩ hl (by simp [headSpec, xrm]) (by simp [headSpec, xrm])
  intro T hT S
  obtain ⟨t, a1, o, b1, b2, b3, L, b4, b5⟩ := kk T hT S
  refine ⟨t, a1, o, b1, b2, b3, L, ⟨?_, b4⟩, b5⟩
  obtain ⟨⟨o', h', c1, c2, c3⟩, -⟩ := b3
  cases o' with
  | inl v => exact ⟨_, c3⟩
  | inr k0 => exact absurd c1 (hq k0 h')
theorem xblind {av : List Value} : FrameBlind (fun v U => v = (xst G av).toArray ∧ xPs G h U) := fun _ _ _ _ q => q
theorem xpre {av : List Value} {s : State} {H : Heap} {locs : List Loc} (P : xPc G h s H locs) : ∀ U : State, U.heap = H → s.WarmedH U.vm → (xst G av).toArray = (xst G av).toArray ∧ xPs G h U := fun U hU hW => ⟨rfl, xpc_ps P hU hW⟩
/-- behind a call -/
theorem xW_call {p : Program} {e : Env} {R : Room} {s : State} {m : MethodId} {args a : Array Value} {below : List Frame} {meth : Method} {c : Code} {H : Heap} {locs : List Loc} {cells slots kc1 ks1 : Nat} {ls : Array Slot} {st0 : List Value} {Q1 : xQ}
    (X : xCx d M p R s m args meth c) (P : xPc G h s H locs) (hl : lv_has ls M.2.2.1 (xlv G lv)) (h1 : cells + kc1 + kc ≤ R.cells) (h2 : slots + ks1 + ks ≤ R.slots)
    (hr : va_Run p l e R s m args below meth c H locs cells slots kc1 ks1 (F0 m pc ls st0) (xst G st) (xEnd G Q1 a) (xA G))
    (k : ∀ v h', Q1 (.inl v) h' → Rn G l d M (pc + 3) lv (v.toList ++ st) h' kc ks Q) : W p l e R s m args below meth c H locs cells slots (xMQ below G Q args s R.cells R.slots) (F0 m pc ls st0) := by
  intro T hT S
  obtain ⟨v, st₀, t, T', L, g0, S', gL, e1, e2, ⟨⟨o', h', c1, c2, c3⟩, c4⟩, go⟩ := hr T hT S
  cases o' with
  | inr k0 => cases c3
  | inl v' =>
    have hv : v = v'.map (xab G) := Outcome.returned.inj c3
    subst hv
    obtain ⟨p1, p2, p3, p4, p5, p6⟩ := P
    obtain ⟨z1, z2⟩ := c4
    rw [g0] at z1 z2
    have P' : xPc G h' s T'.heap (locs ++ L) := by
      refine ⟨by rw [e1]; exact c2.1, p2, by rw [e1]; exact c2.2.2.1, p4, ⟨by rw [e1]; exact Nat.le_trans p5.1 z1, fun q g1 g2 => ?_, fun q hq => ?_⟩, p6⟩
      · rw [e1, z2 q (Nat.lt_of_lt_of_le g1 p5.1) g2]
        exact p5.2.1 q g1 g2
      · rcases List.mem_append.mp hq with hq | hq
        · exact p5.2.2 q hq
        · exact gL q hq
    have kk := k v' h' c1 p e R s m args below meth c T'.heap (locs ++ L) (cells + kc1) (slots + ks1) ls X P' hl h1 h2 T' rfl S'
    obtain ⟨t2, a1, b1⟩ := kk
    refine ⟨t2, go t2 ?_, b1⟩
    have e9 : (v'.map (xab G)).toList ++ xst G st = xst G (v'.toList ++ st) := by cases v' <;> rfl
    show Steps _ _ _ (T'.setTop (F0 m (pc + 3) ls ((v'.map (xab G)).toList ++ xst G st))) _
    rw [e9]
    exact a1
theorem xcat (hst : (st.map fun v => v.category).sum ≤ 8) : ((xst G st).map fun v => v.category).sum ≤ 8 := by
  have e : (xst G st).map (fun v => v.category) = st.map (fun v => v.category) := by
    simp only [xst, List.map_map]
    congr 1
    funext v
    exact xab_cat G v
  rw [e]
  exact hst
end

section
variable {G : xG} {l : Launch} {d : Nat} {M : xM} {pc : Nat} {lv : xL} {st : List Value} {h : xH} {kc ks : Nat} {Q : xQ}
theorem xpc_put {s : State} {H H1 : Heap} {locs : List Loc} {a k0 : Nat} {c : xC} (P : xPc G h s H locs) (hl : a < h.length) (he : va_at G.2.2.1 xCl (G.1 + a, xce G c) H1) (hz : H1.size = H.size) (oq : ∀ q : Nat, q ≠ G.1 + a → H1[q]? = H[q]?) : xPc G (h.set a c) s H1 (locs ++ [⟨G.1 + a, k0⟩]) := by
  obtain ⟨p1, p2, p3, p4, p5, p6⟩ := P
  have hg : h[a]? = some h[a] := List.getElem?_eq_getElem hl
  refine ⟨?_, p2, by rw [hz, p3, List.length_set], p4, p5.put hz oq (Nat.le_add_right _ _), p6⟩
  rw [← xws_set]
  exact va_P.set p1 (xws_D G h) (xws_get G h a _ hg) he oq
theorem xpc_push {s : State} {H H1 : Heap} {locs : List Loc} {c : xC} (P : xPc G h s H locs) (he : va_at G.2.2.1 xCl (G.1 + h.length, xce G c) H1) (hz : H1.size = H.size + 1) (oq : ∀ q : Nat, q < H.size → H1[q]? = H[q]?) : xPc G (h ++ [c]) s H1 locs := by
  obtain ⟨p1, p2, p3, p4, p5, p6⟩ := P
  refine ⟨?_, p2, by rw [hz, p3, List.length_append]; rfl, p4, ⟨by have := p5.1; omega, fun x g1 g2 => (oq x (Nat.lt_of_lt_of_le g1 p5.1)).trans (p5.2.1 x g1 g2), p5.2.2⟩, p6⟩
  rw [xws_push]
  refine (p1.kept (fun k x hx => oq x.1 (p1 k x hx).lt)).app (fun k x hx => ?_)
  have hk : k < 1 := (List.getElem?_eq_some_iff.mp hx).1
  rw [show k = 0 by omega] at hx
  cases hx
  exact he
theorem xab_nf {ty : FieldType} {v : Value} (hn : narrow ty v = v) (hf : fits ty v = true) : narrow ty (xab G v) = xab G v ∧ fits ty (xab G v) = true := by
  cases v <;> first | exact ⟨hn, hf⟩ | (cases ty <;> first | exact ⟨rfl, hf⟩ | (simp [fits] at hf))
def xFd (own : String) (idx ci k0 : Nat) : Prop := ∃ (C : String) (T : u_T) (N : Nat), xCl[ci]? = some (C, T, N) ∧ k0 < N ∧ (∀ w ∈ u_ws C T N, w ∈ xALL) ∧ (T k0).1 = C ∧ (Jvm.Cond.fieldLink own idx C (T k0).2.1 (T k0).2.2.1 ∈ xALL ∨ ∃ host, Jvm.Cond.fieldLinkNest own idx C (T k0).2.1 (T k0).2.2.1 host ∈ xALL)
theorem xk_get {idx a ci k0 : Nat} {fs : List Value} {v : Value} (hd : decode M.1 pc = .ok (.getfield idx, 3)) (hF : xFd M.2.1.cls idx ci k0) (hh : h[a]? = some (.inr (ci, fs))) (hv : fs[k0]? = some v) (k : Rn G l d M (pc + 3) lv (v :: st) h kc ks Q) : Rn G l d M pc lv (.ref a :: st) h kc ks Q := by
  intro p e R s m args below meth c H locs cells slots ls X P hl h1 h2
  obtain ⟨C, T, N, f1, f2, f3, f4, f5⟩ := hF
  have he := xws_get G h a _ hh
  have hv' : (fs.map (xab G))[k0]? = some (xab G v) := by simp [hv]
  have kk := k p e R s m args below meth c H locs cells slots ls X P hl h1 h2
  rcases f5 with f5 | ⟨host, f5⟩
  · exact va_get X.1 X.2.1 X.2.2.2.2.1 f3 X.2.2.2.1 P.2.1 P.1 a he f1 k0 f2 (X.2.2.2.2.1 _ f5) (fun x hx => by rw [f4] at hx; exact hx) hv' hd kk
  · exact va_getN X.1 X.2.1 X.2.2.2.2.1 f3 X.2.2.2.1 P.2.1 P.1 a he f1 k0 f2 (X.2.2.2.2.1 _ f5) (fun x hx => by rw [f4] at hx; exact hx) hv' hd kk
def xFp (own : String) (idx ci k0 : Nat) (ty : FieldType) (fin : Bool) : Prop := ∃ (C : String) (T : u_T) (N : Nat) (ty0 : Nat → FieldType), xCl[ci]? = some (C, T, N) ∧ k0 < N ∧ (∀ w ∈ u_ws C T N, w ∈ xALL) ∧ (T k0).1 = C ∧ (∀ k, k < N → parseFieldDescriptor (T k).2.2.1 = some (ty0 k)) ∧ (∀ a, a < N → ∀ b, b < N → a ≠ b → (T a).2.1 ≠ (T b).2.1) ∧ parseFieldDescriptor (T k0).2.2.1 = some ty ∧ (T k0).2.2.2 = fin ∧
  ((fin = true → C = own) ∧ (Jvm.Cond.fieldLink own idx C (T k0).2.1 (T k0).2.2.1 ∈ xALL ∨ (fin = false ∧ ∃ host, Jvm.Cond.fieldLinkNest own idx C (T k0).2.1 (T k0).2.2.1 host ∈ xALL)))
theorem xk_put {idx a ci k0 : Nat} {fs : List Value} {v : Value} {ty : FieldType} {fin : Bool} (hd : decode M.1 pc = .ok (.putfield idx, 3)) (hF : xFp M.2.1.cls idx ci k0 ty fin) (hi : fin = true → M.2.1.name = "<init>") (hh : h[a]? = some (.inr (ci, fs))) (hlen : k0 < fs.length) (hn : narrow ty v = v) (hf : fits ty v = true) (k : Rn G l d M (pc + 3) lv st (h.set a (.inr (ci, fs.set k0 v))) kc ks Q) : Rn G l d M pc lv (v :: .ref a :: st) h kc ks Q := by
  intro p e R s m args below meth c H locs cells slots ls X P hl h1 h2
  obtain ⟨C, T, N, ty0, f1, f2, f3, f4, f5, f6, f7, f8, f9, f10⟩ := hF
  obtain ⟨hn', hf'⟩ := xab_nf (G := G) hn hf
  have he := xws_get G h a _ hh
  have hla : a < h.length := (List.getElem?_eq_some_iff.mp hh).1
  have hts := X.2.2.2.2.1
  have hap := va_apart (own := M.2.1.cls) (D := G.2.2.1) (cl := xCl) (ci := ci) hts f3 ty0 f5 f6 P.2.1 f1
  obtain ⟨r, g1, cell, q1, q2, q3, q4⟩ := P.1 a _ he
  have hr : r = (C, T, N) := Option.some.inj (g1.symm.trans f1)
  subst hr
  obtain ⟨hS, hfc, kC, hkC, hkind⟩ := P.2.1.1 ci _ f1
  obtain ⟨cf, kf, fi, f, hif, hsl⟩ := hS k0 f2
  have hlay := hts _ (f3 _ (u_in_lay f2))
  have hst := (u_facts hfc hkC (u_lays hts f3 f2) hif).1
  have hsame : s.fieldFound? C (T k0).2.1 (T k0).2.2.1 = some (cf, kf, fi, f) := by rw [← f4]; exact hif
  have hlt : f.slot < cell.slots.size := by rw [hsl]; exact k2_hasslot (q4 k0 f2)
  have fin9 : ∀ H' : Heap, H'[G.1 + a]? = some (cell.setSlot f.slot (xab G v)) → H'.size = H.size → (∀ q, q ≠ G.1 + a → H'[q]? = H[q]?) → W p l e R s m args below meth c H' (locs ++ [⟨G.1 + a, f.slot⟩]) cells slots (xMQ below G Q args s R.cells R.slots) (F0 m (pc + 3) ls (xst G st)) := by
    intro H' e1 e2 e3
    rw [hsl] at e1 ⊢
    refine k p e R s m args below meth c H' _ cells slots ls X (xpc_put P hla ?_ e2 e3) hl h1 h2
    refine ⟨_, f1, t_OB.to (V := updV (vp_V (fs.map (xab G))) k0 (xab G v)) ⟨_, e1, q2, q3, t_set q4 hap f2 (xab G v)⟩ (fun j _ => ?_)⟩
    rw [vp_updV_set (by simpa using hlen) (xab G v) j, List.map_set]
  unfold u_lay at hlay
  cases fin with
  | false =>
    rw [if_neg (by rw [f8]; decide)] at hlay
    have h6 := u_store hfc hkC hkind hlay hif f7 hn' hf'
    rcases f10 with f10 | ⟨-, host, f10⟩
    · exact W.putK X.1 X.2.1 (f := f) ⟨X.2.2.2.1, hts _ f10, ⟨_, _, _, hsame⟩, hst⟩ (by rw [q2]; exact h6) q1 q3 hlt rfl rfl hd fin9
    · exact va_WputK X.1 X.2.1 (f := f) X.2.2.2.1 (hts _ f10) hsame hst (by rw [q2]; exact h6) q1 q3 hlt rfl rfl hd fin9
  | true =>
    rw [if_pos f8] at hlay
    rcases f10 with f10 | ⟨z, -⟩
    · have hcf : m.cls = cf := by
        obtain ⟨_, _, c', _, _, _, -, -, hf9, -, -, -, hown2, -⟩ := Cond.laysFinal_spec hlay
        have e1 : c' = cf := by have := hif.symm.trans hf9; simp at this; exact this.1.symm
        rw [f4, f9 rfl] at hown2
        rw [← e1]; exact Option.some.inj (X.2.2.2.1.symm.trans hown2)
      have h6 := u_fits hfc hkC hkind (Or.inr hlay) hif f7 hn' hf'
      exact W.putFinK X.1 X.2.1 X.2.2.2.1 (hts _ f10) hsame hst hcf (X.2.2.2.2.2.2.2.1.trans (hi rfl)) (by rw [q2]; exact h6) q1 q3 hlt rfl rfl hd fin9
    · cases z
end

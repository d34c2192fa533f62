/-! The small machine over a picture of the heap: relative addresses (place k of the picture lies at base + k), one lemma an instruction. -/
abbrev xM : Type := ByteArray × MethodName × Nat × Option FieldType × Jvm.Cond
abbrev xC : Type := (Nat × vp_A) ⊕ (Nat × List Value)
abbrev xH : Type := List xC
abbrev xL : Type := List (Nat × Value)
/-- how a method ends: it returns, or throws the object at a place of the picture -/
abbrev xO : Type := Option Value ⊕ Nat
abbrev xQ : Type := xO → xH → Prop
/-- base, places below the base, numbers and slots, array numbers, the script's length and ints -/
abbrev xG : Type := Nat × (Nat → Nat) × va_G × (Nat → ClassId) × Nat × (Nat → Int32)
def xisN : Jvm.Cond → Bool
  | .fieldLinkNest .. => true
  | .methodLinkNest .. => true
  | .arrayOver (.object _) => true
  | .declares _ => true
  | .castable _ _ => true
  | _ => false
def xtg (pc : Nat) (off : Int) : Nat := ((pc : Int) + off).toNat
def xto (pc : Nat) (off : Int) : Bool := decide (0 ≤ (pc : Int) + off)
theorem xto_eq {pc : Nat} {off : Int} (h : xto pc off = true) : (pc : Int) + off = (xtg pc off : Int) := by
  have h1 : 0 ≤ (pc : Int) + off := of_decide_eq_true h
  unfold xtg
  omega
def xab (G : xG) : Value → Value
  | .ref k => .ref (G.1 + k)
  | .retAddr j => .ref (G.2.1 j)
  | .int x => .int x
  | .long x => .long x
  | .float x => .float x
  | .double x => .double x
  | .null => .null
def xce (G : xG) : xC → va_E
  | .inl (t, n, .inl f) => .inl (G.2.2.2.1 t, n, .inl f)
  | .inl (t, n, .inr (.inl f)) => .inl (G.2.2.2.1 t, n, .inr (.inl f))
  | .inl (t, n, .inr (.inr (.inl f))) => .inl (G.2.2.2.1 t, n, .inr (.inr (.inl f)))
  | .inl (t, n, .inr (.inr (.inr (.inl f)))) => .inl (G.2.2.2.1 t, n, .inr (.inr (.inr (.inl f))))
  | .inl (t, n, .inr (.inr (.inr (.inr f)))) => .inl (G.2.2.2.1 t, n, .inr (.inr (.inr (.inr (fun i => (f i).map (fun k => G.1 + k))))))
  | .inr (ci, fs) => .inr (ci, fs.map (xab G))
def xws (G : xG) (h : xH) : va_W := h.mapIdx (fun k c => (G.1 + k, xce G c))
def xA (G : xG) : Nat → Prop := fun q => G.1 ≤ q
def xlv (G : xG) (lv : xL) : List (Nat × Value) := lv.map (fun q => (q.1, xab G q.2))
def xst (G : xG) (st : List Value) : List Value := st.map (xab G)
theorem xws_get (G : xG) (h : xH) (k : Nat) (c : xC) (hk : h[k]? = some c) : (xws G h)[k]? = some (G.1 + k, xce G c) := by
  simp [xws, hk]
theorem xws_set (G : xG) (h : xH) (k : Nat) (c : xC) : (xws G h).set k (G.1 + k, xce G c) = xws G (h.set k c) := by
  apply List.ext_getElem?
  intro i
  simp only [xws, List.getElem?_set, List.getElem?_mapIdx, List.length_mapIdx]
  by_cases hi : k = i
  · subst hi
    by_cases hl : k < h.length <;> simp [hl]
  · simp [hi]
theorem xws_push (G : xG) (h : xH) (c : xC) : xws G (h ++ [c]) = xws G h ++ [(G.1 + h.length, xce G c)] := by
  simp [xws, List.mapIdx_append]
theorem xws_inv {G : xG} {h : xH} {k : Nat} {q : Nat × va_E} (hk : (xws G h)[k]? = some q) : q.1 = G.1 + k := by
  simp only [xws, List.getElem?_mapIdx] at hk
  cases hc : h[k]? with
  | none => rw [hc] at hk; cases hk
  | some c => rw [hc] at hk; cases hk; rfl
theorem xws_D (G : xG) (h : xH) : va_D (xA G) (xws G h) := by
  refine ⟨fun i j p q hi hj he => ?_, fun k q hk => ?_⟩
  · have h1 := xws_inv hi
    have h2 := xws_inv hj
    omega
  · show G.1 ≤ q.1
    have h1 := xws_inv hk
    omega
theorem xab_cat (G : xG) (v : Value) : (xab G v).category = v.category := by cases v <;> rfl
def xset (lv : xL) (i : Nat) (v : Value) : xL := (i, v) :: lv.filter (fun q => !(q.1 == i) && !(q.1 + 1 == i && q.2.category == 2))
def xset2 (lv : xL) (i : Nat) (v : Value) : xL := (i, v) :: lv.filter (fun q => !(q.1 == i) && (!(q.1 == i + 1) && !(q.1 + 1 == i && q.2.category == 2)))
theorem xlv_set (G : xG) (lv : xL) (i : Nat) (v : Value) : (i, xab G v) :: (xlv G lv).filter (fun q => !(q.1 == i) && !(q.1 + 1 == i && q.2.category == 2)) = xlv G (xset lv i v) := by
  simp only [xlv, xset, List.map_cons, List.filter_map]
  congr 3
  funext q
  simp [Function.comp, xab_cat]
theorem xlv_set2 (G : xG) (lv : xL) (i : Nat) (v : Value) : (i, xab G v) :: (xlv G lv).filter (fun q => !(q.1 == i) && (!(q.1 == i + 1) && !(q.1 + 1 == i && q.2.category == 2))) = xlv G (xset2 lv i v) := by
  simp only [xlv, xset2, List.map_cons, List.filter_map]
  congr 3
  funext q
  simp [Function.comp, xab_cat]
theorem xlv_at {G : xG} {ls : Array Slot} {n : Nat} {lv : xL} {i : Nat} {v : Value} (h : lv_has ls n (xlv G lv)) (hl : lv.lookup i = some v) : ls[i]? = some (.val (xab G v)) := by
  have hm : (i, v) ∈ lv := by
    clear h
    induction lv with
    | nil => cases hl
    | cons a t ih =>
      obtain ⟨j, u⟩ := a
      simp only [List.lookup_cons] at hl
      by_cases hj : i = j
      · subst hj
        simp at hl
        subst hl
        exact List.mem_cons_self
      · have : (i == j) = false := by simpa using hj
        rw [this] at hl
        exact List.mem_cons_of_mem _ (ih hl)
  exact h.2.2 (i, xab G v) (List.mem_map.mpr ⟨(i, v), hm, rfl⟩)

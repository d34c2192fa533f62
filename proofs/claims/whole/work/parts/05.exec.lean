-- the class's eight words
def sLen : List Nat := [3, 4, 4, 4, 6, 2, 2, 2]
def sByt : List (List Int32) := [[73, 70, 40], [83, 85, 77, 40], [77, 73, 78, 40], [77, 65, 88, 40], [67, 79, 85, 78, 84, 40], [60, 62], [60, 61], [62, 61]]
def sIdx : List Nat := [101, 133, 135, 137, 139, 170, 172, 174]
def sTxt : List String := ["IF(", "SUM(", "MIN(", "MAX(", "COUNT(", "<>", "<=", ">="]
/-- what lies below the base and is never written: two statics of Throwable; which exceptions aren't which; the words' strings (places 1 to 8, their bytes 9 to 16), two statics that reading them asks for -/
def xStr (G : xG) (U : State) : Prop := vx_Zq Bundle.tN "UNASSIGNED_STACK" Bundle.steD (xA G) U U.heap ∧ vx_Zq Bundle.tN "SUPPRESSED_SENTINEL" Bundle.listD (xA G) U U.heap ∧ va_Nc "java/lang/IllegalStateException" "java/lang/IllegalArgumentException" U ∧ va_Nc "java/lang/ArithmeticException" "java/lang/IllegalArgumentException" U ∧
  vk_S 8 sLen sByt (fun i => G.2.1 (1 + i)) (fun i => G.2.1 (9 + i)) (xA G) U U.heap ∧ (∀ i, i < 8 → vk_R "RecalcSheet$Reader" (sIdx.getD i 0) (sTxt.getD i "") (G.2.1 (1 + i)) U) ∧ va_Z "java/lang/String" "COMPACT_STRINGS" "Z" (.int 1) (xA G) U U.heap ∧
  (va_Z "jdk/internal/util/Preconditions" "SIOOBE_FORMATTER" "Ljava/util/function/BiFunction;" .null (xA G) U U.heap ∨ va_Z "jdk/internal/util/Preconditions" "SIOOBE_FORMATTER" "Ljava/util/function/BiFunction;" (.ref (G.2.1 17)) (xA G) U U.heap)
theorem xstr_to {G : xG} {s t : State} (hW : s.WarmedH t.vm) (hh : ∀ q, q < G.1 → t.heap[q]? = s.heap[q]?) (h : xStr G s) : xStr G t := by
  have hk : ∀ a : Nat, a < s.heap.size → ¬ xA G a → t.heap[a]? = s.heap[a]? := fun a _ ha => hh a (Nat.not_le.mp ha)
  have hvm := hW.alike
  obtain ⟨h1, h2, h3, h4, h5, h6, h7, h8⟩ := h
  refine ⟨vx_Zq.moved hvm (h1.kept hk), vx_Zq.moved hvm (h2.kept hk), va_Nc.moved hvm h3, va_Nc.moved hvm h4, vk_S.moved hvm (h5.kept hk), fun i hi => vk_R.warm hW (h6 i hi), va_Z.moved hvm (h7.kept hk), ?_⟩
  rcases h8 with h8 | h8
  · exact Or.inl (va_Z.moved hvm (h8.kept hk))
  · exact Or.inr (va_Z.moved hvm (h8.kept hk))
section
def xtys (G : xG) : List (ClassId × FieldType) := [(G.2.2.2.1 0, .int), (G.2.2.2.1 1, .long), (G.2.2.2.1 2, .char), (G.2.2.2.1 3, .boolean), (G.2.2.2.1 4, .object "RecalcSheet$Content"), (G.2.2.2.1 5, .object "RecalcSheet$Tally")]
def xLow (G : xG) (U : State) : Prop := va_X (G.2.1 0) G.2.2.2.2.1 G.2.2.2.2.2 U U.heap ∧ G.2.1 0 < G.1 ∧ xStr G U
def xPs (G : xG) (h : xH) (U : State) : Prop := va_P G.2.2.1 xCl (xws G h) U.heap ∧ va_K G.2.2.1 xCl (xtys G) U ∧ U.heap.size = G.1 + h.length ∧ xLow G U
def xPc (G : xG) (h : xH) (s : State) (H : Heap) (locs : List Loc) : Prop := va_P G.2.2.1 xCl (xws G h) H ∧ va_K G.2.2.1 xCl (xtys G) s ∧ H.size = G.1 + h.length ∧ xLow G s ∧ va_S (xA G) s.heap H locs ∧ G.1 ≤ s.heap.size
def xout (G : xG) : xO → Outcome
  | .inl v => .returned (v.map (xab G))
  | .inr k => .threw (G.1 + k)
def xEnd (G : xG) (Q : xQ) : Array Value → State → Outcome → State → Prop := fun _ st o t => (∃ (o' : xO) (h' : xH), Q o' h' ∧ xPs G h' t ∧ o = xout G o') ∧ va_F (xA G) st t
/-- the frame has ended: returned or thrown -/
def xMQ (below : List Frame) (G : xG) (Q : xQ) (args : Array Value) (s : State) (k n : Nat) : State → Prop := fun t =>
  ∃ o, t.status = .running ∧ Ended t below o ∧ xEnd G Q args s o t ∧ ∃ L, (s.WarmedH t.vm ∧ s.sameButNew { t with vm := s.vm } L k n) ∧ ∀ q ∈ L, xA G q.base
def xrm (d kc ks : Nat) : Room := { frames := d, cells := kc, slots := ks, locals := 64 * d }
def xCx (d : Nat) (M : xM) (p : Program) (R : Room) (s : State) (m : MethodId) (args : Array Value) (meth : Method) (c : Code) : Prop :=
  p.tables.exec = Jvm.exec ∧ c.code = M.1 ∧ c.maxLocals = M.2.2.1 ∧ s.vm.findClass M.2.1.cls = some m.cls ∧ (∀ w ∈ xALL, w.before args s = true) ∧ meth.sig.returnType = M.2.2.2.1 ∧ meth.locks = false ∧ meth.name = M.2.1.name ∧ d ≤ R.frames ∧ 64 * d ≤ R.locals ∧ M.2.2.2.2.before args s = true ∧ s.methodNamed? M.2.1 = some m
/-- the frame at pc, with these values and this picture, ends so that Q holds -/
def Rn (G : xG) (l : Launch) (d : Nat) (M : xM) (pc : Nat) (lv : xL) (st : List Value) (h : xH) (kc ks : Nat) (Q : xQ) : Prop :=
  ∀ (p : Program) (e : Env) (R : Room) (s : State) (m : MethodId) (args : Array Value) (below : List Frame) (meth : Method) (c : Code) (H : Heap) (locs : List Loc) (cells slots : Nat) (ls : Array Slot),
    xCx d M p R s m args meth c → xPc G h s H locs → lv_has ls M.2.2.1 (xlv G lv) → cells + kc ≤ R.cells → slots + ks ≤ R.slots →
    W p l e R s m args below meth c H locs cells slots (xMQ below G Q args s R.cells R.slots) (F0 m pc ls (xst G st))
/-- a method, called with these values over this picture, ends so that Q holds -/
def Mt (l : Launch) (d : Nat) (M : xM) (av : List Value) (h : xH) (kc ks : Nat) (Q : xQ) : Prop :=
  ∀ G : xG, Met l M.2.1 (M.2.2.2.2 :: xALL) (xrm d kc ks) (fun v U => v = (xst G av).toArray ∧ xPs G h U) (xEnd G Q) kc ks (xA G)
variable {G : xG} {l : Launch} {d : Nat} {M : xM} {pc : Nat} {lv : xL} {st : List Value} {h : xH} {kc ks : Nat} {Q : xQ}
theorem xlow_to {s t : State} (hW : s.WarmedH t.vm) (hh : ∀ q, q < G.1 → t.heap[q]? = s.heap[q]?) (hx : xLow G s) : xLow G t := by
  obtain ⟨h1, h2, h3⟩ := hx
  refine ⟨(va_X.moved hW.alike h1).kept (hh _ h2), h2, xstr_to hW hh h3⟩
theorem xpc_ps {s t : State} {H : Heap} {locs : List Loc} (P : xPc G h s H locs) (ht : t.heap = H) (hW : s.WarmedH t.vm) : xPs G h t := by
  obtain ⟨p1, p2, p3, p4, p5, p6⟩ := P
  refine ⟨by rw [ht]; exact p1, va_K.moved hW.alike p2, by rw [ht]; exact p3, xlow_to hW (fun q hq => ?_) p4⟩
  rw [ht]
  exact p5.2.1 q (by omega) (fun (z : G.1 ≤ q) => by omega)
theorem xq_mono {Q' : xQ} (k : Rn G l d M pc lv st h kc ks Q) (hq : ∀ o h', Q o h' → Q' o h') : Rn G l d M pc lv st h kc ks Q' := by
  intro p e R s m args below meth c H locs cells slots ls X P hl h1 h2 T hT S
  obtain ⟨t, a1, o, b1, b2, ⟨⟨o', h', c1, c2⟩, c3⟩, b4⟩ := k p e R s m args below meth c H locs cells slots ls X P hl h1 h2 T hT S
  exact ⟨t, a1, o, b1, b2, ⟨⟨o', h', hq _ _ c1, c2⟩, c3⟩, b4⟩

theorem xk_iconst {z : Int} (hd : decode M.1 pc = .ok (.iconst z, 1)) (k : Rn G l d M (pc + 1) lv (.int (Int32.ofInt z) :: st) h kc ks Q) : Rn G l d M pc lv (st) h kc ks Q := by
  intro p e R s m args below meth c H locs cells slots ls X P hl h1 h2
  exact lv_iconst X.1 X.2.1 hd rfl (k p e R s m args below meth c H locs cells slots ls X P hl h1 h2)
theorem xk_bipush {z : Int} (hd : decode M.1 pc = .ok (.bipush z, 2)) (k : Rn G l d M (pc + 2) lv (.int ((Int8.ofInt z).toInt32) :: st) h kc ks Q) : Rn G l d M pc lv (st) h kc ks Q := by
  intro p e R s m args below meth c H locs cells slots ls X P hl h1 h2
  exact lv_bipush X.1 X.2.1 hd rfl (k p e R s m args below meth c H locs cells slots ls X P hl h1 h2)
theorem xk_sipush {z : Int} (hd : decode M.1 pc = .ok (.sipush z, 3)) (k : Rn G l d M (pc + 3) lv (.int ((Int16.ofInt z).toInt32) :: st) h kc ks Q) : Rn G l d M pc lv (st) h kc ks Q := by
  intro p e R s m args below meth c H locs cells slots ls X P hl h1 h2
  exact lv_sipush X.1 X.2.1 hd rfl (k p e R s m args below meth c H locs cells slots ls X P hl h1 h2)
theorem xk_lconst {z : Fin 2} (hd : decode M.1 pc = .ok (.lconst z, 1)) (k : Rn G l d M (pc + 1) lv (.long (Int64.ofNat (z : Nat)) :: st) h kc ks Q) : Rn G l d M pc lv (st) h kc ks Q := by
  intro p e R s m args below meth c H locs cells slots ls X P hl h1 h2
  exact lv_lconst X.1 X.2.1 hd rfl (k p e R s m args below meth c H locs cells slots ls X P hl h1 h2)
theorem xk_null (hd : decode M.1 pc = .ok (.aconst_null, 1)) (k : Rn G l d M (pc + 1) lv (.null :: st) h kc ks Q) : Rn G l d M pc lv (st) h kc ks Q := by
  intro p e R s m args below meth c H locs cells slots ls X P hl h1 h2
  exact lv_null X.1 X.2.1 hd  (k p e R s m args below meth c H locs cells slots ls X P hl h1 h2)
theorem xk_iadd {x y : Int32} (hd : decode M.1 pc = .ok (.iadd, 1)) (k : Rn G l d M (pc + 1) lv (.int (x + y) :: st) h kc ks Q) : Rn G l d M pc lv (.int y :: .int x :: st) h kc ks Q := by
  intro p e R s m args below meth c H locs cells slots ls X P hl h1 h2
  exact lv_iadd X.1 X.2.1 hd  (k p e R s m args below meth c H locs cells slots ls X P hl h1 h2)
theorem xk_isub {x y : Int32} (hd : decode M.1 pc = .ok (.isub, 1)) (k : Rn G l d M (pc + 1) lv (.int (x - y) :: st) h kc ks Q) : Rn G l d M pc lv (.int y :: .int x :: st) h kc ks Q := by
  intro p e R s m args below meth c H locs cells slots ls X P hl h1 h2
  exact lv_isub X.1 X.2.1 hd  (k p e R s m args below meth c H locs cells slots ls X P hl h1 h2)
theorem xk_imul {x y : Int32} (hd : decode M.1 pc = .ok (.imul, 1)) (k : Rn G l d M (pc + 1) lv (.int (x * y) :: st) h kc ks Q) : Rn G l d M pc lv (.int y :: .int x :: st) h kc ks Q := by
  intro p e R s m args below meth c H locs cells slots ls X P hl h1 h2
  exact lv_imul X.1 X.2.1 hd  (k p e R s m args below meth c H locs cells slots ls X P hl h1 h2)
theorem xk_iand {x y : Int32} (hd : decode M.1 pc = .ok (.iand, 1)) (k : Rn G l d M (pc + 1) lv (.int (x &&& y) :: st) h kc ks Q) : Rn G l d M pc lv (.int y :: .int x :: st) h kc ks Q := by
  intro p e R s m args below meth c H locs cells slots ls X P hl h1 h2
  exact lv_iand X.1 X.2.1 hd  (k p e R s m args below meth c H locs cells slots ls X P hl h1 h2)
theorem xk_ior {x y : Int32} (hd : decode M.1 pc = .ok (.ior, 1)) (k : Rn G l d M (pc + 1) lv (.int (x ||| y) :: st) h kc ks Q) : Rn G l d M pc lv (.int y :: .int x :: st) h kc ks Q := by
  intro p e R s m args below meth c H locs cells slots ls X P hl h1 h2
  exact lv_ior X.1 X.2.1 hd  (k p e R s m args below meth c H locs cells slots ls X P hl h1 h2)
theorem xk_ixor {x y : Int32} (hd : decode M.1 pc = .ok (.ixor, 1)) (k : Rn G l d M (pc + 1) lv (.int (x ^^^ y) :: st) h kc ks Q) : Rn G l d M pc lv (.int y :: .int x :: st) h kc ks Q := by
  intro p e R s m args below meth c H locs cells slots ls X P hl h1 h2
  exact lv_ixor X.1 X.2.1 hd  (k p e R s m args below meth c H locs cells slots ls X P hl h1 h2)
theorem xk_ladd {x y : Int64} (hd : decode M.1 pc = .ok (.ladd, 1)) (k : Rn G l d M (pc + 1) lv (.long (x + y) :: st) h kc ks Q) : Rn G l d M pc lv (.long y :: .long x :: st) h kc ks Q := by
  intro p e R s m args below meth c H locs cells slots ls X P hl h1 h2
  exact lv_ladd X.1 X.2.1 hd  (k p e R s m args below meth c H locs cells slots ls X P hl h1 h2)
theorem xk_lsub {x y : Int64} (hd : decode M.1 pc = .ok (.lsub, 1)) (k : Rn G l d M (pc + 1) lv (.long (x - y) :: st) h kc ks Q) : Rn G l d M pc lv (.long y :: .long x :: st) h kc ks Q := by
  intro p e R s m args below meth c H locs cells slots ls X P hl h1 h2
  exact lv_lsub X.1 X.2.1 hd  (k p e R s m args below meth c H locs cells slots ls X P hl h1 h2)
theorem xk_lmul {x y : Int64} (hd : decode M.1 pc = .ok (.lmul, 1)) (k : Rn G l d M (pc + 1) lv (.long (x * y) :: st) h kc ks Q) : Rn G l d M pc lv (.long y :: .long x :: st) h kc ks Q := by
  intro p e R s m args below meth c H locs cells slots ls X P hl h1 h2
  exact lv_lmul X.1 X.2.1 hd  (k p e R s m args below meth c H locs cells slots ls X P hl h1 h2)
theorem xk_land {x y : Int64} (hd : decode M.1 pc = .ok (.land, 1)) (k : Rn G l d M (pc + 1) lv (.long (x &&& y) :: st) h kc ks Q) : Rn G l d M pc lv (.long y :: .long x :: st) h kc ks Q := by
  intro p e R s m args below meth c H locs cells slots ls X P hl h1 h2
  exact lv_land X.1 X.2.1 hd  (k p e R s m args below meth c H locs cells slots ls X P hl h1 h2)
theorem xk_lor {x y : Int64} (hd : decode M.1 pc = .ok (.lor, 1)) (k : Rn G l d M (pc + 1) lv (.long (x ||| y) :: st) h kc ks Q) : Rn G l d M pc lv (.long y :: .long x :: st) h kc ks Q := by
  intro p e R s m args below meth c H locs cells slots ls X P hl h1 h2
  exact lv_lor X.1 X.2.1 hd  (k p e R s m args below meth c H locs cells slots ls X P hl h1 h2)
theorem xk_lxor {x y : Int64} (hd : decode M.1 pc = .ok (.lxor, 1)) (k : Rn G l d M (pc + 1) lv (.long (x ^^^ y) :: st) h kc ks Q) : Rn G l d M pc lv (.long y :: .long x :: st) h kc ks Q := by
  intro p e R s m args below meth c H locs cells slots ls X P hl h1 h2
  exact lv_lxor X.1 X.2.1 hd  (k p e R s m args below meth c H locs cells slots ls X P hl h1 h2)
theorem xk_idiv {x y : Int32} (hd : decode M.1 pc = .ok (.idiv, 1)) (hne : ¬ y = 0) (k : Rn G l d M (pc + 1) lv (.int (x / y) :: st) h kc ks Q) : Rn G l d M pc lv (.int y :: .int x :: st) h kc ks Q := by
  intro p e R s m args below meth c H locs cells slots ls X P hl h1 h2
  exact lv_idiv X.1 X.2.1 hd hne (k p e R s m args below meth c H locs cells slots ls X P hl h1 h2)
theorem xk_irem {x y : Int32} (hd : decode M.1 pc = .ok (.irem, 1)) (hne : ¬ y = 0) (k : Rn G l d M (pc + 1) lv (.int (x - x / y * y) :: st) h kc ks Q) : Rn G l d M pc lv (.int y :: .int x :: st) h kc ks Q := by
  intro p e R s m args below meth c H locs cells slots ls X P hl h1 h2
  exact lv_irem X.1 X.2.1 hd hne (k p e R s m args below meth c H locs cells slots ls X P hl h1 h2)
theorem xk_ldiv {x y : Int64} (hd : decode M.1 pc = .ok (.ldiv, 1)) (hne : ¬ y = 0) (k : Rn G l d M (pc + 1) lv (.long (x / y) :: st) h kc ks Q) : Rn G l d M pc lv (.long y :: .long x :: st) h kc ks Q := by
  intro p e R s m args below meth c H locs cells slots ls X P hl h1 h2
  exact lv_ldiv X.1 X.2.1 hd hne (k p e R s m args below meth c H locs cells slots ls X P hl h1 h2)
theorem xk_lrem {x y : Int64} (hd : decode M.1 pc = .ok (.lrem, 1)) (hne : ¬ y = 0) (k : Rn G l d M (pc + 1) lv (.long (x - x / y * y) :: st) h kc ks Q) : Rn G l d M pc lv (.long y :: .long x :: st) h kc ks Q := by
  intro p e R s m args below meth c H locs cells slots ls X P hl h1 h2
  exact lv_lrem X.1 X.2.1 hd hne (k p e R s m args below meth c H locs cells slots ls X P hl h1 h2)
theorem xk_ineg {x : Int32} (hd : decode M.1 pc = .ok (.ineg, 1)) (k : Rn G l d M (pc + 1) lv (.int (-x) :: st) h kc ks Q) : Rn G l d M pc lv (.int x :: st) h kc ks Q := by
  intro p e R s m args below meth c H locs cells slots ls X P hl h1 h2
  exact lv_ineg X.1 X.2.1 hd  (k p e R s m args below meth c H locs cells slots ls X P hl h1 h2)
theorem xk_lneg {x : Int64} (hd : decode M.1 pc = .ok (.lneg, 1)) (k : Rn G l d M (pc + 1) lv (.long (-x) :: st) h kc ks Q) : Rn G l d M pc lv (.long x :: st) h kc ks Q := by
  intro p e R s m args below meth c H locs cells slots ls X P hl h1 h2
  exact lv_lneg X.1 X.2.1 hd  (k p e R s m args below meth c H locs cells slots ls X P hl h1 h2)
theorem xk_ishl {x y : Int32} (hd : decode M.1 pc = .ok (.ishl, 1)) (k : Rn G l d M (pc + 1) lv (.int (x <<< (y &&& 31)) :: st) h kc ks Q) : Rn G l d M pc lv (.int y :: .int x :: st) h kc ks Q := by
  intro p e R s m args below meth c H locs cells slots ls X P hl h1 h2
  exact lv_ishl X.1 X.2.1 hd  (k p e R s m args below meth c H locs cells slots ls X P hl h1 h2)
theorem xk_ishr {x y : Int32} (hd : decode M.1 pc = .ok (.ishr, 1)) (k : Rn G l d M (pc + 1) lv (.int (x >>> (y &&& 31)) :: st) h kc ks Q) : Rn G l d M pc lv (.int y :: .int x :: st) h kc ks Q := by
  intro p e R s m args below meth c H locs cells slots ls X P hl h1 h2
  exact lv_ishr X.1 X.2.1 hd  (k p e R s m args below meth c H locs cells slots ls X P hl h1 h2)
theorem xk_i2l {x : Int32} (hd : decode M.1 pc = .ok (.i2l, 1)) (k : Rn G l d M (pc + 1) lv (.long (x.toInt64) :: st) h kc ks Q) : Rn G l d M pc lv (.int x :: st) h kc ks Q := by
  intro p e R s m args below meth c H locs cells slots ls X P hl h1 h2
  exact lv_i2l X.1 X.2.1 hd rfl (k p e R s m args below meth c H locs cells slots ls X P hl h1 h2)
theorem xk_l2i {x : Int64} (hd : decode M.1 pc = .ok (.l2i, 1)) (k : Rn G l d M (pc + 1) lv (.int (x.toInt32) :: st) h kc ks Q) : Rn G l d M pc lv (.long x :: st) h kc ks Q := by
  intro p e R s m args below meth c H locs cells slots ls X P hl h1 h2
  exact lv_l2i X.1 X.2.1 hd rfl (k p e R s m args below meth c H locs cells slots ls X P hl h1 h2)
theorem xk_i2c {x : Int32} (hd : decode M.1 pc = .ok (.i2c, 1)) (k : Rn G l d M (pc + 1) lv (.int ((x.toUInt32 % 65536).toInt32) :: st) h kc ks Q) : Rn G l d M pc lv (.int x :: st) h kc ks Q := by
  intro p e R s m args below meth c H locs cells slots ls X P hl h1 h2
  exact lv_i2c X.1 X.2.1 hd rfl (k p e R s m args below meth c H locs cells slots ls X P hl h1 h2)
theorem xk_lushr {x : Int64} {y : Int32} (hd : decode M.1 pc = .ok (.lushr, 1)) (k : Rn G l d M (pc + 1) lv (.long ((x.toUInt64 >>> (y.toInt64.toUInt64 &&& Int64.toUInt64 63)).toInt64) :: st) h kc ks Q) : Rn G l d M pc lv (.int y :: .long x :: st) h kc ks Q := by
  intro p e R s m args below meth c H locs cells slots ls X P hl h1 h2
  exact lv_lushr X.1 X.2.1 hd rfl (k p e R s m args below meth c H locs cells slots ls X P hl h1 h2)
theorem xk_lshl {x : Int64} {y : Int32} (hd : decode M.1 pc = .ok (.lshl, 1)) (k : Rn G l d M (pc + 1) lv (.long (x <<< (y.toInt64 &&& 63)) :: st) h kc ks Q) : Rn G l d M pc lv (.int y :: .long x :: st) h kc ks Q := by
  intro p e R s m args below meth c H locs cells slots ls X P hl h1 h2
  exact lv_lshl X.1 X.2.1 hd rfl (k p e R s m args below meth c H locs cells slots ls X P hl h1 h2)
theorem xk_lshr {x : Int64} {y : Int32} (hd : decode M.1 pc = .ok (.lshr, 1)) (k : Rn G l d M (pc + 1) lv (.long (x >>> (y.toInt64 &&& 63)) :: st) h kc ks Q) : Rn G l d M pc lv (.int y :: .long x :: st) h kc ks Q := by
  intro p e R s m args below meth c H locs cells slots ls X P hl h1 h2
  exact lv_lshr X.1 X.2.1 hd rfl (k p e R s m args below meth c H locs cells slots ls X P hl h1 h2)
theorem xk_lcmp {x y : Int64} (hd : decode M.1 pc = .ok (.lcmp, 1)) (k : Rn G l d M (pc + 1) lv (.int (lg_cmp x y) :: st) h kc ks Q) : Rn G l d M pc lv (.long y :: .long x :: st) h kc ks Q := by
  intro p e R s m args below meth c H locs cells slots ls X P hl h1 h2
  exact W.lcmp X.1 X.2.1 hd  (k p e R s m args below meth c H locs cells slots ls X P hl h1 h2)
theorem xk_dup {va : Value} (hd : decode M.1 pc = .ok (.dup, 1)) (hva : va.category = 1) (k : Rn G l d M (pc + 1) lv (va :: va :: st) h kc ks Q) : Rn G l d M pc lv (va :: st) h kc ks Q := by
  intro p e R s m args below meth c H locs cells slots ls X P hl h1 h2
  exact lv_dup X.1 X.2.1 hd ((xab_cat G va).trans hva) (k p e R s m args below meth c H locs cells slots ls X P hl h1 h2)
theorem xk_pop {va : Value} (hd : decode M.1 pc = .ok (.pop, 1)) (hva : va.category = 1) (k : Rn G l d M (pc + 1) lv (st) h kc ks Q) : Rn G l d M pc lv (va :: st) h kc ks Q := by
  intro p e R s m args below meth c H locs cells slots ls X P hl h1 h2
  exact lv_pop X.1 X.2.1 hd ((xab_cat G va).trans hva) (k p e R s m args below meth c H locs cells slots ls X P hl h1 h2)
theorem xk_dup_x1 {va vb : Value} (hd : decode M.1 pc = .ok (.dup_x1, 1)) (hva : va.category = 1) (hvb : vb.category = 1) (k : Rn G l d M (pc + 1) lv (va :: vb :: va :: st) h kc ks Q) : Rn G l d M pc lv (va :: vb :: st) h kc ks Q := by
  intro p e R s m args below meth c H locs cells slots ls X P hl h1 h2
  exact lv_dup_x1 X.1 X.2.1 hd ((xab_cat G va).trans hva) ((xab_cat G vb).trans hvb) (k p e R s m args below meth c H locs cells slots ls X P hl h1 h2)
theorem xk_dup_x2 {va vb vd : Value} (hd : decode M.1 pc = .ok (.dup_x2, 1)) (hva : va.category = 1) (hvb : vb.category = 1) (hvd : vd.category = 1) (k : Rn G l d M (pc + 1) lv (va :: vb :: vd :: va :: st) h kc ks Q) : Rn G l d M pc lv (va :: vb :: vd :: st) h kc ks Q := by
  intro p e R s m args below meth c H locs cells slots ls X P hl h1 h2
  exact lv_dup_x2 X.1 X.2.1 hd ((xab_cat G va).trans hva) ((xab_cat G vb).trans hvb) ((xab_cat G vd).trans hvd) (k p e R s m args below meth c H locs cells slots ls X P hl h1 h2)
theorem xk_dup2_11 {va vb : Value} (hd : decode M.1 pc = .ok (.dup2, 1)) (hva : va.category = 1) (hvb : vb.category = 1) (k : Rn G l d M (pc + 1) lv (va :: vb :: va :: vb :: st) h kc ks Q) : Rn G l d M pc lv (va :: vb :: st) h kc ks Q := by
  intro p e R s m args below meth c H locs cells slots ls X P hl h1 h2
  exact lv_dup2_11 X.1 X.2.1 hd ((xab_cat G va).trans hva) ((xab_cat G vb).trans hvb) (k p e R s m args below meth c H locs cells slots ls X P hl h1 h2)
theorem xk_dup2_2 {va : Value} (hd : decode M.1 pc = .ok (.dup2, 1)) (hva : va.category = 2) (k : Rn G l d M (pc + 1) lv (va :: va :: st) h kc ks Q) : Rn G l d M pc lv (va :: st) h kc ks Q := by
  intro p e R s m args below meth c H locs cells slots ls X P hl h1 h2
  exact lv_dup2_2 X.1 X.2.1 hd ((xab_cat G va).trans hva) (k p e R s m args below meth c H locs cells slots ls X P hl h1 h2)
theorem xk_pop2_2 {va : Value} (hd : decode M.1 pc = .ok (.pop2, 1)) (hva : va.category = 2) (k : Rn G l d M (pc + 1) lv (st) h kc ks Q) : Rn G l d M pc lv (va :: st) h kc ks Q := by
  intro p e R s m args below meth c H locs cells slots ls X P hl h1 h2
  exact lv_pop2_2 X.1 X.2.1 hd ((xab_cat G va).trans hva) (k p e R s m args below meth c H locs cells slots ls X P hl h1 h2)
theorem xk_dup2_x1_2 {va vb : Value} (hd : decode M.1 pc = .ok (.dup2_x1, 1)) (hva : va.category = 2) (hvb : vb.category = 1) (k : Rn G l d M (pc + 1) lv (va :: vb :: va :: st) h kc ks Q) : Rn G l d M pc lv (va :: vb :: st) h kc ks Q := by
  intro p e R s m args below meth c H locs cells slots ls X P hl h1 h2
  exact lv_dup2_x1_2 X.1 X.2.1 hd ((xab_cat G va).trans hva) ((xab_cat G vb).trans hvb) (k p e R s m args below meth c H locs cells slots ls X P hl h1 h2)
theorem xk_dup2_x2_2 {va vb vd : Value} (hd : decode M.1 pc = .ok (.dup2_x2, 1)) (hva : va.category = 2) (hvb : vb.category = 1) (hvd : vd.category = 1) (k : Rn G l d M (pc + 1) lv (va :: vb :: vd :: va :: st) h kc ks Q) : Rn G l d M pc lv (va :: vb :: vd :: st) h kc ks Q := by
  intro p e R s m args below meth c H locs cells slots ls X P hl h1 h2
  exact lv_dup2_x2_2 X.1 X.2.1 hd ((xab_cat G va).trans hva) ((xab_cat G vb).trans hvb) ((xab_cat G vd).trans hvd) (k p e R s m args below meth c H locs cells slots ls X P hl h1 h2)
theorem xk_iload_n {k0 : Fin 4} {x : Int32} (hd : decode M.1 pc = .ok (.iload_n k0, 1)) (hx : lv.lookup (k0 : Nat) = some (.int x)) (k : Rn G l d M (pc + 1) lv (.int x :: st) h kc ks Q) : Rn G l d M pc lv (st) h kc ks Q := by
  intro p e R s m args below meth c H locs cells slots ls X P hl h1 h2
  exact lv_iload_n X.1 X.2.1 hd rfl (xlv_at hl hx) (k p e R s m args below meth c H locs cells slots ls X P hl h1 h2)
theorem xk_iload {i : Nat} {x : Int32} (hd : decode M.1 pc = .ok (.iload i, 2)) (hx : lv.lookup i = some (.int x)) (k : Rn G l d M (pc + 2) lv (.int x :: st) h kc ks Q) : Rn G l d M pc lv (st) h kc ks Q := by
  intro p e R s m args below meth c H locs cells slots ls X P hl h1 h2
  exact lv_iload X.1 X.2.1 hd (xlv_at hl hx) (k p e R s m args below meth c H locs cells slots ls X P hl h1 h2)
theorem xk_lload_n {k0 : Fin 4} {x : Int64} (hd : decode M.1 pc = .ok (.lload_n k0, 1)) (hx : lv.lookup (k0 : Nat) = some (.long x)) (k : Rn G l d M (pc + 1) lv (.long x :: st) h kc ks Q) : Rn G l d M pc lv (st) h kc ks Q := by
  intro p e R s m args below meth c H locs cells slots ls X P hl h1 h2
  exact lv_lload_n X.1 X.2.1 hd rfl (xlv_at hl hx) (k p e R s m args below meth c H locs cells slots ls X P hl h1 h2)
theorem xk_lload {i : Nat} {x : Int64} (hd : decode M.1 pc = .ok (.lload i, 2)) (hx : lv.lookup i = some (.long x)) (k : Rn G l d M (pc + 2) lv (.long x :: st) h kc ks Q) : Rn G l d M pc lv (st) h kc ks Q := by
  intro p e R s m args below meth c H locs cells slots ls X P hl h1 h2
  exact lv_lload X.1 X.2.1 hd (xlv_at hl hx) (k p e R s m args below meth c H locs cells slots ls X P hl h1 h2)
theorem xk_aload_n {k0 : Fin 4} {x : Nat} (hd : decode M.1 pc = .ok (.aload_n k0, 1)) (hx : lv.lookup (k0 : Nat) = some (.ref x)) (k : Rn G l d M (pc + 1) lv (.ref x :: st) h kc ks Q) : Rn G l d M pc lv (st) h kc ks Q := by
  intro p e R s m args below meth c H locs cells slots ls X P hl h1 h2
  exact lv_aload_n X.1 X.2.1 hd rfl (xlv_at hl hx) (k p e R s m args below meth c H locs cells slots ls X P hl h1 h2)
theorem xk_aload {i : Nat} {x : Nat} (hd : decode M.1 pc = .ok (.aload i, 2)) (hx : lv.lookup i = some (.ref x)) (k : Rn G l d M (pc + 2) lv (.ref x :: st) h kc ks Q) : Rn G l d M pc lv (st) h kc ks Q := by
  intro p e R s m args below meth c H locs cells slots ls X P hl h1 h2
  exact lv_aload X.1 X.2.1 hd (xlv_at hl hx) (k p e R s m args below meth c H locs cells slots ls X P hl h1 h2)
theorem xk_aload_nR {k0 : Fin 4} {x : Nat} (hd : decode M.1 pc = .ok (.aload_n k0, 1)) (hx : lv.lookup (k0 : Nat) = some (.retAddr x)) (k : Rn G l d M (pc + 1) lv (.retAddr x :: st) h kc ks Q) : Rn G l d M pc lv (st) h kc ks Q := by
  intro p e R s m args below meth c H locs cells slots ls X P hl h1 h2
  exact lv_aload_n X.1 X.2.1 hd rfl (xlv_at hl hx) (k p e R s m args below meth c H locs cells slots ls X P hl h1 h2)
theorem xk_aloadR {i : Nat} {x : Nat} (hd : decode M.1 pc = .ok (.aload i, 2)) (hx : lv.lookup i = some (.retAddr x)) (k : Rn G l d M (pc + 2) lv (.retAddr x :: st) h kc ks Q) : Rn G l d M pc lv (st) h kc ks Q := by
  intro p e R s m args below meth c H locs cells slots ls X P hl h1 h2
  exact lv_aload X.1 X.2.1 hd (xlv_at hl hx) (k p e R s m args below meth c H locs cells slots ls X P hl h1 h2)
theorem xk_aload_nN {k0 : Fin 4} (hd : decode M.1 pc = .ok (.aload_n k0, 1)) (hx : lv.lookup (k0 : Nat) = some (.null)) (k : Rn G l d M (pc + 1) lv (.null :: st) h kc ks Q) : Rn G l d M pc lv (st) h kc ks Q := by
  intro p e R s m args below meth c H locs cells slots ls X P hl h1 h2
  exact lv_aload_nN X.1 X.2.1 hd rfl (xlv_at hl hx) (k p e R s m args below meth c H locs cells slots ls X P hl h1 h2)
theorem xk_aloadN {i : Nat} (hd : decode M.1 pc = .ok (.aload i, 2)) (hx : lv.lookup i = some (.null)) (k : Rn G l d M (pc + 2) lv (.null :: st) h kc ks Q) : Rn G l d M pc lv (st) h kc ks Q := by
  intro p e R s m args below meth c H locs cells slots ls X P hl h1 h2
  exact lv_aloadN X.1 X.2.1 hd (xlv_at hl hx) (k p e R s m args below meth c H locs cells slots ls X P hl h1 h2)
theorem xk_istore_n {k0 : Fin 4} {x : Int32} (hd : decode M.1 pc = .ok (.istore_n k0, 1)) (hn : (k0 : Nat) < M.2.2.1) (k : Rn G l d M (pc + 1) (xset lv (k0 : Nat) (.int x)) st h kc ks Q) : Rn G l d M pc lv (.int x :: st) h kc ks Q := by
  intro p e R s m args below meth c H locs cells slots ls X P hl h1 h2
  exact lv_istore_n X.1 X.2.1 hd rfl hl hn (xlv_set G lv (k0 : Nat) (.int x)) (fun ls' hl' => k p e R s m args below meth c H locs cells slots ls' X P hl' h1 h2)
theorem xk_istore {i : Nat} {x : Int32} (hd : decode M.1 pc = .ok (.istore i, 2)) (hn : i < M.2.2.1) (k : Rn G l d M (pc + 2) (xset lv i (.int x)) st h kc ks Q) : Rn G l d M pc lv (.int x :: st) h kc ks Q := by
  intro p e R s m args below meth c H locs cells slots ls X P hl h1 h2
  exact lv_istore X.1 X.2.1 hd hl hn (xlv_set G lv i (.int x)) (fun ls' hl' => k p e R s m args below meth c H locs cells slots ls' X P hl' h1 h2)
theorem xk_lstore_n {k0 : Fin 4} {x : Int64} (hd : decode M.1 pc = .ok (.lstore_n k0, 1)) (hn : (k0 : Nat) + 1 < M.2.2.1) (k : Rn G l d M (pc + 1) (xset2 lv (k0 : Nat) (.long x)) st h kc ks Q) : Rn G l d M pc lv (.long x :: st) h kc ks Q := by
  intro p e R s m args below meth c H locs cells slots ls X P hl h1 h2
  exact lv_lstore_n X.1 X.2.1 hd rfl hl hn (xlv_set2 G lv (k0 : Nat) (.long x)) (fun ls' hl' => k p e R s m args below meth c H locs cells slots ls' X P hl' h1 h2)
theorem xk_lstore {i : Nat} {x : Int64} (hd : decode M.1 pc = .ok (.lstore i, 2)) (hn : i + 1 < M.2.2.1) (k : Rn G l d M (pc + 2) (xset2 lv i (.long x)) st h kc ks Q) : Rn G l d M pc lv (.long x :: st) h kc ks Q := by
  intro p e R s m args below meth c H locs cells slots ls X P hl h1 h2
  exact lv_lstore X.1 X.2.1 hd hl hn (xlv_set2 G lv i (.long x)) (fun ls' hl' => k p e R s m args below meth c H locs cells slots ls' X P hl' h1 h2)
theorem xk_astore_n {k0 : Fin 4} {x : Nat} (hd : decode M.1 pc = .ok (.astore_n k0, 1)) (hn : (k0 : Nat) < M.2.2.1) (k : Rn G l d M (pc + 1) (xset lv (k0 : Nat) (.ref x)) st h kc ks Q) : Rn G l d M pc lv (.ref x :: st) h kc ks Q := by
  intro p e R s m args below meth c H locs cells slots ls X P hl h1 h2
  exact lv_astore_n X.1 X.2.1 hd rfl hl hn (xlv_set G lv (k0 : Nat) (.ref x)) (fun ls' hl' => k p e R s m args below meth c H locs cells slots ls' X P hl' h1 h2)
theorem xk_astore {i : Nat} {x : Nat} (hd : decode M.1 pc = .ok (.astore i, 2)) (hn : i < M.2.2.1) (k : Rn G l d M (pc + 2) (xset lv i (.ref x)) st h kc ks Q) : Rn G l d M pc lv (.ref x :: st) h kc ks Q := by
  intro p e R s m args below meth c H locs cells slots ls X P hl h1 h2
  exact lv_astore X.1 X.2.1 hd hl hn (xlv_set G lv i (.ref x)) (fun ls' hl' => k p e R s m args below meth c H locs cells slots ls' X P hl' h1 h2)
theorem xk_astore_nN {k0 : Fin 4} (hd : decode M.1 pc = .ok (.astore_n k0, 1)) (hn : (k0 : Nat) < M.2.2.1) (k : Rn G l d M (pc + 1) (xset lv (k0 : Nat) (.null)) st h kc ks Q) : Rn G l d M pc lv (.null :: st) h kc ks Q := by
  intro p e R s m args below meth c H locs cells slots ls X P hl h1 h2
  exact lv_astore_nN X.1 X.2.1 hd rfl hl hn (xlv_set G lv (k0 : Nat) (.null)) (fun ls' hl' => k p e R s m args below meth c H locs cells slots ls' X P hl' h1 h2)
theorem xk_astoreN {i : Nat} (hd : decode M.1 pc = .ok (.astore i, 2)) (hn : i < M.2.2.1) (k : Rn G l d M (pc + 2) (xset lv i (.null)) st h kc ks Q) : Rn G l d M pc lv (.null :: st) h kc ks Q := by
  intro p e R s m args below meth c H locs cells slots ls X P hl h1 h2
  exact lv_astoreN X.1 X.2.1 hd hl hn (xlv_set G lv i (.null)) (fun ls' hl' => k p e R s m args below meth c H locs cells slots ls' X P hl' h1 h2)
theorem xlv_place {G : xG} {lv : xL} {i : Nat} {v : Value} (hl : lv.lookup i = some v) : ∃ k : Nat, (xlv G lv)[k]? = some (i, xab G v) := by
  induction lv with
  | nil => cases hl
  | cons a t ih =>
    obtain ⟨j, u⟩ := a
    simp only [List.lookup_cons] at hl
    by_cases hj : i = j
    · subst hj
      simp at hl
      subst hl
      exact ⟨0, rfl⟩
    · have e : (i == j) = false := by simpa using hj
      rw [e] at hl
      obtain ⟨k, hk⟩ := ih hl
      exact ⟨k + 1, hk⟩
theorem xk_iinc {i : Nat} {z : Int} {x : Int32} (hd : decode M.1 pc = .ok (.iinc i z, 3)) (hx : lv.lookup i = some (.int x)) (hn : i < M.2.2.1) (k : Rn G l d M (pc + 3) (xset lv i (.int (x + Int32.ofInt z))) st h kc ks Q) : Rn G l d M pc lv st h kc ks Q := by
  intro p e R s m args below meth c H locs cells slots ls X P hl h1 h2
  obtain ⟨k0, hk0⟩ := xlv_place (G := G) hx
  exact lv_iinc X.1 X.2.1 hd hl hk0 rfl hn (xlv_set G lv i (.int (x + Int32.ofInt z))) (fun ls' hl' => k p e R s m args below meth c H locs cells slots ls' X P hl' h1 h2)
theorem xk_if_eq {x : Int32} {off : Int} (tgt : Nat) (hd : decode M.1 pc = .ok (.ifCond .eq off, 3)) (ht : (pc : Int) + off = (tgt : Int)) (k : (x = 0 → Rn G l d M tgt lv st h kc ks Q) ∧ (¬ x = 0 → Rn G l d M (pc + 3) lv st h kc ks Q)) : Rn G l d M pc lv (.int x :: st) h kc ks Q := by
  intro p e R s m args below meth c H locs cells slots ls X P hl h1 h2
  exact lv_if_eq X.1 X.2.1 hd ht (fun z => k.1 z p e R s m args below meth c H locs cells slots ls X P hl h1 h2) (fun z => k.2 z p e R s m args below meth c H locs cells slots ls X P hl h1 h2)
theorem xk_icmp_eq {x y : Int32} {off : Int} (tgt : Nat) (hd : decode M.1 pc = .ok (.if_icmp .eq off, 3)) (ht : (pc : Int) + off = (tgt : Int)) (k : (x = y → Rn G l d M tgt lv st h kc ks Q) ∧ (¬ x = y → Rn G l d M (pc + 3) lv st h kc ks Q)) : Rn G l d M pc lv (.int y :: .int x :: st) h kc ks Q := by
  intro p e R s m args below meth c H locs cells slots ls X P hl h1 h2
  exact lv_icmp_eq X.1 X.2.1 hd ht (fun z => k.1 z p e R s m args below meth c H locs cells slots ls X P hl h1 h2) (fun z => k.2 z p e R s m args below meth c H locs cells slots ls X P hl h1 h2)
theorem xk_if_ne {x : Int32} {off : Int} (tgt : Nat) (hd : decode M.1 pc = .ok (.ifCond .ne off, 3)) (ht : (pc : Int) + off = (tgt : Int)) (k : (¬ x = 0 → Rn G l d M tgt lv st h kc ks Q) ∧ (x = 0 → Rn G l d M (pc + 3) lv st h kc ks Q)) : Rn G l d M pc lv (.int x :: st) h kc ks Q := by
  intro p e R s m args below meth c H locs cells slots ls X P hl h1 h2
  exact lv_if_ne X.1 X.2.1 hd ht (fun z => k.1 z p e R s m args below meth c H locs cells slots ls X P hl h1 h2) (fun z => k.2 z p e R s m args below meth c H locs cells slots ls X P hl h1 h2)
theorem xk_icmp_ne {x y : Int32} {off : Int} (tgt : Nat) (hd : decode M.1 pc = .ok (.if_icmp .ne off, 3)) (ht : (pc : Int) + off = (tgt : Int)) (k : (¬ x = y → Rn G l d M tgt lv st h kc ks Q) ∧ (x = y → Rn G l d M (pc + 3) lv st h kc ks Q)) : Rn G l d M pc lv (.int y :: .int x :: st) h kc ks Q := by
  intro p e R s m args below meth c H locs cells slots ls X P hl h1 h2
  exact lv_icmp_ne X.1 X.2.1 hd ht (fun z => k.1 z p e R s m args below meth c H locs cells slots ls X P hl h1 h2) (fun z => k.2 z p e R s m args below meth c H locs cells slots ls X P hl h1 h2)
theorem xk_if_lt {x : Int32} {off : Int} (tgt : Nat) (hd : decode M.1 pc = .ok (.ifCond .lt off, 3)) (ht : (pc : Int) + off = (tgt : Int)) (k : (x < 0 → Rn G l d M tgt lv st h kc ks Q) ∧ (¬ x < 0 → Rn G l d M (pc + 3) lv st h kc ks Q)) : Rn G l d M pc lv (.int x :: st) h kc ks Q := by
  intro p e R s m args below meth c H locs cells slots ls X P hl h1 h2
  exact lv_if_lt X.1 X.2.1 hd ht (fun z => k.1 z p e R s m args below meth c H locs cells slots ls X P hl h1 h2) (fun z => k.2 z p e R s m args below meth c H locs cells slots ls X P hl h1 h2)
theorem xk_icmp_lt {x y : Int32} {off : Int} (tgt : Nat) (hd : decode M.1 pc = .ok (.if_icmp .lt off, 3)) (ht : (pc : Int) + off = (tgt : Int)) (k : (x < y → Rn G l d M tgt lv st h kc ks Q) ∧ (¬ x < y → Rn G l d M (pc + 3) lv st h kc ks Q)) : Rn G l d M pc lv (.int y :: .int x :: st) h kc ks Q := by
  intro p e R s m args below meth c H locs cells slots ls X P hl h1 h2
  exact lv_icmp_lt X.1 X.2.1 hd ht (fun z => k.1 z p e R s m args below meth c H locs cells slots ls X P hl h1 h2) (fun z => k.2 z p e R s m args below meth c H locs cells slots ls X P hl h1 h2)
theorem xk_if_ge {x : Int32} {off : Int} (tgt : Nat) (hd : decode M.1 pc = .ok (.ifCond .ge off, 3)) (ht : (pc : Int) + off = (tgt : Int)) (k : (0 ≤ x → Rn G l d M tgt lv st h kc ks Q) ∧ (¬ 0 ≤ x → Rn G l d M (pc + 3) lv st h kc ks Q)) : Rn G l d M pc lv (.int x :: st) h kc ks Q := by
  intro p e R s m args below meth c H locs cells slots ls X P hl h1 h2
  exact lv_if_ge X.1 X.2.1 hd ht (fun z => k.1 z p e R s m args below meth c H locs cells slots ls X P hl h1 h2) (fun z => k.2 z p e R s m args below meth c H locs cells slots ls X P hl h1 h2)
theorem xk_icmp_ge {x y : Int32} {off : Int} (tgt : Nat) (hd : decode M.1 pc = .ok (.if_icmp .ge off, 3)) (ht : (pc : Int) + off = (tgt : Int)) (k : (y ≤ x → Rn G l d M tgt lv st h kc ks Q) ∧ (¬ y ≤ x → Rn G l d M (pc + 3) lv st h kc ks Q)) : Rn G l d M pc lv (.int y :: .int x :: st) h kc ks Q := by
  intro p e R s m args below meth c H locs cells slots ls X P hl h1 h2
  exact lv_icmp_ge X.1 X.2.1 hd ht (fun z => k.1 z p e R s m args below meth c H locs cells slots ls X P hl h1 h2) (fun z => k.2 z p e R s m args below meth c H locs cells slots ls X P hl h1 h2)
theorem xk_if_gt {x : Int32} {off : Int} (tgt : Nat) (hd : decode M.1 pc = .ok (.ifCond .gt off, 3)) (ht : (pc : Int) + off = (tgt : Int)) (k : (0 < x → Rn G l d M tgt lv st h kc ks Q) ∧ (¬ 0 < x → Rn G l d M (pc + 3) lv st h kc ks Q)) : Rn G l d M pc lv (.int x :: st) h kc ks Q := by
  intro p e R s m args below meth c H locs cells slots ls X P hl h1 h2
  exact lv_if_gt X.1 X.2.1 hd ht (fun z => k.1 z p e R s m args below meth c H locs cells slots ls X P hl h1 h2) (fun z => k.2 z p e R s m args below meth c H locs cells slots ls X P hl h1 h2)
theorem xk_icmp_gt {x y : Int32} {off : Int} (tgt : Nat) (hd : decode M.1 pc = .ok (.if_icmp .gt off, 3)) (ht : (pc : Int) + off = (tgt : Int)) (k : (y < x → Rn G l d M tgt lv st h kc ks Q) ∧ (¬ y < x → Rn G l d M (pc + 3) lv st h kc ks Q)) : Rn G l d M pc lv (.int y :: .int x :: st) h kc ks Q := by
  intro p e R s m args below meth c H locs cells slots ls X P hl h1 h2
  exact lv_icmp_gt X.1 X.2.1 hd ht (fun z => k.1 z p e R s m args below meth c H locs cells slots ls X P hl h1 h2) (fun z => k.2 z p e R s m args below meth c H locs cells slots ls X P hl h1 h2)
theorem xk_if_le {x : Int32} {off : Int} (tgt : Nat) (hd : decode M.1 pc = .ok (.ifCond .le off, 3)) (ht : (pc : Int) + off = (tgt : Int)) (k : (x ≤ 0 → Rn G l d M tgt lv st h kc ks Q) ∧ (¬ x ≤ 0 → Rn G l d M (pc + 3) lv st h kc ks Q)) : Rn G l d M pc lv (.int x :: st) h kc ks Q := by
  intro p e R s m args below meth c H locs cells slots ls X P hl h1 h2
  exact lv_if_le X.1 X.2.1 hd ht (fun z => k.1 z p e R s m args below meth c H locs cells slots ls X P hl h1 h2) (fun z => k.2 z p e R s m args below meth c H locs cells slots ls X P hl h1 h2)
theorem xk_icmp_le {x y : Int32} {off : Int} (tgt : Nat) (hd : decode M.1 pc = .ok (.if_icmp .le off, 3)) (ht : (pc : Int) + off = (tgt : Int)) (k : (x ≤ y → Rn G l d M tgt lv st h kc ks Q) ∧ (¬ x ≤ y → Rn G l d M (pc + 3) lv st h kc ks Q)) : Rn G l d M pc lv (.int y :: .int x :: st) h kc ks Q := by
  intro p e R s m args below meth c H locs cells slots ls X P hl h1 h2
  exact lv_icmp_le X.1 X.2.1 hd ht (fun z => k.1 z p e R s m args below meth c H locs cells slots ls X P hl h1 h2) (fun z => k.2 z p e R s m args below meth c H locs cells slots ls X P hl h1 h2)
theorem xk_goto {off : Int} (tgt : Nat) (hd : decode M.1 pc = .ok (.goto off, 3)) (ht : (pc : Int) + off = (tgt : Int)) (k : Rn G l d M tgt lv st h kc ks Q) : Rn G l d M pc lv st h kc ks Q := by
  intro p e R s m args below meth c H locs cells slots ls X P hl h1 h2
  exact lv_goto X.1 X.2.1 hd ht (k p e R s m args below meth c H locs cells slots ls X P hl h1 h2)
theorem xk_ifnull {x : Nat} {off : Int} (hd : decode M.1 pc = .ok (.ifnull off, 3)) (k : Rn G l d M (pc + 3) lv st h kc ks Q) : Rn G l d M pc lv (.ref x :: st) h kc ks Q := by
  intro p e R s m args below meth c H locs cells slots ls X P hl h1 h2
  exact lv_ifnull X.1 X.2.1 hd (k p e R s m args below meth c H locs cells slots ls X P hl h1 h2)
theorem xk_ifnullN {off : Int} (tgt : Nat) (hd : decode M.1 pc = .ok (.ifnull off, 3)) (ht : (pc : Int) + off = (tgt : Int)) (k : Rn G l d M tgt lv st h kc ks Q) : Rn G l d M pc lv (.null :: st) h kc ks Q := by
  intro p e R s m args below meth c H locs cells slots ls X P hl h1 h2
  exact lv_ifnullN X.1 X.2.1 hd ht (k p e R s m args below meth c H locs cells slots ls X P hl h1 h2)
theorem xk_ifnonnull {x : Nat} {off : Int} (tgt : Nat) (hd : decode M.1 pc = .ok (.ifnonnull off, 3)) (ht : (pc : Int) + off = (tgt : Int)) (k : Rn G l d M tgt lv st h kc ks Q) : Rn G l d M pc lv (.ref x :: st) h kc ks Q := by
  intro p e R s m args below meth c H locs cells slots ls X P hl h1 h2
  exact lv_ifnonnull X.1 X.2.1 hd ht (k p e R s m args below meth c H locs cells slots ls X P hl h1 h2)
theorem xk_ifnonnullN {off : Int} (hd : decode M.1 pc = .ok (.ifnonnull off, 3)) (k : Rn G l d M (pc + 3) lv st h kc ks Q) : Rn G l d M pc lv (.null :: st) h kc ks Q := by
  intro p e R s m args below meth c H locs cells slots ls X P hl h1 h2
  exact lv_ifnonnullN X.1 X.2.1 hd (k p e R s m args below meth c H locs cells slots ls X P hl h1 h2)
theorem xk_tableIn {dflt lo hi : Int} {offs : Array Int} {len : Nat} {x : Int32} {off : Int} (tgt : Nat) (hd : decode M.1 pc = .ok (.tableswitch dflt lo hi offs, len)) (a1 : ¬ x.toInt < lo) (a2 : ¬ hi < x.toInt) (ho : offs[(x.toInt - lo).toNat]? = some off) (ht : (pc : Int) + off = (tgt : Int)) (k : Rn G l d M tgt lv st h kc ks Q) : Rn G l d M pc lv (.int x :: st) h kc ks Q := by
  intro p e R s m args below meth c H locs cells slots ls X P hl h1 h2
  exact lv_tableIn X.1 X.2.1 hd a1 a2 ho ht (k p e R s m args below meth c H locs cells slots ls X P hl h1 h2)
theorem xk_tableOut {dflt lo hi : Int} {offs : Array Int} {len : Nat} {x : Int32} (tgt : Nat) (hd : decode M.1 pc = .ok (.tableswitch dflt lo hi offs, len)) (a1 : x.toInt < lo ∨ hi < x.toInt) (ht : (pc : Int) + dflt = (tgt : Int)) (k : Rn G l d M tgt lv st h kc ks Q) : Rn G l d M pc lv (.int x :: st) h kc ks Q := by
  intro p e R s m args below meth c H locs cells slots ls X P hl h1 h2
  exact lv_tableOut X.1 X.2.1 hd a1 ht (k p e R s m args below meth c H locs cells slots ls X P hl h1 h2)
theorem xk_lookup {dflt : Int} {ps : Array (Int × Int)} {len : Nat} {x : Int32} {off : Int} (tgt : Nat) (hd : decode M.1 pc = .ok (.lookupswitch dflt ps, len)) (hp : (ps.toList.zip (ps.toList.drop 1)).all (fun (a, next) => a.1 < next.1) = true) (ho : Op.lookupswitch.offset ps.toList dflt x.toInt = off) (ht : (pc : Int) + off = (tgt : Int)) (k : Rn G l d M tgt lv st h kc ks Q) : Rn G l d M pc lv (.int x :: st) h kc ks Q := by
  intro p e R s m args below meth c H locs cells slots ls X P hl h1 h2
  exact lv_lookup X.1 X.2.1 hd hp ho ht (k p e R s m args below meth c H locs cells slots ls X P hl h1 h2)
theorem xk_ldc {idx : Nat} (v : Int32) (hd : decode M.1 pc = .ok (.ldc idx, 2)) (hw : Jvm.Cond.constant M.2.1.cls idx v ∈ xALL) (k : Rn G l d M (pc + 2) lv (.int v :: st) h kc ks Q) : Rn G l d M pc lv st h kc ks Q := by
  intro p e R s m args below meth c H locs cells slots ls X P hl h1 h2
  exact lv_ldc X.1 X.2.1 X.2.2.2.1 (X.2.2.2.2.1 _ hw) hd (k p e R s m args below meth c H locs cells slots ls X P hl h1 h2)
theorem xk_ldc2 {idx : Nat} (v : Int64) (hd : decode M.1 pc = .ok (.ldc2_w idx, 3)) (hw : Jvm.Cond.constantLong M.2.1.cls idx v ∈ xALL) (k : Rn G l d M (pc + 3) lv (.long v :: st) h kc ks Q) : Rn G l d M pc lv st h kc ks Q := by
  intro p e R s m args below meth c H locs cells slots ls X P hl h1 h2
  exact lv_ldc2 X.1 X.2.1 X.2.2.2.1 (X.2.2.2.2.1 _ hw) hd (k p e R s m args below meth c H locs cells slots ls X P hl h1 h2)
end

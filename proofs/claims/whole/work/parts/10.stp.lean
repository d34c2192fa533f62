section
variable {G : xG} {l : Launch} {d : Nat} {M : xM} {pc : Nat} {lv : xL} {st : List Value} {h : xH} {kc ks : Nat} {Q : xQ}
def xstp (G : xG) (l : Launch) (d : Nat) (M : xM) (pc : Nat) (lv : xL) (st : List Value) (h : xH) (Q : xQ) (k : Nat → xL → List Value → xH → Prop) (i : Instr) (n : Nat) : Prop := match i with
  | .iconst z => n = 1 ∧ k (pc + 1) lv (.int (Int32.ofInt z) :: st) h
  | .bipush z => n = 2 ∧ k (pc + 2) lv (.int ((Int8.ofInt z).toInt32) :: st) h
  | .sipush z => n = 3 ∧ k (pc + 3) lv (.int ((Int16.ofInt z).toInt32) :: st) h
  | .lconst z => n = 1 ∧ k (pc + 1) lv (.long (Int64.ofNat (z : Nat)) :: st) h
  | .aconst_null => n = 1 ∧ k (pc + 1) lv (.null :: st) h
  | .iadd => n = 1 ∧ (match st with | .int y :: .int x :: r => k (pc + 1) lv (.int (x + y) :: r) h | _ => False)
  | .isub => n = 1 ∧ (match st with | .int y :: .int x :: r => k (pc + 1) lv (.int (x - y) :: r) h | _ => False)
  | .imul => n = 1 ∧ (match st with | .int y :: .int x :: r => k (pc + 1) lv (.int (x * y) :: r) h | _ => False)
  | .iand => n = 1 ∧ (match st with | .int y :: .int x :: r => k (pc + 1) lv (.int (x &&& y) :: r) h | _ => False)
  | .ior => n = 1 ∧ (match st with | .int y :: .int x :: r => k (pc + 1) lv (.int (x ||| y) :: r) h | _ => False)
  | .ixor => n = 1 ∧ (match st with | .int y :: .int x :: r => k (pc + 1) lv (.int (x ^^^ y) :: r) h | _ => False)
  | .ishl => n = 1 ∧ (match st with | .int y :: .int x :: r => k (pc + 1) lv (.int (x <<< (y &&& 31)) :: r) h | _ => False)
  | .ishr => n = 1 ∧ (match st with | .int y :: .int x :: r => k (pc + 1) lv (.int (x >>> (y &&& 31)) :: r) h | _ => False)
  | .ladd => n = 1 ∧ (match st with | .long y :: .long x :: r => k (pc + 1) lv (.long (x + y) :: r) h | _ => False)
  | .lsub => n = 1 ∧ (match st with | .long y :: .long x :: r => k (pc + 1) lv (.long (x - y) :: r) h | _ => False)
  | .lmul => n = 1 ∧ (match st with | .long y :: .long x :: r => k (pc + 1) lv (.long (x * y) :: r) h | _ => False)
  | .land => n = 1 ∧ (match st with | .long y :: .long x :: r => k (pc + 1) lv (.long (x &&& y) :: r) h | _ => False)
  | .lor => n = 1 ∧ (match st with | .long y :: .long x :: r => k (pc + 1) lv (.long (x ||| y) :: r) h | _ => False)
  | .lxor => n = 1 ∧ (match st with | .long y :: .long x :: r => k (pc + 1) lv (.long (x ^^^ y) :: r) h | _ => False)
  | .idiv => n = 1 ∧ (match st with | .int y :: .int x :: r => ¬ y = 0 ∧ k (pc + 1) lv (.int (x / y) :: r) h | _ => False)
  | .irem => n = 1 ∧ (match st with | .int y :: .int x :: r => ¬ y = 0 ∧ k (pc + 1) lv (.int (x - x / y * y) :: r) h | _ => False)
  | .ldiv => n = 1 ∧ (match st with | .long y :: .long x :: r => ¬ y = 0 ∧ k (pc + 1) lv (.long (x / y) :: r) h | _ => False)
  | .lrem => n = 1 ∧ (match st with | .long y :: .long x :: r => ¬ y = 0 ∧ k (pc + 1) lv (.long (x - x / y * y) :: r) h | _ => False)
  | .ineg => n = 1 ∧ (match st with | .int x :: r => k (pc + 1) lv (.int (-x) :: r) h | _ => False)
  | .lneg => n = 1 ∧ (match st with | .long x :: r => k (pc + 1) lv (.long (-x) :: r) h | _ => False)
  | .i2l => n = 1 ∧ (match st with | .int x :: r => k (pc + 1) lv (.long (x.toInt64) :: r) h | _ => False)
  | .l2i => n = 1 ∧ (match st with | .long x :: r => k (pc + 1) lv (.int (x.toInt32) :: r) h | _ => False)
  | .i2c => n = 1 ∧ (match st with | .int x :: r => k (pc + 1) lv (.int ((x.toUInt32 % 65536).toInt32) :: r) h | _ => False)
  | .lushr => n = 1 ∧ (match st with | .int y :: .long x :: r => k (pc + 1) lv (.long ((x.toUInt64 >>> (y.toInt64.toUInt64 &&& Int64.toUInt64 63)).toInt64) :: r) h | _ => False)
  | .lshl => n = 1 ∧ (match st with | .int y :: .long x :: r => k (pc + 1) lv (.long (x <<< (y.toInt64 &&& 63)) :: r) h | _ => False)
  | .lshr => n = 1 ∧ (match st with | .int y :: .long x :: r => k (pc + 1) lv (.long (x >>> (y.toInt64 &&& 63)) :: r) h | _ => False)
  | .lcmp => n = 1 ∧ (match st with | .long y :: .long x :: r => k (pc + 1) lv (.int (lg_cmp x y) :: r) h | _ => False)
  | .dup => n = 1 ∧ (match st with | va :: r => va.category = 1 ∧ k (pc + 1) lv (va :: va :: r) h | _ => False)
  | .pop => n = 1 ∧ (match st with | va :: r => va.category = 1 ∧ k (pc + 1) lv (r) h | _ => False)
  | .dup_x1 => n = 1 ∧ (match st with | va :: vb :: r => va.category = 1 ∧ vb.category = 1 ∧ k (pc + 1) lv (va :: vb :: va :: r) h | _ => False)
  | .dup_x2 => n = 1 ∧ (match st with | va :: vb :: vd :: r => va.category = 1 ∧ vb.category = 1 ∧ vd.category = 1 ∧ k (pc + 1) lv (va :: vb :: vd :: va :: r) h | _ => False)
  | .dup2 => n = 1 ∧ (match st with | .long x :: r => k (pc + 1) lv (.long x :: .long x :: r) h | va :: vb :: r => va.category = 1 ∧ vb.category = 1 ∧ k (pc + 1) lv (va :: vb :: va :: vb :: r) h | _ => False)
  | .dup2_x1 => n = 1 ∧ (match st with | .long x :: vb :: r => vb.category = 1 ∧ k (pc + 1) lv (.long x :: vb :: .long x :: r) h | _ => False)
  | .dup2_x2 => n = 1 ∧ (match st with | .long x :: vb :: vd :: r => vb.category = 1 ∧ vd.category = 1 ∧ k (pc + 1) lv (.long x :: vb :: vd :: .long x :: r) h | _ => False)
  | .pop2 => n = 1 ∧ (match st with | .long x :: r => k (pc + 1) lv r h | _ => False)
  | .iload_n k0 => n = 1 ∧ (match lv.lookup (k0 : Nat) with | some (.int x) => k (pc + 1) lv (.int x :: st) h | _ => False)
  | .iload i => n = 2 ∧ (match lv.lookup i with | some (.int x) => k (pc + 2) lv (.int x :: st) h | _ => False)
  | .lload_n k0 => n = 1 ∧ (match lv.lookup (k0 : Nat) with | some (.long x) => k (pc + 1) lv (.long x :: st) h | _ => False)
  | .lload i => n = 2 ∧ (match lv.lookup i with | some (.long x) => k (pc + 2) lv (.long x :: st) h | _ => False)
  | .aload_n k0 => n = 1 ∧ (match lv.lookup (k0 : Nat) with | some (.ref x) => k (pc + 1) lv (.ref x :: st) h | some (.retAddr x) => k (pc + 1) lv (.retAddr x :: st) h | some .null => k (pc + 1) lv (.null :: st) h | _ => False)
  | .aload i => n = 2 ∧ (match lv.lookup i with | some (.ref x) => k (pc + 2) lv (.ref x :: st) h | some (.retAddr x) => k (pc + 2) lv (.retAddr x :: st) h | some .null => k (pc + 2) lv (.null :: st) h | _ => False)
  | .istore_n k0 => n = 1 ∧ (k0 : Nat) < M.2.2.1 ∧ (match st with | .int x :: r => k (pc + 1) (xset lv (k0 : Nat) (.int x)) r h | _ => False)
  | .istore i => n = 2 ∧ i < M.2.2.1 ∧ (match st with | .int x :: r => k (pc + 2) (xset lv i (.int x)) r h | _ => False)
  | .lstore_n k0 => n = 1 ∧ (k0 : Nat) + 1 < M.2.2.1 ∧ (match st with | .long x :: r => k (pc + 1) (xset2 lv (k0 : Nat) (.long x)) r h | _ => False)
  | .lstore i => n = 2 ∧ i + 1 < M.2.2.1 ∧ (match st with | .long x :: r => k (pc + 2) (xset2 lv i (.long x)) r h | _ => False)
  | .astore_n k0 => n = 1 ∧ (k0 : Nat) < M.2.2.1 ∧ (match st with | .ref x :: r => k (pc + 1) (xset lv (k0 : Nat) (.ref x)) r h | .null :: r => k (pc + 1) (xset lv (k0 : Nat) .null) r h | _ => False)
  | .astore i => n = 2 ∧ i < M.2.2.1 ∧ (match st with | .ref x :: r => k (pc + 2) (xset lv i (.ref x)) r h | .null :: r => k (pc + 2) (xset lv i .null) r h | _ => False)
  | .iinc i z => n = 3 ∧ i < M.2.2.1 ∧ (match lv.lookup i with | some (.int x) => k (pc + 3) (xset lv i (.int (x + Int32.ofInt z))) st h | _ => False)
  | .ifCond .eq off => n = 3 ∧ xto pc off = true ∧ (match st with | .int x :: r => ((x = 0) → k (xtg pc off) lv r h) ∧ ((¬ x = 0) → k (pc + 3) lv r h) | _ => False)
  | .if_icmp .eq off => n = 3 ∧ xto pc off = true ∧ (match st with | .int y :: .int x :: r => ((x = y) → k (xtg pc off) lv r h) ∧ ((¬ x = y) → k (pc + 3) lv r h) | _ => False)
  | .ifCond .ne off => n = 3 ∧ xto pc off = true ∧ (match st with | .int x :: r => ((¬ x = 0) → k (xtg pc off) lv r h) ∧ ((x = 0) → k (pc + 3) lv r h) | _ => False)
  | .if_icmp .ne off => n = 3 ∧ xto pc off = true ∧ (match st with | .int y :: .int x :: r => ((¬ x = y) → k (xtg pc off) lv r h) ∧ ((x = y) → k (pc + 3) lv r h) | _ => False)
  | .ifCond .lt off => n = 3 ∧ xto pc off = true ∧ (match st with | .int x :: r => ((x < 0) → k (xtg pc off) lv r h) ∧ ((¬ x < 0) → k (pc + 3) lv r h) | _ => False)
  | .if_icmp .lt off => n = 3 ∧ xto pc off = true ∧ (match st with | .int y :: .int x :: r => ((x < y) → k (xtg pc off) lv r h) ∧ ((¬ x < y) → k (pc + 3) lv r h) | _ => False)
  | .ifCond .ge off => n = 3 ∧ xto pc off = true ∧ (match st with | .int x :: r => ((0 ≤ x) → k (xtg pc off) lv r h) ∧ ((¬ 0 ≤ x) → k (pc + 3) lv r h) | _ => False)
  | .if_icmp .ge off => n = 3 ∧ xto pc off = true ∧ (match st with | .int y :: .int x :: r => ((y ≤ x) → k (xtg pc off) lv r h) ∧ ((¬ y ≤ x) → k (pc + 3) lv r h) | _ => False)
  | .ifCond .gt off => n = 3 ∧ xto pc off = true ∧ (match st with | .int x :: r => ((0 < x) → k (xtg pc off) lv r h) ∧ ((¬ 0 < x) → k (pc + 3) lv r h) | _ => False)
  | .if_icmp .gt off => n = 3 ∧ xto pc off = true ∧ (match st with | .int y :: .int x :: r => ((y < x) → k (xtg pc off) lv r h) ∧ ((¬ y < x) → k (pc + 3) lv r h) | _ => False)
  | .ifCond .le off => n = 3 ∧ xto pc off = true ∧ (match st with | .int x :: r => ((x ≤ 0) → k (xtg pc off) lv r h) ∧ ((¬ x ≤ 0) → k (pc + 3) lv r h) | _ => False)
  | .if_icmp .le off => n = 3 ∧ xto pc off = true ∧ (match st with | .int y :: .int x :: r => ((x ≤ y) → k (xtg pc off) lv r h) ∧ ((¬ x ≤ y) → k (pc + 3) lv r h) | _ => False)
  | .goto off => n = 3 ∧ xto pc off = true ∧ k (xtg pc off) lv st h
  | .ifnull off => n = 3 ∧ xto pc off = true ∧ (match st with | .ref x :: r => k (pc + 3) lv r h | .null :: r => k (xtg pc off) lv r h | _ => False)
  | .ifnonnull off => n = 3 ∧ xto pc off = true ∧ (match st with | .ref x :: r => k (xtg pc off) lv r h | .null :: r => k (pc + 3) lv r h | _ => False)
  | .ldc2_w idx => n = 3 ∧ (match xlT M idx with | some v => k (pc + 3) lv (.long v :: st) h | none => False)
  | .lookupswitch dflt ps => (ps.toList.zip (ps.toList.drop 1)).all (fun (a, next) => a.1 < next.1) = true ∧ (match st with | .int x :: r => xto pc (Op.lookupswitch.offset ps.toList dflt x.toInt) = true ∧ k (xtg pc (Op.lookupswitch.offset ps.toList dflt x.toInt)) lv r h | _ => False)
  | .getfield idx => n = 3 ∧ (match st with | .ref a :: r => (match xfT M idx with | some (ci, k0) => (match h[a]? with | some (.inr (cj, fs)) => cj = ci ∧ (match fs[k0]? with | some v => k (pc + 3) lv (v :: r) h | none => False) | _ => False) | none => False) | _ => False)
  | .putfield idx => n = 3 ∧ (match st with | v :: .ref a :: r => (match xpT M idx with | some (ci, k0, ty, fin) => (match h[a]? with | some (.inr (cj, fs)) => cj = ci ∧ (fin = true → M.2.1.name = "<init>") ∧ k0 < fs.length ∧ narrow ty v = v ∧ fits ty v = true ∧ k (pc + 3) lv r (h.set a (.inr (cj, fs.set k0 v))) | _ => False) | none => False) | _ => False)
  | .iaload => n = 1 ∧ (match st with | .int i :: .ref a :: r => (match h[a]? with | some (.inl (t, m, .inl f)) => t = 0 ∧ vp_in i m ∧ k (pc + 1) lv (.int (f i.toNatClampNeg) :: r) h | _ => False) | .int i :: .retAddr j :: r => j = 0 ∧ vp_in i G.2.2.2.2.1 ∧ k (pc + 1) lv (.int (G.2.2.2.2.2 i.toNatClampNeg) :: r) h | _ => False)
  | .laload => n = 1 ∧ (match st with | .int i :: .ref a :: r => (match h[a]? with | some (.inl (t, m, .inr (.inl f))) => t = 1 ∧ vp_in i m ∧ k (pc + 1) lv (.long (f i.toNatClampNeg) :: r) h | _ => False) | _ => False)
  | .caload => n = 1 ∧ (match st with | .int i :: .ref a :: r => (match h[a]? with | some (.inl (t, m, .inl f)) => t = 2 ∧ vp_in i m ∧ k (pc + 1) lv (.int (f i.toNatClampNeg) :: r) h | _ => False) | _ => False)
  | .baload => n = 1 ∧ (match st with | .int i :: .ref a :: r => (match h[a]? with | some (.inl (t, m, .inl f)) => t = 3 ∧ vp_in i m ∧ k (pc + 1) lv (.int (f i.toNatClampNeg) :: r) h | _ => False) | _ => False)
  | .aaload => n = 1 ∧ (match st with | .int i :: .ref a :: r => (match h[a]? with | some (.inl (t, m, .inr (.inr (.inr (.inr f))))) => (t = 4 ∨ t = 5) ∧ vp_in i m ∧ k (pc + 1) lv (va_rf (f i.toNatClampNeg) :: r) h | _ => False) | _ => False)
  | .iastore => n = 1 ∧ (match st with | .int x :: .int i :: .ref a :: r => (match h[a]? with | some (.inl (t, m, .inl f)) => t = 0 ∧ vp_in i m ∧ k (pc + 1) lv r (h.set a (.inl (0, m, .inl (upd f i.toNatClampNeg x)))) | _ => False) | _ => False)
  | .castore => n = 1 ∧ (match st with | .int x :: .int i :: .ref a :: r => (match h[a]? with | some (.inl (t, m, .inl f)) => t = 2 ∧ vp_in i m ∧ k (pc + 1) lv r (h.set a (.inl (2, m, .inl (upd f i.toNatClampNeg (vp_nar .char x))))) | _ => False) | _ => False)
  | .bastore => n = 1 ∧ (match st with | .int x :: .int i :: .ref a :: r => (match h[a]? with | some (.inl (t, m, .inl f)) => t = 3 ∧ vp_in i m ∧ k (pc + 1) lv r (h.set a (.inl (3, m, .inl (upd f i.toNatClampNeg (vp_nar .boolean x))))) | _ => False) | _ => False)
  | .lastore => n = 1 ∧ (match st with | .long x :: .int i :: .ref a :: r => (match h[a]? with | some (.inl (t, m, .inr (.inl f))) => t = 1 ∧ vp_in i m ∧ k (pc + 1) lv r (h.set a (.inl (1, m, .inr (.inl (vp_updL f i.toNatClampNeg x))))) | _ => False) | _ => False)
  | .arraylength => n = 1 ∧ (match st with | .ref a :: r => (match h[a]? with | some (.inl (t, x)) => t < 6 ∧ k (pc + 1) lv (.int (Int32.ofNat x.1) :: r) h | _ => False) | .retAddr j :: r => j = 0 ∧ k (pc + 1) lv (.int (Int32.ofNat G.2.2.2.2.1) :: r) h | _ => False)
  | .ireturn => n = 1 ∧ (match st with | [.int v] => ∃ ty, M.2.2.2.1 = some ty ∧ narrow ty (.int v) = .int v ∧ Q (.inl (some (.int v))) h | _ => False)
  | .lreturn => n = 1 ∧ (match st with | [.long v] => M.2.2.2.1 = some .long ∧ Q (.inl (some (.long v))) h | _ => False)
  | .return_ => n = 1 ∧ (match st with | [] => M.2.2.2.1 = none ∧ Q (.inl none) h | _ => False)
  | .invokestatic idx => n = 3 ∧ (match xsT M idx with | some (M1, np) => 1 ≤ d ∧ np ≤ st.length ∧ ((st.drop np).map fun v => v.category).sum ≤ 8 ∧ Mt l (d - 1) M1 ((st.take np).reverse) h 0 0 (xRt fun v h' => k (pc + 3) lv (v.toList ++ st.drop np) h') | none => False)
  | .invokevirtual idx => n = 3 ∧ (match xvT M idx with | some (M1, np, ci) => (match st.drop np with | .ref a :: r => (match h[a]? with | some (.inr (cj, fs)) => cj = ci ∧ 1 ≤ d ∧ np ≤ st.length ∧ (r.map fun v => v.category).sum ≤ 8 ∧ Mt l (d - 1) M1 (.ref a :: (st.take np).reverse) h 0 0 (xRt fun v h' => k (pc + 3) lv (v.toList ++ r) h') | _ => False) | _ => False) | none => False)
  | _ => False
theorem xe_0 {G : xG} {l : Launch} {d : Nat} {M : xM} {pc : Nat} {lv : xL} {st : List Value} {h : xH} {Q : xQ} {k : Nat → xL → List Value → xH → Prop} {n : Nat} {z} : xstp G l d M pc lv st h Q k (.iconst z) n = (n = 1 ∧ k (pc + 1) lv (.int (Int32.ofInt z) :: st) h) := rfl
theorem xe_1 {G : xG} {l : Launch} {d : Nat} {M : xM} {pc : Nat} {lv : xL} {st : List Value} {h : xH} {Q : xQ} {k : Nat → xL → List Value → xH → Prop} {n : Nat} {z} : xstp G l d M pc lv st h Q k (.bipush z) n = (n = 2 ∧ k (pc + 2) lv (.int ((Int8.ofInt z).toInt32) :: st) h) := rfl
theorem xe_2 {G : xG} {l : Launch} {d : Nat} {M : xM} {pc : Nat} {lv : xL} {st : List Value} {h : xH} {Q : xQ} {k : Nat → xL → List Value → xH → Prop} {n : Nat} {z} : xstp G l d M pc lv st h Q k (.sipush z) n = (n = 3 ∧ k (pc + 3) lv (.int ((Int16.ofInt z).toInt32) :: st) h) := rfl
theorem xe_3 {G : xG} {l : Launch} {d : Nat} {M : xM} {pc : Nat} {lv : xL} {st : List Value} {h : xH} {Q : xQ} {k : Nat → xL → List Value → xH → Prop} {n : Nat} {z} : xstp G l d M pc lv st h Q k (.lconst z) n = (n = 1 ∧ k (pc + 1) lv (.long (Int64.ofNat (z : Nat)) :: st) h) := rfl
theorem xe_4 {G : xG} {l : Launch} {d : Nat} {M : xM} {pc : Nat} {lv : xL} {st : List Value} {h : xH} {Q : xQ} {k : Nat → xL → List Value → xH → Prop} {n : Nat}  : xstp G l d M pc lv st h Q k (.aconst_null) n = (n = 1 ∧ k (pc + 1) lv (.null :: st) h) := rfl
theorem xe_5 {G : xG} {l : Launch} {d : Nat} {M : xM} {pc : Nat} {lv : xL} {st : List Value} {h : xH} {Q : xQ} {k : Nat → xL → List Value → xH → Prop} {n : Nat}  : xstp G l d M pc lv st h Q k (.iadd) n = (n = 1 ∧ (match st with | .int y :: .int x :: r => k (pc + 1) lv (.int (x + y) :: r) h | _ => False)) := rfl
theorem xe_6 {G : xG} {l : Launch} {d : Nat} {M : xM} {pc : Nat} {lv : xL} {st : List Value} {h : xH} {Q : xQ} {k : Nat → xL → List Value → xH → Prop} {n : Nat}  : xstp G l d M pc lv st h Q k (.isub) n = (n = 1 ∧ (match st with | .int y :: .int x :: r => k (pc + 1) lv (.int (x - y) :: r) h | _ => False)) := rfl
theorem xe_7 {G : xG} {l : Launch} {d : Nat} {M : xM} {pc : Nat} {lv : xL} {st : List Value} {h : xH} {Q : xQ} {k : Nat → xL → List Value → xH → Prop} {n : Nat}  : xstp G l d M pc lv st h Q k (.imul) n = (n = 1 ∧ (match st with | .int y :: .int x :: r => k (pc + 1) lv (.int (x * y) :: r) h | _ => False)) := rfl
theorem xe_8 {G : xG} {l : Launch} {d : Nat} {M : xM} {pc : Nat} {lv : xL} {st : List Value} {h : xH} {Q : xQ} {k : Nat → xL → List Value → xH → Prop} {n : Nat}  : xstp G l d M pc lv st h Q k (.iand) n = (n = 1 ∧ (match st with | .int y :: .int x :: r => k (pc + 1) lv (.int (x &&& y) :: r) h | _ => False)) := rfl
theorem xe_9 {G : xG} {l : Launch} {d : Nat} {M : xM} {pc : Nat} {lv : xL} {st : List Value} {h : xH} {Q : xQ} {k : Nat → xL → List Value → xH → Prop} {n : Nat}  : xstp G l d M pc lv st h Q k (.ior) n = (n = 1 ∧ (match st with | .int y :: .int x :: r => k (pc + 1) lv (.int (x ||| y) :: r) h | _ => False)) := rfl
theorem xe_10 {G : xG} {l : Launch} {d : Nat} {M : xM} {pc : Nat} {lv : xL} {st : List Value} {h : xH} {Q : xQ} {k : Nat → xL → List Value → xH → Prop} {n : Nat}  : xstp G l d M pc lv st h Q k (.ixor) n = (n = 1 ∧ (match st with | .int y :: .int x :: r => k (pc + 1) lv (.int (x ^^^ y) :: r) h | _ => False)) := rfl
theorem xe_11 {G : xG} {l : Launch} {d : Nat} {M : xM} {pc : Nat} {lv : xL} {st : List Value} {h : xH} {Q : xQ} {k : Nat → xL → List Value → xH → Prop} {n : Nat}  : xstp G l d M pc lv st h Q k (.ishl) n = (n = 1 ∧ (match st with | .int y :: .int x :: r => k (pc + 1) lv (.int (x <<< (y &&& 31)) :: r) h | _ => False)) := rfl
theorem xe_12 {G : xG} {l : Launch} {d : Nat} {M : xM} {pc : Nat} {lv : xL} {st : List Value} {h : xH} {Q : xQ} {k : Nat → xL → List Value → xH → Prop} {n : Nat}  : xstp G l d M pc lv st h Q k (.ishr) n = (n = 1 ∧ (match st with | .int y :: .int x :: r => k (pc + 1) lv (.int (x >>> (y &&& 31)) :: r) h | _ => False)) := rfl
theorem xe_13 {G : xG} {l : Launch} {d : Nat} {M : xM} {pc : Nat} {lv : xL} {st : List Value} {h : xH} {Q : xQ} {k : Nat → xL → List Value → xH → Prop} {n : Nat}  : xstp G l d M pc lv st h Q k (.ladd) n = (n = 1 ∧ (match st with | .long y :: .long x :: r => k (pc + 1) lv (.long (x + y) :: r) h | _ => False)) := rfl
theorem xe_14 {G : xG} {l : Launch} {d : Nat} {M : xM} {pc : Nat} {lv : xL} {st : List Value} {h : xH} {Q : xQ} {k : Nat → xL → List Value → xH → Prop} {n : Nat}  : xstp G l d M pc lv st h Q k (.lsub) n = (n = 1 ∧ (match st with | .long y :: .long x :: r => k (pc + 1) lv (.long (x - y) :: r) h | _ => False)) := rfl
theorem xe_15 {G : xG} {l : Launch} {d : Nat} {M : xM} {pc : Nat} {lv : xL} {st : List Value} {h : xH} {Q : xQ} {k : Nat → xL → List Value → xH → Prop} {n : Nat}  : xstp G l d M pc lv st h Q k (.lmul) n = (n = 1 ∧ (match st with | .long y :: .long x :: r => k (pc + 1) lv (.long (x * y) :: r) h | _ => False)) := rfl
theorem xe_16 {G : xG} {l : Launch} {d : Nat} {M : xM} {pc : Nat} {lv : xL} {st : List Value} {h : xH} {Q : xQ} {k : Nat → xL → List Value → xH → Prop} {n : Nat}  : xstp G l d M pc lv st h Q k (.land) n = (n = 1 ∧ (match st with | .long y :: .long x :: r => k (pc + 1) lv (.long (x &&& y) :: r) h | _ => False)) := rfl
theorem xe_17 {G : xG} {l : Launch} {d : Nat} {M : xM} {pc : Nat} {lv : xL} {st : List Value} {h : xH} {Q : xQ} {k : Nat → xL → List Value → xH → Prop} {n : Nat}  : xstp G l d M pc lv st h Q k (.lor) n = (n = 1 ∧ (match st with | .long y :: .long x :: r => k (pc + 1) lv (.long (x ||| y) :: r) h | _ => False)) := rfl
theorem xe_18 {G : xG} {l : Launch} {d : Nat} {M : xM} {pc : Nat} {lv : xL} {st : List Value} {h : xH} {Q : xQ} {k : Nat → xL → List Value → xH → Prop} {n : Nat}  : xstp G l d M pc lv st h Q k (.lxor) n = (n = 1 ∧ (match st with | .long y :: .long x :: r => k (pc + 1) lv (.long (x ^^^ y) :: r) h | _ => False)) := rfl
theorem xe_19 {G : xG} {l : Launch} {d : Nat} {M : xM} {pc : Nat} {lv : xL} {st : List Value} {h : xH} {Q : xQ} {k : Nat → xL → List Value → xH → Prop} {n : Nat}  : xstp G l d M pc lv st h Q k (.idiv) n = (n = 1 ∧ (match st with | .int y :: .int x :: r => ¬ y = 0 ∧ k (pc + 1) lv (.int (x / y) :: r) h | _ => False)) := rfl
theorem xe_20 {G : xG} {l : Launch} {d : Nat} {M : xM} {pc : Nat} {lv : xL} {st : List Value} {h : xH} {Q : xQ} {k : Nat → xL → List Value → xH → Prop} {n : Nat}  : xstp G l d M pc lv st h Q k (.irem) n = (n = 1 ∧ (match st with | .int y :: .int x :: r => ¬ y = 0 ∧ k (pc + 1) lv (.int (x - x / y * y) :: r) h | _ => False)) := rfl
theorem xe_21 {G : xG} {l : Launch} {d : Nat} {M : xM} {pc : Nat} {lv : xL} {st : List Value} {h : xH} {Q : xQ} {k : Nat → xL → List Value → xH → Prop} {n : Nat}  : xstp G l d M pc lv st h Q k (.ldiv) n = (n = 1 ∧ (match st with | .long y :: .long x :: r => ¬ y = 0 ∧ k (pc + 1) lv (.long (x / y) :: r) h | _ => False)) := rfl
theorem xe_22 {G : xG} {l : Launch} {d : Nat} {M : xM} {pc : Nat} {lv : xL} {st : List Value} {h : xH} {Q : xQ} {k : Nat → xL → List Value → xH → Prop} {n : Nat}  : xstp G l d M pc lv st h Q k (.lrem) n = (n = 1 ∧ (match st with | .long y :: .long x :: r => ¬ y = 0 ∧ k (pc + 1) lv (.long (x - x / y * y) :: r) h | _ => False)) := rfl
theorem xe_23 {G : xG} {l : Launch} {d : Nat} {M : xM} {pc : Nat} {lv : xL} {st : List Value} {h : xH} {Q : xQ} {k : Nat → xL → List Value → xH → Prop} {n : Nat}  : xstp G l d M pc lv st h Q k (.ineg) n = (n = 1 ∧ (match st with | .int x :: r => k (pc + 1) lv (.int (-x) :: r) h | _ => False)) := rfl
theorem xe_24 {G : xG} {l : Launch} {d : Nat} {M : xM} {pc : Nat} {lv : xL} {st : List Value} {h : xH} {Q : xQ} {k : Nat → xL → List Value → xH → Prop} {n : Nat}  : xstp G l d M pc lv st h Q k (.lneg) n = (n = 1 ∧ (match st with | .long x :: r => k (pc + 1) lv (.long (-x) :: r) h | _ => False)) := rfl
theorem xe_25 {G : xG} {l : Launch} {d : Nat} {M : xM} {pc : Nat} {lv : xL} {st : List Value} {h : xH} {Q : xQ} {k : Nat → xL → List Value → xH → Prop} {n : Nat}  : xstp G l d M pc lv st h Q k (.i2l) n = (n = 1 ∧ (match st with | .int x :: r => k (pc + 1) lv (.long (x.toInt64) :: r) h | _ => False)) := rfl
theorem xe_26 {G : xG} {l : Launch} {d : Nat} {M : xM} {pc : Nat} {lv : xL} {st : List Value} {h : xH} {Q : xQ} {k : Nat → xL → List Value → xH → Prop} {n : Nat}  : xstp G l d M pc lv st h Q k (.l2i) n = (n = 1 ∧ (match st with | .long x :: r => k (pc + 1) lv (.int (x.toInt32) :: r) h | _ => False)) := rfl
theorem xe_27 {G : xG} {l : Launch} {d : Nat} {M : xM} {pc : Nat} {lv : xL} {st : List Value} {h : xH} {Q : xQ} {k : Nat → xL → List Value → xH → Prop} {n : Nat}  : xstp G l d M pc lv st h Q k (.i2c) n = (n = 1 ∧ (match st with | .int x :: r => k (pc + 1) lv (.int ((x.toUInt32 % 65536).toInt32) :: r) h | _ => False)) := rfl
theorem xe_28 {G : xG} {l : Launch} {d : Nat} {M : xM} {pc : Nat} {lv : xL} {st : List Value} {h : xH} {Q : xQ} {k : Nat → xL → List Value → xH → Prop} {n : Nat}  : xstp G l d M pc lv st h Q k (.lushr) n = (n = 1 ∧ (match st with | .int y :: .long x :: r => k (pc + 1) lv (.long ((x.toUInt64 >>> (y.toInt64.toUInt64 &&& Int64.toUInt64 63)).toInt64) :: r) h | _ => False)) := rfl
theorem xe_29 {G : xG} {l : Launch} {d : Nat} {M : xM} {pc : Nat} {lv : xL} {st : List Value} {h : xH} {Q : xQ} {k : Nat → xL → List Value → xH → Prop} {n : Nat}  : xstp G l d M pc lv st h Q k (.lshl) n = (n = 1 ∧ (match st with | .int y :: .long x :: r => k (pc + 1) lv (.long (x <<< (y.toInt64 &&& 63)) :: r) h | _ => False)) := rfl
theorem xe_30 {G : xG} {l : Launch} {d : Nat} {M : xM} {pc : Nat} {lv : xL} {st : List Value} {h : xH} {Q : xQ} {k : Nat → xL → List Value → xH → Prop} {n : Nat}  : xstp G l d M pc lv st h Q k (.lshr) n = (n = 1 ∧ (match st with | .int y :: .long x :: r => k (pc + 1) lv (.long (x >>> (y.toInt64 &&& 63)) :: r) h | _ => False)) := rfl
theorem xe_31 {G : xG} {l : Launch} {d : Nat} {M : xM} {pc : Nat} {lv : xL} {st : List Value} {h : xH} {Q : xQ} {k : Nat → xL → List Value → xH → Prop} {n : Nat}  : xstp G l d M pc lv st h Q k (.lcmp) n = (n = 1 ∧ (match st with | .long y :: .long x :: r => k (pc + 1) lv (.int (lg_cmp x y) :: r) h | _ => False)) := rfl
theorem xe_32 {G : xG} {l : Launch} {d : Nat} {M : xM} {pc : Nat} {lv : xL} {st : List Value} {h : xH} {Q : xQ} {k : Nat → xL → List Value → xH → Prop} {n : Nat}  : xstp G l d M pc lv st h Q k (.dup) n = (n = 1 ∧ (match st with | va :: r => va.category = 1 ∧ k (pc + 1) lv (va :: va :: r) h | _ => False)) := rfl
theorem xe_33 {G : xG} {l : Launch} {d : Nat} {M : xM} {pc : Nat} {lv : xL} {st : List Value} {h : xH} {Q : xQ} {k : Nat → xL → List Value → xH → Prop} {n : Nat}  : xstp G l d M pc lv st h Q k (.pop) n = (n = 1 ∧ (match st with | va :: r => va.category = 1 ∧ k (pc + 1) lv (r) h | _ => False)) := rfl
theorem xe_34 {G : xG} {l : Launch} {d : Nat} {M : xM} {pc : Nat} {lv : xL} {st : List Value} {h : xH} {Q : xQ} {k : Nat → xL → List Value → xH → Prop} {n : Nat}  : xstp G l d M pc lv st h Q k (.dup_x1) n = (n = 1 ∧ (match st with | va :: vb :: r => va.category = 1 ∧ vb.category = 1 ∧ k (pc + 1) lv (va :: vb :: va :: r) h | _ => False)) := rfl
theorem xe_35 {G : xG} {l : Launch} {d : Nat} {M : xM} {pc : Nat} {lv : xL} {st : List Value} {h : xH} {Q : xQ} {k : Nat → xL → List Value → xH → Prop} {n : Nat}  : xstp G l d M pc lv st h Q k (.dup_x2) n = (n = 1 ∧ (match st with | va :: vb :: vd :: r => va.category = 1 ∧ vb.category = 1 ∧ vd.category = 1 ∧ k (pc + 1) lv (va :: vb :: vd :: va :: r) h | _ => False)) := rfl
theorem xe_36 {G : xG} {l : Launch} {d : Nat} {M : xM} {pc : Nat} {lv : xL} {st : List Value} {h : xH} {Q : xQ} {k : Nat → xL → List Value → xH → Prop} {n : Nat}  : xstp G l d M pc lv st h Q k (.dup2) n = (n = 1 ∧ (match st with | .long x :: r => k (pc + 1) lv (.long x :: .long x :: r) h | va :: vb :: r => va.category = 1 ∧ vb.category = 1 ∧ k (pc + 1) lv (va :: vb :: va :: vb :: r) h | _ => False)) := rfl
theorem xe_37 {G : xG} {l : Launch} {d : Nat} {M : xM} {pc : Nat} {lv : xL} {st : List Value} {h : xH} {Q : xQ} {k : Nat → xL → List Value → xH → Prop} {n : Nat}  : xstp G l d M pc lv st h Q k (.dup2_x1) n = (n = 1 ∧ (match st with | .long x :: vb :: r => vb.category = 1 ∧ k (pc + 1) lv (.long x :: vb :: .long x :: r) h | _ => False)) := rfl
theorem xe_38 {G : xG} {l : Launch} {d : Nat} {M : xM} {pc : Nat} {lv : xL} {st : List Value} {h : xH} {Q : xQ} {k : Nat → xL → List Value → xH → Prop} {n : Nat}  : xstp G l d M pc lv st h Q k (.dup2_x2) n = (n = 1 ∧ (match st with | .long x :: vb :: vd :: r => vb.category = 1 ∧ vd.category = 1 ∧ k (pc + 1) lv (.long x :: vb :: vd :: .long x :: r) h | _ => False)) := rfl
theorem xe_39 {G : xG} {l : Launch} {d : Nat} {M : xM} {pc : Nat} {lv : xL} {st : List Value} {h : xH} {Q : xQ} {k : Nat → xL → List Value → xH → Prop} {n : Nat}  : xstp G l d M pc lv st h Q k (.pop2) n = (n = 1 ∧ (match st with | .long x :: r => k (pc + 1) lv r h | _ => False)) := rfl
theorem xe_40 {G : xG} {l : Launch} {d : Nat} {M : xM} {pc : Nat} {lv : xL} {st : List Value} {h : xH} {Q : xQ} {k : Nat → xL → List Value → xH → Prop} {n : Nat} {k0} : xstp G l d M pc lv st h Q k (.iload_n k0) n = (n = 1 ∧ (match lv.lookup (k0 : Nat) with | some (.int x) => k (pc + 1) lv (.int x :: st) h | _ => False)) := rfl
theorem xe_41 {G : xG} {l : Launch} {d : Nat} {M : xM} {pc : Nat} {lv : xL} {st : List Value} {h : xH} {Q : xQ} {k : Nat → xL → List Value → xH → Prop} {n : Nat} {i} : xstp G l d M pc lv st h Q k (.iload i) n = (n = 2 ∧ (match lv.lookup i with | some (.int x) => k (pc + 2) lv (.int x :: st) h | _ => False)) := rfl
theorem xe_42 {G : xG} {l : Launch} {d : Nat} {M : xM} {pc : Nat} {lv : xL} {st : List Value} {h : xH} {Q : xQ} {k : Nat → xL → List Value → xH → Prop} {n : Nat} {k0} : xstp G l d M pc lv st h Q k (.lload_n k0) n = (n = 1 ∧ (match lv.lookup (k0 : Nat) with | some (.long x) => k (pc + 1) lv (.long x :: st) h | _ => False)) := rfl
theorem xe_43 {G : xG} {l : Launch} {d : Nat} {M : xM} {pc : Nat} {lv : xL} {st : List Value} {h : xH} {Q : xQ} {k : Nat → xL → List Value → xH → Prop} {n : Nat} {i} : xstp G l d M pc lv st h Q k (.lload i) n = (n = 2 ∧ (match lv.lookup i with | some (.long x) => k (pc + 2) lv (.long x :: st) h | _ => False)) := rfl
theorem xe_44 {G : xG} {l : Launch} {d : Nat} {M : xM} {pc : Nat} {lv : xL} {st : List Value} {h : xH} {Q : xQ} {k : Nat → xL → List Value → xH → Prop} {n : Nat} {k0} : xstp G l d M pc lv st h Q k (.aload_n k0) n = (n = 1 ∧ (match lv.lookup (k0 : Nat) with | some (.ref x) => k (pc + 1) lv (.ref x :: st) h | some (.retAddr x) => k (pc + 1) lv (.retAddr x :: st) h | some .null => k (pc + 1) lv (.null :: st) h | _ => False)) := rfl
theorem xe_45 {G : xG} {l : Launch} {d : Nat} {M : xM} {pc : Nat} {lv : xL} {st : List Value} {h : xH} {Q : xQ} {k : Nat → xL → List Value → xH → Prop} {n : Nat} {i} : xstp G l d M pc lv st h Q k (.aload i) n = (n = 2 ∧ (match lv.lookup i with | some (.ref x) => k (pc + 2) lv (.ref x :: st) h | some (.retAddr x) => k (pc + 2) lv (.retAddr x :: st) h | some .null => k (pc + 2) lv (.null :: st) h | _ => False)) := rfl
theorem xe_46 {G : xG} {l : Launch} {d : Nat} {M : xM} {pc : Nat} {lv : xL} {st : List Value} {h : xH} {Q : xQ} {k : Nat → xL → List Value → xH → Prop} {n : Nat} {k0} : xstp G l d M pc lv st h Q k (.istore_n k0) n = (n = 1 ∧ (k0 : Nat) < M.2.2.1 ∧ (match st with | .int x :: r => k (pc + 1) (xset lv (k0 : Nat) (.int x)) r h | _ => False)) := rfl
theorem xe_47 {G : xG} {l : Launch} {d : Nat} {M : xM} {pc : Nat} {lv : xL} {st : List Value} {h : xH} {Q : xQ} {k : Nat → xL → List Value → xH → Prop} {n : Nat} {i} : xstp G l d M pc lv st h Q k (.istore i) n = (n = 2 ∧ i < M.2.2.1 ∧ (match st with | .int x :: r => k (pc + 2) (xset lv i (.int x)) r h | _ => False)) := rfl
theorem xe_48 {G : xG} {l : Launch} {d : Nat} {M : xM} {pc : Nat} {lv : xL} {st : List Value} {h : xH} {Q : xQ} {k : Nat → xL → List Value → xH → Prop} {n : Nat} {k0} : xstp G l d M pc lv st h Q k (.lstore_n k0) n = (n = 1 ∧ (k0 : Nat) + 1 < M.2.2.1 ∧ (match st with | .long x :: r => k (pc + 1) (xset2 lv (k0 : Nat) (.long x)) r h | _ => False)) := rfl
theorem xe_49 {G : xG} {l : Launch} {d : Nat} {M : xM} {pc : Nat} {lv : xL} {st : List Value} {h : xH} {Q : xQ} {k : Nat → xL → List Value → xH → Prop} {n : Nat} {i} : xstp G l d M pc lv st h Q k (.lstore i) n = (n = 2 ∧ i + 1 < M.2.2.1 ∧ (match st with | .long x :: r => k (pc + 2) (xset2 lv i (.long x)) r h | _ => False)) := rfl
theorem xe_50 {G : xG} {l : Launch} {d : Nat} {M : xM} {pc : Nat} {lv : xL} {st : List Value} {h : xH} {Q : xQ} {k : Nat → xL → List Value → xH → Prop} {n : Nat} {k0} : xstp G l d M pc lv st h Q k (.astore_n k0) n = (n = 1 ∧ (k0 : Nat) < M.2.2.1 ∧ (match st with | .ref x :: r => k (pc + 1) (xset lv (k0 : Nat) (.ref x)) r h | .null :: r => k (pc + 1) (xset lv (k0 : Nat) .null) r h | _ => False)) := rfl
theorem xe_51 {G : xG} {l : Launch} {d : Nat} {M : xM} {pc : Nat} {lv : xL} {st : List Value} {h : xH} {Q : xQ} {k : Nat → xL → List Value → xH → Prop} {n : Nat} {i} : xstp G l d M pc lv st h Q k (.astore i) n = (n = 2 ∧ i < M.2.2.1 ∧ (match st with | .ref x :: r => k (pc + 2) (xset lv i (.ref x)) r h | .null :: r => k (pc + 2) (xset lv i .null) r h | _ => False)) := rfl
theorem xe_52 {G : xG} {l : Launch} {d : Nat} {M : xM} {pc : Nat} {lv : xL} {st : List Value} {h : xH} {Q : xQ} {k : Nat → xL → List Value → xH → Prop} {n : Nat} {i} {z} : xstp G l d M pc lv st h Q k (.iinc i z) n = (n = 3 ∧ i < M.2.2.1 ∧ (match lv.lookup i with | some (.int x) => k (pc + 3) (xset lv i (.int (x + Int32.ofInt z))) st h | _ => False)) := rfl
theorem xe_53 {G : xG} {l : Launch} {d : Nat} {M : xM} {pc : Nat} {lv : xL} {st : List Value} {h : xH} {Q : xQ} {k : Nat → xL → List Value → xH → Prop} {n : Nat} {off} : xstp G l d M pc lv st h Q k (.ifCond .eq off) n = (n = 3 ∧ xto pc off = true ∧ (match st with | .int x :: r => ((x = 0) → k (xtg pc off) lv r h) ∧ ((¬ x = 0) → k (pc + 3) lv r h) | _ => False)) := rfl
theorem xe_54 {G : xG} {l : Launch} {d : Nat} {M : xM} {pc : Nat} {lv : xL} {st : List Value} {h : xH} {Q : xQ} {k : Nat → xL → List Value → xH → Prop} {n : Nat} {off} : xstp G l d M pc lv st h Q k (.if_icmp .eq off) n = (n = 3 ∧ xto pc off = true ∧ (match st with | .int y :: .int x :: r => ((x = y) → k (xtg pc off) lv r h) ∧ ((¬ x = y) → k (pc + 3) lv r h) | _ => False)) := rfl
theorem xe_55 {G : xG} {l : Launch} {d : Nat} {M : xM} {pc : Nat} {lv : xL} {st : List Value} {h : xH} {Q : xQ} {k : Nat → xL → List Value → xH → Prop} {n : Nat} {off} : xstp G l d M pc lv st h Q k (.ifCond .ne off) n = (n = 3 ∧ xto pc off = true ∧ (match st with | .int x :: r => ((¬ x = 0) → k (xtg pc off) lv r h) ∧ ((x = 0) → k (pc + 3) lv r h) | _ => False)) := rfl
theorem xe_56 {G : xG} {l : Launch} {d : Nat} {M : xM} {pc : Nat} {lv : xL} {st : List Value} {h : xH} {Q : xQ} {k : Nat → xL → List Value → xH → Prop} {n : Nat} {off} : xstp G l d M pc lv st h Q k (.if_icmp .ne off) n = (n = 3 ∧ xto pc off = true ∧ (match st with | .int y :: .int x :: r => ((¬ x = y) → k (xtg pc off) lv r h) ∧ ((x = y) → k (pc + 3) lv r h) | _ => False)) := rfl
theorem xe_57 {G : xG} {l : Launch} {d : Nat} {M : xM} {pc : Nat} {lv : xL} {st : List Value} {h : xH} {Q : xQ} {k : Nat → xL → List Value → xH → Prop} {n : Nat} {off} : xstp G l d M pc lv st h Q k (.ifCond .lt off) n = (n = 3 ∧ xto pc off = true ∧ (match st with | .int x :: r => ((x < 0) → k (xtg pc off) lv r h) ∧ ((¬ x < 0) → k (pc + 3) lv r h) | _ => False)) := rfl
theorem xe_58 {G : xG} {l : Launch} {d : Nat} {M : xM} {pc : Nat} {lv : xL} {st : List Value} {h : xH} {Q : xQ} {k : Nat → xL → List Value → xH → Prop} {n : Nat} {off} : xstp G l d M pc lv st h Q k (.if_icmp .lt off) n = (n = 3 ∧ xto pc off = true ∧ (match st with | .int y :: .int x :: r => ((x < y) → k (xtg pc off) lv r h) ∧ ((¬ x < y) → k (pc + 3) lv r h) | _ => False)) := rfl
theorem xe_59 {G : xG} {l : Launch} {d : Nat} {M : xM} {pc : Nat} {lv : xL} {st : List Value} {h : xH} {Q : xQ} {k : Nat → xL → List Value → xH → Prop} {n : Nat} {off} : xstp G l d M pc lv st h Q k (.ifCond .ge off) n = (n = 3 ∧ xto pc off = true ∧ (match st with | .int x :: r => ((0 ≤ x) → k (xtg pc off) lv r h) ∧ ((¬ 0 ≤ x) → k (pc + 3) lv r h) | _ => False)) := rfl
theorem xe_60 {G : xG} {l : Launch} {d : Nat} {M : xM} {pc : Nat} {lv : xL} {st : List Value} {h : xH} {Q : xQ} {k : Nat → xL → List Value → xH → Prop} {n : Nat} {off} : xstp G l d M pc lv st h Q k (.if_icmp .ge off) n = (n = 3 ∧ xto pc off = true ∧ (match st with | .int y :: .int x :: r => ((y ≤ x) → k (xtg pc off) lv r h) ∧ ((¬ y ≤ x) → k (pc + 3) lv r h) | _ => False)) := rfl
theorem xe_61 {G : xG} {l : Launch} {d : Nat} {M : xM} {pc : Nat} {lv : xL} {st : List Value} {h : xH} {Q : xQ} {k : Nat → xL → List Value → xH → Prop} {n : Nat} {off} : xstp G l d M pc lv st h Q k (.ifCond .gt off) n = (n = 3 ∧ xto pc off = true ∧ (match st with | .int x :: r => ((0 < x) → k (xtg pc off) lv r h) ∧ ((¬ 0 < x) → k (pc + 3) lv r h) | _ => False)) := rfl
theorem xe_62 {G : xG} {l : Launch} {d : Nat} {M : xM} {pc : Nat} {lv : xL} {st : List Value} {h : xH} {Q : xQ} {k : Nat → xL → List Value → xH → Prop} {n : Nat} {off} : xstp G l d M pc lv st h Q k (.if_icmp .gt off) n = (n = 3 ∧ xto pc off = true ∧ (match st with | .int y :: .int x :: r => ((y < x) → k (xtg pc off) lv r h) ∧ ((¬ y < x) → k (pc + 3) lv r h) | _ => False)) := rfl
theorem xe_63 {G : xG} {l : Launch} {d : Nat} {M : xM} {pc : Nat} {lv : xL} {st : List Value} {h : xH} {Q : xQ} {k : Nat → xL → List Value → xH → Prop} {n : Nat} {off} : xstp G l d M pc lv st h Q k (.ifCond .le off) n = (n = 3 ∧ xto pc off = true ∧ (match st with | .int x :: r => ((x ≤ 0) → k (xtg pc off) lv r h) ∧ ((¬ x ≤ 0) → k (pc + 3) lv r h) | _ => False)) := rfl
theorem xe_64 {G : xG} {l : Launch} {d : Nat} {M : xM} {pc : Nat} {lv : xL} {st : List Value} {h : xH} {Q : xQ} {k : Nat → xL → List Value → xH → Prop} {n : Nat} {off} : xstp G l d M pc lv st h Q k (.if_icmp .le off) n = (n = 3 ∧ xto pc off = true ∧ (match st with | .int y :: .int x :: r => ((x ≤ y) → k (xtg pc off) lv r h) ∧ ((¬ x ≤ y) → k (pc + 3) lv r h) | _ => False)) := rfl
theorem xe_65 {G : xG} {l : Launch} {d : Nat} {M : xM} {pc : Nat} {lv : xL} {st : List Value} {h : xH} {Q : xQ} {k : Nat → xL → List Value → xH → Prop} {n : Nat} {off} : xstp G l d M pc lv st h Q k (.goto off) n = (n = 3 ∧ xto pc off = true ∧ k (xtg pc off) lv st h) := rfl
theorem xe_66 {G : xG} {l : Launch} {d : Nat} {M : xM} {pc : Nat} {lv : xL} {st : List Value} {h : xH} {Q : xQ} {k : Nat → xL → List Value → xH → Prop} {n : Nat} {off} : xstp G l d M pc lv st h Q k (.ifnull off) n = (n = 3 ∧ xto pc off = true ∧ (match st with | .ref x :: r => k (pc + 3) lv r h | .null :: r => k (xtg pc off) lv r h | _ => False)) := rfl
theorem xe_67 {G : xG} {l : Launch} {d : Nat} {M : xM} {pc : Nat} {lv : xL} {st : List Value} {h : xH} {Q : xQ} {k : Nat → xL → List Value → xH → Prop} {n : Nat} {off} : xstp G l d M pc lv st h Q k (.ifnonnull off) n = (n = 3 ∧ xto pc off = true ∧ (match st with | .ref x :: r => k (xtg pc off) lv r h | .null :: r => k (pc + 3) lv r h | _ => False)) := rfl
theorem xe_68 {G : xG} {l : Launch} {d : Nat} {M : xM} {pc : Nat} {lv : xL} {st : List Value} {h : xH} {Q : xQ} {k : Nat → xL → List Value → xH → Prop} {n : Nat} {idx} : xstp G l d M pc lv st h Q k (.ldc2_w idx) n = (n = 3 ∧ (match xlT M idx with | some v => k (pc + 3) lv (.long v :: st) h | none => False)) := rfl
theorem xe_69 {G : xG} {l : Launch} {d : Nat} {M : xM} {pc : Nat} {lv : xL} {st : List Value} {h : xH} {Q : xQ} {k : Nat → xL → List Value → xH → Prop} {n : Nat} {dflt} {ps} : xstp G l d M pc lv st h Q k (.lookupswitch dflt ps) n = ((ps.toList.zip (ps.toList.drop 1)).all (fun (a, next) => a.1 < next.1) = true ∧ (match st with | .int x :: r => xto pc (Op.lookupswitch.offset ps.toList dflt x.toInt) = true ∧ k (xtg pc (Op.lookupswitch.offset ps.toList dflt x.toInt)) lv r h | _ => False)) := rfl
theorem xe_70 {G : xG} {l : Launch} {d : Nat} {M : xM} {pc : Nat} {lv : xL} {st : List Value} {h : xH} {Q : xQ} {k : Nat → xL → List Value → xH → Prop} {n : Nat} {idx} : xstp G l d M pc lv st h Q k (.getfield idx) n = (n = 3 ∧ (match st with | .ref a :: r => (match xfT M idx with | some (ci, k0) => (match h[a]? with | some (.inr (cj, fs)) => cj = ci ∧ (match fs[k0]? with | some v => k (pc + 3) lv (v :: r) h | none => False) | _ => False) | none => False) | _ => False)) := rfl
theorem xe_71 {G : xG} {l : Launch} {d : Nat} {M : xM} {pc : Nat} {lv : xL} {st : List Value} {h : xH} {Q : xQ} {k : Nat → xL → List Value → xH → Prop} {n : Nat} {idx} : xstp G l d M pc lv st h Q k (.putfield idx) n = (n = 3 ∧ (match st with | v :: .ref a :: r => (match xpT M idx with | some (ci, k0, ty, fin) => (match h[a]? with | some (.inr (cj, fs)) => cj = ci ∧ (fin = true → M.2.1.name = "<init>") ∧ k0 < fs.length ∧ narrow ty v = v ∧ fits ty v = true ∧ k (pc + 3) lv r (h.set a (.inr (cj, fs.set k0 v))) | _ => False) | none => False) | _ => False)) := rfl
theorem xe_72 {G : xG} {l : Launch} {d : Nat} {M : xM} {pc : Nat} {lv : xL} {st : List Value} {h : xH} {Q : xQ} {k : Nat → xL → List Value → xH → Prop} {n : Nat}  : xstp G l d M pc lv st h Q k (.iaload) n = (n = 1 ∧ (match st with | .int i :: .ref a :: r => (match h[a]? with | some (.inl (t, m, .inl f)) => t = 0 ∧ vp_in i m ∧ k (pc + 1) lv (.int (f i.toNatClampNeg) :: r) h | _ => False) | .int i :: .retAddr j :: r => j = 0 ∧ vp_in i G.2.2.2.2.1 ∧ k (pc + 1) lv (.int (G.2.2.2.2.2 i.toNatClampNeg) :: r) h | _ => False)) := rfl
theorem xe_73 {G : xG} {l : Launch} {d : Nat} {M : xM} {pc : Nat} {lv : xL} {st : List Value} {h : xH} {Q : xQ} {k : Nat → xL → List Value → xH → Prop} {n : Nat}  : xstp G l d M pc lv st h Q k (.laload) n = (n = 1 ∧ (match st with | .int i :: .ref a :: r => (match h[a]? with | some (.inl (t, m, .inr (.inl f))) => t = 1 ∧ vp_in i m ∧ k (pc + 1) lv (.long (f i.toNatClampNeg) :: r) h | _ => False) | _ => False)) := rfl
theorem xe_74 {G : xG} {l : Launch} {d : Nat} {M : xM} {pc : Nat} {lv : xL} {st : List Value} {h : xH} {Q : xQ} {k : Nat → xL → List Value → xH → Prop} {n : Nat}  : xstp G l d M pc lv st h Q k (.caload) n = (n = 1 ∧ (match st with | .int i :: .ref a :: r => (match h[a]? with | some (.inl (t, m, .inl f)) => t = 2 ∧ vp_in i m ∧ k (pc + 1) lv (.int (f i.toNatClampNeg) :: r) h | _ => False) | _ => False)) := rfl
theorem xe_75 {G : xG} {l : Launch} {d : Nat} {M : xM} {pc : Nat} {lv : xL} {st : List Value} {h : xH} {Q : xQ} {k : Nat → xL → List Value → xH → Prop} {n : Nat}  : xstp G l d M pc lv st h Q k (.baload) n = (n = 1 ∧ (match st with | .int i :: .ref a :: r => (match h[a]? with | some (.inl (t, m, .inl f)) => t = 3 ∧ vp_in i m ∧ k (pc + 1) lv (.int (f i.toNatClampNeg) :: r) h | _ => False) | _ => False)) := rfl
theorem xe_76 {G : xG} {l : Launch} {d : Nat} {M : xM} {pc : Nat} {lv : xL} {st : List Value} {h : xH} {Q : xQ} {k : Nat → xL → List Value → xH → Prop} {n : Nat}  : xstp G l d M pc lv st h Q k (.aaload) n = (n = 1 ∧ (match st with | .int i :: .ref a :: r => (match h[a]? with | some (.inl (t, m, .inr (.inr (.inr (.inr f))))) => (t = 4 ∨ t = 5) ∧ vp_in i m ∧ k (pc + 1) lv (va_rf (f i.toNatClampNeg) :: r) h | _ => False) | _ => False)) := rfl
theorem xe_77 {G : xG} {l : Launch} {d : Nat} {M : xM} {pc : Nat} {lv : xL} {st : List Value} {h : xH} {Q : xQ} {k : Nat → xL → List Value → xH → Prop} {n : Nat}  : xstp G l d M pc lv st h Q k (.iastore) n = (n = 1 ∧ (match st with | .int x :: .int i :: .ref a :: r => (match h[a]? with | some (.inl (t, m, .inl f)) => t = 0 ∧ vp_in i m ∧ k (pc + 1) lv r (h.set a (.inl (0, m, .inl (upd f i.toNatClampNeg x)))) | _ => False) | _ => False)) := rfl
theorem xe_78 {G : xG} {l : Launch} {d : Nat} {M : xM} {pc : Nat} {lv : xL} {st : List Value} {h : xH} {Q : xQ} {k : Nat → xL → List Value → xH → Prop} {n : Nat}  : xstp G l d M pc lv st h Q k (.castore) n = (n = 1 ∧ (match st with | .int x :: .int i :: .ref a :: r => (match h[a]? with | some (.inl (t, m, .inl f)) => t = 2 ∧ vp_in i m ∧ k (pc + 1) lv r (h.set a (.inl (2, m, .inl (upd f i.toNatClampNeg (vp_nar .char x))))) | _ => False) | _ => False)) := rfl
theorem xe_79 {G : xG} {l : Launch} {d : Nat} {M : xM} {pc : Nat} {lv : xL} {st : List Value} {h : xH} {Q : xQ} {k : Nat → xL → List Value → xH → Prop} {n : Nat}  : xstp G l d M pc lv st h Q k (.bastore) n = (n = 1 ∧ (match st with | .int x :: .int i :: .ref a :: r => (match h[a]? with | some (.inl (t, m, .inl f)) => t = 3 ∧ vp_in i m ∧ k (pc + 1) lv r (h.set a (.inl (3, m, .inl (upd f i.toNatClampNeg (vp_nar .boolean x))))) | _ => False) | _ => False)) := rfl
theorem xe_80 {G : xG} {l : Launch} {d : Nat} {M : xM} {pc : Nat} {lv : xL} {st : List Value} {h : xH} {Q : xQ} {k : Nat → xL → List Value → xH → Prop} {n : Nat}  : xstp G l d M pc lv st h Q k (.lastore) n = (n = 1 ∧ (match st with | .long x :: .int i :: .ref a :: r => (match h[a]? with | some (.inl (t, m, .inr (.inl f))) => t = 1 ∧ vp_in i m ∧ k (pc + 1) lv r (h.set a (.inl (1, m, .inr (.inl (vp_updL f i.toNatClampNeg x))))) | _ => False) | _ => False)) := rfl
theorem xe_81 {G : xG} {l : Launch} {d : Nat} {M : xM} {pc : Nat} {lv : xL} {st : List Value} {h : xH} {Q : xQ} {k : Nat → xL → List Value → xH → Prop} {n : Nat}  : xstp G l d M pc lv st h Q k (.arraylength) n = (n = 1 ∧ (match st with | .ref a :: r => (match h[a]? with | some (.inl (t, x)) => t < 6 ∧ k (pc + 1) lv (.int (Int32.ofNat x.1) :: r) h | _ => False) | .retAddr j :: r => j = 0 ∧ k (pc + 1) lv (.int (Int32.ofNat G.2.2.2.2.1) :: r) h | _ => False)) := rfl
theorem xe_82 {G : xG} {l : Launch} {d : Nat} {M : xM} {pc : Nat} {lv : xL} {st : List Value} {h : xH} {Q : xQ} {k : Nat → xL → List Value → xH → Prop} {n : Nat}  : xstp G l d M pc lv st h Q k (.ireturn) n = (n = 1 ∧ (match st with | [.int v] => ∃ ty, M.2.2.2.1 = some ty ∧ narrow ty (.int v) = .int v ∧ Q (.inl (some (.int v))) h | _ => False)) := rfl
theorem xe_83 {G : xG} {l : Launch} {d : Nat} {M : xM} {pc : Nat} {lv : xL} {st : List Value} {h : xH} {Q : xQ} {k : Nat → xL → List Value → xH → Prop} {n : Nat}  : xstp G l d M pc lv st h Q k (.lreturn) n = (n = 1 ∧ (match st with | [.long v] => M.2.2.2.1 = some .long ∧ Q (.inl (some (.long v))) h | _ => False)) := rfl
theorem xe_84 {G : xG} {l : Launch} {d : Nat} {M : xM} {pc : Nat} {lv : xL} {st : List Value} {h : xH} {Q : xQ} {k : Nat → xL → List Value → xH → Prop} {n : Nat}  : xstp G l d M pc lv st h Q k (.return_) n = (n = 1 ∧ (match st with | [] => M.2.2.2.1 = none ∧ Q (.inl none) h | _ => False)) := rfl
theorem xe_85 {G : xG} {l : Launch} {d : Nat} {M : xM} {pc : Nat} {lv : xL} {st : List Value} {h : xH} {Q : xQ} {k : Nat → xL → List Value → xH → Prop} {n : Nat} {idx} : xstp G l d M pc lv st h Q k (.invokestatic idx) n = (n = 3 ∧ (match xsT M idx with | some (M1, np) => 1 ≤ d ∧ np ≤ st.length ∧ ((st.drop np).map fun v => v.category).sum ≤ 8 ∧ Mt l (d - 1) M1 ((st.take np).reverse) h 0 0 (xRt fun v h' => k (pc + 3) lv (v.toList ++ st.drop np) h') | none => False)) := rfl
theorem xe_86 {G : xG} {l : Launch} {d : Nat} {M : xM} {pc : Nat} {lv : xL} {st : List Value} {h : xH} {Q : xQ} {k : Nat → xL → List Value → xH → Prop} {n : Nat} {idx} : xstp G l d M pc lv st h Q k (.invokevirtual idx) n = (n = 3 ∧ (match xvT M idx with | some (M1, np, ci) => (match st.drop np with | .ref a :: r => (match h[a]? with | some (.inr (cj, fs)) => cj = ci ∧ 1 ≤ d ∧ np ≤ st.length ∧ (r.map fun v => v.category).sum ≤ 8 ∧ Mt l (d - 1) M1 (.ref a :: (st.take np).reverse) h 0 0 (xRt fun v h' => k (pc + 3) lv (v.toList ++ r) h') | _ => False) | _ => False) | none => False)) := rfl
set_option maxHeartbeats 4000000 in
theorem xstp_ok {k : Nat → xL → List Value → xH → Prop} {i : Instr} {n : Nat} (hd : decode M.1 pc = .ok (i, n)) (hs : xstp G l d M pc lv st h Q k i n) (hk : ∀ pc' lv' st' h', k pc' lv' st' h' → Rn G l d M pc' lv' st' h' kc ks Q) : Rn G l d M pc lv st h kc ks Q := by
  unfold xstp at hs
  split at hs
  · obtain ⟨rfl, hs⟩ := hs
    exact xk_iconst hd (hk _ _ _ _ hs)
  · obtain ⟨rfl, hs⟩ := hs
    exact xk_bipush hd (hk _ _ _ _ hs)
  · obtain ⟨rfl, hs⟩ := hs
    exact xk_sipush hd (hk _ _ _ _ hs)
  · obtain ⟨rfl, hs⟩ := hs
    exact xk_lconst hd (hk _ _ _ _ hs)
  · obtain ⟨rfl, hs⟩ := hs
    exact xk_null hd (hk _ _ _ _ hs)
  · obtain ⟨rfl, hs⟩ := hs
    split at hs
    · exact xk_iadd hd (hk _ _ _ _ hs)
    · exact hs.elim
  · obtain ⟨rfl, hs⟩ := hs
    split at hs
    · exact xk_isub hd (hk _ _ _ _ hs)
    · exact hs.elim
  · obtain ⟨rfl, hs⟩ := hs
    split at hs
    · exact xk_imul hd (hk _ _ _ _ hs)
    · exact hs.elim
  · obtain ⟨rfl, hs⟩ := hs
    split at hs
    · exact xk_iand hd (hk _ _ _ _ hs)
    · exact hs.elim
  · obtain ⟨rfl, hs⟩ := hs
    split at hs
    · exact xk_ior hd (hk _ _ _ _ hs)
    · exact hs.elim
  · obtain ⟨rfl, hs⟩ := hs
    split at hs
    · exact xk_ixor hd (hk _ _ _ _ hs)
    · exact hs.elim
  · obtain ⟨rfl, hs⟩ := hs
    split at hs
    · exact xk_ishl hd (hk _ _ _ _ hs)
    · exact hs.elim
  · obtain ⟨rfl, hs⟩ := hs
    split at hs
    · exact xk_ishr hd (hk _ _ _ _ hs)
    · exact hs.elim
  · obtain ⟨rfl, hs⟩ := hs
    split at hs
    · exact xk_ladd hd (hk _ _ _ _ hs)
    · exact hs.elim
  · obtain ⟨rfl, hs⟩ := hs
    split at hs
    · exact xk_lsub hd (hk _ _ _ _ hs)
    · exact hs.elim
  · obtain ⟨rfl, hs⟩ := hs
    split at hs
    · exact xk_lmul hd (hk _ _ _ _ hs)
    · exact hs.elim
  · obtain ⟨rfl, hs⟩ := hs
    split at hs
    · exact xk_land hd (hk _ _ _ _ hs)
    · exact hs.elim
  · obtain ⟨rfl, hs⟩ := hs
    split at hs
    · exact xk_lor hd (hk _ _ _ _ hs)
    · exact hs.elim
  · obtain ⟨rfl, hs⟩ := hs
    split at hs
    · exact xk_lxor hd (hk _ _ _ _ hs)
    · exact hs.elim
  · obtain ⟨rfl, hs⟩ := hs
    split at hs
    · exact xk_idiv hd hs.1 (hk _ _ _ _ hs.2)
    · exact hs.elim
  · obtain ⟨rfl, hs⟩ := hs
    split at hs
    · exact xk_irem hd hs.1 (hk _ _ _ _ hs.2)
    · exact hs.elim
  · obtain ⟨rfl, hs⟩ := hs
    split at hs
    · exact xk_ldiv hd hs.1 (hk _ _ _ _ hs.2)
    · exact hs.elim
  · obtain ⟨rfl, hs⟩ := hs
    split at hs
    · exact xk_lrem hd hs.1 (hk _ _ _ _ hs.2)
    · exact hs.elim
  · obtain ⟨rfl, hs⟩ := hs
    split at hs
    · exact xk_ineg hd (hk _ _ _ _ hs)
    · exact hs.elim
  · obtain ⟨rfl, hs⟩ := hs
    split at hs
    · exact xk_lneg hd (hk _ _ _ _ hs)
    · exact hs.elim
  · obtain ⟨rfl, hs⟩ := hs
    split at hs
    · exact xk_i2l hd (hk _ _ _ _ hs)
    · exact hs.elim
  · obtain ⟨rfl, hs⟩ := hs
    split at hs
    · exact xk_l2i hd (hk _ _ _ _ hs)
    · exact hs.elim
  · obtain ⟨rfl, hs⟩ := hs
    split at hs
    · exact xk_i2c hd (hk _ _ _ _ hs)
    · exact hs.elim
  · obtain ⟨rfl, hs⟩ := hs
    split at hs
    · exact xk_lushr hd (hk _ _ _ _ hs)
    · exact hs.elim
  · obtain ⟨rfl, hs⟩ := hs
    split at hs
    · exact xk_lshl hd (hk _ _ _ _ hs)
    · exact hs.elim
  · obtain ⟨rfl, hs⟩ := hs
    split at hs
    · exact xk_lshr hd (hk _ _ _ _ hs)
    · exact hs.elim
  · obtain ⟨rfl, hs⟩ := hs
    split at hs
    · exact xk_lcmp hd (hk _ _ _ _ hs)
    · exact hs.elim
  · obtain ⟨rfl, hs⟩ := hs
    split at hs
    · exact xk_dup hd hs.1 (hk _ _ _ _ hs.2)
    · exact hs.elim
  · obtain ⟨rfl, hs⟩ := hs
    split at hs
    · exact xk_pop hd hs.1 (hk _ _ _ _ hs.2)
    · exact hs.elim
  · obtain ⟨rfl, hs⟩ := hs
    split at hs
    · exact xk_dup_x1 hd hs.1 hs.2.1 (hk _ _ _ _ hs.2.2)
    · exact hs.elim
  · obtain ⟨rfl, hs⟩ := hs
    split at hs
    · exact xk_dup_x2 hd hs.1 hs.2.1 hs.2.2.1 (hk _ _ _ _ hs.2.2.2)
    · exact hs.elim
  · obtain ⟨rfl, hs⟩ := hs
    split at hs
    · exact xk_dup2_2 hd rfl (hk _ _ _ _ hs)
    · exact xk_dup2_11 hd hs.1 hs.2.1 (hk _ _ _ _ hs.2.2)
    · exact hs.elim
  · obtain ⟨rfl, hs⟩ := hs
    split at hs
    · exact xk_dup2_x1_2 hd rfl hs.1 (hk _ _ _ _ hs.2)
    · exact hs.elim
  · obtain ⟨rfl, hs⟩ := hs
    split at hs
    · exact xk_dup2_x2_2 hd rfl hs.1 hs.2.1 (hk _ _ _ _ hs.2.2)
    · exact hs.elim
  · obtain ⟨rfl, hs⟩ := hs
    split at hs
    · exact xk_pop2_2 hd rfl (hk _ _ _ _ hs)
    · exact hs.elim
  · obtain ⟨rfl, hs⟩ := hs
    split at hs
    · rename_i hx
      exact xk_iload_n hd hx (hk _ _ _ _ hs)
    · exact hs.elim
  · obtain ⟨rfl, hs⟩ := hs
    split at hs
    · rename_i hx
      exact xk_iload hd hx (hk _ _ _ _ hs)
    · exact hs.elim
  · obtain ⟨rfl, hs⟩ := hs
    split at hs
    · rename_i hx
      exact xk_lload_n hd hx (hk _ _ _ _ hs)
    · exact hs.elim
  · obtain ⟨rfl, hs⟩ := hs
    split at hs
    · rename_i hx
      exact xk_lload hd hx (hk _ _ _ _ hs)
    · exact hs.elim
  · obtain ⟨rfl, hs⟩ := hs
    split at hs
    · rename_i hx
      exact xk_aload_n hd hx (hk _ _ _ _ hs)
    · rename_i hx
      exact xk_aload_nR hd hx (hk _ _ _ _ hs)
    · rename_i hx
      exact xk_aload_nN hd hx (hk _ _ _ _ hs)
    · exact hs.elim
  · obtain ⟨rfl, hs⟩ := hs
    split at hs
    · rename_i hx
      exact xk_aload hd hx (hk _ _ _ _ hs)
    · rename_i hx
      exact xk_aloadR hd hx (hk _ _ _ _ hs)
    · rename_i hx
      exact xk_aloadN hd hx (hk _ _ _ _ hs)
    · exact hs.elim
  · obtain ⟨rfl, hn, hs⟩ := hs
    split at hs
    · exact xk_istore_n hd hn (hk _ _ _ _ hs)
    · exact hs.elim
  · obtain ⟨rfl, hn, hs⟩ := hs
    split at hs
    · exact xk_istore hd hn (hk _ _ _ _ hs)
    · exact hs.elim
  · obtain ⟨rfl, hn, hs⟩ := hs
    split at hs
    · exact xk_lstore_n hd hn (hk _ _ _ _ hs)
    · exact hs.elim
  · obtain ⟨rfl, hn, hs⟩ := hs
    split at hs
    · exact xk_lstore hd hn (hk _ _ _ _ hs)
    · exact hs.elim
  · obtain ⟨rfl, hn, hs⟩ := hs
    split at hs
    · exact xk_astore_n hd hn (hk _ _ _ _ hs)
    · exact xk_astore_nN hd hn (hk _ _ _ _ hs)
    · exact hs.elim
  · obtain ⟨rfl, hn, hs⟩ := hs
    split at hs
    · exact xk_astore hd hn (hk _ _ _ _ hs)
    · exact xk_astoreN hd hn (hk _ _ _ _ hs)
    · exact hs.elim
  · obtain ⟨rfl, hn, hs⟩ := hs
    split at hs
    · rename_i hx
      exact xk_iinc hd hx hn (hk _ _ _ _ hs)
    · exact hs.elim
  · obtain ⟨rfl, ht, hs⟩ := hs
    split at hs
    · exact xk_if_eq _ hd (xto_eq ht) ⟨fun z => hk _ _ _ _ (hs.1 z), fun z => hk _ _ _ _ (hs.2 z)⟩
    · exact hs.elim
  · obtain ⟨rfl, ht, hs⟩ := hs
    split at hs
    · exact xk_icmp_eq _ hd (xto_eq ht) ⟨fun z => hk _ _ _ _ (hs.1 z), fun z => hk _ _ _ _ (hs.2 z)⟩
    · exact hs.elim
  · obtain ⟨rfl, ht, hs⟩ := hs
    split at hs
    · exact xk_if_ne _ hd (xto_eq ht) ⟨fun z => hk _ _ _ _ (hs.1 z), fun z => hk _ _ _ _ (hs.2 z)⟩
    · exact hs.elim
  · obtain ⟨rfl, ht, hs⟩ := hs
    split at hs
    · exact xk_icmp_ne _ hd (xto_eq ht) ⟨fun z => hk _ _ _ _ (hs.1 z), fun z => hk _ _ _ _ (hs.2 z)⟩
    · exact hs.elim
  · obtain ⟨rfl, ht, hs⟩ := hs
    split at hs
    · exact xk_if_lt _ hd (xto_eq ht) ⟨fun z => hk _ _ _ _ (hs.1 z), fun z => hk _ _ _ _ (hs.2 z)⟩
    · exact hs.elim
  · obtain ⟨rfl, ht, hs⟩ := hs
    split at hs
    · exact xk_icmp_lt _ hd (xto_eq ht) ⟨fun z => hk _ _ _ _ (hs.1 z), fun z => hk _ _ _ _ (hs.2 z)⟩
    · exact hs.elim
  · obtain ⟨rfl, ht, hs⟩ := hs
    split at hs
    · exact xk_if_ge _ hd (xto_eq ht) ⟨fun z => hk _ _ _ _ (hs.1 z), fun z => hk _ _ _ _ (hs.2 z)⟩
    · exact hs.elim
  · obtain ⟨rfl, ht, hs⟩ := hs
    split at hs
    · exact xk_icmp_ge _ hd (xto_eq ht) ⟨fun z => hk _ _ _ _ (hs.1 z), fun z => hk _ _ _ _ (hs.2 z)⟩
    · exact hs.elim
  · obtain ⟨rfl, ht, hs⟩ := hs
    split at hs
    · exact xk_if_gt _ hd (xto_eq ht) ⟨fun z => hk _ _ _ _ (hs.1 z), fun z => hk _ _ _ _ (hs.2 z)⟩
    · exact hs.elim
  · obtain ⟨rfl, ht, hs⟩ := hs
    split at hs
    · exact xk_icmp_gt _ hd (xto_eq ht) ⟨fun z => hk _ _ _ _ (hs.1 z), fun z => hk _ _ _ _ (hs.2 z)⟩
    · exact hs.elim
  · obtain ⟨rfl, ht, hs⟩ := hs
    split at hs
    · exact xk_if_le _ hd (xto_eq ht) ⟨fun z => hk _ _ _ _ (hs.1 z), fun z => hk _ _ _ _ (hs.2 z)⟩
    · exact hs.elim
  · obtain ⟨rfl, ht, hs⟩ := hs
    split at hs
    · exact xk_icmp_le _ hd (xto_eq ht) ⟨fun z => hk _ _ _ _ (hs.1 z), fun z => hk _ _ _ _ (hs.2 z)⟩
    · exact hs.elim
  · obtain ⟨rfl, ht, hs⟩ := hs
    exact xk_goto _ hd (xto_eq ht) (hk _ _ _ _ hs)
  · obtain ⟨rfl, ht, hs⟩ := hs
    split at hs
    · exact xk_ifnull hd (hk _ _ _ _ hs)
    · exact xk_ifnullN _ hd (xto_eq ht) (hk _ _ _ _ hs)
    · exact hs.elim
  · obtain ⟨rfl, ht, hs⟩ := hs
    split at hs
    · exact xk_ifnonnull _ hd (xto_eq ht) (hk _ _ _ _ hs)
    · exact xk_ifnonnullN hd (hk _ _ _ _ hs)
    · exact hs.elim
  · obtain ⟨rfl, hs⟩ := hs
    split at hs
    · rename_i hF
      exact xk_ldc2 _ hd (xlT_ok hF) (hk _ _ _ _ hs)
    · exact hs.elim
  · obtain ⟨hp, hs⟩ := hs
    split at hs
    · exact xk_lookup _ hd hp rfl (xto_eq hs.1) (hk _ _ _ _ hs.2)
    · exact hs.elim
  · obtain ⟨rfl, hs⟩ := hs
    split at hs
    · split at hs
      · rename_i hF
        split at hs
        · rename_i hh
          obtain ⟨rfl, hs⟩ := hs
          split at hs
          · rename_i hv
            exact xk_get hd (xfT_ok hF) hh hv (hk _ _ _ _ hs)
          · exact hs.elim
        · exact hs.elim
      · exact hs.elim
    · exact hs.elim
  · obtain ⟨rfl, hs⟩ := hs
    split at hs
    · split at hs
      · rename_i hF
        split at hs
        · rename_i hh
          obtain ⟨rfl, g1, g2, g3, g4, hs⟩ := hs
          exact xk_put hd (xpT_ok hF) g1 hh g2 g3 g4 (hk _ _ _ _ hs)
        · exact hs.elim
      · exact hs.elim
    · exact hs.elim
  · obtain ⟨rfl, hs⟩ := hs
    split at hs
    · split at hs
      · rename_i hh
        obtain ⟨rfl, g1, hs⟩ := hs
        exact xk_iald hd hh g1 (hk _ _ _ _ hs)
      · exact hs.elim
    · obtain ⟨rfl, g1, hs⟩ := hs
      exact xk_sld hd g1 (hk _ _ _ _ hs)
    · exact hs.elim
  · obtain ⟨rfl, hs⟩ := hs
    split at hs
    · split at hs
      · rename_i hh
        obtain ⟨rfl, g1, hs⟩ := hs
        exact xk_lald hd hh g1 (hk _ _ _ _ hs)
      · exact hs.elim
    · exact hs.elim
  · obtain ⟨rfl, hs⟩ := hs
    split at hs
    · split at hs
      · rename_i hh
        obtain ⟨rfl, g1, hs⟩ := hs
        exact xk_cald hd hh g1 (hk _ _ _ _ hs)
      · exact hs.elim
    · exact hs.elim
  · obtain ⟨rfl, hs⟩ := hs
    split at hs
    · split at hs
      · rename_i hh
        obtain ⟨rfl, g1, hs⟩ := hs
        exact xk_zald hd hh g1 (hk _ _ _ _ hs)
      · exact hs.elim
    · exact hs.elim
  · obtain ⟨rfl, hs⟩ := hs
    split at hs
    · split at hs
      · rename_i hh
        exact xk_aald hd hh hs.1 hs.2.1 (hk _ _ _ _ hs.2.2)
      · exact hs.elim
    · exact hs.elim
  · obtain ⟨rfl, hs⟩ := hs
    split at hs
    · split at hs
      · rename_i hh
        obtain ⟨rfl, g1, hs⟩ := hs
        exact xk_iast hd hh g1 (hk _ _ _ _ hs)
      · exact hs.elim
    · exact hs.elim
  · obtain ⟨rfl, hs⟩ := hs
    split at hs
    · split at hs
      · rename_i hh
        obtain ⟨rfl, g1, hs⟩ := hs
        exact xk_cast hd hh g1 (hk _ _ _ _ hs)
      · exact hs.elim
    · exact hs.elim
  · obtain ⟨rfl, hs⟩ := hs
    split at hs
    · split at hs
      · rename_i hh
        obtain ⟨rfl, g1, hs⟩ := hs
        exact xk_zast hd hh g1 (hk _ _ _ _ hs)
      · exact hs.elim
    · exact hs.elim
  · obtain ⟨rfl, hs⟩ := hs
    split at hs
    · split at hs
      · rename_i hh
        obtain ⟨rfl, g1, hs⟩ := hs
        exact xk_last hd hh g1 (hk _ _ _ _ hs)
      · exact hs.elim
    · exact hs.elim
  · obtain ⟨rfl, hs⟩ := hs
    split at hs
    · split at hs
      · rename_i hh
        exact xk_alen hd hh hs.1 (hk _ _ _ _ hs.2)
      · exact hs.elim
    · obtain ⟨rfl, hs⟩ := hs
      exact xk_slen hd (hk _ _ _ _ hs)
    · exact hs.elim
  · obtain ⟨rfl, hs⟩ := hs
    split at hs
    · obtain ⟨ty, g1, g2, g3⟩ := hs
      exact xk_iret hd g1 g2 g3
    · exact hs.elim
  · obtain ⟨rfl, hs⟩ := hs
    split at hs
    · exact xk_lret hd hs.1 hs.2
    · exact hs.elim
  · obtain ⟨rfl, hs⟩ := hs
    split at hs
    · exact xk_vret hd hs.1 hs.2
    · exact hs.elim
  · obtain ⟨rfl, hs⟩ := hs
    split at hs
    · rename_i hF
      obtain ⟨g1, g2, g3, g4⟩ := hs
      obtain ⟨f1, f2⟩ := xsT_ok hF
      exact xk_callS (kc1 := 0) (ks1 := 0) _ hd (by rw [List.length_reverse, List.length_take, Nat.min_eq_left g2]; exact f1) f2 g4 (by omega) (by rw [List.reverse_reverse, List.take_append_drop]) g3 (fun v h' q => hk _ _ _ _ q)
    · exact hs.elim
  · obtain ⟨rfl, hs⟩ := hs
    split at hs
    · rename_i hF
      split at hs
      · rename_i hdr
        split at hs
        · rename_i hh
          obtain ⟨rfl, g1, g2, g3, g4⟩ := hs
          obtain ⟨f1, f2, f3, q, f4, f5⟩ := xvT_ok hF
          exact xk_callV (kc1 := 0) (ks1 := 0) _ hd (by rw [List.length_reverse, List.length_take, Nat.min_eq_left g2]; exact f1) f2 f3 hh f4 f5 g4 (by omega) (by rw [List.reverse_reverse, ← hdr, List.take_append_drop]) g3 (fun v h' q => hk _ _ _ _ q)
        · exact hs.elim
      · exact hs.elim
    · exact hs.elim
  · exact hs.elim
def xrun (G : xG) (l : Launch) (d : Nat) (M : xM) (kc ks : Nat) (Q : xQ) (stop : List Nat) : Nat → Nat → xL → List Value → xH → Prop
  | 0, pc, lv, st, h => Rn G l d M pc lv st h kc ks Q
  | n + 1, pc, lv, st, h => match decode M.1 pc with
    | .ok q => xstp G l d M pc lv st h Q (fun pc' lv' st' h' => if stop.contains pc' then Rn G l d M pc' lv' st' h' kc ks Q else xrun G l d M kc ks Q stop n pc' lv' st' h') q.1 q.2
    | .error _ => False
theorem xrun_ok (stop : List Nat) : ∀ (n pc : Nat) (lv : xL) (st : List Value) (h : xH), xrun G l d M kc ks Q stop n pc lv st h → Rn G l d M pc lv st h kc ks Q
  | 0, _, _, _, _, hr => hr
  | n + 1, pc, lv, st, h, hr => by
    unfold xrun at hr
    split at hr
    · rename_i q hd
      refine xstp_ok (i := q.1) (n := q.2) hd hr (fun pc' lv' st' h' hk => ?_)
      split at hk
      · exact hk
      · exact xrun_ok stop n pc' lv' st' h' hk
    · exact hr.elim
end

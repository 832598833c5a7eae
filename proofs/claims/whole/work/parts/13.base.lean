/-! a small logic over the kit's rows. Memory: sg_M, numbers of all int fields and all int (boolean) arrays. A world: E = (launch, tables, array classes, picture of a memory). -/
abbrev sg_E : Type := Launch × va_G × List (ClassId × FieldType) × (sg_M → va_W)
def sg_tbl : List Cond := lw_tbl.filter goodWord
theorem sg_mem {w : Cond} {i : Nat} (h : lw_tbl[i]? = some w) (g : goodWord w = true) : w ∈ sg_tbl := List.mem_filter.mpr ⟨List.mem_of_getElem? h, g⟩
def sg_ws (y : MethodName) (cc : ByteArray) (nL : Nat) (ret : Option FieldType) : List Cond := Cond.code y cc nL ret :: sg_tbl
def sg_rm (d : Nat) : Room := { frames := d, cells := 0, slots := 0, locals := 64 * d }
def sg_B (E : sg_E) (A : Nat → Prop) (z : sg_M) (t : State) : Prop := va_P E.2.1 vwCl (E.2.2.2 z) t.heap ∧ va_K E.2.1 vwCl E.2.2.1 t ∧ va_D A (E.2.2.2 z)
def sg_Q (Q : Option Value → sg_M → Prop) (B : sg_M → State → Prop) (A : Nat → Prop) : Array Value → State → Outcome → State → Prop := fun _ st oc t => (∃ (v : Option Value) (z : sg_M), oc = .returned v ∧ Q v z ∧ B z t) ∧ va_F A st t
def sg_is (v0 : Option Value) (z0 : sg_M) : Option Value → sg_M → Prop := fun v z => v = v0 ∧ z = z0
/-- a method's contract: from any state that holds the picture of z it returns, with Q -/
def sg_Met (E : sg_E) (y : MethodName) (cc : ByteArray) (nL : Nat) (ret : Option FieldType) (d : Nat) (av : List Value) (z : sg_M) (Q : Option Value → sg_M → Prop) : Prop :=
  ∀ sz : Nat, Met E.1 y (sg_ws y cc nL ret) (sg_rm d) (va_Pc av (fun U => U.heap.size = sz ∧ va_P E.2.1 vwCl (E.2.2.2 z) U.heap ∧ va_K E.2.1 vwCl E.2.2.1 U ∧ va_D (fun _ => True) (E.2.2.2 z))) (sg_Q Q (sg_B E (va_A (E.2.2.2 z) sz)) (va_A (E.2.2.2 z) sz)) 0 0 (va_A (E.2.2.2 z) sz)
def sg_C (E : sg_E) (y : MethodName) (cc : ByteArray) (nL : Nat) (ret : Option FieldType) (p : Program) (s : State) (m : MethodId) (args : Array Value) (meth : Method) (c : Code) (A : Nat → Prop) : Prop :=
  p.tables.exec = Jvm.exec ∧ c.code = cc ∧ s.vm.findClass y.cls = some m.cls ∧ (∀ w ∈ sg_tbl, w.before args s = true) ∧ va_K E.2.1 vwCl E.2.2.1 s ∧ c.maxLocals = nL ∧ meth.sig.returnType = ret ∧ meth.locks = false ∧ ∀ q : Nat, s.heap.size ≤ q → A q
/-- at pc, with these locals, this stack, the picture of z: the method goes on and returns, with Q -/
def sg_G (E : sg_E) (y : MethodName) (cc : ByteArray) (nL : Nat) (ret : Option FieldType) (d : Nat) (pc : Nat) (lv : List (Nat × Value)) (st : List Value) (z : sg_M) (Q : Option Value → sg_M → Prop) : Prop :=
  ∀ (p : Program) (e : Env) (s : State) (m : MethodId) (args : Array Value) (below : List Frame) (meth : Method) (c : Code) (A : Nat → Prop) (H : Heap) (locs : List Loc) (ls : Array Slot), sg_C E y cc nL ret p s m args meth c A → lv_has ls nL lv → va_P E.2.1 vwCl (E.2.2.2 z) H → va_D A (E.2.2.2 z) → va_S A s.heap H locs → W p E.1 e (sg_rm d) s m args below meth c H locs 0 0 (MQ below (sg_Q Q (sg_B E A) A) args s 0 0 A) (F0 m pc ls st)
theorem sg_good : sg_tbl.all goodWord = true := List.all_eq_true.mpr (fun _ h => (List.mem_filter.mp h).2)
theorem sg_goodIn {y y' : MethodName} {cc cc' : ByteArray} {nL nL' : Nat} {ret ret' : Option FieldType} (h : Cond.code y' cc' nL' ret' ∈ sg_tbl) : GoodIn (sg_ws y cc nL ret) (sg_ws y' cc' nL' ret') := by
  intro w hw
  rcases List.mem_cons.mp hw with rfl | hw
  · exact ⟨List.mem_cons_of_mem _ h, good_of_word (List.all_eq_true.mp sg_good _ h)⟩
  · exact ⟨List.mem_cons_of_mem _ hw, good_of_word (List.all_eq_true.mp sg_good _ hw)⟩
section SG
variable {E : sg_E} {y : MethodName} {cc : ByteArray} {nL : Nat} {ret : Option FieldType} {d pc pn : Nat} {lv : List (Nat × Value)} {st : List Value} {z : sg_M} {Q : Option Value → sg_M → Prop}
theorem sg_enter {av : List Value} {lv0 : List (Nat × Value)} (hy : plainName y.cls = true) (hlen : (lg_sl av).length ≤ nL) (hlv : lv_args 0 av = lv0) (k : sg_G E y cc nL ret d 0 lv0 [] z Q) : sg_Met E y cc nL ret d av z Q := by
  subst hlv
  intro sz
  refine Met.ofW (cc := cc) (maxL := nL) (ret := ret) hy rfl ?_
  intro p e s m args below meth c s₁ B hml hv
  obtain ⟨rfl, hsz, hP, hK, hD0⟩ := hv
  have hts := atoms_spec (ws := sg_ws y cc nL ret) B.pre
  subst hsz
  rw [lg_entry_eq]
  exact k p e s m _ below meth c (va_A (E.2.2.2 z) s.heap.size) s.heap [] _ ⟨B.exec, B.bytes, findClass_of_methodNamed B.named, fun w hw => hts w (List.mem_cons_of_mem _ hw), hK, hml, B.returns, B.notSynchronized, fun q h => Or.inr h⟩ (lv_entry av hlen) hP hD0.self va_S.rf
theorem sg_mono {av : List Value} {Q2 : Option Value → sg_M → Prop} (h : sg_G E y cc nL ret d pc lv st z Q) (hq : ∀ v z, Q v z → Q2 v z) : sg_G E y cc nL ret d pc lv st z Q2 := by
  intro p e s m args below meth c A H locs ls hC hl hP hD hS T hT X
  obtain ⟨t, h1, o, h2, h3, ⟨⟨v, z2, h4, h5, h6⟩, h7⟩, h8⟩ := h p e s m args below meth c A H locs ls hC hl hP hD hS T hT X
  exact ⟨t, h1, o, h2, h3, ⟨⟨v, z2, h4, hq _ _ h5, h6⟩, h7⟩, h8⟩
theorem sg_sub (ks : List Nat) {lv' : List (Nat × Value)} (hl : lv_pick lv ks = lv') (k : sg_G E y cc nL ret d pc lv' st z Q) : sg_G E y cc nL ret d pc lv st z Q :=
  fun p e s m args below meth c A H locs ls hC hl0 hP hD hS => k p e s m args below meth c A H locs ls hC (lv_sub hl0 ks hl) hP hD hS
theorem sg_eqp {pc2 : Nat} (h : pc2 = pc) (k : sg_G E y cc nL ret d pc2 lv st z Q) : sg_G E y cc nL ret d pc lv st z Q := h ▸ k
theorem sg_iadd {x0 y0 : Int32} (hdg : decode cc pc = .ok (.iadd, 1)) (hn : pc + 1 = pn) (k : sg_G E y cc nL ret d pn lv (.int (x0 + y0) :: st) z Q) : sg_G E y cc nL ret d pc lv (.int y0 :: .int x0 :: st) z Q := by
  subst hn
  exact fun p e s m args below meth c A H locs ls hC hl hP hD hS => lv_iadd hC.1 hC.2.1 hdg (k p e s m args below meth c A H locs ls hC hl hP hD hS)
theorem sg_isub {x0 y0 : Int32} (hdg : decode cc pc = .ok (.isub, 1)) (hn : pc + 1 = pn) (k : sg_G E y cc nL ret d pn lv (.int (x0 - y0) :: st) z Q) : sg_G E y cc nL ret d pc lv (.int y0 :: .int x0 :: st) z Q := by
  subst hn
  exact fun p e s m args below meth c A H locs ls hC hl hP hD hS => lv_isub hC.1 hC.2.1 hdg (k p e s m args below meth c A H locs ls hC hl hP hD hS)
theorem sg_imul {x0 y0 : Int32} (hdg : decode cc pc = .ok (.imul, 1)) (hn : pc + 1 = pn) (k : sg_G E y cc nL ret d pn lv (.int (x0 * y0) :: st) z Q) : sg_G E y cc nL ret d pc lv (.int y0 :: .int x0 :: st) z Q := by
  subst hn
  exact fun p e s m args below meth c A H locs ls hC hl hP hD hS => lv_imul hC.1 hC.2.1 hdg (k p e s m args below meth c A H locs ls hC hl hP hD hS)
theorem sg_iand {x0 y0 : Int32} (hdg : decode cc pc = .ok (.iand, 1)) (hn : pc + 1 = pn) (k : sg_G E y cc nL ret d pn lv (.int (x0 &&& y0) :: st) z Q) : sg_G E y cc nL ret d pc lv (.int y0 :: .int x0 :: st) z Q := by
  subst hn
  exact fun p e s m args below meth c A H locs ls hC hl hP hD hS => lv_iand hC.1 hC.2.1 hdg (k p e s m args below meth c A H locs ls hC hl hP hD hS)
theorem sg_ior {x0 y0 : Int32} (hdg : decode cc pc = .ok (.ior, 1)) (hn : pc + 1 = pn) (k : sg_G E y cc nL ret d pn lv (.int (x0 ||| y0) :: st) z Q) : sg_G E y cc nL ret d pc lv (.int y0 :: .int x0 :: st) z Q := by
  subst hn
  exact fun p e s m args below meth c A H locs ls hC hl hP hD hS => lv_ior hC.1 hC.2.1 hdg (k p e s m args below meth c A H locs ls hC hl hP hD hS)
theorem sg_ixor {x0 y0 : Int32} (hdg : decode cc pc = .ok (.ixor, 1)) (hn : pc + 1 = pn) (k : sg_G E y cc nL ret d pn lv (.int (x0 ^^^ y0) :: st) z Q) : sg_G E y cc nL ret d pc lv (.int y0 :: .int x0 :: st) z Q := by
  subst hn
  exact fun p e s m args below meth c A H locs ls hC hl hP hD hS => lv_ixor hC.1 hC.2.1 hdg (k p e s m args below meth c A H locs ls hC hl hP hD hS)
theorem sg_ishl {x0 y0 : Int32} (hdg : decode cc pc = .ok (.ishl, 1)) (hn : pc + 1 = pn) (k : sg_G E y cc nL ret d pn lv (.int (sg_shl x0 y0) :: st) z Q) : sg_G E y cc nL ret d pc lv (.int y0 :: .int x0 :: st) z Q := by
  subst hn
  exact fun p e s m args below meth c A H locs ls hC hl hP hD hS => lv_ishl hC.1 hC.2.1 hdg (k p e s m args below meth c A H locs ls hC hl hP hD hS)
theorem sg_ishr {x0 y0 : Int32} (hdg : decode cc pc = .ok (.ishr, 1)) (hn : pc + 1 = pn) (k : sg_G E y cc nL ret d pn lv (.int (sg_shr x0 y0) :: st) z Q) : sg_G E y cc nL ret d pc lv (.int y0 :: .int x0 :: st) z Q := by
  subst hn
  exact fun p e s m args below meth c A H locs ls hC hl hP hD hS => lv_ishr hC.1 hC.2.1 hdg (k p e s m args below meth c A H locs ls hC hl hP hD hS)
theorem sg_iushr {x0 y0 : Int32} (hdg : decode cc pc = .ok (.iushr, 1)) (hn : pc + 1 = pn) (k : sg_G E y cc nL ret d pn lv (.int (sg_ushr x0 y0) :: st) z Q) : sg_G E y cc nL ret d pc lv (.int y0 :: .int x0 :: st) z Q := by
  subst hn
  exact fun p e s m args below meth c A H locs ls hC hl hP hD hS => lv_iushr hC.1 hC.2.1 hdg rfl (k p e s m args below meth c A H locs ls hC hl hP hD hS)
theorem sg_ineg {x0 : Int32} (hdg : decode cc pc = .ok (.ineg, 1)) (hn : pc + 1 = pn) (k : sg_G E y cc nL ret d pn lv (.int (-x0) :: st) z Q) : sg_G E y cc nL ret d pc lv (.int x0 :: st) z Q := by
  subst hn
  exact fun p e s m args below meth c A H locs ls hC hl hP hD hS => lv_ineg hC.1 hC.2.1 hdg (k p e s m args below meth c A H locs ls hC hl hP hD hS)
theorem sg_idiv {x0 y0 : Int32} (hdg : decode cc pc = .ok (.idiv, 1)) (hn : pc + 1 = pn) (hne : ¬ y0 = 0) (k : sg_G E y cc nL ret d pn lv (.int (x0 / y0) :: st) z Q) : sg_G E y cc nL ret d pc lv (.int y0 :: .int x0 :: st) z Q := by
  subst hn
  exact fun p e s m args below meth c A H locs ls hC hl hP hD hS => lv_idiv hC.1 hC.2.1 hdg hne (k p e s m args below meth c A H locs ls hC hl hP hD hS)
theorem sg_irem {x0 y0 : Int32} (hdg : decode cc pc = .ok (.irem, 1)) (hn : pc + 1 = pn) (hne : ¬ y0 = 0) (k : sg_G E y cc nL ret d pn lv (.int (sg_rem x0 y0) :: st) z Q) : sg_G E y cc nL ret d pc lv (.int y0 :: .int x0 :: st) z Q := by
  subst hn
  exact fun p e s m args below meth c A H locs ls hC hl hP hD hS => lv_irem hC.1 hC.2.1 hdg hne (k p e s m args below meth c A H locs ls hC hl hP hD hS)
theorem sg_ldiv {x0 y0 : Int64} (hdg : decode cc pc = .ok (.ldiv, 1)) (hn : pc + 1 = pn) (hne : ¬ y0 = 0) (k : sg_G E y cc nL ret d pn lv (.long (x0 / y0) :: st) z Q) : sg_G E y cc nL ret d pc lv (.long y0 :: .long x0 :: st) z Q := by
  subst hn
  exact fun p e s m args below meth c A H locs ls hC hl hP hD hS => lv_ldiv hC.1 hC.2.1 hdg hne (k p e s m args below meth c A H locs ls hC hl hP hD hS)
theorem sg_lrem {x0 y0 : Int64} (hdg : decode cc pc = .ok (.lrem, 1)) (hn : pc + 1 = pn) (hne : ¬ y0 = 0) (k : sg_G E y cc nL ret d pn lv (.long (sg_lrm x0 y0) :: st) z Q) : sg_G E y cc nL ret d pc lv (.long y0 :: .long x0 :: st) z Q := by
  subst hn
  exact fun p e s m args below meth c A H locs ls hC hl hP hD hS => lv_lrem hC.1 hC.2.1 hdg hne (k p e s m args below meth c A H locs ls hC hl hP hD hS)
theorem sg_ladd {x0 y0 : Int64} (hdg : decode cc pc = .ok (.ladd, 1)) (hn : pc + 1 = pn) (k : sg_G E y cc nL ret d pn lv (.long (x0 + y0) :: st) z Q) : sg_G E y cc nL ret d pc lv (.long y0 :: .long x0 :: st) z Q := by
  subst hn
  exact fun p e s m args below meth c A H locs ls hC hl hP hD hS => lv_ladd hC.1 hC.2.1 hdg (k p e s m args below meth c A H locs ls hC hl hP hD hS)
theorem sg_lmul {x0 y0 : Int64} (hdg : decode cc pc = .ok (.lmul, 1)) (hn : pc + 1 = pn) (k : sg_G E y cc nL ret d pn lv (.long (x0 * y0) :: st) z Q) : sg_G E y cc nL ret d pc lv (.long y0 :: .long x0 :: st) z Q := by
  subst hn
  exact fun p e s m args below meth c A H locs ls hC hl hP hD hS => lv_lmul hC.1 hC.2.1 hdg (k p e s m args below meth c A H locs ls hC hl hP hD hS)
theorem sg_land {x0 y0 : Int64} (hdg : decode cc pc = .ok (.land, 1)) (hn : pc + 1 = pn) (k : sg_G E y cc nL ret d pn lv (.long (x0 &&& y0) :: st) z Q) : sg_G E y cc nL ret d pc lv (.long y0 :: .long x0 :: st) z Q := by
  subst hn
  exact fun p e s m args below meth c A H locs ls hC hl hP hD hS => lv_land hC.1 hC.2.1 hdg (k p e s m args below meth c A H locs ls hC hl hP hD hS)
theorem sg_lcmp {x0 y0 : Int64} (hdg : decode cc pc = .ok (.lcmp, 1)) (hn : pc + 1 = pn) (k : sg_G E y cc nL ret d pn lv (.int (lg_cmp x0 y0) :: st) z Q) : sg_G E y cc nL ret d pc lv (.long y0 :: .long x0 :: st) z Q := by
  subst hn
  exact fun p e s m args below meth c A H locs ls hC hl hP hD hS => W.lcmp hC.1 hC.2.1 hdg (k p e s m args below meth c A H locs ls hC hl hP hD hS)
theorem sg_i2l {x0 : Int32} (hdg : decode cc pc = .ok (.i2l, 1)) (hn : pc + 1 = pn) (k : sg_G E y cc nL ret d pn lv (.long x0.toInt64 :: st) z Q) : sg_G E y cc nL ret d pc lv (.int x0 :: st) z Q := by
  subst hn
  exact fun p e s m args below meth c A H locs ls hC hl hP hD hS => lv_i2l hC.1 hC.2.1 hdg rfl (k p e s m args below meth c A H locs ls hC hl hP hD hS)
theorem sg_l2i {x0 : Int64} (hdg : decode cc pc = .ok (.l2i, 1)) (hn : pc + 1 = pn) (k : sg_G E y cc nL ret d pn lv (.int x0.toInt32 :: st) z Q) : sg_G E y cc nL ret d pc lv (.long x0 :: st) z Q := by
  subst hn
  exact fun p e s m args below meth c A H locs ls hC hl hP hD hS => lv_l2i hC.1 hC.2.1 hdg rfl (k p e s m args below meth c A H locs ls hC hl hP hD hS)
theorem sg_iconst {n0 : Int} {v : Int32} (hdg : decode cc pc = .ok (.iconst n0, 1)) (hn : pc + 1 = pn) (hv : Int32.ofInt n0 = v) (k : sg_G E y cc nL ret d pn lv (.int v :: st) z Q) : sg_G E y cc nL ret d pc lv (st) z Q := by
  subst hn
  exact fun p e s m args below meth c A H locs ls hC hl hP hD hS => lv_iconst hC.1 hC.2.1 hdg hv (k p e s m args below meth c A H locs ls hC hl hP hD hS)
theorem sg_bipush {n0 : Int} {v : Int32} (hdg : decode cc pc = .ok (.bipush n0, 2)) (hn : pc + 2 = pn) (hv : (Int8.ofInt n0).toInt32 = v) (k : sg_G E y cc nL ret d pn lv (.int v :: st) z Q) : sg_G E y cc nL ret d pc lv (st) z Q := by
  subst hn
  exact fun p e s m args below meth c A H locs ls hC hl hP hD hS => lv_bipush hC.1 hC.2.1 hdg hv (k p e s m args below meth c A H locs ls hC hl hP hD hS)
theorem sg_sipush {n0 : Int} {v : Int32} (hdg : decode cc pc = .ok (.sipush n0, 3)) (hn : pc + 3 = pn) (hv : (Int16.ofInt n0).toInt32 = v) (k : sg_G E y cc nL ret d pn lv (.int v :: st) z Q) : sg_G E y cc nL ret d pc lv (st) z Q := by
  subst hn
  exact fun p e s m args below meth c A H locs ls hC hl hP hD hS => lv_sipush hC.1 hC.2.1 hdg hv (k p e s m args below meth c A H locs ls hC hl hP hD hS)
theorem sg_lconst {n0 : Fin 2} {v : Int64} (hdg : decode cc pc = .ok (.lconst n0, 1)) (hn : pc + 1 = pn) (hv : Int64.ofNat (n0 : Nat) = v) (k : sg_G E y cc nL ret d pn lv (.long v :: st) z Q) : sg_G E y cc nL ret d pc lv (st) z Q := by
  subst hn
  exact fun p e s m args below meth c A H locs ls hC hl hP hD hS => lv_lconst hC.1 hC.2.1 hdg hv (k p e s m args below meth c A H locs ls hC hl hP hD hS)
theorem sg_ldc {ix : Nat} {v : Int32} (hdg : decode cc pc = .ok (.ldc ix, 2)) (hn : pc + 2 = pn) (hw : Cond.constant y.cls ix v ∈ sg_tbl) (k : sg_G E y cc nL ret d pn lv (.int v :: st) z Q) : sg_G E y cc nL ret d pc lv (st) z Q := by
  subst hn
  exact fun p e s m args below meth c A H locs ls hC hl hP hD hS => lv_ldc hC.1 hC.2.1 hC.2.2.1 (hC.2.2.2.1 _ hw) hdg (k p e s m args below meth c A H locs ls hC hl hP hD hS)
theorem sg_ldcw {ix : Nat} {v : Int32} (hdg : decode cc pc = .ok (.ldc_w ix, 3)) (hn : pc + 3 = pn) (hw : Cond.constant y.cls ix v ∈ sg_tbl) (k : sg_G E y cc nL ret d pn lv (.int v :: st) z Q) : sg_G E y cc nL ret d pc lv (st) z Q := by
  subst hn
  exact fun p e s m args below meth c A H locs ls hC hl hP hD hS => lv_ldcw hC.1 hC.2.1 hC.2.2.1 (hC.2.2.2.1 _ hw) hdg (k p e s m args below meth c A H locs ls hC hl hP hD hS)
theorem sg_ldc2 {ix : Nat} {v : Int64} (hdg : decode cc pc = .ok (.ldc2_w ix, 3)) (hn : pc + 3 = pn) (hw : Cond.constantLong y.cls ix v ∈ sg_tbl) (k : sg_G E y cc nL ret d pn lv (.long v :: st) z Q) : sg_G E y cc nL ret d pc lv (st) z Q := by
  subst hn
  exact fun p e s m args below meth c A H locs ls hC hl hP hD hS => lv_ldc2 hC.1 hC.2.1 hC.2.2.1 (hC.2.2.2.1 _ hw) hdg (k p e s m args below meth c A H locs ls hC hl hP hD hS)
theorem sg_dup {va : Value} (hdg : decode cc pc = .ok (.dup, 1)) (hn : pc + 1 = pn) (hva : va.category = 1) (k : sg_G E y cc nL ret d pn lv (va :: va :: st) z Q) : sg_G E y cc nL ret d pc lv (va :: st) z Q := by
  subst hn
  exact fun p e s m args below meth c A H locs ls hC hl hP hD hS => lv_dup hC.1 hC.2.1 hdg hva (k p e s m args below meth c A H locs ls hC hl hP hD hS)
theorem sg_dup2 {va vb : Value} (hdg : decode cc pc = .ok (.dup2, 1)) (hn : pc + 1 = pn) (hva : va.category = 1) (hvb : vb.category = 1) (k : sg_G E y cc nL ret d pn lv (va :: vb :: va :: vb :: st) z Q) : sg_G E y cc nL ret d pc lv (va :: vb :: st) z Q := by
  subst hn
  exact fun p e s m args below meth c A H locs ls hC hl hP hD hS => lv_dup2_11 hC.1 hC.2.1 hdg hva hvb (k p e s m args below meth c A H locs ls hC hl hP hD hS)
theorem sg_pop {va : Value} (hdg : decode cc pc = .ok (.pop, 1)) (hn : pc + 1 = pn) (hva : va.category = 1) (k : sg_G E y cc nL ret d pn lv (st) z Q) : sg_G E y cc nL ret d pc lv (va :: st) z Q := by
  subst hn
  exact fun p e s m args below meth c A H locs ls hC hl hP hD hS => lv_pop hC.1 hC.2.1 hdg hva (k p e s m args below meth c A H locs ls hC hl hP hD hS)
theorem sg_iload_n {k1 : Fin 4} {i : Nat} {x0 : Int32} (hdg : decode cc pc = .ok (.iload_n k1, 1)) (hn : pc + 1 = pn) (hi : (k1 : Nat) = i) (k0 : Nat) (hk : lv[k0]? = some (i, .int x0)) (k : sg_G E y cc nL ret d pn lv (.int x0 :: st) z Q) : sg_G E y cc nL ret d pc lv (st) z Q := by
  subst hn
  exact fun p e s m args below meth c A H locs ls hC hl hP hD hS => lv_iload_n hC.1 hC.2.1 hdg hi (lv_at hl k0 hk) (k p e s m args below meth c A H locs ls hC hl hP hD hS)
theorem sg_iload {i : Nat} {x0 : Int32} (hdg : decode cc pc = .ok (.iload i, 2)) (hn : pc + 2 = pn) (k0 : Nat) (hk : lv[k0]? = some (i, .int x0)) (k : sg_G E y cc nL ret d pn lv (.int x0 :: st) z Q) : sg_G E y cc nL ret d pc lv (st) z Q := by
  subst hn
  exact fun p e s m args below meth c A H locs ls hC hl hP hD hS => lv_iload hC.1 hC.2.1 hdg (lv_at hl k0 hk) (k p e s m args below meth c A H locs ls hC hl hP hD hS)
theorem sg_aload_n {k1 : Fin 4} {i : Nat} {x0 : Nat} (hdg : decode cc pc = .ok (.aload_n k1, 1)) (hn : pc + 1 = pn) (hi : (k1 : Nat) = i) (k0 : Nat) (hk : lv[k0]? = some (i, .ref x0)) (k : sg_G E y cc nL ret d pn lv (.ref x0 :: st) z Q) : sg_G E y cc nL ret d pc lv (st) z Q := by
  subst hn
  exact fun p e s m args below meth c A H locs ls hC hl hP hD hS => lv_aload_n hC.1 hC.2.1 hdg hi (lv_at hl k0 hk) (k p e s m args below meth c A H locs ls hC hl hP hD hS)
theorem sg_aload {i : Nat} {x0 : Nat} (hdg : decode cc pc = .ok (.aload i, 2)) (hn : pc + 2 = pn) (k0 : Nat) (hk : lv[k0]? = some (i, .ref x0)) (k : sg_G E y cc nL ret d pn lv (.ref x0 :: st) z Q) : sg_G E y cc nL ret d pc lv (st) z Q := by
  subst hn
  exact fun p e s m args below meth c A H locs ls hC hl hP hD hS => lv_aload hC.1 hC.2.1 hdg (lv_at hl k0 hk) (k p e s m args below meth c A H locs ls hC hl hP hD hS)
theorem sg_lload_n {k1 : Fin 4} {i : Nat} {x0 : Int64} (hdg : decode cc pc = .ok (.lload_n k1, 1)) (hn : pc + 1 = pn) (hi : (k1 : Nat) = i) (k0 : Nat) (hk : lv[k0]? = some (i, .long x0)) (k : sg_G E y cc nL ret d pn lv (.long x0 :: st) z Q) : sg_G E y cc nL ret d pc lv (st) z Q := by
  subst hn
  exact fun p e s m args below meth c A H locs ls hC hl hP hD hS => lv_lload_n hC.1 hC.2.1 hdg hi (lv_at hl k0 hk) (k p e s m args below meth c A H locs ls hC hl hP hD hS)
theorem sg_lload {i : Nat} {x0 : Int64} (hdg : decode cc pc = .ok (.lload i, 2)) (hn : pc + 2 = pn) (k0 : Nat) (hk : lv[k0]? = some (i, .long x0)) (k : sg_G E y cc nL ret d pn lv (.long x0 :: st) z Q) : sg_G E y cc nL ret d pc lv (st) z Q := by
  subst hn
  exact fun p e s m args below meth c A H locs ls hC hl hP hD hS => lv_lload hC.1 hC.2.1 hdg (lv_at hl k0 hk) (k p e s m args below meth c A H locs ls hC hl hP hD hS)
theorem sg_istore_n {k1 : Fin 4} {i : Nat} {x0 : Int32} {lv' : List (Nat × Value)} (hdg : decode cc pc = .ok (.istore_n k1, 1)) (hn : pc + 1 = pn) (hi : (k1 : Nat) = i) (hb : i < nL) (ks : List Nat) (hl0 : lv_pick ((i, Value.int x0) :: lv.filter (fun q => !(q.1 == i) && !(q.1 + 1 == i && q.2.category == 2))) ks = lv') (k : sg_G E y cc nL ret d pn lv' st z Q) : sg_G E y cc nL ret d pc lv (Value.int x0 :: st) z Q := by
  subst hn
  exact fun p e s m args below meth c A H locs ls hC hl hP hD hS => lv_istore_n hC.1 hC.2.1 hdg hi hl hb rfl (fun ls2 hl2 => k p e s m args below meth c A H locs ls2 hC (lv_sub hl2 ks hl0) hP hD hS)
theorem sg_istore {i : Nat} {x0 : Int32} {lv' : List (Nat × Value)} (hdg : decode cc pc = .ok (.istore i, 2)) (hn : pc + 2 = pn) (hb : i < nL) (ks : List Nat) (hl0 : lv_pick ((i, Value.int x0) :: lv.filter (fun q => !(q.1 == i) && !(q.1 + 1 == i && q.2.category == 2))) ks = lv') (k : sg_G E y cc nL ret d pn lv' st z Q) : sg_G E y cc nL ret d pc lv (Value.int x0 :: st) z Q := by
  subst hn
  exact fun p e s m args below meth c A H locs ls hC hl hP hD hS => lv_istore hC.1 hC.2.1 hdg hl hb rfl (fun ls2 hl2 => k p e s m args below meth c A H locs ls2 hC (lv_sub hl2 ks hl0) hP hD hS)
theorem sg_astore_n {k1 : Fin 4} {i : Nat} {x0 : Nat} {lv' : List (Nat × Value)} (hdg : decode cc pc = .ok (.astore_n k1, 1)) (hn : pc + 1 = pn) (hi : (k1 : Nat) = i) (hb : i < nL) (ks : List Nat) (hl0 : lv_pick ((i, Value.ref x0) :: lv.filter (fun q => !(q.1 == i) && !(q.1 + 1 == i && q.2.category == 2))) ks = lv') (k : sg_G E y cc nL ret d pn lv' st z Q) : sg_G E y cc nL ret d pc lv (Value.ref x0 :: st) z Q := by
  subst hn
  exact fun p e s m args below meth c A H locs ls hC hl hP hD hS => lv_astore_n hC.1 hC.2.1 hdg hi hl hb rfl (fun ls2 hl2 => k p e s m args below meth c A H locs ls2 hC (lv_sub hl2 ks hl0) hP hD hS)
theorem sg_lstore_n {k1 : Fin 4} {i : Nat} {x0 : Int64} {lv' : List (Nat × Value)} (hdg : decode cc pc = .ok (.lstore_n k1, 1)) (hn : pc + 1 = pn) (hi : (k1 : Nat) = i) (hb : i + 1 < nL) (ks : List Nat) (hl0 : lv_pick ((i, Value.long x0) :: lv.filter (fun q => !(q.1 == i) && (!(q.1 == i + 1) && !(q.1 + 1 == i && q.2.category == 2)))) ks = lv') (k : sg_G E y cc nL ret d pn lv' st z Q) : sg_G E y cc nL ret d pc lv (Value.long x0 :: st) z Q := by
  subst hn
  exact fun p e s m args below meth c A H locs ls hC hl hP hD hS => lv_lstore_n hC.1 hC.2.1 hdg hi hl hb rfl (fun ls2 hl2 => k p e s m args below meth c A H locs ls2 hC (lv_sub hl2 ks hl0) hP hD hS)
theorem sg_iinc {i : Nat} {n0 : Int} {x0 v : Int32} {lv' : List (Nat × Value)} (hdg : decode cc pc = .ok (.iinc i n0, 3)) (hn : pc + 3 = pn) (k0 : Nat) (hk : lv[k0]? = some (i, .int x0)) (hv : x0 + Int32.ofInt n0 = v) (hb : i < nL) (ks : List Nat) (hl0 : lv_pick ((i, Value.int v) :: lv.filter (fun q => !(q.1 == i) && !(q.1 + 1 == i && q.2.category == 2))) ks = lv') (k : sg_G E y cc nL ret d pn lv' st z Q) : sg_G E y cc nL ret d pc lv st z Q := by
  subst hn
  exact fun p e s m args below meth c A H locs ls hC hl hP hD hS => lv_iinc hC.1 hC.2.1 hdg hl hk hv hb rfl (fun ls2 hl2 => k p e s m args below meth c A H locs ls2 hC (lv_sub hl2 ks hl0) hP hD hS)
theorem sg_icmp_eq {x0 y0 : Int32} {off : Int} {tgt : Nat} (hdg : decode cc pc = .ok (.if_icmp .eq off, 3)) (hn : pc + 3 = pn) (ht : (pc : Int) + off = (tgt : Int)) (kt : x0 = y0 → sg_G E y cc nL ret d tgt lv st z Q) (kf : ¬ x0 = y0 → sg_G E y cc nL ret d pn lv st z Q) : sg_G E y cc nL ret d pc lv (.int y0 :: .int x0 :: st) z Q := by
  subst hn
  exact fun p e s m args below meth c A H locs ls hC hl hP hD hS => lv_icmp_eq hC.1 hC.2.1 hdg ht (fun h => kt h p e s m args below meth c A H locs ls hC hl hP hD hS) (fun h => kf h p e s m args below meth c A H locs ls hC hl hP hD hS)
theorem sg_icmp_ne {x0 y0 : Int32} {off : Int} {tgt : Nat} (hdg : decode cc pc = .ok (.if_icmp .ne off, 3)) (hn : pc + 3 = pn) (ht : (pc : Int) + off = (tgt : Int)) (kt : ¬ x0 = y0 → sg_G E y cc nL ret d tgt lv st z Q) (kf : x0 = y0 → sg_G E y cc nL ret d pn lv st z Q) : sg_G E y cc nL ret d pc lv (.int y0 :: .int x0 :: st) z Q := by
  subst hn
  exact fun p e s m args below meth c A H locs ls hC hl hP hD hS => lv_icmp_ne hC.1 hC.2.1 hdg ht (fun h => kt h p e s m args below meth c A H locs ls hC hl hP hD hS) (fun h => kf h p e s m args below meth c A H locs ls hC hl hP hD hS)
theorem sg_icmp_lt {x0 y0 : Int32} {off : Int} {tgt : Nat} (hdg : decode cc pc = .ok (.if_icmp .lt off, 3)) (hn : pc + 3 = pn) (ht : (pc : Int) + off = (tgt : Int)) (kt : x0 < y0 → sg_G E y cc nL ret d tgt lv st z Q) (kf : ¬ x0 < y0 → sg_G E y cc nL ret d pn lv st z Q) : sg_G E y cc nL ret d pc lv (.int y0 :: .int x0 :: st) z Q := by
  subst hn
  exact fun p e s m args below meth c A H locs ls hC hl hP hD hS => lv_icmp_lt hC.1 hC.2.1 hdg ht (fun h => kt h p e s m args below meth c A H locs ls hC hl hP hD hS) (fun h => kf h p e s m args below meth c A H locs ls hC hl hP hD hS)
theorem sg_icmp_ge {x0 y0 : Int32} {off : Int} {tgt : Nat} (hdg : decode cc pc = .ok (.if_icmp .ge off, 3)) (hn : pc + 3 = pn) (ht : (pc : Int) + off = (tgt : Int)) (kt : y0 ≤ x0 → sg_G E y cc nL ret d tgt lv st z Q) (kf : ¬ y0 ≤ x0 → sg_G E y cc nL ret d pn lv st z Q) : sg_G E y cc nL ret d pc lv (.int y0 :: .int x0 :: st) z Q := by
  subst hn
  exact fun p e s m args below meth c A H locs ls hC hl hP hD hS => lv_icmp_ge hC.1 hC.2.1 hdg ht (fun h => kt h p e s m args below meth c A H locs ls hC hl hP hD hS) (fun h => kf h p e s m args below meth c A H locs ls hC hl hP hD hS)
theorem sg_icmp_gt {x0 y0 : Int32} {off : Int} {tgt : Nat} (hdg : decode cc pc = .ok (.if_icmp .gt off, 3)) (hn : pc + 3 = pn) (ht : (pc : Int) + off = (tgt : Int)) (kt : y0 < x0 → sg_G E y cc nL ret d tgt lv st z Q) (kf : ¬ y0 < x0 → sg_G E y cc nL ret d pn lv st z Q) : sg_G E y cc nL ret d pc lv (.int y0 :: .int x0 :: st) z Q := by
  subst hn
  exact fun p e s m args below meth c A H locs ls hC hl hP hD hS => lv_icmp_gt hC.1 hC.2.1 hdg ht (fun h => kt h p e s m args below meth c A H locs ls hC hl hP hD hS) (fun h => kf h p e s m args below meth c A H locs ls hC hl hP hD hS)
theorem sg_icmp_le {x0 y0 : Int32} {off : Int} {tgt : Nat} (hdg : decode cc pc = .ok (.if_icmp .le off, 3)) (hn : pc + 3 = pn) (ht : (pc : Int) + off = (tgt : Int)) (kt : x0 ≤ y0 → sg_G E y cc nL ret d tgt lv st z Q) (kf : ¬ x0 ≤ y0 → sg_G E y cc nL ret d pn lv st z Q) : sg_G E y cc nL ret d pc lv (.int y0 :: .int x0 :: st) z Q := by
  subst hn
  exact fun p e s m args below meth c A H locs ls hC hl hP hD hS => lv_icmp_le hC.1 hC.2.1 hdg ht (fun h => kt h p e s m args below meth c A H locs ls hC hl hP hD hS) (fun h => kf h p e s m args below meth c A H locs ls hC hl hP hD hS)
theorem sg_if_eq {x0 : Int32} {off : Int} {tgt : Nat} (hdg : decode cc pc = .ok (.ifCond .eq off, 3)) (hn : pc + 3 = pn) (ht : (pc : Int) + off = (tgt : Int)) (kt : x0 = 0 → sg_G E y cc nL ret d tgt lv st z Q) (kf : ¬ x0 = 0 → sg_G E y cc nL ret d pn lv st z Q) : sg_G E y cc nL ret d pc lv (.int x0 :: st) z Q := by
  subst hn
  exact fun p e s m args below meth c A H locs ls hC hl hP hD hS => lv_if_eq hC.1 hC.2.1 hdg ht (fun h => kt h p e s m args below meth c A H locs ls hC hl hP hD hS) (fun h => kf h p e s m args below meth c A H locs ls hC hl hP hD hS)
theorem sg_if_ne {x0 : Int32} {off : Int} {tgt : Nat} (hdg : decode cc pc = .ok (.ifCond .ne off, 3)) (hn : pc + 3 = pn) (ht : (pc : Int) + off = (tgt : Int)) (kt : ¬ x0 = 0 → sg_G E y cc nL ret d tgt lv st z Q) (kf : x0 = 0 → sg_G E y cc nL ret d pn lv st z Q) : sg_G E y cc nL ret d pc lv (.int x0 :: st) z Q := by
  subst hn
  exact fun p e s m args below meth c A H locs ls hC hl hP hD hS => lv_if_ne hC.1 hC.2.1 hdg ht (fun h => kt h p e s m args below meth c A H locs ls hC hl hP hD hS) (fun h => kf h p e s m args below meth c A H locs ls hC hl hP hD hS)
theorem sg_if_lt {x0 : Int32} {off : Int} {tgt : Nat} (hdg : decode cc pc = .ok (.ifCond .lt off, 3)) (hn : pc + 3 = pn) (ht : (pc : Int) + off = (tgt : Int)) (kt : x0 < 0 → sg_G E y cc nL ret d tgt lv st z Q) (kf : ¬ x0 < 0 → sg_G E y cc nL ret d pn lv st z Q) : sg_G E y cc nL ret d pc lv (.int x0 :: st) z Q := by
  subst hn
  exact fun p e s m args below meth c A H locs ls hC hl hP hD hS => lv_if_lt hC.1 hC.2.1 hdg ht (fun h => kt h p e s m args below meth c A H locs ls hC hl hP hD hS) (fun h => kf h p e s m args below meth c A H locs ls hC hl hP hD hS)
theorem sg_if_ge {x0 : Int32} {off : Int} {tgt : Nat} (hdg : decode cc pc = .ok (.ifCond .ge off, 3)) (hn : pc + 3 = pn) (ht : (pc : Int) + off = (tgt : Int)) (kt : 0 ≤ x0 → sg_G E y cc nL ret d tgt lv st z Q) (kf : ¬ 0 ≤ x0 → sg_G E y cc nL ret d pn lv st z Q) : sg_G E y cc nL ret d pc lv (.int x0 :: st) z Q := by
  subst hn
  exact fun p e s m args below meth c A H locs ls hC hl hP hD hS => lv_if_ge hC.1 hC.2.1 hdg ht (fun h => kt h p e s m args below meth c A H locs ls hC hl hP hD hS) (fun h => kf h p e s m args below meth c A H locs ls hC hl hP hD hS)
theorem sg_if_gt {x0 : Int32} {off : Int} {tgt : Nat} (hdg : decode cc pc = .ok (.ifCond .gt off, 3)) (hn : pc + 3 = pn) (ht : (pc : Int) + off = (tgt : Int)) (kt : 0 < x0 → sg_G E y cc nL ret d tgt lv st z Q) (kf : ¬ 0 < x0 → sg_G E y cc nL ret d pn lv st z Q) : sg_G E y cc nL ret d pc lv (.int x0 :: st) z Q := by
  subst hn
  exact fun p e s m args below meth c A H locs ls hC hl hP hD hS => lv_if_gt hC.1 hC.2.1 hdg ht (fun h => kt h p e s m args below meth c A H locs ls hC hl hP hD hS) (fun h => kf h p e s m args below meth c A H locs ls hC hl hP hD hS)
theorem sg_if_le {x0 : Int32} {off : Int} {tgt : Nat} (hdg : decode cc pc = .ok (.ifCond .le off, 3)) (hn : pc + 3 = pn) (ht : (pc : Int) + off = (tgt : Int)) (kt : x0 ≤ 0 → sg_G E y cc nL ret d tgt lv st z Q) (kf : ¬ x0 ≤ 0 → sg_G E y cc nL ret d pn lv st z Q) : sg_G E y cc nL ret d pc lv (.int x0 :: st) z Q := by
  subst hn
  exact fun p e s m args below meth c A H locs ls hC hl hP hD hS => lv_if_le hC.1 hC.2.1 hdg ht (fun h => kt h p e s m args below meth c A H locs ls hC hl hP hD hS) (fun h => kf h p e s m args below meth c A H locs ls hC hl hP hD hS)
theorem sg_goto {off : Int} {tgt : Nat} (hdg : decode cc pc = .ok (.goto off, 3)) (ht : (pc : Int) + off = (tgt : Int)) (k : sg_G E y cc nL ret d tgt lv st z Q) : sg_G E y cc nL ret d pc lv st z Q :=
  fun p e s m args below meth c A H locs ls hC hl hP hD hS => lv_goto hC.1 hC.2.1 hdg ht (k p e s m args below meth c A H locs ls hC hl hP hD hS)
theorem sg_tabIn {x0 : Int32} {dflt lo hi off : Int} {offs : Array Int} {len tgt : Nat} (hdg : decode cc pc = .ok (.tableswitch dflt lo hi offs, len)) (h1 : ¬ x0.toInt < lo) (h2 : ¬ hi < x0.toInt) (ho : offs[(x0.toInt - lo).toNat]? = some off) (ht : (pc : Int) + off = (tgt : Int)) (k : sg_G E y cc nL ret d tgt lv st z Q) : sg_G E y cc nL ret d pc lv (.int x0 :: st) z Q :=
  fun p e s m args below meth c A H locs ls hC hl hP hD hS => lv_tableIn hC.1 hC.2.1 hdg h1 h2 ho ht (k p e s m args below meth c A H locs ls hC hl hP hD hS)
theorem sg_tabOut {x0 : Int32} {dflt lo hi : Int} {offs : Array Int} {len tgt : Nat} (hdg : decode cc pc = .ok (.tableswitch dflt lo hi offs, len)) (h : x0.toInt < lo ∨ hi < x0.toInt) (ht : (pc : Int) + dflt = (tgt : Int)) (k : sg_G E y cc nL ret d tgt lv st z Q) : sg_G E y cc nL ret d pc lv (.int x0 :: st) z Q :=
  fun p e s m args below meth c A H locs ls hC hl hP hD hS => lv_tableOut hC.1 hC.2.1 hdg h ht (k p e s m args below meth c A H locs ls hC hl hP hD hS)
theorem sg_lookup {x0 : Int32} {dflt off : Int} {ps : Array (Int × Int)} {len tgt : Nat} (hdg : decode cc pc = .ok (.lookupswitch dflt ps, len)) (hp : (ps.toList.zip (ps.toList.drop 1)).all (fun (a, next) => a.1 < next.1) = true) (ho : Op.lookupswitch.offset ps.toList dflt x0.toInt = off) (ht : (pc : Int) + off = (tgt : Int)) (k : sg_G E y cc nL ret d tgt lv st z Q) : sg_G E y cc nL ret d pc lv (.int x0 :: st) z Q :=
  fun p e s m args below meth c A H locs ls hC hl hP hD hS => lv_lookup hC.1 hC.2.1 hdg hp ho ht (k p e s m args below meth c A H locs ls hC hl hP hD hS)
theorem sg_iret {v : Int32} (hdg : decode cc pc = .ok (.ireturn, 1)) (hr : ret = some .int) (hq : Q (some (.int v)) z) : sg_G E y cc nL ret d pc lv [.int v] z Q :=
  fun p e s m args below meth c A H locs ls hC hl hP hD hS => W.iret hC.1 hC.2.1 (hC.2.2.2.2.2.2.1.trans hr) (fun t ht hW => ⟨⟨_, z, rfl, hq, by rw [ht]; exact hP, va_K.moved hW.alike hC.2.2.2.2.1, hD⟩, hS.F ht⟩) hS.2.2 hdg (hlocks := hC.2.2.2.2.2.2.2.1)
theorem sg_zret {v : Int32} (hdg : decode cc pc = .ok (.ireturn, 1)) (hr : ret = some .boolean) (hb : narrow .boolean (.int v) = .int v) (hq : Q (some (.int v)) z) : sg_G E y cc nL ret d pc lv [.int v] z Q :=
  fun p e s m args below meth c A H locs ls hC hl hP hD hS => W.zret hC.1 hC.2.1 (hC.2.2.2.2.2.2.1.trans hr) hb (fun t ht hW => ⟨⟨_, z, rfl, hq, by rw [ht]; exact hP, va_K.moved hW.alike hC.2.2.2.2.1, hD⟩, hS.F ht⟩) hS.2.2 hdg (hlocks := hC.2.2.2.2.2.2.2.1)
theorem sg_vret (hdg : decode cc pc = .ok (.return_, 1)) (hr : ret = none) (hq : Q none z) : sg_G E y cc nL ret d pc lv [] z Q :=
  fun p e s m args below meth c A H locs ls hC hl hP hD hS => W.vret hC.1 hC.2.1 (hC.2.2.2.2.2.2.1.trans hr) (fun t ht hW => ⟨⟨_, z, rfl, hq, by rw [ht]; exact hP, va_K.moved hW.alike hC.2.2.2.2.1, hD⟩, hS.F ht⟩) hS.2.2 hdg (hlocks := hC.2.2.2.2.2.2.2.1)
theorem sg_aret {a : Nat} {C : String} (hdg : decode cc pc = .ok (.areturn, 1)) (hr : ret = some (.object C)) (hq : Q (some (.ref a)) z) : sg_G E y cc nL ret d pc lv [.ref a] z Q :=
  fun p e s m args below meth c A H locs ls hC hl hP hD hS => W.aret hC.1 hC.2.1 (hC.2.2.2.2.2.2.1.trans hr) (Or.inl ⟨_, rfl⟩) (Or.inr ⟨_, rfl⟩) (fun t ht hW => ⟨⟨_, z, rfl, hq, by rw [ht]; exact hP, va_K.moved hW.alike hC.2.2.2.2.1, hD⟩, hS.F ht⟩) hS.2.2 hdg (hlocks := hC.2.2.2.2.2.2.2.1)
theorem sg_get {a ci ix N : Nat} {C rf : String} {T : u_T} {fs : List Value} {v : Value} (q0 k0 : Nat) (hdg : decode cc pc = .ok (.getfield ix, 3)) (hn : pc + 3 = pn) (hin : ∀ w ∈ u_ws C T N, w ∈ sg_tbl) (he : (E.2.2.2 z)[q0]? = some (a, .inr (ci, fs))) (hc : vwCl[ci]? = some (C, T, N)) (hk : k0 < N) (hw : Cond.fieldLink y.cls ix rf (T k0).2.1 (T k0).2.2.1 ∈ sg_tbl) (hs : rf = (T k0).1) (hv : fs[k0]? = some v) (k : sg_G E y cc nL ret d pn lv (v :: st) z Q) : sg_G E y cc nL ret d pc lv (.ref a :: st) z Q := by
  subst hn
  exact fun p e s m args below meth c A H locs ls hC hl hP hD hS => va_get (D := E.2.1) hC.1 hC.2.1 hC.2.2.2.1 hin hC.2.2.1 hC.2.2.2.2.1 hP q0 he hc k0 hk (hC.2.2.2.1 _ hw) (fun _ h9 => by rw [hs]; exact h9) hv hdg (k p e s m args below meth c A H locs ls hC hl hP hD hS)
theorem sg_put {a ci ix N : Nat} {C rf : String} {T : u_T} {fs : List Value} {v : Value} {ty : FieldType} {z2 : sg_M} (q0 k0 : Nat) (hdg : decode cc pc = .ok (.putfield ix, 3)) (hn : pc + 3 = pn) (hin : ∀ w ∈ u_ws C T N, w ∈ sg_tbl) (ty0 : Nat → FieldType) (hty : ∀ k, k < N → parseFieldDescriptor (T k).2.2.1 = some (ty0 k)) (hnm : ∀ a, a < N → ∀ b, b < N → a ≠ b → (T a).2.1 ≠ (T b).2.1) (he : (E.2.2.2 z)[q0]? = some (a, .inr (ci, fs))) (hc : vwCl[ci]? = some (C, T, N)) (hk : k0 < N) (hw : Cond.fieldLink y.cls ix rf (T k0).2.1 (T k0).2.2.1 ∈ sg_tbl) (hs : rf = (T k0).1) (hfin : (T k0).2.2.2 = false) (hd0 : parseFieldDescriptor (T k0).2.2.1 = some ty) (hnr : narrow ty v = v) (hft : fits ty v = true) (hl1 : k0 < fs.length) (hz : (E.2.2.2 z).set q0 (a, .inr (ci, fs.set k0 v)) = E.2.2.2 z2) (k : sg_G E y cc nL ret d pn lv st z2 Q) : sg_G E y cc nL ret d pc lv (v :: .ref a :: st) z Q := by
  subst hn
  exact fun p e s m args below meth c A H locs ls hC hl hP hD hS => va_put (D := E.2.1) hC.1 hC.2.1 hC.2.2.2.1 hin ty0 hty hnm hC.2.2.1 hC.2.2.2.2.1 hP hD hS q0 he hc k0 hk (hC.2.2.2.1 _ hw) (fun _ h9 => by rw [hs]; exact h9) hfin hd0 hnr hft hl1 hdg (fun H1 l1 hP1 hD1 hS1 => k p e s m args below meth c A H1 l1 ls hC hl (by rw [← hz]; exact hP1) (by rw [← hz]; exact hD1) hS1)
theorem sg_iald {a n : Nat} {cA : ClassId} {f : Nat → Int32} {i : Int32} (q0 t0 : Nat) (hdg : decode cc pc = .ok (.iaload, 1)) (hn : pc + 1 = pn) (he : (E.2.2.2 z)[q0]? = some (a, .inl (cA, n, .inl f))) (ht : E.2.2.1[t0]? = some (cA, .int)) (hi : vp_in i n) (k : sg_G E y cc nL ret d pn lv (.int (f i.toNatClampNeg) :: st) z Q) : sg_G E y cc nL ret d pc lv (.int i :: .ref a :: st) z Q := by
  subst hn
  exact fun p e s m args below meth c A H locs ls hC hl hP hD hS => va_iald (D := E.2.1) hC.1 hC.2.1 hC.2.2.2.2.1 hP q0 t0 he ht hi hdg (k p e s m args below meth c A H locs ls hC hl hP hD hS)
theorem sg_zald {a n : Nat} {cA : ClassId} {f : Nat → Int32} {i : Int32} (q0 t0 : Nat) (hdg : decode cc pc = .ok (.baload, 1)) (hn : pc + 1 = pn) (he : (E.2.2.2 z)[q0]? = some (a, .inl (cA, n, .inl f))) (ht : E.2.2.1[t0]? = some (cA, .boolean)) (hi : vp_in i n) (k : sg_G E y cc nL ret d pn lv (.int (f i.toNatClampNeg) :: st) z Q) : sg_G E y cc nL ret d pc lv (.int i :: .ref a :: st) z Q := by
  subst hn
  exact fun p e s m args below meth c A H locs ls hC hl hP hD hS => va_zald (D := E.2.1) hC.1 hC.2.1 hC.2.2.2.2.1 hP q0 t0 he ht hi hdg (k p e s m args below meth c A H locs ls hC hl hP hD hS)
theorem sg_iast {a n : Nat} {cA : ClassId} {f : Nat → Int32} {i x0 : Int32} {z2 : sg_M} (q0 t0 : Nat) (hdg : decode cc pc = .ok (.iastore, 1)) (hn : pc + 1 = pn) (he : (E.2.2.2 z)[q0]? = some (a, .inl (cA, n, .inl f))) (ht : E.2.2.1[t0]? = some (cA, .int)) (hi : vp_in i n) (hz : (E.2.2.2 z).set q0 (a, .inl (cA, n, .inl (upd f i.toNatClampNeg x0))) = E.2.2.2 z2) (k : sg_G E y cc nL ret d pn lv st z2 Q) : sg_G E y cc nL ret d pc lv (.int x0 :: .int i :: .ref a :: st) z Q := by
  subst hn
  exact fun p e s m args below meth c A H locs ls hC hl hP hD hS => va_iast (D := E.2.1) hC.1 hC.2.1 hC.2.2.2.2.1 hP hD hS q0 t0 he ht hi hdg (fun H1 l1 hP1 hD1 hS1 => k p e s m args below meth c A H1 l1 ls hC hl (by rw [← hz]; exact hP1) (by rw [← hz]; exact hD1) hS1)
theorem sg_zast {a n : Nat} {cA : ClassId} {f : Nat → Int32} {i x0 : Int32} {z2 : sg_M} (q0 t0 : Nat) (hdg : decode cc pc = .ok (.bastore, 1)) (hn : pc + 1 = pn) (he : (E.2.2.2 z)[q0]? = some (a, .inl (cA, n, .inl f))) (ht : E.2.2.1[t0]? = some (cA, .boolean)) (hi : vp_in i n) (hz : (E.2.2.2 z).set q0 (a, .inl (cA, n, .inl (upd f i.toNatClampNeg (vp_nar .boolean x0)))) = E.2.2.2 z2) (k : sg_G E y cc nL ret d pn lv st z2 Q) : sg_G E y cc nL ret d pc lv (.int x0 :: .int i :: .ref a :: st) z Q := by
  subst hn
  exact fun p e s m args below meth c A H locs ls hC hl hP hD hS => va_zast (D := E.2.1) hC.1 hC.2.1 hC.2.2.2.2.1 hP hD hS q0 t0 he ht hi hdg (fun H1 l1 hP1 hD1 hS1 => k p e s m args below meth c A H1 l1 ls hC hl (by rw [← hz]; exact hP1) (by rw [← hz]; exact hD1) hS1)
theorem sg_alen {a n : Nat} {cA : ClassId} {f : Nat → Int32} {v : Int32} {ty : FieldType} (q0 t0 : Nat) (hdg : decode cc pc = .ok (.arraylength, 1)) (hn : pc + 1 = pn) (he : (E.2.2.2 z)[q0]? = some (a, .inl (cA, n, .inl f))) (ht : E.2.2.1[t0]? = some (cA, ty)) (hv : Int32.ofNat n = v) (k : sg_G E y cc nL ret d pn lv (.int v :: st) z Q) : sg_G E y cc nL ret d pc lv (.ref a :: st) z Q := by
  subst hn
  exact fun p e s m args below meth c A H locs ls hC hl hP hD hS => va_alen (D := E.2.1) hC.1 hC.2.1 hC.2.2.2.2.1 hP q0 t0 he ht hv hdg (k p e s m args below meth c A H locs ls hC hl hP hD hS)
theorem sg_fitI (x : Int32) : fits .int (.int x) = true := rfl
theorem sg_copy {a a0 n0 n1 ix : Nat} {c0 c1 : ClassId} {f g : Nat → Int32} {sp dp n : Int32} {z2 : sg_M} (q0 q1 t0 t1 : Nat) (hdg : decode cc pc = .ok (.invokestatic ix, 3)) (hn : pc + 3 = pn) (hw : Cond.methodLink y.cls ix arraycopyName ∈ sg_tbl) (hw2 : Cond.native arraycopyName ∈ sg_tbl ∧ Cond.static arraycopyName ∈ sg_tbl ∧ Cond.initialized "java/lang/System" ∈ sg_tbl) (he0 : (E.2.2.2 z)[q0]? = some (a0, .inl (c0, n0, .inl f))) (he1 : (E.2.2.2 z)[q1]? = some (a, .inl (c1, n1, .inl g))) (ht0 : E.2.2.1[t0]? = some (c0, .int)) (ht1 : E.2.2.1[t1]? = some (c1, .int)) (h1 : ¬ sp < 0) (h2 : ¬ dp < 0) (h3 : ¬ n < 0) (h4 : sp.toNatClampNeg + n.toNatClampNeg ≤ n0) (h5 : dp.toNatClampNeg + n.toNatClampNeg ≤ n1) (hd1 : 1 ≤ d) (hst : (st.map fun v => v.category).sum ≤ 8) (hz : (E.2.2.2 z).set q1 (a, .inl (c1, n1, .inl (va_cpy f g sp.toNatClampNeg dp.toNatClampNeg n.toNatClampNeg))) = E.2.2.2 z2) (k : sg_G E y cc nL ret d pn lv st z2 Q) : sg_G E y cc nL ret d pc lv (.int n :: .int dp :: .ref a :: .int sp :: .ref a0 :: st) z Q := by
  subst hn
  exact fun p e s m args below meth c A H locs ls hC hl hP hD hS => va_copyi (D := E.2.1) hC.1 hC.2.1 (hC.2.2.2.2.2.1.trans hl.1.symm) hC.2.2.1 (hC.2.2.2.1 _ hw) (hC.2.2.2.1 _ hw2.1) (hC.2.2.2.1 _ hw2.2.1) (hC.2.2.2.1 _ hw2.2.2) hC.2.2.2.2.1 hP hD hS q0 q1 t0 t1 he0 he1 ht0 ht1 rfl h1 h2 h3 h4 h5 (fun i _ => sg_fitI _) hd1 (by
    have e1 : nativeFrameWords "java/lang/System" "arraycopy" 5 + 11 ≤ 50 := by decide +kernel
    have e2 : (sg_rm d).locals = 64 * d := rfl
    omega) hdg (fun H1 l1 hP1 hD1 hS1 => k p e s m args below meth c A H1 l1 ls hC hl (by rw [← hz]; exact hP1) (by rw [← hz]; exact hD1) hS1)
theorem sg_mmax {ix : Nat} {x0 y0 : Int32} (hdg : decode cc pc = .ok (.invokestatic ix, 3)) (hn : pc + 3 = pn) (hw : Cond.methodLink y.cls ix Lib.Math.max.name ∈ sg_tbl) (hw2 : Cond.static Lib.Math.max.name ∈ sg_tbl ∧ Cond.initialized "java/lang/Math" ∈ sg_tbl ∧ Cond.code Lib.Math.max.name Lib.Math.max.code 2 (some .int) ∈ sg_tbl) (hd1 : 1 ≤ d) (hst : (st.map fun v => v.category).sum ≤ 8) (k : sg_G E y cc nL ret d pn lv (.int (sg_max x0 y0) :: st) z Q) : sg_G E y cc nL ret d pc lv (.int y0 :: .int x0 :: st) z Q := by
  subst hn
  exact fun p e s m args below meth c A H locs ls hC hl hP hD hS => va_mmax hC.1 hC.2.1 (hC.2.2.2.2.2.1.trans hl.1.symm) hC.2.2.1 (hC.2.2.2.1 _ hw) (hC.2.2.2.1 _ hw2.1) (hC.2.2.2.1 _ hw2.2.1) (hC.2.2.2.1 _ hw2.2.2) hd1 (by
    have e2 : (sg_rm d).locals = 64 * d := rfl
    omega) (Nat.zero_le _) (Nat.zero_le _) hdg (k p e s m args below meth c A H locs ls hC hl hP hD hS)
theorem sg_mmin {ix : Nat} {x0 y0 : Int32} (hdg : decode cc pc = .ok (.invokestatic ix, 3)) (hn : pc + 3 = pn) (hw : Cond.methodLink y.cls ix Lib.Math.min.name ∈ sg_tbl) (hw2 : Cond.static Lib.Math.min.name ∈ sg_tbl ∧ Cond.initialized "java/lang/Math" ∈ sg_tbl ∧ Cond.code Lib.Math.min.name Lib.Math.min.code 2 (some .int) ∈ sg_tbl) (hd1 : 1 ≤ d) (hst : (st.map fun v => v.category).sum ≤ 8) (k : sg_G E y cc nL ret d pn lv (.int (sg_min x0 y0) :: st) z Q) : sg_G E y cc nL ret d pc lv (.int y0 :: .int x0 :: st) z Q := by
  subst hn
  exact fun p e s m args below meth c A H locs ls hC hl hP hD hS => va_mmin hC.1 hC.2.1 (hC.2.2.2.2.2.1.trans hl.1.symm) hC.2.2.1 (hC.2.2.2.1 _ hw) (hC.2.2.2.1 _ hw2.1) (hC.2.2.2.1 _ hw2.2.1) (hC.2.2.2.1 _ hw2.2.2) hd1 (by
    have e2 : (sg_rm d).locals = 64 * d := rfl
    omega) (Nat.zero_le _) (Nat.zero_le _) hdg (k p e s m args below meth c A H locs ls hC hl hP hD hS)
theorem sg_mabs {ix : Nat} {x0 : Int32} (hdg : decode cc pc = .ok (.invokestatic ix, 3)) (hn : pc + 3 = pn) (hw : Cond.methodLink y.cls ix Lib.Math.abs.name ∈ sg_tbl) (hw2 : Cond.static Lib.Math.abs.name ∈ sg_tbl ∧ Cond.initialized "java/lang/Math" ∈ sg_tbl ∧ Cond.code Lib.Math.abs.name Lib.Math.abs.code 1 (some .int) ∈ sg_tbl) (hd1 : 1 ≤ d) (hst : (st.map fun v => v.category).sum ≤ 8) (k : sg_G E y cc nL ret d pn lv (.int (sg_abs x0) :: st) z Q) : sg_G E y cc nL ret d pc lv (.int x0 :: st) z Q := by
  subst hn
  exact fun p e s m args below meth c A H locs ls hC hl hP hD hS => va_mabs hC.1 hC.2.1 (hC.2.2.2.2.2.1.trans hl.1.symm) hC.2.2.1 (hC.2.2.2.1 _ hw) (hC.2.2.2.1 _ hw2.1) (hC.2.2.2.1 _ hw2.2.1) (hC.2.2.2.1 _ hw2.2.2) hd1 (by
    have e2 : (sg_rm d).locals = 64 * d := rfl
    omega) (Nat.zero_le _) (Nat.zero_le _) hdg (k p e s m args below meth c A H locs ls hC hl hP hD hS)
end SG
/-- what the tables say of a call: the caller's class, the entry, the callee -/
def sg_kB (own : String) (ix : Nat) (y' : MethodName) (cc' : ByteArray) (nL' : Nat) (ret' : Option FieldType) (n : Nat) : Prop :=
  Cond.code y' cc' nL' ret' ∈ sg_tbl ∧ Cond.initialized y'.cls ∈ sg_tbl ∧ Cond.methodLink own ix y' ∈ sg_tbl ∧ (y'.cls ≠ "java/lang/invoke/MethodHandle" ∧ y'.cls ≠ "java/lang/invoke/VarHandle" ∧ (parseMethodDescriptor y'.desc).map (fun q => q.parameters.length) = some n) ∧ nL' ≤ 40
section SGC
variable {E : sg_E} {y : MethodName} {cc : ByteArray} {nL : Nat} {ret : Option FieldType} {d pc pn : Nat} {lv : List (Nat × Value)} {st : List Value} {z : sg_M} {Q : Option Value → sg_M → Prop}
variable {y' : MethodName} {cc' : ByteArray} {nL' n ix d' : Nat} {ret' : Option FieldType} {As rest : List Value} {v0 : Option Value} {z1 : sg_M}
theorem sg_blind {av : List Value} {sz : Nat} : FrameBlind (va_Pc av (fun U => U.heap.size = sz ∧ va_P E.2.1 vwCl (E.2.2.2 z) U.heap ∧ va_K E.2.1 vwCl E.2.2.1 U ∧ va_D (fun _ => True) (E.2.2.2 z))) :=
  fun a U g mk q => by obtain ⟨q0, q1, qP, qK, qD⟩ := q; exact ⟨q0, q1, qP, va_K.moved (u := U) (U := U.calling g mk a) (Vm.Alike.refl U.vm) qK, qD⟩
theorem sg_after {p : Program} {e : Env} {s : State} {m : MethodId} {args : Array Value} {below : List Frame} {meth : Method} {c : Code} {A : Nat → Prop} {H : Heap} {locs : List Loc} {ls : Array Slot} {a : Array Value} {st0 : List Value}
    (hr : va_Run p E.1 e (sg_rm d) s m args below meth c H locs 0 0 0 0 (F0 m pc ls st0) rest (sg_Q (sg_is v0 z1) (sg_B E (va_A (E.2.2.2 z) H.size)) (va_A (E.2.2.2 z) H.size) a) (va_A (E.2.2.2 z) H.size))
    (hC : sg_C E y cc nL ret p s m args meth c A) (hl : lv_has ls nL lv) (hP : va_P E.2.1 vwCl (E.2.2.2 z) H) (hD : va_D A (E.2.2.2 z)) (hS : va_S A s.heap H locs)
    (k : sg_G E y cc nL ret d (pc + 3) lv (v0.toList ++ rest) z1 Q) : W p E.1 e (sg_rm d) s m args below meth c H locs 0 0 (MQ below (sg_Q Q (sg_B E A) A) args s 0 0 A) (F0 m pc ls st0) := by
  intro T hT X
  obtain ⟨v, st₀, t, T', L, h0, X', hL, e1, e2, ⟨⟨v2, z2, hv, ⟨hq1, hq2⟩, hb1, hb2, hb3⟩, hz, hk⟩, st1⟩ := hr T hT X
  cases hv
  subst hq1; subst hq2
  rw [h0] at hz hk
  have hfree : ∀ q, va_A (E.2.2.2 z) H.size q → A q := by
    intro q hq
    rcases hq with ⟨k2, e3, h⟩ | h
    · exact hD.2 k2 _ h
    · exact hC.2.2.2.2.2.2.2.2 q (Nat.le_trans hS.1 h)
  obtain ⟨t2, a1, b1⟩ := k p e s m args below meth c A T'.heap (locs ++ L) ls hC hl (by rw [e1]; exact hb1) (hb3.weaken (fun k q _ h => hfree q.1 h))
    ⟨Nat.le_trans hS.1 (by rw [e1]; exact hz), fun q h1 h2 => by rw [e1, hk q (Nat.lt_of_lt_of_le h1 hS.1) (fun z9 => h2 (hfree q z9))]; exact hS.2.1 q h1 h2, fun q hq => by
      rcases List.mem_append.mp hq with h | h
      · exact hS.2.2 q h
      · exact hfree _ (hL q h)⟩ T' rfl X'
  exact ⟨t2, st1 t2 a1, b1⟩
theorem sg_callV {a ci : Nat} {fs : List Value} (q0 : Nat) (hdg : decode cc pc = .ok (.invokevirtual ix, 3)) (hn : pc + 3 = pn) (kw : sg_kB y.cls ix y' cc' nL' ret' n) (kv : Cond.instanceMethod y' ∈ sg_tbl ∧ Cond.selects y'.cls y' y' ∈ sg_tbl) (he : (E.2.2.2 z)[q0]? = some (a, .inr (ci, fs))) (hc : (vwCl[ci]?).map (fun q => q.1) = some y'.cls) (hd : d' + 1 ≤ d) (hM : sg_Met E y' cc' nL' ret' d' (.ref a :: As) z (sg_is v0 z1)) (hlen : As.length = n) (hst : st = As.reverse ++ .ref a :: rest) (hW : (rest.map fun v => v.category).sum ≤ 8)
    (k : sg_G E y cc nL ret d pn lv (v0.toList ++ rest) z1 Q) : sg_G E y cc nL ret d pc lv st z Q := by
  subst hn
  subst hst
  intro p e s m args below meth c A H locs ls hC hl hP hD hS
  obtain ⟨kc, ki, kl, kd, kn⟩ := kw
  have hts : ∀ w ∈ sg_ws y' cc' nL' ret', w.before args s = true := by
    intro w hw
    rcases List.mem_cons.mp hw with rfl | hw
    · exact hC.2.2.2.1 _ kc
    · exact hC.2.2.2.1 _ hw
  obtain ⟨q9, hq9, hq8⟩ : ∃ q : vw_C, vwCl[ci]? = some q ∧ q.1 = y'.cls := by
    cases hcc : vwCl[ci]? with
    | none => rw [hcc] at hc; cases hc
    | some q => rw [hcc] at hc; exact ⟨q, rfl, Option.some.inj hc⟩
  refine sg_after (pc := pc) (rest := rest) (va_runV (As := As) (rest := rest) (Ts := sg_ws y' cc' nL' ret') (nL := nL) ⟨hC.1, hC.2.1, hC.2.2.2.2.2.1, hC.2.2.1, hts⟩ (hM H.size) ⟨callB_of (Ts := sg_ws y' cc' nL' ret') n hts (sg_goodIn kc) rfl rfl rfl (hC.2.2.2.1 _ ki) (hC.2.2.2.1 _ kl) kd ⟨hd, ?_⟩, hC.2.2.2.1 _ kv.1, hC.2.2.2.1 _ kv.2⟩ ⟨sg_blind, ?_, fun U hU hW2 => ⟨rfl, by rw [hU], by rw [hU]; exact hP, va_K.moved hW2.alike hC.2.2.2.2.1, hD.weaken (fun _ _ _ _ => trivial)⟩⟩ rfl hlen hl.1 rfl (lv_room hW) hdg ⟨Nat.zero_le _, Nat.zero_le _⟩) hC hl hP hD hS k
  · show 8 + (nL' + 11) + 64 * d' ≤ 64 * d
    omega
  · have h := va_recv hC.2.2.2.2.1 hP (ci := ci) (q0 := q0) hq9 he
    rw [hq8] at h
    exact h
theorem sg_callS (hdg : decode cc pc = .ok (.invokestatic ix, 3)) (hn : pc + 3 = pn) (kw : sg_kB y.cls ix y' cc' nL' ret' n) (kv : Cond.static y' ∈ sg_tbl) (hd : d' + 1 ≤ d) (hM : sg_Met E y' cc' nL' ret' d' As z (sg_is v0 z1)) (hlen : As.length = n) (hst : st = As.reverse ++ rest) (hW : (rest.map fun v => v.category).sum ≤ 8)
    (k : sg_G E y cc nL ret d pn lv (v0.toList ++ rest) z1 Q) : sg_G E y cc nL ret d pc lv st z Q := by
  subst hn
  subst hst
  intro p e s m args below meth c A H locs ls hC hl hP hD hS
  obtain ⟨kc, ki, kl, kd, kn⟩ := kw
  have hts : ∀ w ∈ sg_ws y' cc' nL' ret', w.before args s = true := by
    intro w hw
    rcases List.mem_cons.mp hw with rfl | hw
    · exact hC.2.2.2.1 _ kc
    · exact hC.2.2.2.1 _ hw
  refine sg_after (pc := pc) (rest := rest) (va_runS (As := As) (rest := rest) (Ts := sg_ws y' cc' nL' ret') (nL := nL) ⟨hC.1, hC.2.1, hC.2.2.2.2.2.1, hC.2.2.1, hts⟩ (hM H.size) ⟨callB_of (Ts := sg_ws y' cc' nL' ret') n hts (sg_goodIn kc) rfl rfl rfl (hC.2.2.2.1 _ ki) (hC.2.2.2.1 _ kl) kd ⟨hd, ?_⟩, hC.2.2.2.1 _ kv⟩ ⟨sg_blind, fun U hU hW2 => ⟨rfl, by rw [hU], by rw [hU]; exact hP, va_K.moved hW2.alike hC.2.2.2.2.1, hD.weaken (fun _ _ _ _ => trivial)⟩⟩ rfl hlen hl.1 rfl (lv_room hW) hdg ⟨Nat.zero_le _, Nat.zero_le _⟩) hC hl hP hD hS k
  show 8 + (nL' + 11) + 64 * d' ≤ 64 * d
  omega
end SGC
theorem sg_in_vp {i : Int32} {n : Nat} (h : sg_in i n = true) : vp_in i n := by
  simp only [sg_in, Bool.and_eq_true, decide_eq_true_eq] at h
  intro q
  rcases q with q | q
  · exact h.1 q
  · omega
theorem sg_nb {c : Prop} [Decidable c] : narrow .boolean (.int (if c then 1 else 0)) = .int (if c then 1 else 0) := by split <;> rfl
theorem sg_nb' {c : Prop} [Decidable c] : narrow .boolean (.int (if c then 0 else 1)) = .int (if c then 0 else 1) := by split <;> rfl
theorem sg_bool_n {v : Int32} (h : sg_bool v = true) : narrow .boolean (.int v) = .int v := by
  simp only [sg_bool, Bool.or_eq_true, decide_eq_true_eq] at h
  rcases h with rfl | rfl <;> rfl

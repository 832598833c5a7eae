/-! constructors: worlds that grow -/
def sn_isN : Cond → Bool
  | .methodLinkNest .. => true
  | _ => false
def sn_nest : List Cond := lw_tbl.filter sn_isN
def sn_K (D : va_G) (tys : List (ClassId × FieldType)) (U : State) : Prop := va_K D vwCl tys U ∧ ∀ w ∈ sn_nest, va_Nw w U
def sn_rm (d mc ms : Nat) : Room := { frames := d, cells := mc, slots := ms, locals := 64 * d }
def sn_Q (D : va_G) (Post : va_W → Prop) (A : Nat → Prop) : Array Value → State → Outcome → State → Prop := fun _ st oc t => (∃ w : va_W, oc = .returned none ∧ Post w ∧ va_P D vwCl w t.heap ∧ va_D A w) ∧ va_F A st t
def sn_Met (l : Launch) (D : va_G) (tys : List (ClassId × FieldType)) (y : MethodName) (cc : ByteArray) (nL d : Nat) (av : List Value) (ws : va_W) (Post : va_W → Prop) (mc ms : Nat) : Prop :=
  ∀ sz : Nat, Met l y (sg_ws y cc nL none) (sn_rm d mc ms) (va_Pc av (fun U => U.heap.size = sz ∧ va_P D vwCl ws U.heap ∧ sn_K D tys U ∧ va_D (fun _ => True) ws)) (sn_Q D Post (va_A ws sz)) mc ms (va_A ws sz)
def sn_C (D : va_G) (tys : List (ClassId × FieldType)) (y : MethodName) (cc : ByteArray) (nL : Nat) (p : Program) (s : State) (m : MethodId) (args : Array Value) (meth : Method) (c : Code) (A : Nat → Prop) : Prop :=
  p.tables.exec = Jvm.exec ∧ c.code = cc ∧ s.vm.findClass y.cls = some m.cls ∧ (∀ w ∈ sg_tbl, w.before args s = true) ∧ sn_K D tys s ∧ c.maxLocals = nL ∧ meth.sig.returnType = none ∧ meth.locks = false ∧ meth.name = y.name ∧ ∀ q : Nat, s.heap.size ≤ q → A q
def sn_G (l : Launch) (D : va_G) (tys : List (ClassId × FieldType)) (y : MethodName) (cc : ByteArray) (nL d : Nat) (pc : Nat) (lv : List (Nat × Value)) (st : List Value) (ws : va_W) (kc ks : Nat) (Post : va_W → Prop) (mc ms : Nat) : Prop :=
  ∀ (p : Program) (e : Env) (s : State) (m : MethodId) (args : Array Value) (below : List Frame) (meth : Method) (c : Code) (A : Nat → Prop) (H : Heap) (locs : List Loc) (ls : Array Slot), sn_C D tys y cc nL p s m args meth c A → lv_has ls nL lv → va_P D vwCl ws H → va_D A ws → va_S A s.heap H locs → W p l e (sn_rm d mc ms) s m args below meth c H locs kc ks (MQ below (sn_Q D Post A) args s mc ms A) (F0 m pc ls st)
theorem sn_K.warm {D : va_G} {tys : List (ClassId × FieldType)} {s U : State} (hW : s.WarmedH U.vm) (h : sn_K D tys s) : sn_K D tys U := by
  refine ⟨va_K.moved hW.alike h.1, fun w hw => ?_⟩
  have h1 := h.2 w hw
  have h2 := (List.mem_filter.mp hw).2
  cases w <;> first | (simp [sn_isN] at h2; done) | exact va_Nw.warmM hW h1
theorem sn_K.vm {D : va_G} {tys : List (ClassId × FieldType)} {s U : State} (hv : s.vm = U.vm) (h : sn_K D tys s) : sn_K D tys U := by
  refine ⟨va_K.moved (by rw [hv]; exact Vm.Alike.refl _) h.1, fun w hw => ?_⟩
  have h1 := h.2 w hw
  have h2 := (List.mem_filter.mp hw).2
  cases w <;> first | (simp [sn_isN] at h2; done) | exact va_Nw.same rfl hv h1
def va_RA_name (D : va_G) (cI cZ cA : ClassId) (ty : FieldType) : Prop := ∀ U : State, va_K D vwCl [(cI, .int), (cZ, .boolean)] U → U.vm.findClass ("[" ++ ty.toString) = some cA
theorem sn_nI {D : va_G} {cI cZ : ClassId} : va_RA_name D cI cZ cI .int := fun _ h => (h.2 0 _ rfl).2
theorem sn_nZ {D : va_G} {cI cZ : ClassId} : va_RA_name D cI cZ cZ .boolean := fun _ h => (h.2 1 _ rfl).2
section SN
variable {l : Launch} {D : va_G} {cI cZ : ClassId} {y : MethodName} {cc : ByteArray} {nL d pc pn : Nat} {lv : List (Nat × Value)} {st : List Value} {ws : va_W} {kc ks : Nat} {Post : va_W → Prop} {mc ms : Nat}
theorem sn_enter {av : List Value} {lv0 : List (Nat × Value)} (hy : plainName y.cls = true) (hlen : (lg_sl av).length ≤ nL) (hlv : lv_args 0 av = lv0) (k : sn_G l D [(cI, .int), (cZ, .boolean)] y cc nL d 0 lv0 [] ws 0 0 Post mc ms) : sn_Met l D [(cI, .int), (cZ, .boolean)] y cc nL d av ws Post mc ms := by
  subst hlv
  intro sz
  refine Met.ofW (cc := cc) (maxL := nL) (ret := none) hy rfl ?_
  intro p e s m args below meth c s₁ B hml hv
  obtain ⟨rfl, hsz, hP, hK, hD0⟩ := hv
  have hts := atoms_spec (ws := sg_ws y cc nL none) B.pre
  subst hsz
  rw [lg_entry_eq]
  exact k p e s m _ below meth c (va_A ws s.heap.size) s.heap [] _ ⟨B.exec, B.bytes, findClass_of_methodNamed B.named, fun w hw => hts w (List.mem_cons_of_mem _ hw), hK, hml, B.returns, B.notSynchronized, (name_of_methodNamed B.named B.method).1, fun q h => Or.inr h⟩ (lv_entry av hlen) hP hD0.self va_S.rf
theorem sn_iconst {n0 : Int} {v : Int32} (hdg : decode cc pc = .ok (.iconst n0, 1)) (hn : pc + 1 = pn) (hv : Int32.ofInt n0 = v) (k : sn_G l D [(cI, .int), (cZ, .boolean)] y cc nL d pn lv (.int v :: st) ws kc ks Post mc ms) : sn_G l D [(cI, .int), (cZ, .boolean)] y cc nL d pc lv (st) ws kc ks Post mc ms := by
  subst hn
  exact fun p e s m args below meth c A H locs ls hC hl hP hD hS => lv_iconst hC.1 hC.2.1 hdg hv (k p e s m args below meth c A H locs ls hC hl hP hD hS)
theorem sn_bipush {n0 : Int} {v : Int32} (hdg : decode cc pc = .ok (.bipush n0, 2)) (hn : pc + 2 = pn) (hv : (Int8.ofInt n0).toInt32 = v) (k : sn_G l D [(cI, .int), (cZ, .boolean)] y cc nL d pn lv (.int v :: st) ws kc ks Post mc ms) : sn_G l D [(cI, .int), (cZ, .boolean)] y cc nL d pc lv (st) ws kc ks Post mc ms := by
  subst hn
  exact fun p e s m args below meth c A H locs ls hC hl hP hD hS => lv_bipush hC.1 hC.2.1 hdg hv (k p e s m args below meth c A H locs ls hC hl hP hD hS)
theorem sn_sipush {n0 : Int} {v : Int32} (hdg : decode cc pc = .ok (.sipush n0, 3)) (hn : pc + 3 = pn) (hv : (Int16.ofInt n0).toInt32 = v) (k : sn_G l D [(cI, .int), (cZ, .boolean)] y cc nL d pn lv (.int v :: st) ws kc ks Post mc ms) : sn_G l D [(cI, .int), (cZ, .boolean)] y cc nL d pc lv (st) ws kc ks Post mc ms := by
  subst hn
  exact fun p e s m args below meth c A H locs ls hC hl hP hD hS => lv_sipush hC.1 hC.2.1 hdg hv (k p e s m args below meth c A H locs ls hC hl hP hD hS)
theorem sn_dup {va : Value} (hdg : decode cc pc = .ok (.dup, 1)) (hn : pc + 1 = pn) (hva : va.category = 1) (k : sn_G l D [(cI, .int), (cZ, .boolean)] y cc nL d pn lv (va :: va :: st) ws kc ks Post mc ms) : sn_G l D [(cI, .int), (cZ, .boolean)] y cc nL d pc lv (va :: st) ws kc ks Post mc ms := by
  subst hn
  exact fun p e s m args below meth c A H locs ls hC hl hP hD hS => lv_dup hC.1 hC.2.1 hdg hva (k p e s m args below meth c A H locs ls hC hl hP hD hS)
theorem sn_iload_n {k1 : Fin 4} {i : Nat} {x0 : Int32} (hdg : decode cc pc = .ok (.iload_n k1, 1)) (hn : pc + 1 = pn) (hi : (k1 : Nat) = i) (k0 : Nat) (hk : lv[k0]? = some (i, .int x0)) (k : sn_G l D [(cI, .int), (cZ, .boolean)] y cc nL d pn lv (.int x0 :: st) ws kc ks Post mc ms) : sn_G l D [(cI, .int), (cZ, .boolean)] y cc nL d pc lv (st) ws kc ks Post mc ms := by
  subst hn
  exact fun p e s m args below meth c A H locs ls hC hl hP hD hS => lv_iload_n hC.1 hC.2.1 hdg hi (lv_at hl k0 hk) (k p e s m args below meth c A H locs ls hC hl hP hD hS)
theorem sn_iload {i : Nat} {x0 : Int32} (hdg : decode cc pc = .ok (.iload i, 2)) (hn : pc + 2 = pn) (k0 : Nat) (hk : lv[k0]? = some (i, .int x0)) (k : sn_G l D [(cI, .int), (cZ, .boolean)] y cc nL d pn lv (.int x0 :: st) ws kc ks Post mc ms) : sn_G l D [(cI, .int), (cZ, .boolean)] y cc nL d pc lv (st) ws kc ks Post mc ms := by
  subst hn
  exact fun p e s m args below meth c A H locs ls hC hl hP hD hS => lv_iload hC.1 hC.2.1 hdg (lv_at hl k0 hk) (k p e s m args below meth c A H locs ls hC hl hP hD hS)
theorem sn_aload_n {k1 : Fin 4} {i : Nat} {x0 : Nat} (hdg : decode cc pc = .ok (.aload_n k1, 1)) (hn : pc + 1 = pn) (hi : (k1 : Nat) = i) (k0 : Nat) (hk : lv[k0]? = some (i, .ref x0)) (k : sn_G l D [(cI, .int), (cZ, .boolean)] y cc nL d pn lv (.ref x0 :: st) ws kc ks Post mc ms) : sn_G l D [(cI, .int), (cZ, .boolean)] y cc nL d pc lv (st) ws kc ks Post mc ms := by
  subst hn
  exact fun p e s m args below meth c A H locs ls hC hl hP hD hS => lv_aload_n hC.1 hC.2.1 hdg hi (lv_at hl k0 hk) (k p e s m args below meth c A H locs ls hC hl hP hD hS)
theorem sn_aload {i : Nat} {x0 : Nat} (hdg : decode cc pc = .ok (.aload i, 2)) (hn : pc + 2 = pn) (k0 : Nat) (hk : lv[k0]? = some (i, .ref x0)) (k : sn_G l D [(cI, .int), (cZ, .boolean)] y cc nL d pn lv (.ref x0 :: st) ws kc ks Post mc ms) : sn_G l D [(cI, .int), (cZ, .boolean)] y cc nL d pc lv (st) ws kc ks Post mc ms := by
  subst hn
  exact fun p e s m args below meth c A H locs ls hC hl hP hD hS => lv_aload hC.1 hC.2.1 hdg (lv_at hl k0 hk) (k p e s m args below meth c A H locs ls hC hl hP hD hS)
theorem sn_istore_n {k1 : Fin 4} {i : Nat} {x0 : Int32} {lv' : List (Nat × Value)} (hdg : decode cc pc = .ok (.istore_n k1, 1)) (hn : pc + 1 = pn) (hi : (k1 : Nat) = i) (hb : i < nL) (kp : List Nat) (hl0 : lv_pick ((i, Value.int x0) :: lv.filter (fun q => !(q.1 == i) && !(q.1 + 1 == i && q.2.category == 2))) kp = lv') (k : sn_G l D [(cI, .int), (cZ, .boolean)] y cc nL d pn lv' st ws kc ks Post mc ms) : sn_G l D [(cI, .int), (cZ, .boolean)] y cc nL d pc lv (.int x0 :: st) ws kc ks Post mc ms := by
  subst hn
  exact fun p e s m args below meth c A H locs ls hC hl hP hD hS => lv_istore_n hC.1 hC.2.1 hdg hi hl hb rfl (fun ls2 hl2 => k p e s m args below meth c A H locs ls2 hC (lv_sub hl2 kp hl0) hP hD hS)
theorem sn_mmax {ix : Nat} {x0 y0 : Int32} (hdg : decode cc pc = .ok (.invokestatic ix, 3)) (hn : pc + 3 = pn) (hw : Cond.methodLink y.cls ix Lib.Math.max.name ∈ sg_tbl) (hd1 : 1 ≤ d) (hst : (st.map fun v => v.category).sum ≤ 8) (hkc : kc ≤ mc) (hks : ks ≤ ms) (k : sn_G l D [(cI, .int), (cZ, .boolean)] y cc nL d pn lv (.int (sg_max x0 y0) :: st) ws kc ks Post mc ms) : sn_G l D [(cI, .int), (cZ, .boolean)] y cc nL d pc lv (.int y0 :: .int x0 :: st) ws kc ks Post mc ms := by
  subst hn
  exact fun p e s m args below meth c A H locs ls hC hl hP hD hS => va_mmax hC.1 hC.2.1 (hC.2.2.2.2.2.1.trans hl.1.symm) hC.2.2.1 (hC.2.2.2.1 _ hw) (hC.2.2.2.1 _ sg_mw_max.1) (hC.2.2.2.1 _ sg_mw_max.2.1) (hC.2.2.2.1 _ sg_mw_max.2.2) hd1 (by
    have e2 : (sn_rm d mc ms).locals = 64 * d := rfl
    omega) hkc hks hdg (k p e s m args below meth c A H locs ls hC hl hP hD hS)
theorem sn_obj {ix a : Nat} (hdg : decode cc pc = .ok (.invokespecial ix, 3)) (hn : pc + 3 = pn) (hw : Cond.methodLink y.cls ix Lib.objectInit ∈ sg_tbl) (hw2 : Cond.instanceMethod Lib.objectInit ∈ sg_tbl ∧ Cond.code Lib.objectInit ⟨#[0xb1]⟩ 1 none ∈ sg_tbl) (hd1 : 1 ≤ d) (hst : (st.map fun v => v.category).sum ≤ 8) (k : sn_G l D [(cI, .int), (cZ, .boolean)] y cc nL d pn lv st ws kc ks Post mc ms) : sn_G l D [(cI, .int), (cZ, .boolean)] y cc nL d pc lv (.ref a :: st) ws kc ks Post mc ms := by
  subst hn
  exact fun p e s m args below meth c A H locs ls hC hl hP hD hS => W.objInit hC.1 hC.2.1 hC.2.2.1 (hC.2.2.2.1 _ hw) (hC.2.2.2.1 _ hw2.1) (hC.2.2.2.1 _ hw2.2) rfl (by rw [hC.2.2.2.2.2.1]; exact hl.1) rfl hdg hd1 (by
    have e2 : (sn_rm d mc ms).locals = 64 * d := rfl
    have e3 := lv_room (m := m) (pc := pc) (ls := ls) (rest := .ref a :: st) hst
    omega) (W.eq (g2 := F0 m (pc + 3) ls st) rfl (k p e s m args below meth c A H locs ls hC hl hP hD hS))
theorem sn_new {C : String} {T : u_T} {N ci ix : Nat} {fs : List Value} (hdg : decode cc pc = .ok (.new ix, 3)) (hn : pc + 3 = pn) (hin : ∀ w ∈ u_ws C T N, w ∈ sg_tbl) (ty : Nat → FieldType) (hty : ∀ k, k < N → parseFieldDescriptor (T k).2.2.1 = some (ty k)) (hw : Cond.classLink y.cls ix C ∈ sg_tbl) (hw2 : Cond.instantiable C N ∈ sg_tbl ∧ Cond.initialized C ∈ sg_tbl) (hc : vwCl[ci]? = some (C, T, N)) (hfs : ∀ j, j < N → defaultValue (ty j) = vp_V fs j) (hkc : kc + 1 ≤ mc) (hks : ks + N ≤ ms) (k : ∀ q : Nat, sn_G l D [(cI, .int), (cZ, .boolean)] y cc nL d pn lv (.ref q :: st) (ws ++ [(q, .inr (ci, fs))]) (kc + 1) (ks + N) Post mc ms) : sn_G l D [(cI, .int), (cZ, .boolean)] y cc nL d pc lv st ws kc ks Post mc ms := by
  subst hn
  exact fun p e s m args below meth c A H locs ls hC hl hP hD hS => va_new hC.1 hC.2.1 hC.2.2.2.1 hin ty hty hC.2.2.1 (hC.2.2.2.1 _ hw) (hC.2.2.2.1 _ hw2.1) (hC.2.2.2.1 _ hw2.2) hC.2.2.2.2.1.1 hP hD hS hC.2.2.2.2.2.2.2.2.2 hc hfs hkc hks hdg (fun q H1 hP1 hD1 hS1 => k q p e s m args below meth c A H1 locs ls hC hl hP1 hD1 hS1)
theorem sn_newa {atype : ArrayType} {n : Int32} {N : Nat} {cA : ClassId} {ty : FieldType} (hdg : decode cc pc = .ok (.newarray atype, 2)) (hn : pc + 2 = pn) (harr : Cond.arrayClass (newarray.typeOf atype) ∈ sg_tbl) (hty : newarray.typeOf atype = ty) (hdf : defaultValue ty = .int 0) (hcA : va_RA_name D cI cZ cA ty) (h0 : ¬ n < 0) (hN : n.toNatClampNeg = N) (hby : N * componentBytes ty ≤ 536870912) (hkc : kc + 1 ≤ mc) (hks : ks + N ≤ ms) (k : ∀ q : Nat, sn_G l D [(cI, .int), (cZ, .boolean)] y cc nL d pn lv (.ref q :: st) (ws ++ [(q, .inl (cA, N, .inl (fun _ => 0)))]) (kc + 1) (ks + N) Post mc ms) : sn_G l D [(cI, .int), (cZ, .boolean)] y cc nL d pc lv (.int n :: st) ws kc ks Post mc ms := by
  subst hn
  subst hty
  intro p e s m args below meth c A H locs ls hC hl hP hD hS
  refine va_newaK hC.1 hC.2.1 (hC.2.2.2.1 _ harr) rfl hdg rfl h0 hN hby hkc hks rfl fun H1 cB e1 z1 o1 hAr hNm => ?_
  have hcB : cB = cA := by
    have h9 := hcA s hC.2.2.2.2.1.1
    rw [h9] at hNm
    exact (Option.some.inj hNm).symm
  subst hcB
  have hk : ∀ (k : Nat) (x : Nat × va_E), ws[k]? = some x → H1[x.1]? = H[x.1]? := fun k x hx => o1 x.1 ((hP k x hx).lt)
  refine k H.size p e s m args below meth c A H1 locs ls hC hl ((hP.kept hk).app (fun k x hx => ?_)) (hD.push hP rfl (hC.2.2.2.2.2.2.2.2.2 _ hS.1)) ⟨Nat.le_trans hS.1 (by omega), fun x h1 h2 => (o1 x (Nat.lt_of_lt_of_le h1 hS.1)).trans (hS.2.1 x h1 h2), hS.2.2⟩
  have hz : k < 1 := (List.getElem?_eq_some_iff.mp hx).1
  rw [show k = 0 by omega] at hx
  cases hx
  show H1[H.size]? = some (vp_cell _ _)
  rw [vp_cell_i, e1, hdf]
theorem sn_get {a ci ix N : Nat} {C rf : String} {T : u_T} {fs : List Value} {v : Value} (q0 k0 : Nat) (hdg : decode cc pc = .ok (.getfield ix, 3)) (hn : pc + 3 = pn) (hin : ∀ w ∈ u_ws C T N, w ∈ sg_tbl) (he : ws[q0]? = some (a, .inr (ci, fs))) (hc : vwCl[ci]? = some (C, T, N)) (hk : k0 < N) (hw : Cond.fieldLink y.cls ix rf (T k0).2.1 (T k0).2.2.1 ∈ sg_tbl) (hs : rf = (T k0).1) (hv : fs[k0]? = some v) (k : sn_G l D [(cI, .int), (cZ, .boolean)] y cc nL d pn lv (v :: st) ws kc ks Post mc ms) : sn_G l D [(cI, .int), (cZ, .boolean)] y cc nL d pc lv (.ref a :: st) ws kc ks Post mc ms := by
  subst hn
  exact fun p e s m args below meth c A H locs ls hC hl hP hD hS => va_get (D := D) hC.1 hC.2.1 hC.2.2.2.1 hin hC.2.2.1 hC.2.2.2.2.1.1 hP q0 he hc k0 hk (hC.2.2.2.1 _ hw) (fun _ h9 => by rw [hs]; exact h9) hv hdg (k p e s m args below meth c A H locs ls hC hl hP hD hS)
theorem sn_put {a ci ix N : Nat} {C rf : String} {T : u_T} {fs : List Value} {v : Value} {ty : FieldType} {ws2 : va_W} (q0 k0 : Nat) (hdg : decode cc pc = .ok (.putfield ix, 3)) (hn : pc + 3 = pn) (hin : ∀ w ∈ u_ws C T N, w ∈ sg_tbl) (ty0 : Nat → FieldType) (hty : ∀ k, k < N → parseFieldDescriptor (T k).2.2.1 = some (ty0 k)) (hnm : ∀ a, a < N → ∀ b, b < N → a ≠ b → (T a).2.1 ≠ (T b).2.1) (he : ws[q0]? = some (a, .inr (ci, fs))) (hc : vwCl[ci]? = some (C, T, N)) (hk : k0 < N) (hw : Cond.fieldLink y.cls ix rf (T k0).2.1 (T k0).2.2.1 ∈ sg_tbl) (hs : rf = (T k0).1) (hfin : (T k0).2.2.2 = false) (hd0 : parseFieldDescriptor (T k0).2.2.1 = some ty) (hnr : narrow ty v = v) (hft : fits ty v = true) (hl1 : k0 < fs.length) (hz : ws.set q0 (a, .inr (ci, fs.set k0 v)) = ws2) (k : sn_G l D [(cI, .int), (cZ, .boolean)] y cc nL d pn lv st ws2 kc ks Post mc ms) : sn_G l D [(cI, .int), (cZ, .boolean)] y cc nL d pc lv (v :: .ref a :: st) ws kc ks Post mc ms := by
  subst hn
  subst hz
  exact fun p e s m args below meth c A H locs ls hC hl hP hD hS => va_put (D := D) hC.1 hC.2.1 hC.2.2.2.1 hin ty0 hty hnm hC.2.2.1 hC.2.2.2.2.1.1 hP hD hS q0 he hc k0 hk (hC.2.2.2.1 _ hw) (fun _ h9 => by rw [hs]; exact h9) hfin hd0 hnr hft hl1 hdg (fun H1 l1 hP1 hD1 hS1 => k p e s m args below meth c A H1 l1 ls hC hl hP1 hD1 hS1)
theorem sn_putF {a ci ix N : Nat} {C rf : String} {T : u_T} {fs : List Value} {v : Value} {ty : FieldType} {ws2 : va_W} (q0 k0 : Nat) (hyn : y.name = "<init>") (hdg : decode cc pc = .ok (.putfield ix, 3)) (hn : pc + 3 = pn) (hin : ∀ w ∈ u_ws C T N, w ∈ sg_tbl) (ty0 : Nat → FieldType) (hty : ∀ k, k < N → parseFieldDescriptor (T k).2.2.1 = some (ty0 k)) (hnm : ∀ a, a < N → ∀ b, b < N → a ≠ b → (T a).2.1 ≠ (T b).2.1) (he : ws[q0]? = some (a, .inr (ci, fs))) (hc : vwCl[ci]? = some (C, T, N)) (hk : k0 < N) (hw : Cond.fieldLink y.cls ix rf (T k0).2.1 (T k0).2.2.1 ∈ sg_tbl) (hs : rf = (T k0).1) (hdc : (T k0).1 = y.cls) (hfin : (T k0).2.2.2 = true) (hd0 : parseFieldDescriptor (T k0).2.2.1 = some ty) (hnr : narrow ty v = v) (hft : fits ty v = true) (hl1 : k0 < fs.length) (hz : ws.set q0 (a, .inr (ci, fs.set k0 v)) = ws2) (k : sn_G l D [(cI, .int), (cZ, .boolean)] y cc nL d pn lv st ws2 kc ks Post mc ms) : sn_G l D [(cI, .int), (cZ, .boolean)] y cc nL d pc lv (v :: .ref a :: st) ws kc ks Post mc ms := by
  subst hn
  subst hz
  exact fun p e s m args below meth c A H locs ls hC hl hP hD hS => va_putF (D := D) hC.1 hC.2.1 hC.2.2.2.1 hin ty0 hty hnm hC.2.2.1 hC.2.2.2.2.1.1 hP hD hS q0 he hc k0 hk (hC.2.2.2.1 _ hw) (fun _ h9 => by rw [hs]; exact h9) hfin (hC.2.2.2.2.2.2.2.2.1.trans hyn) hdc hd0 hnr hft hl1 hdg (fun H1 l1 hP1 hD1 hS1 => k p e s m args below meth c A H1 l1 ls hC hl hP1 hD1 hS1)
theorem sn_ret (hdg : decode cc pc = .ok (.return_, 1)) (hkc : kc = mc) (hks : ks = ms) (hq : Post ws) : sn_G l D [(cI, .int), (cZ, .boolean)] y cc nL d pc lv [] ws kc ks Post mc ms := by
  subst hkc
  subst hks
  exact fun p e s m args below meth c A H locs ls hC hl hP hD hS => W.vret hC.1 hC.2.1 hC.2.2.2.2.2.2.1 (fun t ht hW => ⟨⟨ws, rfl, hq, by rw [ht]; exact hP, hD⟩, hS.F ht⟩) hS.2.2 hdg (hlocks := hC.2.2.2.2.2.2.2.1)
theorem sn_sub {ws2 : va_W} (is : List Nat) (hnd : va_nd is = true) (hR1 : is.filterMap (fun i => ws[i]?) = ws2) (hR : is.map (fun i => ws[i]?) = ws2.map some) (k : sn_G l D [(cI, .int), (cZ, .boolean)] y cc nL d pc lv st ws2 kc ks Post mc ms) : sn_G l D [(cI, .int), (cZ, .boolean)] y cc nL d pc lv st ws kc ks Post mc ms :=
  fun p e s m args below meth c A H locs ls hC hl hP hD hS => k p e s m args below meth c A H locs ls hC hl (hP.sub is hR1) (hD.sub is hnd hR) hS
variable {y' : MethodName} {cc' : ByteArray} {nL' n ix d' mc' ms' : Nat} {As rest : List Value} {Post' : va_W → Prop} {wo : va_W} {a : Nat} {x : va_E}
theorem sn_after {p : Program} {e : Env} {s : State} {m : MethodId} {args : Array Value} {below : List Frame} {meth : Method} {c : Code} {A : Nat → Prop} {H : Heap} {locs : List Loc} {ls : Array Slot} {a9 : Array Value} {st0 : List Value}
    (hr : va_Run p l e (sn_rm d mc ms) s m args below meth c H locs kc ks mc' ms' (F0 m pc ls st0) rest (sn_Q D Post' (va_A [(a, x)] H.size) a9) (va_A [(a, x)] H.size))
    (hC : sn_C D [(cI, .int), (cZ, .boolean)] y cc nL p s m args meth c A) (hl : lv_has ls nL lv) (hP : va_P D vwCl (wo ++ [(a, x)]) H) (hD : va_D A (wo ++ [(a, x)])) (hS : va_S A s.heap H locs)
    (k : ∀ w1, Post' w1 → sn_G l D [(cI, .int), (cZ, .boolean)] y cc nL d (pc + 3) lv rest (wo ++ w1) (kc + mc') (ks + ms') Post mc ms) : W p l e (sn_rm d mc ms) s m args below meth c H locs kc ks (MQ below (sn_Q D Post A) args s mc ms A) (F0 m pc ls st0) := by
  intro T hT X
  obtain ⟨v, st₀, t, T', L, h0, X', hL, e1, e2, ⟨⟨w1, hv, hq, hb1, hb3⟩, hz, hk⟩, st1⟩ := hr T hT X
  cases hv
  rw [h0] at hz hk
  have hin : (wo ++ [(a, x)])[wo.length]? = some (a, x) := by simp
  have hfree : ∀ q, va_A [(a, x)] H.size q → A q := by
    intro q hq
    rcases hq with ⟨k2, e3, h⟩ | h
    · have hz2 : k2 < 1 := (List.getElem?_eq_some_iff.mp h).1
      rw [show k2 = 0 by omega] at h
      cases h
      exact hD.2 wo.length _ hin
    · exact hC.2.2.2.2.2.2.2.2.2 q (Nat.le_trans hS.1 h)
  have hk' : ∀ q : Nat, q < H.size → ¬ va_A [(a, x)] H.size q → T'.heap[q]? = H[q]? := fun q h1 h2 => by rw [e1]; exact hk q h1 h2
  have hnotin : ∀ (i : Nat) (q : Nat × va_E), wo[i]? = some q → q.1 < H.size ∧ ¬ va_A [(a, x)] H.size q.1 := by
    intro i q hq
    have hi : i < wo.length := (List.getElem?_eq_some_iff.mp hq).1
    have hq2 : (wo ++ [(a, x)])[i]? = some q := by rw [List.getElem?_append_left hi]; exact hq
    have hlt := (hP i q hq2).lt
    refine ⟨hlt, fun h => ?_⟩
    rcases h with ⟨k2, e3, h⟩ | h
    · have hz2 : k2 < 1 := (List.getElem?_eq_some_iff.mp h).1
      rw [show k2 = 0 by omega] at h
      have ha : q.1 = a := by cases h; rfl
      have := hD.1 i wo.length q (a, x) hq2 hin ha
      omega
    · omega
  have hPo : va_P D vwCl wo T'.heap := fun i q hq => by
    have hi : i < wo.length := (List.getElem?_eq_some_iff.mp hq).1
    have hq2 : (wo ++ [(a, x)])[i]? = some q := by rw [List.getElem?_append_left hi]; exact hq
    exact (hP i q hq2).kept (hk' q.1 (hnotin i q hq).1 (hnotin i q hq).2)
  have hDo : va_D A wo := ⟨fun i j p q h1 h2 h3 => by
    have hi : i < wo.length := (List.getElem?_eq_some_iff.mp h1).1
    have hj : j < wo.length := (List.getElem?_eq_some_iff.mp h2).1
    exact hD.1 i j p q (by rw [List.getElem?_append_left hi]; exact h1) (by rw [List.getElem?_append_left hj]; exact h2) h3, fun i q hq => by
    have hi : i < wo.length := (List.getElem?_eq_some_iff.mp hq).1
    exact hD.2 i q (by rw [List.getElem?_append_left hi]; exact hq)⟩
  obtain ⟨t2, a1, b1⟩ := k w1 hq p e s m args below meth c A T'.heap (locs ++ L) ls hC hl (hPo.app (by rw [e1]; exact hb1)) (va_D.app hDo (hb3.weaken (fun k q _ h => hfree q.1 h)) (fun i j p q h1 h2 h3 => (hnotin i p h1).2 (by rw [h3]; exact hb3.2 j q h2)))
    ⟨Nat.le_trans hS.1 (by rw [e1]; exact hz), fun q h1 h2 => by rw [e1, hk q (Nat.lt_of_lt_of_le h1 hS.1) (fun z9 => h2 (hfree q z9))]; exact hS.2.1 q h1 h2, fun q hq => by
      rcases List.mem_append.mp hq with h | h
      · exact hS.2.2 q h
      · exact hfree _ (hL q h)⟩ T' rfl X'
  exact ⟨t2, st1 t2 a1, b1⟩
theorem sn_blind {av : List Value} {sz : Nat} : FrameBlind (va_Pc av (fun U => U.heap.size = sz ∧ va_P D vwCl ws U.heap ∧ sn_K D [(cI, .int), (cZ, .boolean)] U ∧ va_D (fun _ => True) ws)) :=
  fun a U g mk q => by obtain ⟨q0, q1, qP, qK, qD⟩ := q; exact ⟨q0, q1, qP, sn_K.vm (s := U) (U := U.calling g mk a) rfl qK, qD⟩
theorem sn_last {H : Heap} (hP : va_P D vwCl (wo ++ [(a, x)]) H) : va_P D vwCl [(a, x)] H := fun k q hq => by
  have hz2 : k < 1 := (List.getElem?_eq_some_iff.mp hq).1
  rw [show k = 0 by omega] at hq
  cases hq
  exact hP wo.length _ (by simp)
theorem sn_lastD {A : Nat → Prop} : va_D (fun _ => True) [(a, x)] := ⟨fun i j p q h1 h2 _ => by
  have h3 : i < 1 := (List.getElem?_eq_some_iff.mp h1).1
  have h4 : j < 1 := (List.getElem?_eq_some_iff.mp h2).1
  omega, fun _ _ _ => trivial⟩
theorem sn_callI (hdg : decode cc pc = .ok (.invokespecial ix, 3)) (hn : pc + 3 = pn) (kw : sg_kB y.cls ix y' cc' nL' none n) (kv : Cond.instanceMethod y' ∈ sg_tbl) (hy1 : y'.name = "<init>") (hws : ws = wo ++ [(a, x)]) (hd : d' + 1 ≤ d) (hM : sn_Met l D [(cI, .int), (cZ, .boolean)] y' cc' nL' d' (.ref a :: As) [(a, x)] Post' mc' ms') (hlen : As.length = n) (hst : st = As.reverse ++ .ref a :: rest) (hW : (rest.map fun v => v.category).sum ≤ 8) (hkc : kc + mc' ≤ mc) (hks : ks + ms' ≤ ms)
    (k : ∀ w1, Post' w1 → sn_G l D [(cI, .int), (cZ, .boolean)] y cc nL d pn lv rest (wo ++ w1) (kc + mc') (ks + ms') Post mc ms) : sn_G l D [(cI, .int), (cZ, .boolean)] y cc nL d pc lv st ws kc ks Post mc ms := by
  subst hn
  subst hst
  subst hws
  intro p e s m args below meth c A H locs ls hC hl hP hD hS
  obtain ⟨kc1, ki, kl, kd, kn⟩ := kw
  have hts : ∀ w ∈ sg_ws y' cc' nL' none, w.before args s = true := by
    intro w hw
    rcases List.mem_cons.mp hw with rfl | hw
    · exact hC.2.2.2.1 _ kc1
    · exact hC.2.2.2.1 _ hw
  refine sn_after (pc := pc) (rest := rest) (va_runI (As := As) (rest := rest) (Ts := sg_ws y' cc' nL' none) (nL := nL) ⟨hC.1, hC.2.1, hC.2.2.2.2.2.1, hC.2.2.1, hts⟩ (hM H.size) ⟨callB_of (Ts := sg_ws y' cc' nL' none) n hts (sg_goodIn kc1) rfl rfl rfl (hC.2.2.2.1 _ ki) (hC.2.2.2.1 _ kl) kd ⟨hd, ?_⟩, hy1, hC.2.2.2.1 _ kv⟩ ⟨sn_blind, fun U hU hW2 => ⟨rfl, by rw [hU], by rw [hU]; exact sn_last hP, sn_K.warm hW2 hC.2.2.2.2.1, sn_lastD (A := A)⟩⟩ rfl hlen hl.1 rfl (lv_room hW) hdg ⟨hkc, hks⟩) hC hl hP hD hS k
  show 8 + (nL' + 11) + 64 * d' ≤ 64 * d
  omega
theorem sn_callN {host : String} (hdg : decode cc pc = .ok (.invokespecial ix, 3)) (hn : pc + 3 = pn) (kw : Cond.code y' cc' nL' none ∈ sg_tbl ∧ Cond.initialized y'.cls ∈ sg_tbl ∧ Cond.methodLinkNest y.cls ix y' host ∈ sn_nest ∧ (y'.cls ≠ "java/lang/invoke/MethodHandle" ∧ y'.cls ≠ "java/lang/invoke/VarHandle" ∧ (parseMethodDescriptor y'.desc).map (fun q => q.parameters.length) = some n) ∧ nL' ≤ 40) (kv : Cond.instanceMethod y' ∈ sg_tbl) (hy1 : y'.name = "<init>") (hws : ws = wo ++ [(a, x)]) (hd : d' + 1 ≤ d) (hM : sn_Met l D [(cI, .int), (cZ, .boolean)] y' cc' nL' d' (.ref a :: As) [(a, x)] Post' mc' ms') (hlen : As.length = n) (hst : st = As.reverse ++ .ref a :: rest) (hW : (rest.map fun v => v.category).sum ≤ 8) (hkc : kc + mc' ≤ mc) (hks : ks + ms' ≤ ms)
    (k : ∀ w1, Post' w1 → sn_G l D [(cI, .int), (cZ, .boolean)] y cc nL d pn lv rest (wo ++ w1) (kc + mc') (ks + ms') Post mc ms) : sn_G l D [(cI, .int), (cZ, .boolean)] y cc nL d pc lv st ws kc ks Post mc ms := by
  subst hn
  subst hst
  subst hws
  intro p e s m args below meth c A H locs ls hC hl hP hD hS
  obtain ⟨kc1, ki, kl, kd, kn⟩ := kw
  have hts : ∀ w ∈ sg_ws y' cc' nL' none, w.before args s = true := by
    intro w hw
    rcases List.mem_cons.mp hw with rfl | hw
    · exact hC.2.2.2.1 _ kc1
    · exact hC.2.2.2.1 _ hw
  refine sn_after (pc := pc) (rest := rest) (va_runIN (As := As) (rest := rest) (Ts := sg_ws y' cc' nL' none) (nL := nL) ⟨hC.1, hC.2.1, hC.2.2.2.2.2.1, hC.2.2.1, hts⟩ (hM H.size) ⟨va_cnB (Ts := sg_ws y' cc' nL' none) n hts (sg_goodIn kc1) rfl rfl rfl (hC.2.2.2.2.1.2 _ kl) (hC.2.2.2.1 _ ki) kd ⟨hd, ?_⟩, hy1, hC.2.2.2.1 _ kv⟩ ⟨sn_blind, fun U hU hW2 => ⟨rfl, by rw [hU], by rw [hU]; exact sn_last hP, sn_K.warm hW2 hC.2.2.2.2.1, sn_lastD (A := A)⟩⟩ rfl hlen hl.1 rfl (lv_room hW) hdg ⟨hkc, hks⟩) hC hl hP hD hS k
  show 8 + (nL' + 11) + 64 * d' ≤ 64 * d
  omega
end SN

def R_law : String := "StuckTownsLaw"
def lw_P (b : Addr) (xs : List Int32) (args : Array Value) (s : State) : Prop := args = #[.ref b] ∧ s.IntsAt b xs ∧ xs.length ≤ 256 ∧ (Jvm.Cond.and given_1 narrow_1).before args s = true
def lw_Q (_ : Array Value) (s : State) (o : Outcome) (t : State) : Prop := o = .returned (some (.int 1)) ∧ Framed s o t [] 600000 7302249
def lw_Z (below : List Frame) (a : Array Value) (s : State) : State → Prop := fun t => ∃ o, t.status = .running ∧ Ended t below o ∧ lw_Q a s o t
/-- the law's own end, with 1 on the stack, nothing written that was there before, its room as the claim has it -/
theorem lw_ret {p : Program} {l : Launch} {e : Env} {s : State} {m : MethodId} {below : List Frame} {meth : Method} {c : Code} {b : Nat} (hx : p.tables.exec = Jvm.exec) (hb : c.code = code) (hr : meth.sig.returnType = ret) (hlocks : meth.locks = false) {pc : Nat} {H : Heap} {ls : Array Slot} (hdg : decode code pc = .ok (.ireturn, 1)) : W p l e room_1 s m #[Value.ref b] below meth c H [] 600000 7302249 (lw_Z below #[Value.ref b] s) (F0 m pc ls [.int 1]) := by
  intro T hT X
  obtain ⟨fs, hret, hrun, hended, hW, hframe⟩ := X.leave (v := some (.int 1)) (hlocks := hlocks) (fun h => by rw [hr] at h; cases h)
  have hmeth' : T.vm.method? m = some meth := X.method'
  refine ⟨T.setFrames fs, ?_, .returned (some (.int 1)), hrun, hended, rfl, ⟨_, rfl⟩, hW, hframe⟩
  jvm_step X.here [X.here.top, hx, hb, hdg, hmeth', hr, ret, narrow_b1]
  (try refine ⟨rfl, ?_⟩); (try refine ⟨rfl, ?_⟩)
  first | (intro acts; rw [hret _ acts rfl rfl rfl]) | rw [hret _ _ rfl rfl rfl]
  exact Steps.refl _
/-- what holds at the law's entry: the machine, the code, the tables' words (any of lw_tbl by 'hts w (by decide +kernel)'), the script of L ints xs at the cell b, what the Statement gives of the start (any of its parts by flat_of_before) -/
def lw_At (p : Program) (s : State) (m : MethodId) (meth : Method) (c : Code) (b L : Nat) (xs : Nat → Int32) : Prop :=
  p.tables.exec = Jvm.exec ∧ c.code = code ∧ meth.sig.returnType = ret ∧ c.maxLocals = 4 ∧ s.vm.findClass R_law = some m.cls ∧ (∀ w ∈ lw_tbl, w.before #[Value.ref b] s = true) ∧ va_X b L xs s s.heap ∧ b < s.heap.size ∧ meth.locks = false ∧ (Jvm.Cond.and given_1 narrow_1).before #[Value.ref b] s = true

theorem la_lawname : RL = R_law := rfl
/-- two worlds side by side, apart -/
def la_2 (D : va_G) (A : Nat → Prop) (w1 w2 : va_W) (H : Heap) : Prop := va_P D vwCl w1 H ∧ va_P D vwCl w2 H ∧ va_D A w1 ∧ va_D A w2 ∧ ∀ (i j : Nat) (p q : Nat × va_E), w1[i]? = some p → w2[j]? = some q → p.1 ≠ q.1
theorem la_2.symm {D : va_G} {A : Nat → Prop} {w1 w2 : va_W} {H : Heap} (h : la_2 D A w1 w2 H) : la_2 D A w2 w1 H := ⟨h.2.1, h.1, h.2.2.2.1, h.2.2.1, fun i j p q h1 h2 h3 => h.2.2.2.2 j i q p h2 h1 h3.symm⟩
theorem la_2.step {D : va_G} {A : Nat → Prop} {w1 w2 w3 : va_W} {H H1 : Heap} (h : la_2 D A w1 w2 H) (hA : ∀ q, va_A w1 H.size q → A q) (hk : ∀ q : Nat, q < H.size → ¬ va_A w1 H.size q → H1[q]? = H[q]?) (hP : va_P D vwCl w3 H1) (hD : va_D (va_A w1 H.size) w3) : la_2 D A w3 w2 H1 := by
  have hn : ∀ (j : Nat) (q : Nat × va_E), w2[j]? = some q → q.1 < H.size ∧ ¬ va_A w1 H.size q.1 := by
    intro j q hq
    have hlt := (h.2.1 j q hq).lt
    refine ⟨hlt, fun h9 => ?_⟩
    rcases h9 with ⟨k, e, h9⟩ | h9
    · exact h.2.2.2.2 k j _ q h9 hq rfl
    · omega
  exact ⟨hP, fun j q hq => (h.2.1 j q hq).kept (hk q.1 (hn j q hq).1 (hn j q hq).2), hD.weaken (fun k q _ h9 => hA q.1 h9), h.2.2.2.1, fun i j p q h1 h2 h3 => (hn j q h2).2 (by rw [← h3]; exact hD.2 i p h1)⟩
theorem la_2.ofApp {D : va_G} {A : Nat → Prop} {w1 w2 : va_W} {H : Heap} (hP : va_P D vwCl (w1 ++ w2) H) (hD : va_D A (w1 ++ w2)) : la_2 D A w1 w2 H := by
  have l1 : ∀ (k : Nat) (q : Nat × va_E), w1[k]? = some q → (w1 ++ w2)[k]? = some q := fun k q hq => by rw [List.getElem?_append_left (List.getElem?_eq_some_iff.mp hq).1]; exact hq
  have l2 : ∀ (k : Nat) (q : Nat × va_E), w2[k]? = some q → (w1 ++ w2)[w1.length + k]? = some q := fun k q hq => by rw [List.getElem?_append_right (Nat.le_add_right _ _), Nat.add_sub_cancel_left]; exact hq
  refine ⟨fun k q hq => hP k q (l1 k q hq), fun k q hq => hP _ q (l2 k q hq), ⟨fun i j p q h1 h2 h3 => hD.1 i j p q (l1 i p h1) (l1 j q h2) h3, fun k q hq => hD.2 k q (l1 k q hq)⟩, ⟨fun i j p q h1 h2 h3 => ?_, fun k q hq => hD.2 _ q (l2 k q hq)⟩, fun i j p q h1 h2 h3 => ?_⟩
  · have h4 := hD.1 _ _ p q (l2 i p h1) (l2 j q h2) h3
    omega
  · have h4 := hD.1 _ _ p q (l1 i p h1) (l2 j q h2) h3
    have h5 := (List.getElem?_eq_some_iff.mp h1).1
    omega
/-- a call of a method of one of the two worlds -/
theorem la_run {p : Program} {e : Env} {s : State} {m : MethodId} {below : List Frame} {meth : Method} {c : Code} {b L : Nat} {xs : Nat → Int32} {H : Heap} {locs : List Loc} {ls : Array Slot} {pc : Nat} {E : sg_E} {w2 : va_W} {z z1 : sg_M} {y' : MethodName} {cc' : ByteArray} {nL' n ix d' a ci : Nat} {fs : List Value} {As rest : List Value} {r : Int32}
    (hC : lw_At p s m meth c b L xs) (hK : va_K E.2.1 vwCl E.2.2.1 s) (hl : ls.size = 4) (h2 : la_2 E.2.1 (fun q : Nat => s.heap.size ≤ q) (E.2.2.2 z) w2 H) (hS : va_S (fun q : Nat => s.heap.size ≤ q) s.heap H locs) (hdg : decode code pc = .ok (.invokevirtual ix, 3)) (kw : sg_kB RL ix y' cc' nL' (some .int) n) (kv : Cond.instanceMethod y' ∈ sg_tbl ∧ Cond.selects y'.cls y' y' ∈ sg_tbl)
    (he : (E.2.2.2 z)[0]? = some (a, .inr (ci, fs))) (hc : (vwCl[ci]?).map (fun q => q.1) = some y'.cls) (hd : d' ≤ 1000) (hM : sg_Met E y' cc' nL' (some .int) d' (.ref a :: As) z (sg_is (some (.int r)) z1)) (hlen : As.length = n) (hW : (rest.map fun v => v.category).sum ≤ 8)
    (k : ∀ (H1 : Heap) (locs1 : List Loc), la_2 E.2.1 (fun q : Nat => s.heap.size ≤ q) (E.2.2.2 z1) w2 H1 → va_S (fun q : Nat => s.heap.size ≤ q) s.heap H1 locs1 → W p E.1 e room_1 s m #[Value.ref b] below meth c H1 locs1 66 5143 (lw_Z below #[Value.ref b] s) (F0 m (pc + 3) ls (.int r :: rest))) :
    W p E.1 e room_1 s m #[Value.ref b] below meth c H locs 66 5143 (lw_Z below #[Value.ref b] s) (F0 m pc ls (As.reverse ++ .ref a :: rest)) := by
  have hT : ∀ w ∈ sg_tbl, w.before #[Value.ref b] s = true := fun w hw => hC.2.2.2.2.2.1 w (List.mem_filter.mp hw).1
  obtain ⟨kc, ki, kl, kd, kn⟩ := kw
  have hts : ∀ w ∈ sg_ws y' cc' nL' (some .int), w.before #[Value.ref b] s = true := by
    intro w hw
    rcases List.mem_cons.mp hw with rfl | hw
    · exact hT _ kc
    · exact hT _ hw
  obtain ⟨q9, hq9, hq8⟩ : ∃ q : vw_C, vwCl[ci]? = some q ∧ q.1 = y'.cls := by
    cases hcc : vwCl[ci]? with
    | none => rw [hcc] at hc; cases hc
    | some q => rw [hcc] at hc; exact ⟨q, rfl, Option.some.inj hc⟩
  have hr := va_runV (p := p) (e := e) (R := room_1) (below := below) (meth := meth) (locs := locs) (cells := 66) (slots := 5143) (g := F0 m pc ls (As.reverse ++ .ref a :: rest)) (As := As) (rest := rest) (Ts := sg_ws y' cc' nL' (some .int)) (nL := 4) (own := RL) ⟨hC.1, hC.2.1, hC.2.2.2.1, hC.2.2.2.2.1, hts⟩ (hM H.size) ⟨callB_of (Ts := sg_ws y' cc' nL' (some .int)) n hts (sg_goodIn kc) rfl rfl rfl (hT _ ki) (hT _ kl) kd ⟨by
    show d' + 1 ≤ 2048
    omega, by
    show 8 + (nL' + 11) + 64 * d' ≤ 84000
    omega⟩, hT _ kv.1, hT _ kv.2⟩ ⟨sg_blind, by
    have h := va_recv hK h2.1 (ci := ci) (q0 := 0) hq9 he
    rw [hq8] at h
    exact h, fun U hU hW2 => ⟨rfl, by rw [hU], by rw [hU]; exact h2.1, va_K.moved hW2.alike hK, h2.2.2.1.weaken (fun _ _ _ _ => trivial)⟩⟩ rfl hlen hl rfl (lv_room hW) hdg ⟨Nat.le_of_ble_eq_true rfl, Nat.le_of_ble_eq_true rfl⟩
  intro T hT2 X
  obtain ⟨v, st₀, t, T', L', h0, X', hL, e1, e2, ⟨⟨v2, z2, hv, ⟨hq1, hq2⟩, hb1, hb2, hb3⟩, hz, hk⟩, st1⟩ := hr T hT2 X
  cases hv
  subst hq1
  subst hq2
  rw [h0] at hz hk
  have hfree : ∀ q, va_A (E.2.2.2 z) H.size q → s.heap.size ≤ q := by
    intro q hq
    rcases hq with ⟨k2, e3, h⟩ | h
    · exact h2.2.2.1.2 k2 _ h
    · exact Nat.le_trans hS.1 h
  obtain ⟨t2, a1, b1⟩ := k T'.heap (locs ++ L') (h2.step hfree (fun q h3 h4 => by rw [e1]; exact hk q h3 h4) (by rw [e1]; exact hb1) hb3)
    ⟨Nat.le_trans hS.1 (by rw [e1]; exact hz), fun q h3 h4 => by rw [e1, hk q (Nat.lt_of_lt_of_le h3 hS.1) (fun z9 => h4 (hfree q z9))]; exact hS.2.1 q h3 h4, fun q hq => by
      rcases List.mem_append.mp hq with h | h
      · exact hS.2.2 q h
      · exact hfree _ (hL q h)⟩ T' rfl X'
  exact ⟨t2, st1 t2 a1, b1⟩
/-- a constructor's call -/
theorem la_init {p : Program} {l : Launch} {e : Env} {s : State} {m : MethodId} {below : List Frame} {meth : Method} {c : Code} {b L : Nat} {xs : Nat → Int32} {H : Heap} {locs : List Loc} {ls : Array Slot} {pc : Nat} {D : va_G} {cI cZ : ClassId} {w2 : va_W} {y' : MethodName} {cc' : ByteArray} {nL' ix d' a kc ks mc' ms' : Nat} {x : va_E} {Post' : va_W → Prop} {rest : List Value}
    (hC : lw_At p s m meth c b L xs) (hK : sn_K D [(cI, .int), (cZ, .boolean)] s) (hl : ls.size = 4) (h2 : la_2 D (fun q : Nat => s.heap.size ≤ q) [(a, x)] w2 H) (hS : va_S (fun q : Nat => s.heap.size ≤ q) s.heap H locs) (hdg : decode code pc = .ok (.invokespecial ix, 3)) (kw : sg_kB RL ix y' cc' nL' none 0) (kv : Cond.instanceMethod y' ∈ sg_tbl) (hy1 : y'.name = "<init>")
    (hd : d' ≤ 1000) (hM : sn_Met l D [(cI, .int), (cZ, .boolean)] y' cc' nL' d' [.ref a] [(a, x)] Post' mc' ms') (hW : (rest.map fun v => v.category).sum ≤ 8) (hkc : kc + mc' ≤ 600000) (hks : ks + ms' ≤ 7302249)
    (k : ∀ (w1 : va_W) (H1 : Heap) (locs1 : List Loc), Post' w1 → la_2 D (fun q : Nat => s.heap.size ≤ q) w1 w2 H1 → va_S (fun q : Nat => s.heap.size ≤ q) s.heap H1 locs1 → W p l e room_1 s m #[Value.ref b] below meth c H1 locs1 (kc + mc') (ks + ms') (lw_Z below #[Value.ref b] s) (F0 m (pc + 3) ls rest)) :
    W p l e room_1 s m #[Value.ref b] below meth c H locs kc ks (lw_Z below #[Value.ref b] s) (F0 m pc ls (.ref a :: rest)) := by
  have hT : ∀ w ∈ sg_tbl, w.before #[Value.ref b] s = true := fun w hw => hC.2.2.2.2.2.1 w (List.mem_filter.mp hw).1
  obtain ⟨kc1, ki, kl, kd, kn⟩ := kw
  have hts : ∀ w ∈ sg_ws y' cc' nL' none, w.before #[Value.ref b] s = true := by
    intro w hw
    rcases List.mem_cons.mp hw with rfl | hw
    · exact hT _ kc1
    · exact hT _ hw
  have hr := va_runI (p := p) (e := e) (R := room_1) (below := below) (meth := meth) (locs := locs) (cells := kc) (slots := ks) (g := F0 m pc ls (.ref a :: rest)) (As := []) (rest := rest) (Ts := sg_ws y' cc' nL' none) (nL := 4) (own := RL) ⟨hC.1, hC.2.1, hC.2.2.2.1, hC.2.2.2.2.1, hts⟩ (hM H.size) ⟨callB_of (Ts := sg_ws y' cc' nL' none) 0 hts (sg_goodIn kc1) rfl rfl rfl (hT _ ki) (hT _ kl) kd ⟨by
    show d' + 1 ≤ 2048
    omega, by
    show 8 + (nL' + 11) + 64 * d' ≤ 84000
    omega⟩, hy1, hT _ kv⟩ ⟨sn_blind, fun U hU hW2 => ⟨rfl, by rw [hU], by rw [hU]; exact h2.1, sn_K.warm hW2 hK, sn_lastD (A := fun _ => True)⟩⟩ rfl rfl hl rfl (lv_room hW) hdg ⟨hkc, hks⟩
  intro T hT2 X
  obtain ⟨v, st₀, t, T', L', h0, X', hL, e1, e2, ⟨⟨w1, hv, hq, hb1, hb3⟩, hz, hk⟩, st1⟩ := hr T hT2 X
  cases hv
  rw [h0] at hz hk
  have hfree : ∀ q, va_A [(a, x)] H.size q → s.heap.size ≤ q := by
    intro q hq
    rcases hq with ⟨k2, e3, h⟩ | h
    · exact h2.2.2.1.2 k2 _ h
    · exact Nat.le_trans hS.1 h
  obtain ⟨t2, a1, b1⟩ := k w1 T'.heap (locs ++ L') hq (h2.step hfree (fun q h3 h4 => by rw [e1]; exact hk q h3 h4) (by rw [e1]; exact hb1) hb3)
    ⟨Nat.le_trans hS.1 (by rw [e1]; exact hz), fun q h3 h4 => by rw [e1, hk q (Nat.lt_of_lt_of_le h3 hS.1) (fun z9 => h4 (hfree q z9))]; exact hS.2.1 q h3 h4, fun q hq => by
      rcases List.mem_append.mp hq with h | h
      · exact hS.2.2 q h
      · exact hfree _ (hL q h)⟩ T' rfl X'
  exact ⟨t2, st1 t2 a1, b1⟩
/-- the law at pc, with these locals, this stack, the two objects' pictures -/
def la_G (l : Launch) (D : va_G) (cI cZ : ClassId) (adC adM : Nat → Nat) (b L : Nat) (xs : Nat → Int32) (pc : Nat) (lv : List (Nat × Value)) (st : List Value) (zC zM : sg_M) : Prop :=
  ∀ (p : Program) (e : Env) (s : State) (m : MethodId) (below : List Frame) (meth : Method) (c : Code) (H : Heap) (locs : List Loc) (ls : Array Slot), lw_At p s m meth c b L xs → va_K D vwCl [(cI, .int), (cZ, .boolean)] s → lv_has ls 4 lv → la_2 D (fun q : Nat => s.heap.size ≤ q) (pcC cI cZ adC zC) (pcM cI cZ adM zM) H → va_S (fun q : Nat => s.heap.size ≤ q) s.heap H locs → W p l e room_1 s m #[Value.ref b] below meth c H locs 66 5143 (lw_Z below #[Value.ref b] s) (F0 m pc ls st)
abbrev la_lv (b : Nat) (adC adM : Nat → Nat) (x3 : Int32) : List (Nat × Value) := [(0, .ref b), (1, .ref (adC 0)), (2, .ref (adM 0)), (3, .int x3)]
section LA
variable {l : Launch} {D : va_G} {cI cZ : ClassId} {adC adM : Nat → Nat} {b L : Nat} {xs : Nat → Int32} {pc pn : Nat} {lv : List (Nat × Value)} {st : List Value} {zC zM : sg_M}
theorem la_aload {k1 : Fin 4} {i x0 : Nat} (hdg : decode code pc = .ok (.aload_n k1, 1)) (hn : pc + 1 = pn) (hi : (k1 : Nat) = i) (k0 : Nat) (hk : lv[k0]? = some (i, .ref x0)) (k : la_G l D cI cZ adC adM b L xs pn lv (.ref x0 :: st) zC zM) : la_G l D cI cZ adC adM b L xs pc lv (st) zC zM := by
  subst hn
  exact fun p e s m below meth c H locs ls hC hK hl h2 hS => lv_aload_n hC.1 hC.2.1 hdg hi (lv_at hl k0 hk) (k p e s m below meth c H locs ls hC hK hl h2 hS)
theorem la_iload {k1 : Fin 4} {i : Nat} {x0 : Int32} (hdg : decode code pc = .ok (.iload_n k1, 1)) (hn : pc + 1 = pn) (hi : (k1 : Nat) = i) (k0 : Nat) (hk : lv[k0]? = some (i, .int x0)) (k : la_G l D cI cZ adC adM b L xs pn lv (.int x0 :: st) zC zM) : la_G l D cI cZ adC adM b L xs pc lv (st) zC zM := by
  subst hn
  exact fun p e s m below meth c H locs ls hC hK hl h2 hS => lv_iload_n hC.1 hC.2.1 hdg hi (lv_at hl k0 hk) (k p e s m below meth c H locs ls hC hK hl h2 hS)
theorem la_iconst {n0 : Int} {v : Int32} (hdg : decode code pc = .ok (.iconst n0, 1)) (hn : pc + 1 = pn) (hv : Int32.ofInt n0 = v) (k : la_G l D cI cZ adC adM b L xs pn lv (.int v :: st) zC zM) : la_G l D cI cZ adC adM b L xs pc lv (st) zC zM := by
  subst hn
  exact fun p e s m below meth c H locs ls hC hK hl h2 hS => lv_iconst hC.1 hC.2.1 hdg hv (k p e s m below meth c H locs ls hC hK hl h2 hS)
theorem la_bipush {n0 : Int} {v : Int32} (hdg : decode code pc = .ok (.bipush n0, 2)) (hn : pc + 2 = pn) (hv : (Int8.ofInt n0).toInt32 = v) (k : la_G l D cI cZ adC adM b L xs pn lv (.int v :: st) zC zM) : la_G l D cI cZ adC adM b L xs pc lv (st) zC zM := by
  subst hn
  exact fun p e s m below meth c H locs ls hC hK hl h2 hS => lv_bipush hC.1 hC.2.1 hdg hv (k p e s m below meth c H locs ls hC hK hl h2 hS)
theorem la_iadd {x0 y0 : Int32} (hdg : decode code pc = .ok (.iadd, 1)) (hn : pc + 1 = pn) (k : la_G l D cI cZ adC adM b L xs pn lv (.int (x0 + y0) :: st) zC zM) : la_G l D cI cZ adC adM b L xs pc lv (.int y0 :: .int x0 :: st) zC zM := by
  subst hn
  exact fun p e s m below meth c H locs ls hC hK hl h2 hS => lv_iadd hC.1 hC.2.1 hdg (k p e s m below meth c H locs ls hC hK hl h2 hS)
theorem la_isub {x0 y0 : Int32} (hdg : decode code pc = .ok (.isub, 1)) (hn : pc + 1 = pn) (k : la_G l D cI cZ adC adM b L xs pn lv (.int (x0 - y0) :: st) zC zM) : la_G l D cI cZ adC adM b L xs pc lv (.int y0 :: .int x0 :: st) zC zM := by
  subst hn
  exact fun p e s m below meth c H locs ls hC hK hl h2 hS => lv_isub hC.1 hC.2.1 hdg (k p e s m below meth c H locs ls hC hK hl h2 hS)
theorem la_iand {x0 y0 : Int32} (hdg : decode code pc = .ok (.iand, 1)) (hn : pc + 1 = pn) (k : la_G l D cI cZ adC adM b L xs pn lv (.int (x0 &&& y0) :: st) zC zM) : la_G l D cI cZ adC adM b L xs pc lv (.int y0 :: .int x0 :: st) zC zM := by
  subst hn
  exact fun p e s m below meth c H locs ls hC hK hl h2 hS => lv_iand hC.1 hC.2.1 hdg (k p e s m below meth c H locs ls hC hK hl h2 hS)
theorem la_slen  (hdg : decode code pc = .ok (.arraylength, 1)) (hn : pc + 1 = pn) (k : la_G l D cI cZ adC adM b L xs pn lv (.int (Int32.ofNat L) :: st) zC zM) : la_G l D cI cZ adC adM b L xs pc lv (.ref b :: st) zC zM := by
  subst hn
  exact fun p e s m below meth c H locs ls hC hK hl h2 hS => va_slen (A := fun q : Nat => s.heap.size ≤ q) hC.1 hC.2.1 hC.2.2.2.2.2.2.1 hC.2.2.2.2.2.2.2.1 (Nat.not_le.mpr hC.2.2.2.2.2.2.2.1) hS hdg (k p e s m below meth c H locs ls hC hK hl h2 hS)
theorem la_sld {i : Int32} (hdg : decode code pc = .ok (.iaload, 1)) (hn : pc + 1 = pn) (hin : vp_in i L) (k : la_G l D cI cZ adC adM b L xs pn lv (.int (xs i.toNatClampNeg) :: st) zC zM) : la_G l D cI cZ adC adM b L xs pc lv (.int i :: .ref b :: st) zC zM := by
  subst hn
  exact fun p e s m below meth c H locs ls hC hK hl h2 hS => va_sld (A := fun q : Nat => s.heap.size ≤ q) hC.1 hC.2.1 hC.2.2.2.2.2.2.1 hC.2.2.2.2.2.2.2.1 (Nat.not_le.mpr hC.2.2.2.2.2.2.2.1) hS hin hdg (k p e s m below meth c H locs ls hC hK hl h2 hS)
theorem la_goto {off : Int} {tgt : Nat} (hdg : decode code pc = .ok (.goto off, 3)) (ht : (pc : Int) + off = (tgt : Int)) (k : la_G l D cI cZ adC adM b L xs tgt lv st zC zM) : la_G l D cI cZ adC adM b L xs pc lv st zC zM :=
  fun p e s m below meth c H locs ls hC hK hl h2 hS => lv_goto hC.1 hC.2.1 hdg ht (k p e s m below meth c H locs ls hC hK hl h2 hS)
theorem la_gt {x0 y0 : Int32} {off : Int} {tgt : Nat} (hdg : decode code pc = .ok (.if_icmp .gt off, 3)) (ht : (pc : Int) + off = (tgt : Int)) (hn : pc + 3 = pn) (kt : y0 < x0 → la_G l D cI cZ adC adM b L xs tgt lv st zC zM) (kf : ¬ y0 < x0 → la_G l D cI cZ adC adM b L xs pn lv st zC zM) : la_G l D cI cZ adC adM b L xs pc lv (.int y0 :: .int x0 :: st) zC zM := by
  subst hn
  exact fun p e s m below meth c H locs ls hC hK hl h2 hS => lv_icmp_gt hC.1 hC.2.1 hdg ht (fun q => kt q p e s m below meth c H locs ls hC hK hl h2 hS) (fun q => kf q p e s m below meth c H locs ls hC hK hl h2 hS)
theorem la_eq {x0 : Int32} {off : Int} {tgt : Nat} (hdg : decode code pc = .ok (.if_icmp .eq off, 3)) (ht : (pc : Int) + off = (tgt : Int)) (k : la_G l D cI cZ adC adM b L xs tgt lv st zC zM) : la_G l D cI cZ adC adM b L xs pc lv (.int x0 :: .int x0 :: st) zC zM :=
  fun p e s m below meth c H locs ls hC hK hl h2 hS => lv_icmp_eq hC.1 hC.2.1 hdg ht (fun _ => k p e s m below meth c H locs ls hC hK hl h2 hS) (fun q => absurd rfl q)
theorem la_tabO {dflt lo hi : Int} {offs : Array Int} {len tgt : Nat} {x0 : Int32} (hdg : decode code pc = .ok (.tableswitch dflt lo hi offs, len)) (h : x0.toInt < lo ∨ hi < x0.toInt) (ht : (pc : Int) + dflt = (tgt : Int)) (k : la_G l D cI cZ adC adM b L xs tgt lv st zC zM) : la_G l D cI cZ adC adM b L xs pc lv (.int x0 :: st) zC zM :=
  fun p e s m below meth c H locs ls hC hK hl h2 hS => lv_tableOut hC.1 hC.2.1 hdg h ht (k p e s m below meth c H locs ls hC hK hl h2 hS)
theorem la_tabI {dflt lo hi : Int} {offs : Array Int} {len tgt : Nat} {x0 : Int32} {off : Int} (hdg : decode code pc = .ok (.tableswitch dflt lo hi offs, len)) (h1 : ¬ x0.toInt < lo) (h3 : ¬ hi < x0.toInt) (ho : offs[(x0.toInt - lo).toNat]? = some off) (ht : (pc : Int) + off = (tgt : Int)) (k : la_G l D cI cZ adC adM b L xs tgt lv st zC zM) : la_G l D cI cZ adC adM b L xs pc lv (.int x0 :: st) zC zM :=
  fun p e s m below meth c H locs ls hC hK hl h2 hS => lv_tableIn hC.1 hC.2.1 hdg h1 h3 ho ht (k p e s m below meth c H locs ls hC hK hl h2 hS)
theorem la_iinc {x3 : Int32} (hdg : decode code pc = .ok (.iinc 3 4, 3)) (hn : pc + 3 = pn) (k : la_G l D cI cZ adC adM b L xs pn (la_lv b adC adM (x3 + 4)) st zC zM) : la_G l D cI cZ adC adM b L xs pc (la_lv b adC adM x3) st zC zM := by
  subst hn
  exact fun p e s m below meth c H locs ls hC hK hl h2 hS => lv_iinc (v := x3 + 4) (lv' := [(3, .int (x3 + 4)), (0, .ref b), (1, .ref (adC 0)), (2, .ref (adM 0))]) hC.1 hC.2.1 hdg hl (k := 3) rfl rfl (by decide) rfl (fun ls2 hl2 => k p e s m below meth c H locs ls2 hC hK (lv_sub hl2 [1, 2, 3, 0] rfl) h2 hS)
theorem la_end (hdg : decode code pc = .ok (.iconst 1, 1)) (hdg2 : decode code (pc + 1) = .ok (.ireturn, 1)) : la_G l D cI cZ adC adM b L xs pc lv [] zC zM := by
  intro p e s m below meth c H locs ls hC hK hl h2 hS
  refine lv_iconst (v := 1) hC.1 hC.2.1 hdg (by decide) ?_
  refine va_forget (fun q hq => hS.2.2 q hq) ?_
  refine W.widen (k := 600000) (n := 7302249) (by omega) (by omega) ?_
  exact lw_ret hC.1 hC.2.1 hC.2.2.1 hC.2.2.2.2.2.2.2.2.1 hdg2
/-- an int of the script behind the call's number -/
theorem la_arg {x3 v : Int32} {n0 : Int} (d1 : decode code pc = .ok (.aload_n 0, 1)) (d2 : decode code (pc + 1) = .ok (.iload_n 3, 1)) (d3 : decode code (pc + 2) = .ok (.iconst n0, 1)) (d4 : decode code (pc + 3) = .ok (.iadd, 1)) (d5 : decode code (pc + 4) = .ok (.iaload, 1)) (hn : pc + 5 = pn) (hv : Int32.ofInt n0 = v) (hin : vp_in (x3 + v) L) (k : la_G l D cI cZ adC adM b L xs pn (la_lv b adC adM x3) (.int (xs (x3 + v).toNatClampNeg) :: st) zC zM) : la_G l D cI cZ adC adM b L xs pc (la_lv b adC adM x3) st zC zM :=
  la_aload d1 rfl rfl 0 rfl (la_iload d2 rfl rfl 3 rfl (la_iconst d3 rfl hv (la_iadd d4 rfl (la_sld d5 hn hin k))))
variable {y' : MethodName} {cc' : ByteArray} {nL' n ix d' : Nat} {As rest : List Value} {r : Int32} {z1 : sg_M}
theorem la_callC (hdg : decode code pc = .ok (.invokevirtual ix, 3)) (hn : pc + 3 = pn) (kw : sg_kB RL ix y' cc' nL' (some .int) n) (kv : Cond.instanceMethod y' ∈ sg_tbl ∧ Cond.selects y'.cls y' y' ∈ sg_tbl) (hc : y'.cls = RX11) (hd : d' ≤ 1000) (hM : sg_Met (eC l D cI cZ adC) y' cc' nL' (some .int) d' (.ref (adC 0) :: As) zC (sg_is (some (.int r)) z1)) (hlen : As.length = n) (hst : st = As.reverse ++ .ref (adC 0) :: rest) (hW : (rest.map fun v => v.category).sum ≤ 8) (k : la_G l D cI cZ adC adM b L xs pn lv (.int r :: rest) z1 zM) : la_G l D cI cZ adC adM b L xs pc lv st zC zM := by
  subst hn
  subst hst
  exact fun p e s m below meth c H locs ls hC hK hl h2 hS => la_run (E := eC l D cI cZ adC) (ci := 11) hC hK hl.1 h2 hS hdg kw kv rfl (by rw [hc]; rfl) hd hM hlen hW (fun H1 locs1 g2 gS => k p e s m below meth c H1 locs1 ls hC hK hl g2 gS)
theorem la_callM (hdg : decode code pc = .ok (.invokevirtual ix, 3)) (hn : pc + 3 = pn) (kw : sg_kB RL ix y' cc' nL' (some .int) n) (kv : Cond.instanceMethod y' ∈ sg_tbl ∧ Cond.selects y'.cls y' y' ∈ sg_tbl) (hc : y'.cls = RX12) (hd : d' ≤ 1000) (hM : sg_Met (eM l D cI cZ adM) y' cc' nL' (some .int) d' (.ref (adM 0) :: As) zM (sg_is (some (.int r)) z1)) (hlen : As.length = n) (hst : st = As.reverse ++ .ref (adM 0) :: rest) (hW : (rest.map fun v => v.category).sum ≤ 8) (k : la_G l D cI cZ adC adM b L xs pn lv (.int r :: rest) zC z1) : la_G l D cI cZ adC adM b L xs pc lv st zC zM := by
  subst hn
  subst hst
  exact fun p e s m below meth c H locs ls hC hK hl h2 hS => la_run (E := eM l D cI cZ adM) (ci := 12) hC hK hl.1 h2.symm hS hdg kw kv rfl (by rw [hc]; rfl) hd hM hlen hW (fun H1 locs1 g2 gS => k p e s m below meth c H1 locs1 ls hC hK hl g2.symm gS)
end LA

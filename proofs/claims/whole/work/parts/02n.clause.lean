/-! carts, clauses, the whole text -/
def pf_C (z z' : sg_M) : Prop := (∀ k, (k < 2 ∨ 8 < k) → z'.1 k = z.1 k) ∧ ∀ a, 4 < a → z'.2 a = z.2 a
def pf_M (z z' : sg_M) : Prop := (∀ k, (k < 5 ∨ 11 < k) → z'.1 k = z.1 k) ∧ ∀ a, (a < 7 ∨ 11 < a) → z'.2 a = z.2 a
theorem pf_C.rf (z : sg_M) : pf_C z z := ⟨fun _ _ => rfl, fun _ _ => rfl⟩
theorem pf_M.rf (z : sg_M) : pf_M z z := ⟨fun _ _ => rfl, fun _ _ => rfl⟩
theorem pf_C.tr {x y z : sg_M} (h : pf_C x y) (g : pf_C y z) : pf_C x z := ⟨fun k hk => (g.1 k hk).trans (h.1 k hk), fun a ha => (g.2 a ha).trans (h.2 a ha)⟩
theorem pf_M.tr {x y z : sg_M} (h : pf_M x y) (g : pf_M y z) : pf_M x z := ⟨fun k hk => (g.1 k hk).trans (h.1 k hk), fun a ha => (g.2 a ha).trans (h.2 a ha)⟩
theorem pf_C.nf {x y : sg_M} (h : nf_C x y) : pf_C x y := ⟨fun k hk => h.1 k (by omega), fun a _ => by rw [h.2]⟩
theorem pf_M.nf {x y : sg_M} (h : nf_M x y) : pf_M x y := ⟨fun k hk => h.1 k (by omega), fun a _ => by rw [h.2]⟩
theorem pf_C.w (z : sg_M) (A : Nat) (i v : Int32) (h : A ≤ 4) : pf_C z (sg_w z A i v) := ⟨fun _ _ => rfl, fun a ha => by rw [pw_2, if_neg (by omega)]⟩
theorem pf_M.w (z : sg_M) (A : Nat) (i v : Int32) (h : 7 ≤ A ∧ A ≤ 11) : pf_M z (sg_w z A i v) := ⟨fun _ _ => rfl, fun a ha => by rw [pw_2, if_neg (by omega)]⟩
theorem pf_C.s (z : sg_M) (k : Nat) (v : Int32) (h : 2 ≤ k ∧ k ≤ 8) : pf_C z (sg_s z k v) := ⟨fun j hj => by rw [ps_1, if_neg (by omega)], fun _ _ => rfl⟩
theorem pf_M.s (z : sg_M) (k : Nat) (v : Int32) (h : 5 ≤ k ∧ k ≤ 11) : pf_M z (sg_s z k v) := ⟨fun j hj => by rw [ps_1, if_neg (by omega)], fun _ _ => rfl⟩
theorem pf_C.r {A : Nat} {x y : sg_M} (hA : A ≤ 4) (h : rf_C A x y) : pf_C x y := ⟨fun k hk => h.1 k (by omega), fun a ha => h.2 a (by omega)⟩
theorem pf_M.r {B S : Nat} {x y : sg_M} (hB : 7 ≤ B ∧ B ≤ 11) (hS : 5 ≤ S ∧ S ≤ 11) (h : rf_M B S x y) : pf_M x y := ⟨fun k hk => h.1 k (by omega), fun a ha => h.2 a (by omega)⟩
theorem pf_text {len : Nat} {zC zM zC' zM' : sg_M} (hC : pf_C zC zC') (hM : pf_M zM zM') (h : rl_text len zC zM) : rl_text len zC' zM' := by
  unfold rl_text at *
  rw [hC.1 1 (by omega), hM.1 4 (by omega), hC.2 5 (by omega), hM.2 6 (by omega)]
  exact h
def rp_dr (nc nk : Nat) (zC zM : sg_M) : Prop := nc ≤ 20 ∧ nk ≤ 8 ∧ (nc = 0 → nk = 0) ∧ zC.1 6 = nI nc ∧ zM.1 9 = nI nc ∧ zC.1 8 = nI nk ∧ zM.1 11 = nI nk ∧
  rr_eqsR nc zC zM ∧
  (∀ c, c < nk → zC.2 2 c = zM.2 9 c ∧ zC.2 3 c = zM.2 10 c ∧ zC.2 4 c = zM.2 11 c ∧ (∃ g, 1 ≤ g ∧ g ≤ 60 ∧ zM.2 10 c = nI g) ∧ ∃ g, g ≤ 9 ∧ zM.2 11 c = nI g) ∧
  ((zC.1 5 = 0 ∧ zM.1 10 = 0 ∧ zC.1 7 = 1 ∧ zC.2 1 0 = 5) ∨ (zC.1 5 = 1 ∧ ∃ nw, 1 ≤ nw ∧ nw ≤ 12 ∧ zM.1 10 = nI nw ∧ zC.1 7 = nI nw ∧ rr_eqsW nw zC zM))
theorem ob_eta {α β : Type} (X : Option (α × β)) : (Option.bind X fun r => some (r.1, r.2)) = X := by cases X <;> rfl
theorem ob_id {α : Type} (X : Option α) : (Option.bind X fun r => some r) = X := by cases X <;> rfl
/-- the end of a cart -/
def cc_E (n : Nat) (z7 : sg_M) : Option sg_M := Option.bind (gC_Reader_nextLetter n z7) fun r8 => if r8.1 = (59 : Int32) then (sg_let (sg_s r8.2 4 ((r8.2.1 4) + (1 : Int32))) fun z9 => sg_let (sg_s z9 8 ((z9.1 8) + (1 : Int32))) fun z10 => some z10) else (Option.bind (gC_Reader_fail (1 : Int32) (r8.2.1 4) r8.2) fun r11 => some r11)
def cc_3 (n : Nat) (c : Int32) (z5 : sg_M) : Option sg_M := Option.bind (gC_Reader_readNumber n (0 : Int32) (9 : Int32) z5) fun r6 => if sg_in c 8 = true then sg_let (sg_w r6.2 4 c r6.1) fun z7 => cc_E n z7 else none
def cc_2 (n : Nat) (c : Int32) (z3 : sg_M) : Option sg_M := Option.bind (gC_Reader_readNumber n (1 : Int32) (60 : Int32) z3) fun r4 => if sg_in c 8 = true then sg_let (sg_w r4.2 3 c r4.1) fun z5 => cc_3 n c z5 else none
theorem cc_1 (n : Nat) (z : sg_M) : gC_Reader_readCart n z = if z.1 8 < 8 then (Option.bind (gC_Reader_readNumber n (0 : Int32) (3 : Int32) z) fun r2 => if sg_in (z.1 8) 8 = true then sg_let (sg_w r2.2 2 (z.1 8) r2.1) fun z3 => cc_2 n (z.1 8) z3 else none) else some z := by
  rfl
/-- behind a fault: all is read on to nowhere -/
def cc_bad (z z' : sg_M) : Prop := z'.1 3 = z.1 3 ∧ z'.1 2 = z.1 2 ∧ pf_C z z'
theorem cc_EF {len p : Nat} (hl : len ≤ 240) {z : sg_M} (h1 : z.1 1 = nI len) (h4 : z.1 4 = nI p) (hp : p ≤ len) (h3 : ¬ z.1 3 = 0) (n : Nat) (hn : 241 ≤ n) : ∃ z', cc_E n z = some z' ∧ cc_bad z z' := by
  have e := rC_next hl (len - p) p n z h1 (by omega) (by omega) h4
  generalize sp_skip (z.2 5) (len - p) p = q at *
  unfold cc_E gC_Reader_nextLetter
  rw [e]
  simp only [Option.bind_some, pl_let]
  by_cases c : sp_at (z.2 5) len q = 59
  · rw [if_pos c]
    exact ⟨_, rfl, rfl, rfl, (pf_C.s z 4 _ (by omega)).tr ((pf_C.s _ 4 _ (by omega)).tr (pf_C.s _ 8 _ (by omega)))⟩
  · rw [if_neg c, rC_fail1 (by rw [ps_1, if_neg (by decide)]; exact h3)]
    exact ⟨_, rfl, rfl, rfl, pf_C.s z 4 _ (by omega)⟩
theorem cc_3F {len p c : Nat} (hc : c < 8) (hl : len ≤ 240) {z : sg_M} (h1 : z.1 1 = nI len) (h4 : z.1 4 = nI p) (hp : p ≤ len) (h3 : ¬ z.1 3 = 0) (n : Nat) (hn : 241 ≤ n) : ∃ z', cc_3 n (nI c) z = some z' ∧ cc_bad z z' := by
  obtain ⟨v, q, hq, e⟩ := rC_numT hl 0 9 h1 h4 hp h3 n hn
  unfold cc_3
  rw [e]
  simp only [Option.bind_some, pi_in (j := c) (n := 8) hc (by omega), if_true, pl_let]
  obtain ⟨z', e2, b1, b2, b3⟩ := cc_EF (z := sg_w (sg_s z 4 (nI q)) 4 (nI c) v) hl h1 (by rw [pw_1, ps_1, if_pos rfl]) hq (by rw [pw_1, ps_1, if_neg (by decide)]; exact h3) n hn
  exact ⟨z', e2, b1, b2, (pf_C.s z 4 _ (by omega)).tr ((pf_C.w _ 4 _ _ (by omega)).tr b3)⟩
theorem cc_2F {len p c : Nat} (hc : c < 8) (hl : len ≤ 240) {z : sg_M} (h1 : z.1 1 = nI len) (h4 : z.1 4 = nI p) (hp : p ≤ len) (h3 : ¬ z.1 3 = 0) (n : Nat) (hn : 241 ≤ n) : ∃ z', cc_2 n (nI c) z = some z' ∧ cc_bad z z' := by
  obtain ⟨v, q, hq, e⟩ := rC_numT hl 1 60 h1 h4 hp h3 n hn
  unfold cc_2
  rw [e]
  simp only [Option.bind_some, pi_in (j := c) (n := 8) hc (by omega), if_true, pl_let]
  obtain ⟨z', e2, b1, b2, b3⟩ := cc_3F (z := sg_w (sg_s z 4 (nI q)) 3 (nI c) v) hc hl h1 (by rw [pw_1, ps_1, if_pos rfl]) hq (by rw [pw_1, ps_1, if_neg (by decide)]; exact h3) n hn
  exact ⟨z', e2, b1, b2, (pf_C.s z 4 _ (by omega)).tr ((pf_C.w _ 3 _ _ (by omega)).tr b3)⟩
def mc_2 (n : Nat) (c : Int32) (r3 : Int32 × sg_M) : Option (Int32 × sg_M) := Option.bind ((if r3.1 ≤ (0 : Int32) then (Option.bind (gM_into_0_11 n c (1 : Int32) (60 : Int32) r3.2) fun r4 => some (r4.1, r4.2)) else (some (r3.1, r3.2))) : Option (Int32 × sg_M)) fun t5 => if t5.1 ≤ (0 : Int32) then (Option.bind (gM_into_0_12 n c (0 : Int32) (9 : Int32) t5.2) fun r6 => some (r6.1, r6.2)) else (some (t5.1, t5.2))
theorem mc_1 (n : Nat) (z : sg_M) : gM_takeCart n z = Option.bind (gM_into_0_10 n (z.1 11) 0 3 (sg_s z 11 (z.1 11 + 1))) (mc_2 n (z.1 11)) := rfl
theorem pi_nle0 {e : Nat} (h1 : 1 ≤ e) (h2 : e ≤ 3) : ¬ nI e ≤ 0 := fun h => by
  have := (pi_le (a := e) (b := 0) (by omega) (by omega)).mp h
  omega
/-- a cart, on both sides -/
theorem rp_cart {len p nk : Nat} (hk : nk < 8) {zC zM : sg_M} (ht : rl_text len zC zM) (h4 : zC.1 4 = nI p) (h6 : zM.1 6 = nI p) (hp : p ≤ len) (h3 : zC.1 3 = 0) (h25 : zC.1 2 = zM.1 5) (h8 : zC.1 8 = nI nk) (h11 : zM.1 11 = nI nk) (n : Nat) (hn : 241 ≤ n) : ∃ zC' e zM', gC_Reader_readCart n zC = some zC' ∧ Option.bind (gM_takeCart n zM) (mt_tail n) = some (nI e, zM') ∧ pf_C zC zC' ∧ pf_M zM zM' ∧ ((e = 0 ∧ ∃ q, zC'.1 8 = nI (nk + 1) ∧ zM'.1 11 = nI (nk + 1) ∧ zC'.1 3 = 0 ∧ zC'.1 2 = zM'.1 5 ∧ p < q ∧ q ≤ len ∧ zC'.1 4 = nI q ∧ zM'.1 6 = nI q ∧ (∀ k, (5 ≤ k ∧ k ≤ 7) → zC'.1 k = zC.1 k) ∧ (∀ k, (9 ≤ k ∧ k ≤ 10) → zM'.1 k = zM.1 k) ∧ (∀ a, a < 2 → zC'.2 a = zC.2 a) ∧ (∀ a, (7 ≤ a ∧ a ≤ 8) → zM'.2 a = zM.2 a) ∧ ∃ v1 v2 v3, 1 ≤ v2 ∧ v2 ≤ 60 ∧ v3 ≤ 9 ∧ zC'.2 2 = upd (zC.2 2) nk (nI v1) ∧ zC'.2 3 = upd (zC.2 3) nk (nI v2) ∧ zC'.2 4 = upd (zC.2 4) nk (nI v3) ∧ zM'.2 9 = upd (zM.2 9) nk (nI v1) ∧ zM'.2 10 = upd (zM.2 10) nk (nI v2) ∧ zM'.2 11 = upd (zM.2 11) nk (nI v3)) ∨ rp_bad e zC' zM') := by
  have hl := ht.1
  have ik := pi_in (j := nk) (n := 8) hk (by omega)
  have kk := pi_cl (j := nk) (by omega)
  rw [cc_1, mc_1, h8, h11, nI_1, if_pos (show nI nk < 8 from (pi_lt (b := 8) (by omega) (by omega)).mpr hk)]
  -- the first number
  have ht0 : rl_text len zC (sg_s zM 11 (nI (nk + 1))) := pf_text (pf_C.rf _) (pf_M.s _ 11 _ (by omega)) ht
  obtain ⟨e1, q1, v1, zC1, zM1, eC1, eM1, a1, a2, a3, a4, a5, a6, a7⟩ := rp_num (lo := 0) (hi := 3) (by omega) (by omega) ht0 h4 (by rw [ps_1, if_neg (by decide)]; exact h6) hp h3 n n hn hn
  rw [show gC_Reader_readNumber n 0 3 zC = some (nI v1, zC1) from eC1]
  unfold gM_into_0_10
  rw [show gM_takeNumber n 0 3 (sg_s zM 11 (nI (nk + 1))) = some (nI e1, zM1) from eM1]
  simp only [Option.bind_some, ik, if_true, pl_let]
  obtain ⟨yC, eyC⟩ : ∃ y, y = sg_w zC1 2 (nI nk) (nI v1) := ⟨_, rfl⟩
  obtain ⟨yM, eyM⟩ : ∃ y, y = sg_w zM1 9 (nI nk) (zM1.1 7) := ⟨_, rfl⟩
  rw [← eyC, ← eyM]
  have fyC : pf_C zC yC := by rw [eyC]; exact (pf_C.nf a5).tr (pf_C.w _ 2 _ _ (by omega))
  have fyM : pf_M zM yM := by rw [eyM]; exact (pf_M.s zM 11 _ (by omega)).tr ((pf_M.nf a6).tr (pf_M.w _ 9 _ _ (by omega)))
  have hty : rl_text len yC yM := pf_text fyC fyM ht
  rcases a7 with ⟨g1, -, g3, g4, g5, g6, g7⟩ | bad
  rotate_left
  · obtain ⟨b1, b2, b3, b4⟩ := bad
    have y3 : yC.1 3 = nI e1 := by rw [eyC]; exact b3
    obtain ⟨z', o1, o2, o3, o4⟩ := cc_2F (z := yC) hk hl hty.2.1 (by rw [eyC]; exact a3) a2 (by rw [y3]; exact nI_ne0 (by omega) (by omega)) n hn
    rw [o1]
    unfold mc_2
    rw [if_neg (pi_nle0 b1 b2), Option.bind_some, if_neg (pi_nle0 b1 b2), Option.bind_some, mt_bad b1 b2]
    refine ⟨z', e1, _, rfl, rfl, fyC.tr o4, fyM.tr (pf_M.s _ 6 _ (by omega)), Or.inr ⟨b1, b2, o2.trans y3, o3.trans ?_⟩⟩
    rw [eyC, eyM]
    exact b4
  subst g1
  -- the second number
  have y3 : yC.1 3 = 0 := by rw [eyC]; exact g4
  have y25 : yC.1 2 = yM.1 5 := by rw [eyC, eyM]; exact g5.trans (h25.trans g6.symm)
  unfold cc_2 mc_2
  rw [if_pos (show nI 0 ≤ 0 from Int32.le_refl 0), ob_eta]
  obtain ⟨e2, q2, v2, zC2, zM2, eC2, eM2, c1, c2, c3, c4, c5, c6, c7⟩ := rp_num (p := q1) (lo := 1) (hi := 60) (by omega) (by omega) hty (by rw [eyC]; exact a3) (by rw [eyM]; exact a4) a2 y3 n n hn hn
  rw [show gC_Reader_readNumber n 1 60 yC = some (nI v2, zC2) from eC2]
  unfold gM_into_0_11
  rw [show gM_takeNumber n 1 60 yM = some (nI e2, zM2) from eM2]
  simp only [Option.bind_some, ik, if_true, pl_let]
  obtain ⟨xC, exC⟩ : ∃ y, y = sg_w zC2 3 (nI nk) (nI v2) := ⟨_, rfl⟩
  obtain ⟨xM, exM⟩ : ∃ y, y = sg_w zM2 10 (nI nk) (zM2.1 7) := ⟨_, rfl⟩
  rw [← exC, ← exM]
  have fxC : pf_C zC xC := by rw [exC]; exact fyC.tr ((pf_C.nf c5).tr (pf_C.w _ 3 _ _ (by omega)))
  have fxM : pf_M zM xM := by rw [exM]; exact fyM.tr ((pf_M.nf c6).tr (pf_M.w _ 10 _ _ (by omega)))
  have htx : rl_text len xC xM := pf_text fxC fxM ht
  rcases c7 with ⟨k1, k2, k3, k4, k5, k6, k7⟩ | bad
  rotate_left
  · obtain ⟨b1, b2, b3, b4⟩ := bad
    have x3 : xC.1 3 = nI e2 := by rw [exC]; exact b3
    obtain ⟨z', o1, o2, o3, o4⟩ := cc_3F (z := xC) hk hl htx.2.1 (by rw [exC]; exact c3) c2 (by rw [x3]; exact nI_ne0 (by omega) (by omega)) n hn
    rw [o1, if_neg (pi_nle0 b1 b2), Option.bind_some, mt_bad b1 b2]
    refine ⟨z', e2, _, rfl, rfl, fxC.tr o4, fxM.tr (pf_M.s _ 6 _ (by omega)), Or.inr ⟨b1, b2, o2.trans x3, o3.trans ?_⟩⟩
    rw [exC, exM]
    exact b4
  subst k1
  -- the third number
  have x3 : xC.1 3 = 0 := by rw [exC]; exact k4
  have x25 : xC.1 2 = xM.1 5 := by rw [exC, exM]; exact k5.trans (y25.trans k6.symm)
  unfold cc_3
  rw [if_pos (show nI 0 ≤ 0 from Int32.le_refl 0), ob_eta]
  obtain ⟨e3, q3, v3, zC3, zM3, eC3, eM3, d1, d2, d3, d4, d5, d6, d7⟩ := rp_num (p := q2) (lo := 0) (hi := 9) (by omega) (by omega) htx (by rw [exC]; exact c3) (by rw [exM]; exact c4) c2 x3 n n hn hn
  rw [show gC_Reader_readNumber n 0 9 xC = some (nI v3, zC3) from eC3]
  unfold gM_into_0_12
  rw [show gM_takeNumber n 0 9 xM = some (nI e3, zM3) from eM3]
  simp only [Option.bind_some, ik, if_true, pl_let]
  obtain ⟨wC, ewC⟩ : ∃ y, y = sg_w zC3 4 (nI nk) (nI v3) := ⟨_, rfl⟩
  obtain ⟨wM, ewM⟩ : ∃ y, y = sg_w zM3 11 (nI nk) (zM3.1 7) := ⟨_, rfl⟩
  rw [← ewC, ← ewM]
  have fwC : pf_C zC wC := by rw [ewC]; exact fxC.tr ((pf_C.nf d5).tr (pf_C.w _ 4 _ _ (by omega)))
  have fwM : pf_M zM wM := by rw [ewM]; exact fxM.tr ((pf_M.nf d6).tr (pf_M.w _ 11 _ _ (by omega)))
  have htw : rl_text len wC wM := pf_text fwC fwM ht
  rcases d7 with ⟨l1, l2, l3, l4, l5, l6, l7⟩ | bad
  rotate_left
  · obtain ⟨b1, b2, b3, b4⟩ := bad
    have w3 : wC.1 3 = nI e3 := by rw [ewC]; exact b3
    obtain ⟨z', o1, o2, o3, o4⟩ := cc_EF (z := wC) hl htw.2.1 (by rw [ewC]; exact d3) d2 (by rw [w3]; exact nI_ne0 (by omega) (by omega)) n hn
    rw [o1, mt_bad b1 b2]
    refine ⟨z', e3, _, rfl, rfl, fwC.tr o4, fwM.tr (pf_M.s _ 6 _ (by omega)), Or.inr ⟨b1, b2, o2.trans w3, o3.trans ?_⟩⟩
    rw [ewC, ewM]
    exact b4
  subst l1
  -- the end
  have w3 : wC.1 3 = 0 := by rw [ewC]; exact l4
  have w25 : wC.1 2 = wM.1 5 := by rw [ewC, ewM]; exact l5.trans (x25.trans l6.symm)
  have w4 : wC.1 4 = nI q3 := by rw [ewC]; exact d3
  have w6 : wM.1 6 = nI q3 := by rw [ewM]; exact d4
  obtain ⟨q, μ, s1, s2, eN, eH, hμ⟩ := rp_next htw w4 w6 d2 n n hn hn
  unfold cc_E
  rw [eN]
  unfold mt_tail
  rw [if_pos (show nI 0 = 0 from rfl)]
  show ∃ zC' e zM', _ ∧ Option.bind (gM_here n wM) _ = _ ∧ _
  rw [eH]
  simp only [Option.bind_some, pl_let]
  have p4 : (sg_s wC 4 (nI q)).1 4 = nI q := by rw [ps_1, if_pos rfl]
  have p6 : (sg_s wM 6 (nI q)).1 6 = nI q := by rw [ps_1, if_pos rfl]
  rw [p4, p6, nI_1, ps_ss, ps_ss]
  by_cases c59 : μ = 59
  · rw [if_pos c59, if_pos c59]
    rcases hμ with ⟨_, hv⟩ | ⟨hlt, -, -⟩
    · rw [hv] at c59; exact absurd c59 (by decide)
    have sC : ∀ k, (5 ≤ k ∧ k ≤ 8) → wC.1 k = zC.1 k := fun k hk => by
      rw [ewC]; show zC3.1 k = _
      rw [d5.1 k (by omega), exC]; show zC2.1 k = _
      rw [c5.1 k (by omega), eyC]; show zC1.1 k = _
      rw [a5.1 k (by omega)]
    have sM : ∀ k, (9 ≤ k ∧ k ≤ 11) → wM.1 k = (sg_s zM 11 (nI (nk + 1))).1 k := fun k hk => by
      rw [ewM]; show zM3.1 k = _
      rw [d6.1 k (by omega), exM]; show zM2.1 k = _
      rw [c6.1 k (by omega), eyM]; show zM1.1 k = _
      rw [a6.1 k (by omega)]
    have AC : ∀ a, wC.2 a = if a = 4 then upd (zC.2 4) nk (nI v3) else if a = 3 then upd (zC.2 3) nk (nI v2) else if a = 2 then upd (zC.2 2) nk (nI v1) else zC.2 a := by
      intro a
      rw [ewC, pw_2, kk, d5.2, exC]
      simp only [pw_2, kk]
      rw [c5.2, eyC]
      simp only [pw_2, kk]
      rw [a5.2]
      by_cases t4 : a = 4
      · rw [if_pos t4, if_pos t4, if_neg (by decide), if_neg (by decide)]
      · rw [if_neg t4, if_neg t4]
        by_cases t3 : a = 3
        · rw [if_pos t3, if_pos t3, if_neg (by decide)]
        · rw [if_neg t3, if_neg t3]
    have AM : ∀ a, wM.2 a = if a = 11 then upd (zM.2 11) nk (nI v3) else if a = 10 then upd (zM.2 10) nk (nI v2) else if a = 9 then upd (zM.2 9) nk (nI v1) else zM.2 a := by
      intro a
      rw [ewM, pw_2, kk, d6.2, exM, l7]
      simp only [pw_2, kk]
      rw [c6.2, eyM, k7]
      simp only [pw_2, kk]
      rw [a6.2, g7]
      by_cases t4 : a = 11
      · rw [if_pos t4, if_pos t4, if_neg (by decide), if_neg (by decide)]; rfl
      · rw [if_neg t4, if_neg t4]
        by_cases t3 : a = 10
        · rw [if_pos t3, if_pos t3, if_neg (by decide)]; rfl
        · rw [if_neg t3, if_neg t3]; rfl
    refine ⟨_, 0, _, rfl, rfl, fwC.tr ((pf_C.s _ 4 _ (by omega)).tr (pf_C.s _ 8 _ (by omega))), fwM.tr (pf_M.s _ 6 _ (by omega)), Or.inl ⟨rfl, q + 1, ?_, ?_, w3, w25, by omega, by omega, rfl, rfl, ?_, ?_, ?_, ?_, v1, v2, v3, k2, k3, l3, ?_, ?_, ?_, ?_, ?_, ?_⟩⟩
    · rw [ps_1, if_pos rfl, ps_1, if_neg (by decide), sC 8 (by omega), h8, nI_1]
    · rw [ps_1, if_neg (by decide), sM 11 (by omega)]; rfl
    · intro k hk
      rw [ps_1, if_neg (by omega), ps_1, if_neg (by omega)]; exact sC k (by omega)
    · intro k hk
      rw [ps_1, if_neg (by omega), sM k (by omega), ps_1, if_neg (by omega)]
    · intro a ha
      show wC.2 a = _
      rw [AC, if_neg (by omega), if_neg (by omega), if_neg (by omega)]
    · intro a ha
      show wM.2 a = _
      rw [AM, if_neg (by omega), if_neg (by omega), if_neg (by omega)]
    · exact AC 2
    · exact AC 3
    · exact AC 4
    · exact AM 9
    · exact AM 10
    · exact AM 11
  · rw [if_neg c59, if_neg c59, rC_fail0 (show (sg_s wC 4 (nI q)).1 3 = 0 from w3)]
    refine ⟨_, 1, _, rfl, rfl, fwC.tr ((pf_C.s _ 4 _ (by omega)).tr ((pf_C.s _ 3 _ (by omega)).tr (pf_C.s _ 2 _ (by omega)))), fwM.tr ((pf_M.s _ 6 _ (by omega)).tr (pf_M.s _ 5 _ (by omega))), Or.inr ⟨by omega, by omega, rfl, rfl⟩⟩

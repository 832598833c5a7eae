/-! the whole relation -/
def rl_book (nc nb : Nat) (zC zM : sg_M) : Prop := nb ≤ 15 ∧ zC.1 20 = nI nb ∧ zM.1 14 = nI nb ∧ ∀ k, k < nb → zC.2 22 k = zM.2 17 k ∧ zC.2 23 k = zM.2 18 k ∧ ∃ x, x < nc ∧ zM.2 17 k = nI x
def rl_seed (zC zM : sg_M) : Prop := ∃ s, s < 2147483648 ∧ zC.1 0 = nI s ∧ zM.1 3 = nI s
def Rl (tb : Nat) (zC zM : sg_M) : Prop := ∃ nc nk nu nx nh nb len, rl_road nc nk zC zM ∧ rl_now nc nk tb zC zM ∧ rl_undo nc nk tb nu nx zC zM ∧ rl_heard nk nh zC zM ∧ rl_book nc nb zC zM ∧ rl_img nc nk tb zC zM ∧ rl_text len zC zM ∧ zC.1 2 = zM.1 5 ∧ rl_seed zC zM
/-! what each part stands on -/
section
variable {zC zM zC' zM' : sg_M}
theorem cg_road {nc nk : Nat} (c1 : ∀ k, (9 ≤ k ∧ k ≤ 11) → zC'.1 k = zC.1 k) (c2 : ∀ a, (6 ≤ a ∧ a ≤ 10) → zC'.2 a = zC.2 a) (m1 : ∀ k, k ≤ 2 → zM'.1 k = zM.1 k) (m2 : ∀ a, a ≤ 4 → zM'.2 a = zM.2 a) (h : rl_road nc nk zC zM) : rl_road nc nk zC' zM' := by
  unfold rl_road at *
  rw [c1 9 (by omega), c1 10 (by omega), c1 11 (by omega), c2 6 (by omega), c2 7 (by omega), c2 8 (by omega), c2 10 (by omega), m1 0 (by omega), m1 1 (by omega), m1 2 (by omega), m2 0 (by omega), m2 1 (by omega), m2 2 (by omega), m2 4 (by omega)]
  exact h
theorem cg_now {nc nk tb : Nat} (c1 : ∀ k, (12 ≤ k ∧ k ≤ 13) → zC'.1 k = zC.1 k) (c2 : ∀ a, (11 ≤ a ∧ a ≤ 17) → zC'.2 a = zC.2 a) (m2 : zM'.2 5 = zM.2 5) (h : rl_now nc nk tb zC zM) : rl_now nc nk tb zC' zM' := by
  unfold rl_now at *
  rw [c1 12 (by omega), c1 13 (by omega), c2 11 (by omega), c2 12 (by omega), c2 13 (by omega), c2 14 (by omega), c2 15 (by omega), c2 16 (by omega), c2 17 (by omega), m2]
  exact h
theorem cg_undo {nc nk tb nu nx : Nat} (c1 : ∀ k, (24 ≤ k ∧ k ≤ 25) → zC'.1 k = zC.1 k) (c2 : zC'.2 26 = zC.2 26) (m1 : zM'.1 12 = zM.1 12) (m2 : zM'.2 12 = zM.2 12) (h : rl_undo nc nk tb nu nx zC zM) : rl_undo nc nk tb nu nx zC' zM' := by
  unfold rl_undo at *
  rw [c1 24 (by omega), c1 25 (by omega), c2, m1, m2]
  exact h
theorem cg_heard {nk nh : Nat} (c1 : zC'.1 19 = zC.1 19) (c2 : ∀ a, (20 ≤ a ∧ a ≤ 21) → zC'.2 a = zC.2 a) (m1 : zM'.1 13 = zM.1 13) (m2 : ∀ a, (14 ≤ a ∧ a ≤ 15) → zM'.2 a = zM.2 a) (h : rl_heard nk nh zC zM) : rl_heard nk nh zC' zM' := by
  unfold rl_heard at *
  rw [c1, c2 20 (by omega), c2 21 (by omega), m1, m2 14 (by omega), m2 15 (by omega)]
  exact h
theorem cg_book {nc nb : Nat} (c1 : zC'.1 20 = zC.1 20) (c2 : ∀ a, (22 ≤ a ∧ a ≤ 23) → zC'.2 a = zC.2 a) (m1 : zM'.1 14 = zM.1 14) (m2 : ∀ a, (17 ≤ a ∧ a ≤ 18) → zM'.2 a = zM.2 a) (h : rl_book nc nb zC zM) : rl_book nc nb zC' zM' := by
  unfold rl_book at *
  rw [c1, c2 22 (by omega), c2 23 (by omega), m1, m2 17 (by omega), m2 18 (by omega)]
  exact h
theorem cg_img {nc nk tb : Nat} (hk : nc ≤ 20 ∧ nk ≤ 8) (c26 : ∀ k, 1696 ≤ k → zC'.2 26 k = zC.2 26 k) (c2 : ∀ a, (27 ≤ a ∧ a ≤ 28) → zC'.2 a = zC.2 a) (m2 : ∀ a, (19 ≤ a ∧ a ≤ 20) → zM'.2 a = zM.2 a) (h : rl_img nc nk tb zC zM) : rl_img nc nk tb zC' zM' := by
  intro i hi
  obtain ⟨h1, h2⟩ := h i hi
  rw [c2 27 (by omega), c2 28 (by omega), m2 19 (by omega), m2 20 (by omega)]
  refine ⟨h1, h2.imp id (fun q => ?_)⟩
  obtain ⟨q1, q2, q3⟩ := q
  exact ⟨q1, rl_slot_cong hk q2 (fun k h1 _ => c26 k (by omega)) (fun _ _ => rfl), q3⟩
theorem cg_text {len : Nat} (c1 : zC'.1 1 = zC.1 1) (c2 : zC'.2 5 = zC.2 5) (m1 : zM'.1 4 = zM.1 4) (m2 : zM'.2 6 = zM.2 6) (h : rl_text len zC zM) : rl_text len zC' zM' := by
  unfold rl_text at *
  rw [c1, c2, m1, m2]
  exact h
theorem cg_seed (c1 : zC'.1 0 = zC.1 0) (m1 : zM'.1 3 = zM.1 3) (h : rl_seed zC zM) : rl_seed zC' zM' := by
  unfold rl_seed at *
  rw [c1, m1]
  exact h
end
/-! more drives may have been -/
theorem mo_st {nc nk tb tb2 : Nat} {ga nm my fk ld sk tm : Nat → Int32} {dy sm : Int32} {f : Nat → Int32} (h : rl_st nc nk tb ga nm my fk ld sk tm dy sm f) (h1 : tb ≤ tb2) (h2 : tb2 ≤ 100000) : rl_st nc nk tb2 ga nm my fk ld sk tm dy sm f := rl_st_of (rl_st_eq h) (ri_mono h.2.2.2.2.2.2.2.2.2 h1 h2)
theorem mo_now {nc nk tb tb2 : Nat} {zC zM : sg_M} (h : rl_now nc nk tb zC zM) (h1 : tb ≤ tb2) (h2 : tb2 ≤ 100000) : rl_now nc nk tb2 zC zM := mo_st h h1 h2
theorem mo_undo {nc nk tb tb2 nu nx : Nat} {zC zM : sg_M} (h : rl_undo nc nk tb nu nx zC zM) (h1 : tb ≤ tb2) (h2 : tb2 ≤ 100000) : rl_undo nc nk tb2 nu nx zC zM := ⟨h.1, h.2.1, h.2.2.1, h.2.2.2.1, h.2.2.2.2.1, fun j hj => mo_st (h.2.2.2.2.2 j hj) h1 h2⟩
theorem mo_img {nc nk tb tb2 : Nat} {zC zM : sg_M} (h : rl_img nc nk tb zC zM) (h1 : tb ≤ tb2) (h2 : tb2 ≤ 100000) : rl_img nc nk tb2 zC zM := fun i hi => ⟨(h i hi).1, (h i hi).2.imp id (fun q => ⟨q.1, mo_st q.2.1 h1 h2, q.2.2⟩)⟩
theorem Rl.mo {tb tb2 : Nat} {zC zM : sg_M} (h : Rl tb zC zM) (h1 : tb ≤ tb2) (h2 : tb2 ≤ 100000) : Rl tb2 zC zM := by
  obtain ⟨nc, nk, nu, nx, nh, nb, len, r1, r2, r3, r4, r5, r6, r7, r8, r9⟩ := h
  exact ⟨nc, nk, nu, nx, nh, nb, len, r1, mo_now r2 h1 h2, mo_undo r3 h1 h2, r4, r5, mo_img r6 h1 h2, r7, r8, r9⟩
/-! scratch changes -/
theorem Rl.sc {tb : Nat} {zC zM zC' zM' : sg_M} (h : Rl tb zC zM) (hC : sc_C zC zC') (hM : sc_M zM zM') : Rl tb zC' zM' := by
  obtain ⟨nc, nk, nu, nx, nh, nb, len, r1, r2, r3, r4, r5, r6, r7, r8, r9⟩ := h
  refine ⟨nc, nk, nu, nx, nh, nb, len, sc_road hC hM r1, sc_now hC hM r2, ?_, sc_heard hC hM r4, ?_, ?_, ?_, ?_, ?_⟩
  · exact cg_undo (fun k hk => hC.1 k (by omega)) (hC.2 26 (by omega)) (hM.1 12) (hM.2 12 (by omega)) r3
  · exact cg_book (hC.1 20 (by omega)) (fun a ha => hC.2 a (by omega)) (hM.1 14) (fun a ha => hM.2 a (by omega)) r5
  · exact cg_img ⟨r1.1, r1.2.1⟩ (fun k _ => by rw [hC.2 26 (by omega)]) (fun a ha => hC.2 a (by omega)) (fun a ha => hM.2 a (by omega)) r6
  · exact cg_text (hC.1 1 (by omega)) (hC.2 5 (by omega)) (hM.1 4) (hM.2 6 (by omega)) r7
  · rw [hC.1 2 (by omega), hM.1 5]; exact r8
  · exact cg_seed (hC.1 0 (by omega)) (hM.1 3) r9
/-- what stands behind the state: all that a deed leaves as it is (the seed may change) -/
def rl_back (nc nk tb : Nat) (zC zM : sg_M) : Prop := ∃ nu nx nh nb len, rl_undo nc nk tb nu nx zC zM ∧ rl_heard nk nh zC zM ∧ rl_book nc nb zC zM ∧ rl_img nc nk tb zC zM ∧ rl_text len zC zM ∧ zC.1 2 = zM.1 5
def gn_C (z z' : sg_M) : Prop := (∀ k, (k ≠ 0 ∧ k ≠ 12 ∧ k ≠ 13) → z'.1 k = z.1 k) ∧ ∀ a, (a < 11 ∨ 17 < a) → z'.2 a = z.2 a
def gn_M (z z' : sg_M) : Prop := (∀ k, k ≠ 3 → z'.1 k = z.1 k) ∧ ∀ a, a ≠ 5 → z'.2 a = z.2 a
theorem gn_C.rf (z : sg_M) : gn_C z z := ⟨fun _ _ => rfl, fun _ _ => rfl⟩
theorem gn_M.rf (z : sg_M) : gn_M z z := ⟨fun _ _ => rfl, fun _ _ => rfl⟩
theorem gn_C.tr {x y z : sg_M} (h : gn_C x y) (g : gn_C y z) : gn_C x z := ⟨fun k hk => (g.1 k hk).trans (h.1 k hk), fun a ha => (g.2 a ha).trans (h.2 a ha)⟩
theorem gn_M.tr {x y z : sg_M} (h : gn_M x y) (g : gn_M y z) : gn_M x z := ⟨fun k hk => (g.1 k hk).trans (h.1 k hk), fun a ha => (g.2 a ha).trans (h.2 a ha)⟩
theorem gn_C.fn {x y : sg_M} (h : fn_C x y) : gn_C x y := ⟨fun k hk => h.1 k hk.2, h.2⟩
theorem gn_M.fn {x y : sg_M} (h : fn_M x y) : gn_M x y := ⟨fun k _ => h.1 k, h.2⟩
theorem gn_road {nc nk : Nat} {zC zM zC' zM' : sg_M} (hC : gn_C zC zC') (hM : gn_M zM zM') (h : rl_road nc nk zC zM) : rl_road nc nk zC' zM' := cg_road (fun k hk => hC.1 k (by omega)) (fun a ha => hC.2 a (by omega)) (fun k hk => hM.1 k (by omega)) (fun a ha => hM.2 a (by omega)) h
theorem gn_back {nc nk tb : Nat} {zC zM zC' zM' : sg_M} (hk : nc ≤ 20 ∧ nk ≤ 8) (hC : gn_C zC zC') (hM : gn_M zM zM') (h : rl_back nc nk tb zC zM) : rl_back nc nk tb zC' zM' := by
  obtain ⟨nu, nx, nh, nb, len, r3, r4, r5, r6, r7, r8⟩ := h
  refine ⟨nu, nx, nh, nb, len, ?_, ?_, ?_, ?_, ?_, ?_⟩
  · exact cg_undo (fun k hk => hC.1 k (by omega)) (hC.2 26 (by omega)) (hM.1 12 (by omega)) (hM.2 12 (by omega)) r3
  · exact cg_heard (hC.1 19 (by omega)) (fun a ha => hC.2 a (by omega)) (hM.1 13 (by omega)) (fun a ha => hM.2 a (by omega)) r4
  · exact cg_book (hC.1 20 (by omega)) (fun a ha => hC.2 a (by omega)) (hM.1 14 (by omega)) (fun a ha => hM.2 a (by omega)) r5
  · exact cg_img hk (fun k _ => by rw [hC.2 26 (by omega)]) (fun a ha => hC.2 a (by omega)) (fun a ha => hM.2 a (by omega)) r6
  · exact cg_text (hC.1 1 (by omega)) (hC.2 5 (by omega)) (hM.1 4 (by omega)) (hM.2 6 (by omega)) r7
  · rw [hC.1 2 (by omega), hM.1 5 (by omega)]; exact r8
theorem mo_back {nc nk tb tb2 : Nat} {zC zM : sg_M} (h : rl_back nc nk tb zC zM) (h1 : tb ≤ tb2) (h2 : tb2 ≤ 100000) : rl_back nc nk tb2 zC zM := by
  obtain ⟨nu, nx, nh, nb, len, r3, r4, r5, r6, r7, r8⟩ := h
  exact ⟨nu, nx, nh, nb, len, mo_undo r3 h1 h2, r4, r5, mo_img r6 h1 h2, r7, r8⟩
theorem Rl.of {nc nk tb : Nat} {zC zM : sg_M} (h1 : rl_road nc nk zC zM) (h2 : rl_now nc nk tb zC zM) (h3 : rl_back nc nk tb zC zM) (h4 : rl_seed zC zM) : Rl tb zC zM := by
  obtain ⟨nu, nx, nh, nb, len, r3, r4, r5, r6, r7, r8⟩ := h3
  exact ⟨nc, nk, nu, nx, nh, nb, len, h1, h2, r3, r4, r5, r6, r7, r8, h4⟩
theorem Rl.to {tb : Nat} {zC zM : sg_M} (h : Rl tb zC zM) : ∃ nc nk, rl_road nc nk zC zM ∧ rl_now nc nk tb zC zM ∧ rl_back nc nk tb zC zM ∧ rl_seed zC zM := by
  obtain ⟨nc, nk, nu, nx, nh, nb, len, r1, r2, r3, r4, r5, r6, r7, r8, r9⟩ := h
  exact ⟨nc, nk, r1, r2, ⟨nu, nx, nh, nb, len, r3, r4, r5, r6, r7, r8⟩, r9⟩
/-- remembering -/
theorem Rl.rem {nc nk tb : Nat} {zC zM : sg_M} (h1 : rl_road nc nk zC zM) (h2 : rl_now nc nk tb zC zM) (h3 : rl_back nc nk tb zC zM) (h4 : rl_seed zC zM) (n : Nat) (hn : 2000 ≤ n) : ∃ zC' zM', gC_Memory_remember zC = some zC' ∧ gM_remember n zM = some zM' ∧ rl_road nc nk zC' zM' ∧ rl_now nc nk tb zC' zM' ∧ rl_back nc nk tb zC' zM' ∧ rl_seed zC' zM' ∧ (∀ k, k < 24 → zC'.1 k = zC.1 k) ∧ (∀ a, a ≠ 26 → zC'.2 a = zC.2 a) ∧ (∀ k, k ≠ 12 → zM'.1 k = zM.1 k) ∧ (∀ a, a ≠ 12 → zM'.2 a = zM.2 a) := by
  obtain ⟨nu, nx, nh, nb, len, r3, r4, r5, r6, r7, r8⟩ := h3
  obtain ⟨nu', nx', zC', zM', e1, e2, e3, fC, fM⟩ := rr_remember ⟨h1.1, h1.2.1⟩ h2 r3 n hn
  refine ⟨zC', zM', e1, e2, ?_, ?_, ⟨nu', nx', nh, nb, len, e3, ?_, ?_, ?_, ?_, ?_⟩, ?_, fun k hk => fC.1 k (by omega), fC.2.1, fM.1, fM.2⟩
  · exact cg_road (fun k hk => fC.1 k (by omega)) (fun a ha => fC.2.1 a (by omega)) (fun k hk => fM.1 k (by omega)) (fun a ha => fM.2 a (by omega)) h1
  · exact cg_now (fun k hk => fC.1 k (by omega)) (fun a ha => fC.2.1 a (by omega)) (fM.2 5 (by omega)) h2
  · exact cg_heard (fC.1 19 (by omega)) (fun a ha => fC.2.1 a (by omega)) (fM.1 13 (by omega)) (fun a ha => fM.2 a (by omega)) r4
  · exact cg_book (fC.1 20 (by omega)) (fun a ha => fC.2.1 a (by omega)) (fM.1 14 (by omega)) (fun a ha => fM.2 a (by omega)) r5
  · exact cg_img ⟨h1.1, h1.2.1⟩ fC.2.2 (fun a ha => fC.2.1 a (by omega)) (fun a ha => fM.2 a (by omega)) r6
  · exact cg_text (fC.1 1 (by omega)) (fC.2.1 5 (by omega)) (fM.1 4 (by omega)) (fM.2 6 (by omega)) r7
  · rw [fC.1 2 (by omega), fM.1 5 (by omega)]; exact r8
  · exact cg_seed (fC.1 0 (by omega)) (fM.1 3 (by omega)) h4

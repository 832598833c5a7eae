/-! the text: rows of numbers, carts -/
/-- a number read behind the first fault: nothing but the place changes -/
theorem rC_numF {len : Nat} (hl : len ≤ 240) (v1 v2 v3 : Int32) : ∀ (k p n : Nat) (v4 : Int32) (z : sg_M), z.1 1 = nI len → p + k = len → k < n → z.1 4 = nI p → ¬ z.1 3 = 0 → ∃ v q, q ≤ len ∧ gC_Reader_readNumber_L n v1 v2 v3 v4 z = some (v, sg_s z 4 (nI q)) := by
  have fin : ∀ (v4 : Int32) (z : sg_M), ¬ z.1 3 = 0 → nx_C v1 v2 v3 v4 z = some (v4, z) := by
    intro v4 z h3
    have ef : gC_Reader_fail 2 v3 z = some z := by unfold gC_Reader_fail; rw [if_neg h3]
    unfold nx_C
    rw [ef]
    repeat' split
    all_goals rfl
  intro k
  induction k with
  | zero =>
    intro p n v4 z h1 hp hn h4 h3
    obtain ⟨m, rfl⟩ : ∃ m, n = m + 1 := ⟨n - 1, by omega⟩
    refine ⟨v4, p, by omega, ?_⟩
    unfold gC_Reader_readNumber_L
    rw [if_pos (show z.1 1 ≤ z.1 4 by rw [h4, h1]; exact (pi_le (by omega) (by omega)).mpr (by omega)), ← h4, ps_self]
    exact fin v4 z h3
  | succ k ih =>
    intro p n v4 z h1 hp hn h4 h3
    obtain ⟨m, rfl⟩ : ∃ m, n = m + 1 := ⟨n - 1, by omega⟩
    have nC : ¬ z.1 1 ≤ z.1 4 := by rw [h4, h1, pi_le (by omega) (by omega)]; omega
    have i4 : sg_in (z.1 4) 240 = true := by rw [h4]; exact pi_in (by omega) (by omega)
    by_cases hf : gC_Reader_isFigure (z.2 5 (z.1 4).toNatClampNeg) = 0
    · refine ⟨v4, p, by omega, ?_⟩
      unfold gC_Reader_readNumber_L
      rw [if_neg nC, if_pos i4, if_pos hf, ← h4, ps_self]
      exact fin v4 z h3
    · have key : ∀ t : Int32, ∃ v q, q ≤ len ∧ gC_Reader_readNumber_L m v1 v2 v3 t (sg_s z 4 (nI (p + 1))) = some (v, sg_s z 4 (nI q)) := by
        intro t
        obtain ⟨v, q, hq, e⟩ := ih (p + 1) m t (sg_s z 4 (nI (p + 1))) h1 (by omega) (by omega) (by rw [ps_1, if_pos rfl]) (by rw [ps_1, if_neg (by decide)]; exact h3)
        exact ⟨v, q, hq, by rw [e, ps_ss]⟩
      by_cases c : (3 : Int32) ≤ z.1 4 - v3
      · obtain ⟨v, q, hq, e⟩ := key v4
        refine ⟨v, q, hq, ?_⟩
        unfold gC_Reader_readNumber_L
        rw [if_neg nC, if_pos i4, if_neg hf, if_pos c, Option.bind_some, h4, nI_1]
        exact e
      · obtain ⟨v, q, hq, e⟩ := key (v4 * 10 + z.2 5 (z.1 4).toNatClampNeg - 48)
        refine ⟨v, q, hq, ?_⟩
        unfold gC_Reader_readNumber_L
        rw [if_neg nC, if_pos i4, if_neg hf, if_neg c, if_pos i4, pl_let, Option.bind_some, pl_let, show z.1 4 + 1 = nI (p + 1) by rw [h4, nI_1]]
        exact e
theorem rC_numT {len p : Nat} (hl : len ≤ 240) (v1 v2 : Int32) {z : sg_M} (h1 : z.1 1 = nI len) (h4 : z.1 4 = nI p) (hp : p ≤ len) (h3 : ¬ z.1 3 = 0) (n : Nat) (hn : 241 ≤ n) : ∃ v q, q ≤ len ∧ gC_Reader_readNumber n v1 v2 z = some (v, sg_s z 4 (nI q)) := by
  have e := rC_next hl (len - p) p n z h1 (by omega) (by omega) h4
  obtain ⟨b1, b2, -⟩ := sp_skip_b (z.2 5) (len - p) p
  generalize sp_skip (z.2 5) (len - p) p = q at *
  unfold gC_Reader_readNumber gC_Reader_nextLetter
  rw [e]
  simp only [Option.bind_some, pl_let]
  have h3' : ¬ (sg_s z 4 (nI q)).1 3 = 0 := by rw [ps_1, if_neg (by decide)]; exact h3
  by_cases hf : gC_Reader_isFigure (sp_at (z.2 5) len q) = 0
  · rw [if_pos hf]
    refine ⟨0, q, by omega, ?_⟩
    unfold gC_Reader_fail
    rw [if_neg h3']
    rfl
  · rw [if_neg hf]
    obtain ⟨v, r, hr, e2⟩ := rC_numF hl v1 v2 ((sg_s z 4 (nI q)).1 4) (len - q) q n 0 (sg_s z 4 (nI q)) h1 (by omega) (by omega) (by rw [ps_1, if_pos rfl]) h3'
    exact ⟨v, r, hr, by rw [e2, ps_ss]⟩
def rf_C (A : Nat) (z z' : sg_M) : Prop := (∀ k, (k ≠ 2 ∧ k ≠ 3 ∧ k ≠ 4) → z'.1 k = z.1 k) ∧ ∀ a, a ≠ A → z'.2 a = z.2 a
def rf_M (B S : Nat) (z z' : sg_M) : Prop := (∀ k, ((k < 5 ∨ 8 < k) ∧ k ≠ S) → z'.1 k = z.1 k) ∧ ∀ a, a ≠ B → z'.2 a = z.2 a
theorem rf_C.tr {A : Nat} {x y z : sg_M} (h : rf_C A x y) (g : rf_C A y z) : rf_C A x z := ⟨fun k hk => (g.1 k hk).trans (h.1 k hk), fun a ha => (g.2 a ha).trans (h.2 a ha)⟩
theorem rf_M.tr {B S : Nat} {x y z : sg_M} (h : rf_M B S x y) (g : rf_M B S y z) : rf_M B S x z := ⟨fun k hk => (g.1 k hk).trans (h.1 k hk), fun a ha => (g.2 a ha).trans (h.2 a ha)⟩
theorem rf_C.nf {A : Nat} {x y : sg_M} (h : nf_C x y) : rf_C A x y := ⟨h.1, fun a _ => by rw [h.2]⟩
theorem rf_M.nf {B S : Nat} {x y : sg_M} (h : nf_M x y) : rf_M B S x y := ⟨fun k hk => h.1 k hk.1, fun a _ => by rw [h.2]⟩
theorem rf_C.w (A : Nat) (z : sg_M) (i v : Int32) : rf_C A z (sg_w z A i v) := ⟨fun _ _ => rfl, fun a ha => by rw [pw_2, if_neg ha]⟩
theorem rf_M.w (B S : Nat) (z : sg_M) (i v : Int32) : rf_M B S z (sg_w z B i v) := ⟨fun _ _ => rfl, fun a ha => by rw [pw_2, if_neg ha]⟩
theorem rf_M.s (B S : Nat) (z : sg_M) (v : Int32) : rf_M B S z (sg_s z S v) := ⟨fun k hk => by rw [ps_1, if_neg hk.2], fun _ _ => rfl⟩
def mt_tail (n : Nat) (t9 : Int32 × sg_M) : Option (Int32 × sg_M) := if t9.1 = (0 : Int32) then (Option.bind (gM_here n t9.2) fun r11 => if r11.1 = (59 : Int32) then (sg_let (sg_s r11.2 6 ((r11.2.1 6) + (1 : Int32))) fun z12 => some (t9.1, z12)) else (Option.bind (gM_fails (1 : Int32) (r11.2.1 6) r11.2) fun r13 => some (r13.1, r13.2))) else (sg_let (sg_s t9.2 6 ((t9.2.1 6) + (1 : Int32))) fun z10 => some (t9.1, z10))
theorem mt_bad {n e : Nat} (h1 : 1 ≤ e) (h2 : e ≤ 3) (z : sg_M) : mt_tail n (nI e, z) = some (nI e, sg_s z 6 (z.1 6 + 1)) := by
  unfold mt_tail
  rw [if_neg (show ¬ nI e = 0 from nI_ne0 (by omega) (by omega))]
  rfl
theorem rC_fail0 {z : sg_M} (h : z.1 3 = 0) (a b : Int32) : gC_Reader_fail a b z = some (sg_s (sg_s z 3 a) 2 b) := by
  unfold gC_Reader_fail
  rw [if_pos h]
  rfl
theorem rC_fail1 {z : sg_M} (h : ¬ z.1 3 = 0) (a b : Int32) : gC_Reader_fail a b z = some z := by
  unfold gC_Reader_fail
  rw [if_neg h]
/-- the tail at a letter that is no blank -/
theorem mt_ok {len q n : Nat} (hl : len ≤ 240) {z : sg_M} (h4 : z.1 4 = nI len) (h6 : z.1 6 = nI q) (hq : q ≤ len) (hb : q = len ∨ ¬ z.2 6 q = 32) (hn : 241 ≤ n) : mt_tail n (0, z) = if sp_at (z.2 6) len q = 59 then some (0, sg_s z 6 (nI (q + 1))) else some (1, sg_s z 5 (nI q)) := by
  unfold mt_tail
  rw [if_pos rfl]
  show Option.bind (gM_here n z) _ = _
  rw [rM_again hl h4 h6 hq hb n hn]
  simp only [Option.bind_some, h6, nI_1, pl_let]
  rfl

def mr_R (n n2 : Nat) (j : Int32) (z : sg_M) : Option (Int32 × sg_M) := Option.bind (gM_into_0_8 n j (0 : Int32) (60 : Int32) z) fun r7 => sg_let (sg_s r7.2 9 ((r7.2.1 9) + (1 : Int32))) fun z8 => gM_takeRoad_L n2 r7.1 z8
def rr_eqsR (c : Nat) (zC zM : sg_M) : Prop := ∀ x, x < c → zC.2 0 x = zM.2 7 x ∧ ∃ g, g ≤ 60 ∧ zM.2 7 x = nI g
theorem rM_intoR {len p j : Nat} (hj : j < 20) {zC zM : sg_M} (ht : rl_text len zC zM) (h4 : zC.1 4 = nI p) (h6 : zM.1 6 = nI p) (hp : p ≤ len) (h3 : zC.1 3 = 0) (n n2 : Nat) (hn : 241 ≤ n) (hn2 : 241 ≤ n2) : ∃ e q v zC' zM', gC_Reader_readNumber n 0 60 zC = some (nI v, zC') ∧ gM_into_0_8 n2 (nI j) 0 60 zM = some (nI e, sg_w zM' 7 (nI j) (zM'.1 7)) ∧ rp_numR p len 0 60 v e q zC zM zC' zM' := by
  obtain ⟨e, q, v, zC', zM', eC, eM, hR⟩ := rp_num (lo := 0) (hi := 60) (by omega) (by omega) ht h4 h6 hp h3 n n2 hn hn2
  refine ⟨e, q, v, zC', zM', eC, ?_, hR⟩
  unfold gM_into_0_8
  rw [show gM_takeNumber n2 0 60 zM = some (nI e, zM') from eM]
  simp only [Option.bind_some, pi_in (j := j) (n := 20) hj (by omega), if_true, pl_let]
theorem rp_rowR {len : Nat} : ∀ (k j n n2 n3 n4 p : Nat) (zC zM : sg_M), j + k = 20 → 1 ≤ k → k + 250 ≤ n → k + 250 ≤ n2 → 241 ≤ n3 → 241 ≤ n4 → rl_text len zC zM → zC.1 4 = nI p → zM.1 6 = nI p → p ≤ len → zC.1 3 = 0 → zC.1 2 = zM.1 5 → zM.1 9 = nI j → rr_eqsR j zC zM → ∃ w zC' e zM', gC_Reader_readRow_1_3_L n 2 20 60 (nI j) zC = some (w, zC') ∧ Option.bind (mr_R n3 n2 (nI j) zM) (mt_tail n4) = some (nI e, zM') ∧ rf_C 0 zC zC' ∧ rf_M 7 9 zM zM' ∧ ((e = 0 ∧ ∃ c q, 2 ≤ c ∧ c ≤ 20 ∧ w = nI c ∧ zM'.1 9 = nI c ∧ zC'.1 3 = 0 ∧ zC'.1 2 = zM'.1 5 ∧ p < q ∧ q ≤ len ∧ zC'.1 4 = nI q ∧ zM'.1 6 = nI q ∧ rr_eqsR c zC' zM') ∨ rp_bad e zC' zM') := by
  intro k
  induction k with
  | zero => intro j n n2 n3 n4 p zC zM _ h; omega
  | succ k ih =>
    intro j n n2 n3 n4 p zC zM hjk _ hn hn2 hn3 hn4 ht h4 h6 hp h3 h25 hS hq0
    obtain ⟨m, rfl⟩ : ∃ m, n = m + 1 := ⟨n - 1, by omega⟩
    obtain ⟨m2, rfl⟩ : ∃ m2, n2 = m2 + 1 := ⟨n2 - 1, by omega⟩
    obtain ⟨e, q, v, zC1, zM1, eC, eM, r1, r2, r3, r4, r5, r6, r7⟩ := rM_intoR (j := j) (by omega) ht h4 h6 hp h3 m n3 (by omega) (by omega)
    have hl := ht.1
    have ij := pi_in (j := j) (n := 20) (by omega) (by omega)
    have kj := pi_cl (j := j) (by omega)
    have nj : ¬ (20 : Int32) ≤ nI j := fun h => by have := (pi_le (a := 20) (b := j) (by omega) (by omega)).mp h; omega
    obtain ⟨zC2, eC2⟩ : ∃ y, y = sg_w zC1 0 (nI j) (nI v) := ⟨_, rfl⟩
    obtain ⟨zM2, eM2⟩ : ∃ y, y = sg_s (sg_w zM1 7 (nI j) (zM1.1 7)) 9 (nI (j + 1)) := ⟨_, rfl⟩
    have fC2 : rf_C 0 zC zC2 := by rw [eC2]; exact (rf_C.nf r5).tr (rf_C.w 0 zC1 _ _)
    have fM2 : rf_M 7 9 zM zM2 := by rw [eM2]; exact (rf_M.nf r6).tr ((rf_M.w 7 9 zM1 _ _).tr (rf_M.s 7 9 _ _))
    have hC0 : gC_Reader_readRow_1_3_L (m + 1) 2 20 60 (nI j) zC = if zC2.1 3 = 0 then (Option.bind (gC_Reader_nextLetter m zC2) fun r3 => sg_let ((if r3.1 = (59 : Int32) then (if (nI (j + 1)) < 2 then (0 : Int32) else (1 : Int32)) else (0 : Int32)) : Int32) fun t4 => sg_let ((if r3.1 = (44 : Int32) then (if 20 ≤ (nI (j + 1)) then (0 : Int32) else (1 : Int32)) else (0 : Int32)) : Int32) fun t5 => if t4 = (0 : Int32) then (if t5 = (0 : Int32) then (Option.bind (gC_Reader_fail (1 : Int32) (r3.2.1 4) r3.2) fun r8 => some ((0 : Int32), r8)) else (sg_let (sg_s r3.2 4 ((r3.2.1 4) + (1 : Int32))) fun z7 => if t4 = (0 : Int32) then (gC_Reader_readRow_1_3_L m 2 20 60 (nI (j + 1)) z7) else (some (nI (j + 1), z7)))) else (sg_let (sg_s r3.2 4 ((r3.2.1 4) + (1 : Int32))) fun z6 => if t4 = (0 : Int32) then (gC_Reader_readRow_1_3_L m 2 20 60 (nI (j + 1)) z6) else (some (nI (j + 1), z6)))) else some (0, zC2) := by
      conv => lhs; unfold gC_Reader_readRow_1_3_L
      rw [if_neg nj, if_neg nj, eC, Option.bind_some, nI_1]
      show (if sg_in (nI j) 20 = true then _ else none) = _
      rw [if_pos ij, pl_let, ← eC2]
    have hM0 : mr_R n3 (m2 + 1) (nI j) zM = gM_takeRoad_L (m2 + 1) (nI e) zM2 := by
      unfold mr_R
      rw [eM, Option.bind_some, pl_let]
      show gM_takeRoad_L (m2 + 1) (nI e) (sg_s (sg_w zM1 7 (nI j) (zM1.1 7)) 9 (zM1.1 9 + 1)) = _
      rw [r6.1 9 (by omega), hS, nI_1, ← eM2]
    rw [hC0, hM0]
    rcases r7 with ⟨g1, g2, g3, g4, g5, g6, g7⟩ | bad
    · subst g1
      have h3' : zC2.1 3 = 0 := by rw [eC2]; exact g4
      have h25' : zC2.1 2 = zM2.1 5 := by rw [eC2, eM2]; exact g5.trans (h25.trans g6.symm)
      have hS' : zM2.1 9 = nI (j + 1) := by rw [eM2]; rfl
      have ht2 : rl_text len zC2 zM2 := by
        unfold rl_text at ht ⊢
        rw [fC2.1 1 (by omega), fM2.1 4 (by omega), fC2.2 5 (by omega), fM2.2 6 (by omega)]
        exact ht
      have hq1 : rr_eqsR (j + 1) zC2 zM2 := by
        intro x hx
        have eA : zC2.2 0 x = upd (zC1.2 0) j (nI v) x := by rw [eC2, pw_2, if_pos rfl, kj]
        have eB : zM2.2 7 x = upd (zM1.2 7) j (nI v) x := by rw [eM2, ps_2, pw_2, if_pos rfl, kj, g7]
        rw [eA, eB, pu_at, pu_at]
        by_cases hxj : x = j
        · rw [if_pos hxj, if_pos hxj]; exact ⟨rfl, v, g3, rfl⟩
        · rw [if_neg hxj, if_neg hxj, r5.2, r6.2]; exact hq0 x (by omega)
      obtain ⟨q1, μ, s1, s2, eN, eH, hμ⟩ := rp_next (p := q) ht2 (by rw [eC2]; exact r3) (by rw [eM2]; exact r4) r2 m m2 (by omega) (by omega)
      rw [if_pos h3', eN]
      simp only [Option.bind_some, pl_let]
      have p4 : (sg_s zC2 4 (nI q1)).1 4 = nI q1 := by rw [ps_1, if_pos rfl]
      have p6 : (sg_s zM2 6 (nI q1)).1 6 = nI q1 := by rw [ps_1, if_pos rfl]
      have pf3 : (sg_s zC2 4 (nI q1)).1 3 = 0 := h3'
      rw [p4, rC_fail0 pf3, nI_1, ps_ss, Option.bind_some]
      have badR : ∀ (x : sg_M), rf_M 7 9 zM x → x.1 5 = nI q1 → rf_C 0 zC (sg_s (sg_s (sg_s zC2 4 (nI q1)) 3 1) 2 (nI q1)) ∧ rf_M 7 9 zM x ∧ rp_bad 1 (sg_s (sg_s (sg_s zC2 4 (nI q1)) 3 1) 2 (nI q1)) x := by
        intro x hx h5
        exact ⟨fC2.tr (rf_C.nf ((nf_C.s _ 4 _ (by omega)).tr ((nf_C.s _ 3 _ (by omega)).tr (nf_C.s _ 2 _ (by omega))))), hx, by omega, by omega, rfl, h5.symm⟩
      have fA : rf_M 7 9 zM (sg_s (sg_s (sg_s zM2 6 (nI q1)) 5 (nI q1)) 6 (nI (q1 + 1))) := fM2.tr (rf_M.nf ((nf_M.s _ 6 _ (by omega)).tr ((nf_M.s _ 5 _ (by omega)).tr (nf_M.s _ 6 _ (by omega)))))
      have fB : rf_M 7 9 zM (sg_s (sg_s zM2 6 (nI q1)) 5 (nI q1)) := fM2.tr (rf_M.nf ((nf_M.s _ 6 _ (by omega)).tr (nf_M.s _ 5 _ (by omega))))
      have tailF : mt_tail n4 (1, sg_s (sg_s zM2 6 (nI q1)) 5 (nI q1)) = some (nI 1, sg_s (sg_s (sg_s zM2 6 (nI q1)) 5 (nI q1)) 6 (nI (q1 + 1))) := by
        have := mt_bad (n := n4) (e := 1) (by omega) (by omega) (sg_s (sg_s zM2 6 (nI q1)) 5 (nI q1))
        rw [show (sg_s (sg_s zM2 6 (nI q1)) 5 (nI q1)).1 6 = nI q1 by rw [ps_1, if_neg (by decide), p6], nI_1] at this
        exact this
      have hM1 : gM_takeRoad_L (m2 + 1) 0 zM2 = if μ = 44 then (if nI (j + 1) = 20 then some (1, sg_s (sg_s zM2 6 (nI q1)) 5 (nI q1)) else mr_R m2 m2 (nI (j + 1)) (sg_s zM2 6 (nI (q1 + 1)))) else (if nI (j + 1) = 1 then some (1, sg_s (sg_s zM2 6 (nI q1)) 5 (nI q1)) else some (0, sg_s zM2 6 (nI q1))) := by
        unfold gM_takeRoad_L
        rw [if_pos rfl, eH, Option.bind_some]
        show (if μ = 44 then _ else _) = _
        by_cases c : μ = 44
        · rw [if_pos c, if_pos c]
          show (if (sg_s zM2 6 (nI q1)).1 9 = 20 then _ else _) = _
          rw [show (sg_s zM2 6 (nI q1)).1 9 = nI (j + 1) by rw [ps_1, if_neg (by decide), hS']]
          by_cases c2 : nI (j + 1) = 20
          · rw [if_pos c2, if_pos c2]
            show Option.bind (gM_fails 1 ((sg_s zM2 6 (nI q1)).1 6) (sg_s zM2 6 (nI q1))) _ = _
            rw [p6]
            rfl
          · rw [if_neg c2, if_neg c2]
            show sg_let (sg_s (sg_s zM2 6 (nI q1)) 6 ((sg_s zM2 6 (nI q1)).1 6 + 1)) _ = _
            rw [p6, nI_1, ps_ss, pl_let]
            show Option.bind (gM_into_0_8 m2 ((sg_s zM2 6 (nI (q1 + 1))).1 9) 0 60 (sg_s zM2 6 (nI (q1 + 1)))) _ = _
            rw [show (sg_s zM2 6 (nI (q1 + 1))).1 9 = nI (j + 1) by rw [ps_1, if_neg (by decide), hS']]
            rfl
        · rw [if_neg c, if_neg c]
          rw [if_pos rfl]
          show (if (sg_s zM2 6 (nI q1)).1 9 = 1 then _ else _) = _
          rw [show (sg_s zM2 6 (nI q1)).1 9 = nI (j + 1) by rw [ps_1, if_neg (by decide), hS']]
          by_cases c2 : nI (j + 1) = 1
          · rw [if_pos c2, if_pos c2]
            show Option.bind (gM_fails 1 ((sg_s zM2 6 (nI q1)).1 6) (sg_s zM2 6 (nI q1))) _ = _
            rw [p6]
            rfl
          · rw [if_neg c2, if_neg c2]
      rw [show gM_takeRoad_L (m2 + 1) (nI 0) zM2 = gM_takeRoad_L (m2 + 1) 0 zM2 from rfl, hM1]
      by_cases c44 : μ = 44
      · rw [if_pos c44, if_neg (show ¬ μ = 59 by rw [c44]; decide), if_pos rfl, if_pos c44]
        by_cases cj : j + 1 = 20
        · rw [if_pos (show (20 : Int32) ≤ nI (j + 1) by rw [cj]; decide), if_pos rfl, if_pos (show nI (j + 1) = 20 by rw [cj]; decide)]
          rw [Option.bind_some, tailF]
          obtain ⟨b1, b2, b3⟩ := badR _ fA rfl
          exact ⟨0, _, 1, _, rfl, rfl, b1, b2, Or.inr b3⟩
        · have d1 : ¬ (20 : Int32) ≤ nI (j + 1) := fun h => by have := (pi_le (a := 20) (b := j + 1) (by omega) (by omega)).mp h; omega
          have d2 : ¬ nI (j + 1) = 20 := fun h => cj ((pi_eq (b := 20) (by omega) (by omega)).mp h)
          rw [if_neg d1, if_neg (show ¬ (1 : Int32) = 0 by decide), if_neg d2, if_pos rfl]
          rcases hμ with ⟨_, hv⟩ | ⟨hlt, hnb, -⟩
          · rw [hv] at c44; exact absurd c44 (by decide)
          · have ht3 : rl_text len (sg_s zC2 4 (nI (q1 + 1))) (sg_s zM2 6 (nI (q1 + 1))) := nf_text (nf_C.s _ 4 _ (by omega)) (nf_M.s _ 6 _ (by omega)) ht2
            obtain ⟨w, zC', e, zM', o1, o2, o3, o4, o5⟩ := ih (j + 1) m m2 m2 n4 (q1 + 1) _ _ (by omega) (by omega) (by omega) (by omega) (by omega) hn4 ht3 (by rw [ps_1, if_pos rfl]) (by rw [ps_1, if_pos rfl]) (by omega) (by rw [ps_1, if_neg (by decide)]; exact h3') h25' (by rw [ps_1, if_neg (by decide)]; exact hS') hq1
            refine ⟨w, zC', e, zM', o1, o2, fC2.tr ((rf_C.nf (nf_C.s _ 4 _ (by omega))).tr o3), fM2.tr ((rf_M.nf (nf_M.s _ 6 _ (by omega))).tr o4), o5.imp (fun h => ?_) id⟩
            obtain ⟨a0, c, qq, a1, a2, a3, a4, a5, a6, a7, a8⟩ := h
            exact ⟨a0, c, qq, a1, a2, a3, a4, a5, a6, by omega, a8⟩
      · rw [if_neg c44, if_neg c44]
        have tl : rl_text len (sg_s zC2 4 (nI q1)) (sg_s zM2 6 (nI q1)) := nf_text (nf_C.s _ 4 _ (by omega)) (nf_M.s _ 6 _ (by omega)) ht2
        have hb : q1 = len ∨ ¬ (sg_s zM2 6 (nI q1)).2 6 q1 = 32 := by
          rcases hμ with ⟨h, -⟩ | ⟨hlt, hnb, -⟩
          · exact Or.inl h
          · right; rw [← (tl.2.2.2 q1 hlt).1]; exact hnb
        have hat : sp_at ((sg_s zM2 6 (nI q1)).2 6) len q1 = μ := by
          unfold sp_at
          rcases hμ with ⟨h, hv⟩ | ⟨hlt, -, g, _, e1, e2⟩
          · rw [if_neg (by omega), hv]
          · rw [if_pos hlt, ← (tl.2.2.2 q1 hlt).1, e1]; exact e2
        have tailO : mt_tail n4 (0, sg_s zM2 6 (nI q1)) = if μ = 59 then some (0, sg_s zM2 6 (nI (q1 + 1))) else some (1, sg_s (sg_s zM2 6 (nI q1)) 5 (nI q1)) := by
          rw [mt_ok hl tl.2.2.1 p6 s2 hb hn4, hat, ps_ss]
        by_cases cj : nI (j + 1) = 1
        · have cj' : j + 1 = 1 := (pi_eq (b := 1) (by omega) (by omega)).mp cj
          rw [if_pos cj, Option.bind_some, tailF]
          obtain ⟨b1, b2, b3⟩ := badR _ fA rfl
          by_cases c59 : μ = 59
          · rw [if_pos c59, if_pos (show nI (j + 1) < 2 by rw [cj]; decide), if_pos rfl, if_pos rfl]
            exact ⟨0, _, 1, _, rfl, rfl, b1, b2, Or.inr b3⟩
          · rw [if_neg c59, if_pos rfl, if_pos rfl]
            exact ⟨0, _, 1, _, rfl, rfl, b1, b2, Or.inr b3⟩
        · have cj' : ¬ j + 1 = 1 := fun h => cj (by rw [h]; decide)
          rw [if_neg cj, Option.bind_some, tailO]
          by_cases c59 : μ = 59
          · rcases hμ with ⟨_, hv⟩ | ⟨hlt, hnb, -⟩
            · rw [hv] at c59; exact absurd c59 (by decide)
            have d1 : ¬ nI (j + 1) < 2 := fun h => by have := (pi_lt (a := j + 1) (b := 2) (by omega) (by omega)).mp h; omega
            rw [if_pos c59, if_neg d1, if_neg (show ¬ (1 : Int32) = 0 by decide), if_neg (show ¬ (1 : Int32) = 0 by decide), if_pos c59]
            refine ⟨nI (j + 1), _, 0, _, rfl, rfl, fC2.tr (rf_C.nf (nf_C.s _ 4 _ (by omega))), fM2.tr (rf_M.nf (nf_M.s _ 6 _ (by omega))), Or.inl ⟨rfl, j + 1, q1 + 1, by omega, by omega, rfl, hS', h3', h25', by omega, by omega, rfl, rfl, hq1⟩⟩
          · rw [if_neg c59, if_pos rfl, if_pos rfl, if_neg c59]
            obtain ⟨b1, b2, b3⟩ := badR _ fB rfl
            exact ⟨0, _, 1, _, rfl, rfl, b1, b2, Or.inr b3⟩
    · obtain ⟨b1, b2, b3, b4⟩ := bad
      have h3' : ¬ zC2.1 3 = 0 := by rw [eC2]; show ¬ zC1.1 3 = 0; rw [b3]; exact nI_ne0 (by omega) (by omega)
      have ne : ¬ nI e = 0 := nI_ne0 (by omega) (by omega)
      rw [if_neg h3']
      have hM1 : gM_takeRoad_L (m2 + 1) (nI e) zM2 = some (nI e, zM2) := by
        unfold gM_takeRoad_L
        rw [if_neg ne, if_neg ne]
      rw [hM1, Option.bind_some, mt_bad b1 b2]
      refine ⟨0, zC2, e, _, rfl, rfl, fC2, fM2.tr (rf_M.nf (nf_M.s _ 6 _ (by omega))), Or.inr ⟨b1, b2, ?_, ?_⟩⟩
      · rw [eC2]; exact b3
      · rw [eC2, eM2]; exact b4

def mr_W (n n2 : Nat) (j : Int32) (z : sg_M) : Option (Int32 × sg_M) := Option.bind (gM_into_0_9 n j (0 : Int32) (30 : Int32) z) fun r7 => sg_let (sg_s r7.2 10 ((r7.2.1 10) + (1 : Int32))) fun z8 => gM_takeWeather_L n2 r7.1 z8
def rr_eqsW (c : Nat) (zC zM : sg_M) : Prop := ∀ x, x < c → zC.2 1 x = zM.2 8 x ∧ ∃ g, g ≤ 30 ∧ zM.2 8 x = nI g
theorem rM_intoW {len p j : Nat} (hj : j < 12) {zC zM : sg_M} (ht : rl_text len zC zM) (h4 : zC.1 4 = nI p) (h6 : zM.1 6 = nI p) (hp : p ≤ len) (h3 : zC.1 3 = 0) (n n2 : Nat) (hn : 241 ≤ n) (hn2 : 241 ≤ n2) : ∃ e q v zC' zM', gC_Reader_readNumber n 0 30 zC = some (nI v, zC') ∧ gM_into_0_9 n2 (nI j) 0 30 zM = some (nI e, sg_w zM' 8 (nI j) (zM'.1 7)) ∧ rp_numR p len 0 30 v e q zC zM zC' zM' := by
  obtain ⟨e, q, v, zC', zM', eC, eM, hR⟩ := rp_num (lo := 0) (hi := 30) (by omega) (by omega) ht h4 h6 hp h3 n n2 hn hn2
  refine ⟨e, q, v, zC', zM', eC, ?_, hR⟩
  unfold gM_into_0_9
  rw [show gM_takeNumber n2 0 30 zM = some (nI e, zM') from eM]
  simp only [Option.bind_some, pi_in (j := j) (n := 12) hj (by omega), if_true, pl_let]
theorem rp_rowW {len : Nat} : ∀ (k j n n2 n3 n4 p : Nat) (zC zM : sg_M), j + k = 12 → 1 ≤ k → k + 250 ≤ n → k + 250 ≤ n2 → 241 ≤ n3 → 241 ≤ n4 → rl_text len zC zM → zC.1 4 = nI p → zM.1 6 = nI p → p ≤ len → zC.1 3 = 0 → zC.1 2 = zM.1 5 → zM.1 10 = nI j → rr_eqsW j zC zM → ∃ w zC' e zM', gC_Reader_readRow_1_4_L n 1 12 30 (nI j) zC = some (w, zC') ∧ Option.bind (mr_W n3 n2 (nI j) zM) (mt_tail n4) = some (nI e, zM') ∧ rf_C 1 zC zC' ∧ rf_M 8 10 zM zM' ∧ ((e = 0 ∧ ∃ c q, 1 ≤ c ∧ c ≤ 12 ∧ w = nI c ∧ zM'.1 10 = nI c ∧ zC'.1 3 = 0 ∧ zC'.1 2 = zM'.1 5 ∧ p < q ∧ q ≤ len ∧ zC'.1 4 = nI q ∧ zM'.1 6 = nI q ∧ rr_eqsW c zC' zM') ∨ rp_bad e zC' zM') := by
  intro k
  induction k with
  | zero => intro j n n2 n3 n4 p zC zM _ h; omega
  | succ k ih =>
    intro j n n2 n3 n4 p zC zM hjk _ hn hn2 hn3 hn4 ht h4 h6 hp h3 h25 hS hq0
    obtain ⟨m, rfl⟩ : ∃ m, n = m + 1 := ⟨n - 1, by omega⟩
    obtain ⟨m2, rfl⟩ : ∃ m2, n2 = m2 + 1 := ⟨n2 - 1, by omega⟩
    obtain ⟨e, q, v, zC1, zM1, eC, eM, r1, r2, r3, r4, r5, r6, r7⟩ := rM_intoW (j := j) (by omega) ht h4 h6 hp h3 m n3 (by omega) (by omega)
    have hl := ht.1
    have ij := pi_in (j := j) (n := 12) (by omega) (by omega)
    have kj := pi_cl (j := j) (by omega)
    have nj : ¬ (12 : Int32) ≤ nI j := fun h => by have := (pi_le (a := 12) (b := j) (by omega) (by omega)).mp h; omega
    obtain ⟨zC2, eC2⟩ : ∃ y, y = sg_w zC1 1 (nI j) (nI v) := ⟨_, rfl⟩
    obtain ⟨zM2, eM2⟩ : ∃ y, y = sg_s (sg_w zM1 8 (nI j) (zM1.1 7)) 10 (nI (j + 1)) := ⟨_, rfl⟩
    have fC2 : rf_C 1 zC zC2 := by rw [eC2]; exact (rf_C.nf r5).tr (rf_C.w 1 zC1 _ _)
    have fM2 : rf_M 8 10 zM zM2 := by rw [eM2]; exact (rf_M.nf r6).tr ((rf_M.w 8 10 zM1 _ _).tr (rf_M.s 8 10 _ _))
    have hC0 : gC_Reader_readRow_1_4_L (m + 1) 1 12 30 (nI j) zC = if zC2.1 3 = 0 then (Option.bind (gC_Reader_nextLetter m zC2) fun r3 => sg_let ((if r3.1 = (59 : Int32) then (if (nI (j + 1)) < 1 then (0 : Int32) else (1 : Int32)) else (0 : Int32)) : Int32) fun t4 => sg_let ((if r3.1 = (44 : Int32) then (if 12 ≤ (nI (j + 1)) then (0 : Int32) else (1 : Int32)) else (0 : Int32)) : Int32) fun t5 => if t4 = (0 : Int32) then (if t5 = (0 : Int32) then (Option.bind (gC_Reader_fail (1 : Int32) (r3.2.1 4) r3.2) fun r8 => some ((0 : Int32), r8)) else (sg_let (sg_s r3.2 4 ((r3.2.1 4) + (1 : Int32))) fun z7 => if t4 = (0 : Int32) then (gC_Reader_readRow_1_4_L m 1 12 30 (nI (j + 1)) z7) else (some (nI (j + 1), z7)))) else (sg_let (sg_s r3.2 4 ((r3.2.1 4) + (1 : Int32))) fun z6 => if t4 = (0 : Int32) then (gC_Reader_readRow_1_4_L m 1 12 30 (nI (j + 1)) z6) else (some (nI (j + 1), z6)))) else some (0, zC2) := by
      conv => lhs; unfold gC_Reader_readRow_1_4_L
      rw [if_neg nj, if_neg nj, eC, Option.bind_some, nI_1]
      show (if sg_in (nI j) 12 = true then _ else none) = _
      rw [if_pos ij, pl_let, ← eC2]
    have hM0 : mr_W n3 (m2 + 1) (nI j) zM = gM_takeWeather_L (m2 + 1) (nI e) zM2 := by
      unfold mr_W
      rw [eM, Option.bind_some, pl_let]
      show gM_takeWeather_L (m2 + 1) (nI e) (sg_s (sg_w zM1 8 (nI j) (zM1.1 7)) 10 (zM1.1 10 + 1)) = _
      rw [r6.1 10 (by omega), hS, nI_1, ← eM2]
    rw [hC0, hM0]
    rcases r7 with ⟨g1, g2, g3, g4, g5, g6, g7⟩ | bad
    · subst g1
      have h3' : zC2.1 3 = 0 := by rw [eC2]; exact g4
      have h25' : zC2.1 2 = zM2.1 5 := by rw [eC2, eM2]; exact g5.trans (h25.trans g6.symm)
      have hS' : zM2.1 10 = nI (j + 1) := by rw [eM2]; rfl
      have ht2 : rl_text len zC2 zM2 := by
        unfold rl_text at ht ⊢
        rw [fC2.1 1 (by omega), fM2.1 4 (by omega), fC2.2 5 (by omega), fM2.2 6 (by omega)]
        exact ht
      have hq1 : rr_eqsW (j + 1) zC2 zM2 := by
        intro x hx
        have eA : zC2.2 1 x = upd (zC1.2 1) j (nI v) x := by rw [eC2, pw_2, if_pos rfl, kj]
        have eB : zM2.2 8 x = upd (zM1.2 8) j (nI v) x := by rw [eM2, ps_2, pw_2, if_pos rfl, kj, g7]
        rw [eA, eB, pu_at, pu_at]
        by_cases hxj : x = j
        · rw [if_pos hxj, if_pos hxj]; exact ⟨rfl, v, g3, rfl⟩
        · rw [if_neg hxj, if_neg hxj, r5.2, r6.2]; exact hq0 x (by omega)
      obtain ⟨q1, μ, s1, s2, eN, eH, hμ⟩ := rp_next (p := q) ht2 (by rw [eC2]; exact r3) (by rw [eM2]; exact r4) r2 m m2 (by omega) (by omega)
      rw [if_pos h3', eN]
      simp only [Option.bind_some, pl_let]
      have p4 : (sg_s zC2 4 (nI q1)).1 4 = nI q1 := by rw [ps_1, if_pos rfl]
      have p6 : (sg_s zM2 6 (nI q1)).1 6 = nI q1 := by rw [ps_1, if_pos rfl]
      have pf3 : (sg_s zC2 4 (nI q1)).1 3 = 0 := h3'
      rw [p4, rC_fail0 pf3, nI_1, ps_ss, Option.bind_some]
      have badR : ∀ (x : sg_M), rf_M 8 10 zM x → x.1 5 = nI q1 → rf_C 1 zC (sg_s (sg_s (sg_s zC2 4 (nI q1)) 3 1) 2 (nI q1)) ∧ rf_M 8 10 zM x ∧ rp_bad 1 (sg_s (sg_s (sg_s zC2 4 (nI q1)) 3 1) 2 (nI q1)) x := by
        intro x hx h5
        exact ⟨fC2.tr (rf_C.nf ((nf_C.s _ 4 _ (by omega)).tr ((nf_C.s _ 3 _ (by omega)).tr (nf_C.s _ 2 _ (by omega))))), hx, by omega, by omega, rfl, h5.symm⟩
      have fA : rf_M 8 10 zM (sg_s (sg_s (sg_s zM2 6 (nI q1)) 5 (nI q1)) 6 (nI (q1 + 1))) := fM2.tr (rf_M.nf ((nf_M.s _ 6 _ (by omega)).tr ((nf_M.s _ 5 _ (by omega)).tr (nf_M.s _ 6 _ (by omega)))))
      have fB : rf_M 8 10 zM (sg_s (sg_s zM2 6 (nI q1)) 5 (nI q1)) := fM2.tr (rf_M.nf ((nf_M.s _ 6 _ (by omega)).tr (nf_M.s _ 5 _ (by omega))))
      have tailF : mt_tail n4 (1, sg_s (sg_s zM2 6 (nI q1)) 5 (nI q1)) = some (nI 1, sg_s (sg_s (sg_s zM2 6 (nI q1)) 5 (nI q1)) 6 (nI (q1 + 1))) := by
        have := mt_bad (n := n4) (e := 1) (by omega) (by omega) (sg_s (sg_s zM2 6 (nI q1)) 5 (nI q1))
        rw [show (sg_s (sg_s zM2 6 (nI q1)) 5 (nI q1)).1 6 = nI q1 by rw [ps_1, if_neg (by decide), p6], nI_1] at this
        exact this
      have hM1 : gM_takeWeather_L (m2 + 1) 0 zM2 = if μ = 44 then (if nI (j + 1) = 12 then some (1, sg_s (sg_s zM2 6 (nI q1)) 5 (nI q1)) else mr_W m2 m2 (nI (j + 1)) (sg_s zM2 6 (nI (q1 + 1)))) else some (0, sg_s zM2 6 (nI q1)) := by
        unfold gM_takeWeather_L
        rw [if_pos rfl, eH, Option.bind_some]
        show (if μ = 44 then _ else _) = _
        by_cases c : μ = 44
        · rw [if_pos c, if_pos c]
          show (if (sg_s zM2 6 (nI q1)).1 10 = 12 then _ else _) = _
          rw [show (sg_s zM2 6 (nI q1)).1 10 = nI (j + 1) by rw [ps_1, if_neg (by decide), hS']]
          by_cases c2 : nI (j + 1) = 12
          · rw [if_pos c2, if_pos c2]
            show Option.bind (gM_fails 1 ((sg_s zM2 6 (nI q1)).1 6) (sg_s zM2 6 (nI q1))) _ = _
            rw [p6]
            rfl
          · rw [if_neg c2, if_neg c2]
            show sg_let (sg_s (sg_s zM2 6 (nI q1)) 6 ((sg_s zM2 6 (nI q1)).1 6 + 1)) _ = _
            rw [p6, nI_1, ps_ss, pl_let]
            show Option.bind (gM_into_0_9 m2 ((sg_s zM2 6 (nI (q1 + 1))).1 10) 0 30 (sg_s zM2 6 (nI (q1 + 1)))) _ = _
            rw [show (sg_s zM2 6 (nI (q1 + 1))).1 10 = nI (j + 1) by rw [ps_1, if_neg (by decide), hS']]
            rfl
        · rw [if_neg c, if_neg c]

      rw [show gM_takeWeather_L (m2 + 1) (nI 0) zM2 = gM_takeWeather_L (m2 + 1) 0 zM2 from rfl, hM1]
      by_cases c44 : μ = 44
      · rw [if_pos c44, if_neg (show ¬ μ = 59 by rw [c44]; decide), if_pos rfl, if_pos c44]
        by_cases cj : j + 1 = 12
        · rw [if_pos (show (12 : Int32) ≤ nI (j + 1) by rw [cj]; decide), if_pos rfl, if_pos (show nI (j + 1) = 12 by rw [cj]; decide)]
          rw [Option.bind_some, tailF]
          obtain ⟨b1, b2, b3⟩ := badR _ fA rfl
          exact ⟨0, _, 1, _, rfl, rfl, b1, b2, Or.inr b3⟩
        · have d1 : ¬ (12 : Int32) ≤ nI (j + 1) := fun h => by have := (pi_le (a := 12) (b := j + 1) (by omega) (by omega)).mp h; omega
          have d2 : ¬ nI (j + 1) = 12 := fun h => cj ((pi_eq (b := 12) (by omega) (by omega)).mp h)
          rw [if_neg d1, if_neg (show ¬ (1 : Int32) = 0 by decide), if_neg d2, if_pos rfl]
          rcases hμ with ⟨_, hv⟩ | ⟨hlt, hnb, -⟩
          · rw [hv] at c44; exact absurd c44 (by decide)
          · have ht3 : rl_text len (sg_s zC2 4 (nI (q1 + 1))) (sg_s zM2 6 (nI (q1 + 1))) := nf_text (nf_C.s _ 4 _ (by omega)) (nf_M.s _ 6 _ (by omega)) ht2
            obtain ⟨w, zC', e, zM', o1, o2, o3, o4, o5⟩ := ih (j + 1) m m2 m2 n4 (q1 + 1) _ _ (by omega) (by omega) (by omega) (by omega) (by omega) hn4 ht3 (by rw [ps_1, if_pos rfl]) (by rw [ps_1, if_pos rfl]) (by omega) (by rw [ps_1, if_neg (by decide)]; exact h3') h25' (by rw [ps_1, if_neg (by decide)]; exact hS') hq1
            refine ⟨w, zC', e, zM', o1, o2, fC2.tr ((rf_C.nf (nf_C.s _ 4 _ (by omega))).tr o3), fM2.tr ((rf_M.nf (nf_M.s _ 6 _ (by omega))).tr o4), o5.imp (fun h => ?_) id⟩
            obtain ⟨a0, c, qq, a1, a2, a3, a4, a5, a6, a7, a8⟩ := h
            exact ⟨a0, c, qq, a1, a2, a3, a4, a5, a6, by omega, a8⟩
      · rw [if_neg c44, if_neg c44]
        have tl : rl_text len (sg_s zC2 4 (nI q1)) (sg_s zM2 6 (nI q1)) := nf_text (nf_C.s _ 4 _ (by omega)) (nf_M.s _ 6 _ (by omega)) ht2
        have hb : q1 = len ∨ ¬ (sg_s zM2 6 (nI q1)).2 6 q1 = 32 := by
          rcases hμ with ⟨h, -⟩ | ⟨hlt, hnb, -⟩
          · exact Or.inl h
          · right; rw [← (tl.2.2.2 q1 hlt).1]; exact hnb
        have hat : sp_at ((sg_s zM2 6 (nI q1)).2 6) len q1 = μ := by
          unfold sp_at
          rcases hμ with ⟨h, hv⟩ | ⟨hlt, -, g, _, e1, e2⟩
          · rw [if_neg (by omega), hv]
          · rw [if_pos hlt, ← (tl.2.2.2 q1 hlt).1, e1]; exact e2
        have tailO : mt_tail n4 (0, sg_s zM2 6 (nI q1)) = if μ = 59 then some (0, sg_s zM2 6 (nI (q1 + 1))) else some (1, sg_s (sg_s zM2 6 (nI q1)) 5 (nI q1)) := by
          rw [mt_ok hl tl.2.2.1 p6 s2 hb hn4, hat, ps_ss]
        rw [Option.bind_some, tailO]
        by_cases c59 : μ = 59
        · rcases hμ with ⟨_, hv⟩ | ⟨hlt, hnb, -⟩
          · rw [hv] at c59; exact absurd c59 (by decide)
          have d1 : ¬ nI (j + 1) < 1 := fun h => by have := (pi_lt (a := j + 1) (b := 1) (by omega) (by omega)).mp h; omega
          rw [if_pos c59, if_neg d1, if_neg (show ¬ (1 : Int32) = 0 by decide), if_neg (show ¬ (1 : Int32) = 0 by decide), if_pos c59]
          refine ⟨nI (j + 1), _, 0, _, rfl, rfl, fC2.tr (rf_C.nf (nf_C.s _ 4 _ (by omega))), fM2.tr (rf_M.nf (nf_M.s _ 6 _ (by omega))), Or.inl ⟨rfl, j + 1, q1 + 1, by omega, by omega, rfl, hS', h3', h25', by omega, by omega, rfl, rfl, hq1⟩⟩
        · rw [if_neg c59, if_pos rfl, if_pos rfl, if_neg c59]
          obtain ⟨b1, b2, b3⟩ := badR _ fB rfl
          exact ⟨0, _, 1, _, rfl, rfl, b1, b2, Or.inr b3⟩
    · obtain ⟨b1, b2, b3, b4⟩ := bad
      have h3' : ¬ zC2.1 3 = 0 := by rw [eC2]; show ¬ zC1.1 3 = 0; rw [b3]; exact nI_ne0 (by omega) (by omega)
      have ne : ¬ nI e = 0 := nI_ne0 (by omega) (by omega)
      rw [if_neg h3']
      have hM1 : gM_takeWeather_L (m2 + 1) (nI e) zM2 = some (nI e, zM2) := by
        unfold gM_takeWeather_L
        rw [if_neg ne]
      rw [hM1, Option.bind_some, mt_bad b1 b2]
      refine ⟨0, zC2, e, _, rfl, rfl, fC2, fM2.tr (rf_M.nf (nf_M.s _ 6 _ (by omega))), Or.inr ⟨b1, b2, ?_, ?_⟩⟩
      · rw [eC2]; exact b3
      · rw [eC2, eM2]; exact b4

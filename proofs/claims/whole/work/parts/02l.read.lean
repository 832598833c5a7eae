/-! the text: next letter, numbers -/
theorem ps_self (z : sg_M) (k : Nat) : sg_s z k (z.1 k) = z := by
  unfold sg_s
  refine Prod.ext ?_ rfl
  funext j
  by_cases h : j = k <;> simp [h]
theorem ps_ss (z : sg_M) (k : Nat) (a b : Int32) : sg_s (sg_s z k a) k b = sg_s z k b := by
  unfold sg_s
  refine Prod.ext ?_ rfl
  funext j
  by_cases h : j = k <;> simp [h]
def sp_skip (f : Nat → Int32) : Nat → Nat → Nat
  | 0, p => p
  | k + 1, p => if f p = 32 then sp_skip f k (p + 1) else p
def sp_at (f : Nat → Int32) (len q : Nat) : Int32 := if q < len then f q else -1
theorem sp_skip_b (f : Nat → Int32) : ∀ (k p : Nat), p ≤ sp_skip f k p ∧ sp_skip f k p ≤ p + k ∧ (sp_skip f k p < p + k → ¬ f (sp_skip f k p) = 32) := by
  intro k
  induction k with
  | zero => intro p; exact ⟨Nat.le_refl _, Nat.le_refl _, fun h => absurd h (Nat.lt_irrefl _)⟩
  | succ k ih =>
    intro p
    unfold sp_skip
    by_cases h : f p = 32
    · rw [if_pos h]
      obtain ⟨h1, h2, h3⟩ := ih (p + 1)
      exact ⟨by omega, by omega, fun q => h3 (by omega)⟩
    · rw [if_neg h]
      exact ⟨Nat.le_refl _, by omega, fun _ => h⟩
theorem sp_skip_c (f g : Nat → Int32) : ∀ (k p : Nat), (∀ i, p ≤ i → i < p + k → f i = g i) → sp_skip f k p = sp_skip g k p := by
  intro k
  induction k with
  | zero => intro p _; rfl
  | succ k ih =>
    intro p h
    unfold sp_skip
    rw [h p (Nat.le_refl _) (by omega)]
    by_cases e : g p = 32
    · rw [if_pos e, if_pos e]; exact ih (p + 1) (fun i h1 h2 => h i (by omega) (by omega))
    · rw [if_neg e, if_neg e]
theorem sp_skip_f (f : Nat → Int32) (k p : Nat) (h : k = 0 ∨ ¬ f p = 32) : sp_skip f k p = p := by
  cases k with
  | zero => rfl
  | succ k =>
    unfold sp_skip
    rw [if_neg (h.resolve_left (by omega))]
theorem rC_next {len : Nat} (hl : len ≤ 240) : ∀ (k p n : Nat) (z : sg_M), z.1 1 = nI len → p + k = len → k < n → z.1 4 = nI p → gC_Reader_nextLetter_L n z = some (sp_at (z.2 5) len (sp_skip (z.2 5) k p), sg_s z 4 (nI (sp_skip (z.2 5) k p))) := by
  intro k
  induction k with
  | zero =>
    intro p n z h1 hp hn h4
    obtain ⟨m, rfl⟩ : ∃ m, n = m + 1 := ⟨n - 1, by omega⟩
    unfold gC_Reader_nextLetter_L
    rw [h1, h4, if_pos ((pi_le (by omega) (by omega)).mpr (by omega)), if_pos ((pi_le (by omega) (by omega)).mpr (by omega))]
    unfold sp_skip sp_at
    rw [if_neg (by omega), ← h4, ps_self]
  | succ k ih =>
    intro p n z h1 hp hn h4
    obtain ⟨m, rfl⟩ : ∃ m, n = m + 1 := ⟨n - 1, by omega⟩
    unfold gC_Reader_nextLetter_L
    have hlt : ¬ nI len ≤ nI p := by rw [pi_le (by omega) (by omega)]; omega
    rw [h1, h4, if_neg hlt, if_neg hlt, pi_in (j := p) (by omega) (by omega), pi_cl (by omega), nI_1]
    simp only [if_true, pl_let]
    unfold sp_skip
    by_cases e : z.2 5 p = 32
    · rw [if_pos e, if_pos e, ih (p + 1) m (sg_s z 4 (nI (p + 1))) h1 (by omega) (by omega) (by rw [ps_1, if_pos rfl]), ps_ss]
      rfl
    · rw [if_neg e, if_neg e]
      unfold sp_at
      rw [if_pos (by omega), ← h4, ps_self]
theorem rM_next {len : Nat} (hl : len ≤ 240) : ∀ (k p n : Nat) (z : sg_M), z.1 4 = nI len → p + k = len → k < n → z.1 6 = nI p → gM_here_L n z = some (sp_at (z.2 6) len (sp_skip (z.2 6) k p), sg_s z 6 (nI (sp_skip (z.2 6) k p))) := by
  intro k
  induction k with
  | zero =>
    intro p n z h1 hp hn h4
    obtain ⟨m, rfl⟩ : ∃ m, n = m + 1 := ⟨n - 1, by omega⟩
    unfold gM_here_L
    rw [h1, h4, if_pos ((pi_le (by omega) (by omega)).mpr (by omega)), if_pos ((pi_le (by omega) (by omega)).mpr (by omega))]
    unfold sp_skip sp_at
    rw [if_neg (by omega), ← h4, ps_self]
  | succ k ih =>
    intro p n z h1 hp hn h4
    obtain ⟨m, rfl⟩ : ∃ m, n = m + 1 := ⟨n - 1, by omega⟩
    unfold gM_here_L
    have hlt : ¬ nI len ≤ nI p := by rw [pi_le (by omega) (by omega)]; omega
    rw [h1, h4, if_neg hlt, if_neg hlt, pi_in (j := p) (by omega) (by omega), pi_cl (by omega), nI_1]
    simp only [if_true, pl_let]
    unfold sp_skip
    by_cases e : z.2 6 p = 32
    · rw [if_pos e, if_pos e, ih (p + 1) m (sg_s z 6 (nI (p + 1))) h1 (by omega) (by omega) (by rw [ps_1, if_pos rfl]), ps_ss]
      rfl
    · rw [if_neg e, if_neg e]
      unfold sp_at
      rw [if_pos (by omega), ← h4, ps_self]
def rl_text (len : Nat) (zC zM : sg_M) : Prop := len ≤ 240 ∧ zC.1 1 = nI len ∧ zM.1 4 = nI len ∧ ∀ i, i < len → zC.2 5 i = zM.2 6 i ∧ ∃ g, g ≤ 255 ∧ zM.2 6 i = nI g
/-- the next letter, on both sides -/
theorem rp_next {len p : Nat} {zC zM : sg_M} (ht : rl_text len zC zM) (h4 : zC.1 4 = nI p) (h6 : zM.1 6 = nI p) (hp : p ≤ len) (n n2 : Nat) (hn : 241 ≤ n) (hn2 : 241 ≤ n2) : ∃ q v, p ≤ q ∧ q ≤ len ∧ gC_Reader_nextLetter n zC = some (v, sg_s zC 4 (nI q)) ∧ gM_here n2 zM = some (v, sg_s zM 6 (nI q)) ∧ ((q = len ∧ v = -1) ∨ (q < len ∧ ¬ zC.2 5 q = 32 ∧ ∃ g, g ≤ 255 ∧ v = nI g ∧ zC.2 5 q = nI g)) := by
  obtain ⟨hl, h1, h2, h3⟩ := ht
  have eC := rC_next hl (len - p) p n zC h1 (by omega) (by omega) h4
  have eM := rM_next hl (len - p) p n2 zM h2 (by omega) (by omega) h6
  obtain ⟨b1, b2, b3⟩ := sp_skip_b (zC.2 5) (len - p) p
  have ec : sp_skip (zM.2 6) (len - p) p = sp_skip (zC.2 5) (len - p) p := sp_skip_c _ _ _ _ (fun i _ h => ((h3 i (by omega)).1).symm)
  rw [ec] at eM
  generalize sp_skip (zC.2 5) (len - p) p = q at *
  refine ⟨q, sp_at (zC.2 5) len q, b1, by omega, eC, ?_, ?_⟩
  · rw [show sp_at (zC.2 5) len q = sp_at (zM.2 6) len q by
      unfold sp_at
      by_cases h : q < len
      · rw [if_pos h, if_pos h, (h3 q h).1]
      · rw [if_neg h, if_neg h]]
    exact eM
  · unfold sp_at
    by_cases h : q < len
    · right
      rw [if_pos h]
      obtain ⟨e, g, hg, e2⟩ := h3 q h
      exact ⟨h, b3 (by omega), g, hg, e.trans e2, e.trans e2⟩
    · left
      rw [if_neg h]
      exact ⟨by omega, rfl⟩
/-- the same place once more -/
theorem rC_again {len q : Nat} {z : sg_M} (hl : len ≤ 240) (h1 : z.1 1 = nI len) (h4 : z.1 4 = nI q) (hq : q ≤ len) (hb : q = len ∨ ¬ z.2 5 q = 32) (n : Nat) (hn : 241 ≤ n) : gC_Reader_nextLetter n z = some (sp_at (z.2 5) len q, z) := by
  have e := rC_next hl (len - q) q n z h1 (by omega) (by omega) h4
  rw [sp_skip_f _ _ _ (hb.imp (fun h => by omega) id), ← h4, ps_self] at e
  exact e
theorem rM_again {len q : Nat} {z : sg_M} (hl : len ≤ 240) (h1 : z.1 4 = nI len) (h4 : z.1 6 = nI q) (hq : q ≤ len) (hb : q = len ∨ ¬ z.2 6 q = 32) (n : Nat) (hn : 241 ≤ n) : gM_here n z = some (sp_at (z.2 6) len q, z) := by
  have e := rM_next hl (len - q) q n z h1 (by omega) (by omega) h4
  rw [sp_skip_f _ _ _ (hb.imp (fun h => by omega) id), ← h4, ps_self] at e
  exact e
/-! figures -/
theorem rp_fig (a : Int32) : gM_in a.toInt64 (48 : Int64) (57 : Int64) = gC_Reader_isFigure a := by
  rw [show (48 : Int64) = (48 : Int32).toInt64 by decide, show (57 : Int64) = (57 : Int32).toInt64 by decide, pi_gin]
  rfl
theorem rp_figD {a : Int32} (h : ¬ gC_Reader_isFigure a = 0) : ∃ d, d ≤ 9 ∧ a = nI (48 + d) := by
  unfold gC_Reader_isFigure at h
  have hr2 := pi_rng a
  have e0 : (48 : Int32).toInt = 48 := by decide
  have e1 : (57 : Int32).toInt = 57 := by decide
  by_cases h1 : a < 48
  · rw [if_pos h1] at h; exact absurd rfl h
  · rw [if_neg h1] at h
    by_cases h2 : 57 < a
    · rw [if_pos h2] at h; exact absurd rfl h
    · rw [pi_ltT, e0] at h1
      rw [pi_ltT, e1] at h2
      exact ⟨(a.toInt - 48).toNat, by omega, pi_of (by omega)⟩
def rp_bad (e : Nat) (zC zM : sg_M) : Prop := 1 ≤ e ∧ e ≤ 3 ∧ zC.1 3 = nI e ∧ zC.1 2 = zM.1 5
/-- frames of reading a number -/
def nf_C (z z' : sg_M) : Prop := (∀ k, (k ≠ 2 ∧ k ≠ 3 ∧ k ≠ 4) → z'.1 k = z.1 k) ∧ z'.2 = z.2
def nf_M (z z' : sg_M) : Prop := (∀ k, (k < 5 ∨ 8 < k) → z'.1 k = z.1 k) ∧ z'.2 = z.2
theorem nf_C.rf (z : sg_M) : nf_C z z := ⟨fun _ _ => rfl, rfl⟩
theorem nf_M.rf (z : sg_M) : nf_M z z := ⟨fun _ _ => rfl, rfl⟩
theorem nf_C.tr {x y z : sg_M} (h : nf_C x y) (g : nf_C y z) : nf_C x z := ⟨fun k hk => (g.1 k hk).trans (h.1 k hk), g.2.trans h.2⟩
theorem nf_M.tr {x y z : sg_M} (h : nf_M x y) (g : nf_M y z) : nf_M x z := ⟨fun k hk => (g.1 k hk).trans (h.1 k hk), g.2.trans h.2⟩
theorem nf_C.s (z : sg_M) (k : Nat) (v : Int32) (hk : 2 ≤ k ∧ k ≤ 4) : nf_C z (sg_s z k v) := ⟨fun j hj => by rw [ps_1, if_neg (by omega)], rfl⟩
theorem nf_M.s (z : sg_M) (k : Nat) (v : Int32) (hk : 5 ≤ k ∧ k ≤ 8) : nf_M z (sg_s z k v) := ⟨fun j hj => by rw [ps_1, if_neg (by omega)], rfl⟩
theorem nf_text {len : Nat} {zC zM zC' zM' : sg_M} (hC : nf_C zC zC') (hM : nf_M zM zM') (h : rl_text len zC zM) : rl_text len zC' zM' := by
  unfold rl_text at *
  rw [hC.1 1 (by omega), hM.1 4 (by omega), hC.2, hM.2]
  exact h
def nx_C (v1 v2 v3 v4 : Int32) (z : sg_M) : Option (Int32 × sg_M) := (Option.bind ((if (3 : Int32) < ((z.1 4) - v3) then (Option.bind (gC_Reader_fail (2 : Int32) v3 z) fun r4 => some r4) else (if v4 < v1 then (Option.bind (gC_Reader_fail (2 : Int32) v3 z) fun r5 => some r5) else (if v4 ≤ v2 then (some z) else (Option.bind (gC_Reader_fail (2 : Int32) v3 z) fun r6 => some r6)))) : Option (sg_M)) fun t7 => some (v4, t7))
def nx_M (v1 v2 : Int32) (z : sg_M) : Option (Int32 × sg_M) := (if (3 : Int32) < ((z.1 6) - (z.1 8)) then (Option.bind (gM_fails (2 : Int32) (z.1 8) z) fun r5 => some (r5.1, r5.2)) else (if (gM_in ((z.1 7).toInt64) v1.toInt64 v2.toInt64) = (0 : Int32) then (Option.bind (gM_fails (2 : Int32) (z.1 8) z) fun r6 => some (r6.1, r6.2)) else (some ((0 : Int32), z))))
def rp_numR (p len lo hi v e q : Nat) (zC zM zC' zM' : sg_M) : Prop := p ≤ q ∧ q ≤ len ∧ zC'.1 4 = nI q ∧ zM'.1 6 = nI q ∧ nf_C zC zC' ∧ nf_M zM zM' ∧ ((e = 0 ∧ lo ≤ v ∧ v ≤ hi ∧ zC'.1 3 = 0 ∧ zC'.1 2 = zC.1 2 ∧ zM'.1 5 = zM.1 5 ∧ zM'.1 7 = nI v) ∨ rp_bad e zC' zM')
theorem rp_numX {s p len lo hi v w : Nat} {zC zM : sg_M} (h4 : zC.1 4 = nI p) (h6 : zM.1 6 = nI p) (h8 : zM.1 8 = nI s) (h7 : zM.1 7 = nI w) (h3 : zC.1 3 = 0) (hsp : s ≤ p) (hp : p ≤ len) (hl : len ≤ 240) (hw : p - s ≤ 3 → w = v) (hv : v ≤ 1000) (hlo : lo ≤ 100) (hhi : hi ≤ 100) : ∃ e zC' zM', nx_C (nI lo) (nI hi) (nI s) (nI v) zC = some (nI v, zC') ∧ nx_M (nI lo) (nI hi) zM = some (nI e, zM') ∧ rp_numR p len lo hi v e p zC zM zC' zM' := by
  have bad : rp_numR p len lo hi v 2 p zC zM (sg_s (sg_s zC 3 2) 2 (nI s)) (sg_s zM 5 (nI s)) := by
    refine ⟨Nat.le_refl _, hp, h4, h6, (nf_C.s zC 3 2 (by omega)).tr (nf_C.s _ 2 _ (by omega)), nf_M.s zM 5 _ (by omega), Or.inr ⟨by omega, by omega, rfl, rfl⟩⟩
  have ef : gC_Reader_fail 2 (nI s) zC = some (sg_s (sg_s zC 3 2) 2 (nI s)) := by
    unfold gC_Reader_fail
    rw [if_pos h3]
    rfl
  unfold nx_C nx_M
  rw [h4, h6, h8, pd_sub hsp, ef]
  by_cases c1 : 3 < p - s
  · rw [if_pos (show (3 : Int32) < nI (p - s) from (pi_lt (a := 3) (by omega) (by omega)).mpr c1), if_pos (show (3 : Int32) < nI (p - s) from (pi_lt (a := 3) (by omega) (by omega)).mpr c1)]
    exact ⟨2, _, _, rfl, rfl, bad⟩
  · have c1' : ¬ (3 : Int32) < nI (p - s) := fun h => c1 ((pi_lt (a := 3) (by omega) (by omega)).mp h)
    rw [if_neg c1', if_neg c1', h7, hw (by omega), pi_gin]
    by_cases c2 : v < lo
    · have c2' : nI v < nI lo := (pi_lt (by omega) (by omega)).mpr c2
      rw [if_pos c2', if_pos c2', if_pos rfl]
      exact ⟨2, _, _, rfl, rfl, bad⟩
    · have c2' : ¬ nI v < nI lo := fun h => c2 ((pi_lt (by omega) (by omega)).mp h)
      rw [if_neg c2', if_neg c2']
      by_cases c3 : v ≤ hi
      · rw [if_pos ((pi_le (by omega) (by omega)).mpr c3), if_neg (show ¬ nI hi < nI v from fun h => by have := (pi_lt (by omega) (by omega)).mp h; omega), if_neg (by decide)]
        refine ⟨0, zC, zM, rfl, rfl, Nat.le_refl _, hp, h4, h6, nf_C.rf _, nf_M.rf _, Or.inl ⟨rfl, by omega, c3, h3, rfl, rfl, by rw [h7, hw (by omega)]⟩⟩
      · rw [if_neg (fun h => c3 ((pi_le (by omega) (by omega)).mp h)), if_pos (show nI hi < nI v from (pi_lt (by omega) (by omega)).mpr (by omega)), if_pos rfl]
        exact ⟨2, _, _, rfl, rfl, bad⟩
theorem rp_numR_s {p len lo hi v e q : Nat} {zC zM zC1 zM1 zC' zM' : sg_M} (hC : nf_C zC zC1) (hM : nf_M zM zM1) (h2 : zC1.1 2 = zC.1 2) (h5 : zM1.1 5 = zM.1 5) {p1 : Nat} (hp : p ≤ p1) (h : rp_numR p1 len lo hi v e q zC1 zM1 zC' zM') : rp_numR p len lo hi v e q zC zM zC' zM' := by
  obtain ⟨a1, a2, a3, a4, a5, a6, a7⟩ := h
  refine ⟨by omega, a2, a3, a4, hC.tr a5, hM.tr a6, a7.imp (fun g => ?_) id⟩
  obtain ⟨g1, g2, g3, g4, g5, g6, g7⟩ := g
  exact ⟨g1, g2, g3, g4, g5.trans h2, g6.trans h5, g7⟩
theorem rp_numL {s len lo hi : Nat} (hlo : lo ≤ 100) (hhi : hi ≤ 100) : ∀ (k p n n2 v w : Nat) (zC zM : sg_M), rl_text len zC zM → p + k = len → k < n → k < n2 → zC.1 4 = nI p → zM.1 6 = nI p → zM.1 8 = nI s → zM.1 7 = nI w → zC.1 3 = 0 → s ≤ p → (p - s ≤ 3 → w = v) → (p - s = 0 → v = 0) → (p - s = 1 → v ≤ 9) → (p - s = 2 → v ≤ 99) → v ≤ 999 → w ≤ 100009 → ∃ e q v' zC' zM', gC_Reader_readNumber_L n (nI lo) (nI hi) (nI s) (nI v) zC = some (nI v', zC') ∧ gM_takeNumber_L n2 (nI lo) (nI hi) zM = some (nI e, zM') ∧ rp_numR p len lo hi v' e q zC zM zC' zM' := by
  intro k
  induction k with
  | zero =>
    intro p n n2 v w zC zM ht hp hn hn2 h4 h6 h8 h7 h3 hsp hw b0 b1 b2 b3 bw
    obtain ⟨m, rfl⟩ : ∃ m, n = m + 1 := ⟨n - 1, by omega⟩
    obtain ⟨m2, rfl⟩ : ∃ m, n2 = m + 1 := ⟨n2 - 1, by omega⟩
    obtain ⟨e, zC', zM', eC, eM, hR⟩ := rp_numX (len := len) (lo := lo) (hi := hi) h4 h6 h8 h7 h3 hsp (by omega) ht.1 hw (by omega) hlo hhi
    have hl := ht.1
    refine ⟨e, p, v, zC', zM', ?_, ?_, hR⟩
    · unfold gC_Reader_readNumber_L
      rw [if_pos (show zC.1 1 ≤ zC.1 4 by rw [h4, ht.2.1]; exact (pi_le (by omega) (by omega)).mpr (by omega))]
      exact eC
    · unfold gM_takeNumber_L
      rw [if_pos (show zM.1 4 ≤ zM.1 6 by rw [h6, ht.2.2.1]; exact (pi_le (by omega) (by omega)).mpr (by omega))]
      exact eM
  | succ k ih =>
    intro p n n2 v w zC zM ht hp hn hn2 h4 h6 h8 h7 h3 hsp hw b0 b1 b2 b3 bw
    obtain ⟨m, rfl⟩ : ∃ m, n = m + 1 := ⟨n - 1, by omega⟩
    obtain ⟨m2, rfl⟩ : ∃ m, n2 = m + 1 := ⟨n2 - 1, by omega⟩
    have hl := ht.1
    have nC : ¬ zC.1 1 ≤ zC.1 4 := by rw [h4, ht.2.1, pi_le (by omega) (by omega)]; omega
    have nM : ¬ zM.1 4 ≤ zM.1 6 := by rw [h6, ht.2.2.1, pi_le (by omega) (by omega)]; omega
    have i4 : sg_in (zC.1 4) 240 = true := by rw [h4]; exact pi_in (by omega) (by omega)
    have i6 : sg_in (zM.1 6) 240 = true := by rw [h6]; exact pi_in (by omega) (by omega)
    have hlet := (ht.2.2.2 p (by omega)).1
    have k4 : (zC.1 4).toNatClampNeg = p := by rw [h4]; exact pi_cl (by omega)
    have k6 : (zM.1 6).toNatClampNeg = p := by rw [h6]; exact pi_cl (by omega)
    by_cases hf : gC_Reader_isFigure (zC.2 5 p) = 0
    · obtain ⟨e, zC', zM', eC, eM, hR⟩ := rp_numX (len := len) (lo := lo) (hi := hi) h4 h6 h8 h7 h3 hsp (by omega) ht.1 hw (by omega) hlo hhi
      refine ⟨e, p, v, zC', zM', ?_, ?_, hR⟩
      · unfold gC_Reader_readNumber_L
        rw [if_neg nC, if_pos i4, k4, if_pos hf]
        exact eC
      · unfold gM_takeNumber_L
        rw [if_neg nM, if_pos i6, k6, rp_fig, ← hlet, if_pos hf]
        exact eM
    · obtain ⟨d, hd, ed⟩ := rp_figD hf
      have ed2 : zM.2 6 p = nI (48 + d) := hlet.symm.trans ed
      have eV : nI v * 10 + nI (48 + d) - 48 = nI (v * 10 + d) := by
        rw [show nI v * 10 = nI (v * 10) from pk_mul v 10, nI_add, show nI (v * 10 + (48 + d)) - 48 = nI (v * 10 + (48 + d) - 48) from pd_sub (b := 48) (by omega)]
        congr 1
        omega
      have eW : (10 : Int32) * nI w + nI (48 + d) - 48 = nI (w * 10 + d) := by
        rw [show (10 : Int32) * nI w = nI (10 * w) from pk_mul 10 w, nI_add, show nI (10 * w + (48 + d)) - 48 = nI (10 * w + (48 + d) - 48) from pd_sub (b := 48) (by omega)]
        congr 1
        omega
      have ht' : rl_text len (sg_s zC 4 (nI (p + 1))) (sg_s (sg_s zM 7 (nI (if w ≤ 10000 then w * 10 + d else w))) 6 (nI (p + 1))) := nf_text (nf_C.s _ 4 _ (by omega)) ((nf_M.s zM 7 _ (by omega)).tr (nf_M.s _ 6 _ (by omega))) ht
      obtain ⟨e, q, v', zC', zM', eC, eM, hR⟩ := ih (p + 1) m m2 (if 3 ≤ p - s then v else v * 10 + d) (if w ≤ 10000 then w * 10 + d else w) _ _ ht' (by omega) (by omega) (by omega) (by rw [ps_1, if_pos rfl]) (by rw [ps_1, if_pos rfl]) (by rw [ps_1, if_neg (by decide), ps_1, if_neg (by decide)]; exact h8) (by rw [ps_1, if_neg (by decide), ps_1, if_pos rfl]) (by rw [ps_1, if_neg (by decide)]; exact h3) (by omega) (fun h => by
          have hh := hw (by omega)
          rw [if_neg (show ¬ 3 ≤ p - s by omega), hh, if_pos (by omega)]) (fun h => by omega) (fun h => by rw [if_neg (by omega)]; have := b0 (by omega); omega) (fun h => by rw [if_neg (by omega)]; have := b1 (by omega); omega) (by
          by_cases c : 3 ≤ p - s
          · rw [if_pos c]; exact b3
          · rw [if_neg c]
            rcases (show p - s = 0 ∨ p - s = 1 ∨ p - s = 2 by omega) with h | h | h
            · have := b0 h; omega
            · have := b1 h; omega
            · have := b2 h; omega) (by split <;> omega)
      refine ⟨e, q, v', zC', zM', ?_, ?_, ?_⟩
      · unfold gC_Reader_readNumber_L
        rw [if_neg nC, if_pos i4, k4, if_neg hf, h4, pd_sub hsp, ed, eV, nI_1, pi_in (j := p) (by omega) (by omega)]
        simp only [if_true, pl_let]
        by_cases c : 3 ≤ p - s
        · rw [if_pos c] at eC
          rw [if_pos (show (3 : Int32) ≤ nI (p - s) from (pi_le (a := 3) (by omega) (by omega)).mpr c)]
          exact eC
        · rw [if_neg c] at eC
          rw [if_neg (show ¬ (3 : Int32) ≤ nI (p - s) from fun h => c ((pi_le (a := 3) (by omega) (by omega)).mp h))]
          exact eC
      · unfold gM_takeNumber_L
        rw [if_neg nM, if_pos i6, k6, rp_fig, ← hlet, if_neg hf, hlet, ed2, h7, eW, if_pos i6]
        have e6 : ∀ x : Int32, (sg_s zM 7 x).1 6 = nI p := fun x => by rw [ps_1, if_neg (by decide), h6]
        simp only [pl_let, e6]
        by_cases c : w ≤ 10000
        · rw [if_pos c] at eM
          rw [if_pos (show nI w ≤ (10000 : Int32) from (pi_le (b := 10000) (by omega) (by omega)).mpr c), Option.bind_some, nI_1]
          exact eM
        · rw [if_neg c] at eM
          rw [if_neg (show ¬ nI w ≤ (10000 : Int32) from fun h => c ((pi_le (b := 10000) (by omega) (by omega)).mp h)), Option.bind_some, nI_1]
          exact eM
      · refine rp_numR_s (nf_C.s zC 4 _ (by omega)) ((nf_M.s zM 7 _ (by omega)).tr (nf_M.s _ 6 _ (by omega))) rfl rfl (by omega) hR
/-- a number, on both sides -/
theorem rp_num {p len lo hi : Nat} (hlo : lo ≤ 100) (hhi : hi ≤ 100) {zC zM : sg_M} (ht : rl_text len zC zM) (h4 : zC.1 4 = nI p) (h6 : zM.1 6 = nI p) (hp : p ≤ len) (h3 : zC.1 3 = 0) (n n2 : Nat) (hn : 241 ≤ n) (hn2 : 241 ≤ n2) : ∃ e q v zC' zM', gC_Reader_readNumber n (nI lo) (nI hi) zC = some (nI v, zC') ∧ gM_takeNumber n2 (nI lo) (nI hi) zM = some (nI e, zM') ∧ rp_numR p len lo hi v e q zC zM zC' zM' := by
  obtain ⟨q, v, q1, q2, eC, eM, hv⟩ := rp_next ht h4 h6 hp n n2 hn hn2
  have hl := ht.1
  unfold gC_Reader_readNumber gM_takeNumber
  rw [eC, eM]
  simp only [Option.bind_some, rp_fig]
  by_cases hf : gC_Reader_isFigure v = 0
  · rw [if_pos hf, if_pos hf]
    have e4 : (sg_s zC 4 (nI q)).1 4 = nI q := by rw [ps_1, if_pos rfl]
    have e6 : (sg_s zM 6 (nI q)).1 6 = nI q := by rw [ps_1, if_pos rfl]
    rw [e4, e6]
    have ef : gC_Reader_fail 1 (nI q) (sg_s zC 4 (nI q)) = some (sg_s (sg_s (sg_s zC 4 (nI q)) 3 1) 2 (nI q)) := by
      unfold gC_Reader_fail
      rw [if_pos (by rw [ps_1, if_neg (by decide)]; exact h3)]
      rfl
    rw [ef]
    refine ⟨1, q, 0, _, _, rfl, rfl, q1, q2, e4, e6, (nf_C.s zC 4 _ (by omega)).tr ((nf_C.s _ 3 _ (by omega)).tr (nf_C.s _ 2 _ (by omega))), (nf_M.s zM 6 _ (by omega)).tr (nf_M.s _ 5 _ (by omega)), Or.inr ⟨by omega, by omega, rfl, rfl⟩⟩
  · rw [if_neg hf, if_neg hf]
    simp only [pl_let]
    have e4 : (sg_s zC 4 (nI q)).1 4 = nI q := by rw [ps_1, if_pos rfl]
    have e6 : (sg_s zM 6 (nI q)).1 6 = nI q := by rw [ps_1, if_pos rfl]
    rw [e4, e6]
    have ht' : rl_text len (sg_s zC 4 (nI q)) (sg_s (sg_s (sg_s zM 6 (nI q)) 8 (nI q)) 7 0) := nf_text (nf_C.s _ 4 _ (by omega)) ((nf_M.s zM 6 _ (by omega)).tr ((nf_M.s _ 8 _ (by omega)).tr (nf_M.s _ 7 _ (by omega)))) ht
    obtain ⟨e, r, v', zC', zM', fC, fM, hR⟩ := rp_numL (s := q) hlo hhi (len - q) q n n2 0 0 _ _ ht' (by omega) (by omega) (by omega) (by rw [ps_1, if_pos rfl]) (by rfl) (by rfl) (by rfl) (by rw [ps_1, if_neg (by decide)]; exact h3) (Nat.le_refl _) (fun _ => rfl) (fun _ => rfl) (fun _ => by omega) (fun _ => by omega) (by omega) (by omega)
    exact ⟨e, r, v', zC', zM', fC, fM, rp_numR_s (nf_C.s zC 4 _ (by omega)) ((nf_M.s zM 6 _ (by omega)).tr ((nf_M.s _ 8 _ (by omega)).tr (nf_M.s _ 7 _ (by omega)))) rfl rfl q1 hR⟩

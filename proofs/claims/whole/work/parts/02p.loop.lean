/-! the loop over the clauses -/
def mf_ok (n : Nat) (z : sg_M) : Option (Int32 × sg_M) := Option.bind (gM_takeRead n (sg_s z 4 0)) fun r15 => sg_let (sg_s r15 13 (0 : Int32)) fun z16 => sg_let (sg_s z16 14 (0 : Int32)) fun z17 => sg_let (sg_s z17 12 (0 : Int32)) fun z18 => sg_let (sg_w z18 20 (0 : Int32) (vp_nar .boolean (0 : Int32))) fun z19 => sg_let (sg_w z19 20 (1 : Int32) (vp_nar .boolean (0 : Int32))) fun z20 => some (z20.1 0, z20)
theorem rp_drs {nc nk : Nat} {zC zM : sg_M} (h : rp_dr nc nk zC zM) (a b : Int32) : rp_dr nc nk (sg_s zC 4 a) (sg_s zM 6 b) := h
theorem rp_text {len : Nat} : ∀ (k p i n n2 nc nk : Nat) (zC zM : sg_M), len - p ≤ k → p ≤ len → i ≤ p → k + 400 ≤ n → k + 400 ≤ n2 → rl_text len zC zM → zC.1 4 = nI p → zM.1 6 = nI p → zC.1 3 = 0 → zC.1 2 = zM.1 5 → rp_dr nc nk zC zM → n = n2 → ∃ e zC' zM', gC_Reader_readText_L n (nI i) zC = some (nI e, zC') ∧ pf_C zC zC' ∧ pf_M zM zM' ∧ zC'.1 2 = zM'.1 5 ∧ ((e = 0 ∧ (∃ nc' nk', rp_dr nc' nk' zC' zM') ∧ ∃ m, 300 ≤ m ∧ gM_road_L n2 0 zM = mf_ok m zM') ∨ (1 ≤ e ∧ e ≤ 3 ∧ gM_road_L n2 0 zM = some (-10 - nI e, sg_s zM' 4 0))) := by
  intro k
  induction k with
  | zero =>
    intro p i n n2 nc nk zC zM hk hp hi hn hn2 ht h4 h6 h3 h25 hd hnn
    obtain ⟨m, rfl⟩ : ∃ m, n = m + 1 := ⟨n - 1, by omega⟩
    obtain ⟨m2, rfl⟩ : ∃ m, n2 = m + 1 := ⟨n2 - 1, by omega⟩
    obtain ⟨q, v, q1, q2, eN, eH, hv⟩ := rp_next ht h4 h6 hp m m2 (by omega) (by omega)
    rcases hv with ⟨hq, rfl⟩ | ⟨h, -⟩
    rotate_left
    · omega
    have hM : gM_road_L (m2 + 1) 0 zM = mf_ok m2 (sg_s zM 6 (nI q)) := by
      unfold gM_road_L
      rw [if_pos rfl, eH, Option.bind_some]
      show (if (-1 : Int32) < 0 then _ else _) = _
      rw [if_pos (by decide), pl_let, if_pos (by decide)]
      rfl
    have hl := ht.1
    unfold gC_Reader_readText_L
    by_cases c : 240 ≤ i
    · rw [if_pos (show (240 : Int32) ≤ nI i from (pi_le (a := 240) (by omega) (by omega)).mpr c), h3]
      have hpq : q = p := by omega
      refine ⟨0, zC, sg_s zM 6 (nI q), rfl, pf_C.rf _, pf_M.s _ 6 _ (by omega), h25, Or.inl ⟨rfl, ⟨nc, nk, hd⟩, m2, by omega, hM⟩⟩
    · rw [if_neg (show ¬ (240 : Int32) ≤ nI i from fun h => c ((pi_le (a := 240) (by omega) (by omega)).mp h)), if_pos h3, eN, Option.bind_some]
      show ∃ e zC' zM', (if (-1 : Int32) = -1 then _ else _) = _ ∧ _
      rw [if_pos rfl]
      refine ⟨0, sg_s zC 4 (nI q), sg_s zM 6 (nI q), ?_, pf_C.s _ 4 _ (by omega), pf_M.s _ 6 _ (by omega), h25, Or.inl ⟨rfl, ⟨nc, nk, rp_drs hd _ _⟩, m2, by omega, hM⟩⟩
      show some (zC.1 3, sg_s zC 4 (nI q)) = _
      rw [h3]
      rfl
  | succ k ih =>
    intro p i n n2 nc nk zC zM hk hp hi hn hn2 ht h4 h6 h3 h25 hd hnn
    obtain ⟨m, rfl⟩ : ∃ m, n = m + 1 := ⟨n - 1, by omega⟩
    obtain ⟨m2, rfl⟩ : ∃ m, n2 = m + 1 := ⟨n2 - 1, by omega⟩
    obtain rfl : m = m2 := by omega
    obtain ⟨q, v, q1, q2, eN, eH, hv⟩ := rp_next ht h4 h6 hp m m (by omega) (by omega)
    have hl := ht.1
    rcases hv with ⟨hq, rfl⟩ | ⟨hq, hb, g, hg, rfl, hg2⟩
    · have hM : gM_road_L (m + 1) 0 zM = mf_ok m (sg_s zM 6 (nI q)) := by
        unfold gM_road_L
        rw [if_pos rfl, eH, Option.bind_some]
        show (if (-1 : Int32) < 0 then _ else _) = _
        rw [if_pos (by decide), pl_let, if_pos (by decide)]
        rfl
      unfold gC_Reader_readText_L
      by_cases c : 240 ≤ i
      · rw [if_pos (show (240 : Int32) ≤ nI i from (pi_le (a := 240) (by omega) (by omega)).mpr c), h3]
        exact ⟨0, zC, sg_s zM 6 (nI q), rfl, pf_C.rf _, pf_M.s _ 6 _ (by omega), h25, Or.inl ⟨rfl, ⟨nc, nk, hd⟩, m, by omega, hM⟩⟩
      · rw [if_neg (show ¬ (240 : Int32) ≤ nI i from fun h => c ((pi_le (a := 240) (by omega) (by omega)).mp h)), if_pos h3, eN, Option.bind_some]
        show ∃ e zC' zM', (if (-1 : Int32) = -1 then _ else _) = _ ∧ _
        rw [if_pos rfl]
        refine ⟨0, sg_s zC 4 (nI q), sg_s zM 6 (nI q), ?_, pf_C.s _ 4 _ (by omega), pf_M.s _ 6 _ (by omega), h25, Or.inl ⟨rfl, ⟨nc, nk, rp_drs hd _ _⟩, m, by omega, hM⟩⟩
        show some (zC.1 3, sg_s zC 4 (nI q)) = _
        rw [h3]
        rfl
    · have hi240 : i < 240 := by omega
      have ht1 : rl_text len (sg_s zC 4 (nI q)) (sg_s zM 6 (nI q)) := nf_text (nf_C.s _ 4 _ (by omega)) (nf_M.s _ 6 _ (by omega)) ht
      obtain ⟨zC1, e, zM1, o1, o2, o3, o4, o5⟩ := rp_clause (p := q) ht1 (by rw [ps_1, if_pos rfl]) (by rw [ps_1, if_pos rfl]) hq hb (by rw [ps_1, if_neg (by decide)]; exact h3) h25 (rp_drs hd _ _) m (by omega)
      have hC : gC_Reader_readText_L (m + 1) (nI i) zC = gC_Reader_readText_L m (nI (i + 1)) zC1 := by
        conv => lhs; unfold gC_Reader_readText_L
        rw [if_neg (show ¬ (240 : Int32) ≤ nI i from fun h => by have := (pi_le (a := 240) (by omega) (by omega)).mp h; omega), if_pos h3, eN, Option.bind_some]
        show (if nI g = -1 then _ else _) = _
        rw [if_neg (pi_m1 (by omega))]
        show Option.bind (gC_Reader_readClause m (sg_s zC 4 (nI q))) _ = _
        rw [o1, Option.bind_some, nI_1]
      have hM : gM_road_L (m + 1) 0 zM = gM_road_L m (nI e) zM1 := by
        conv => lhs; unfold gM_road_L
        rw [if_pos rfl, eH, Option.bind_some]
        show (if nI g < 0 then _ else _) = _
        rw [if_neg (pi_nneg (by omega))]
        show Option.bind (gM_takeClause m (sg_s zM 6 (nI q))) _ = _
        rw [o2, Option.bind_some]
      rw [hC, hM]
      rcases o5 with ⟨rfl, nc', nk', r, r1, r2, r3, r4, r5, r6, r7⟩ | ⟨b1, b2, b3, b4⟩
      · obtain ⟨e', zC', zM', s1, s2, s3, s4, s5⟩ := ih r (i + 1) m m nc' nk' zC1 zM1 (by omega) r2 (by omega) (by omega) (by omega) (pf_text o3 o4 ht1) r3 r4 r5 r6 r7 rfl
        exact ⟨e', zC', zM', s1, (pf_C.s _ 4 _ (by omega)).tr (o3.tr s2), (pf_M.s _ 6 _ (by omega)).tr (o4.tr s3), s4, s5⟩
      · obtain ⟨m1, rfl⟩ : ∃ m1, m = m1 + 1 := ⟨m - 1, by omega⟩
        have ne : ¬ nI e = 0 := nI_ne0 (by omega) (by omega)
        refine ⟨e, zC1, zM1, ?_, (pf_C.s _ 4 _ (by omega)).tr o3, (pf_M.s _ 6 _ (by omega)).tr o4, b4, Or.inr ⟨b1, b2, ?_⟩⟩
        · unfold gC_Reader_readText_L
          rw [if_neg (show ¬ zC1.1 3 = 0 by rw [b3]; exact ne), b3]
          split <;> rfl
        · unfold gM_road_L
          rw [if_neg ne, pl_let, if_neg (pi_nle0 b1 b2)]

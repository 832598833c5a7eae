/-! the core: rain, ground, weight, where a cart stops; the specification is said over the reference's memory -/
def sp_half : Nat → Int32 → Int32
  | 0, s => s
  | k + 1, s => sp_half k (s / 2)
def sp_rain (zM : sg_M) (k : Nat) : Int32 := if zM.1 1 = 0 then 5 else zM.2 1 (((zM.2 5 104).toNatClampNeg + k) % (zM.1 1).toNatClampNeg)
def sp_wet (zM : sg_M) (k : Nat) : Int32 := sp_rain zM k + sp_half k (zM.2 5 105)
def sp_wet0 (zM : sg_M) : Int32 := if zM.1 0 = 0 then 0 else sp_wet zM 0
def sp_ground (zM : sg_M) (c x : Nat) (wet : Int32) : Int32 := gM_notBelow (zM.2 0 x + (if zM.2 2 c = 2 then 0 else wet) - zM.2 5 x)
def sp_weight (zM : sg_M) (c : Nat) (ld : Int32) : Int32 := if zM.2 2 c = 1 then ld / 2 else if zM.2 2 c = 3 then ld + (if 20 ≤ zM.2 5 (96 + c) then 20 else zM.2 5 (96 + c)) else ld
def sp_stopF (zM : sg_M) (c : Nat) (ld wet : Int32) : Nat → Nat → Int32
  | 0, _ => -1
  | k + 1, j => if sp_ground zM c j wet + sp_weight zM c ld < 60 then sp_stopF zM c ld wet k (j + 1) else nI j
def sp_stop (nc : Nat) (zM : sg_M) (c : Nat) (ld wet : Int32) : Int32 := sp_stopF zM c ld wet nc 0
theorem sp_half_0 : ∀ k, sp_half k 0 = 0
  | 0 => rfl
  | k + 1 => by rw [sp_half, show (0 : Int32) / 2 = 0 by decide]; exact sp_half_0 k
theorem sp_half_nI : ∀ (k g : Nat), g ≤ 60 → ∃ h, h ≤ 60 ∧ sp_half k (nI g) = nI h
  | 0, g, hg => ⟨g, hg, rfl⟩
  | k + 1, g, hg => by
    have e : nI g / 2 = nI (g / 2) := pk_div (a := g) (d := 2) (by omega) (by omega) (by omega)
    rw [sp_half, e]
    exact sp_half_nI k (g / 2) (by omega)
theorem rn_inv {nc nk tb : Nat} {zC zM : sg_M} (hn : rl_now nc nk tb zC zM) : rl_inv nc nk tb (zM.2 5) := hn.2.2.2.2.2.2.2.2.2
theorem rn_storm {nc nk tb : Nat} {zC zM : sg_M} (hn : rl_now nc nk tb zC zM) : ∃ d, d ≤ 60 ∧ zM.2 5 105 = nI d ∧ (nc = 0 → d = 0) := (rn_inv hn).2.2.2.2.2.2.2.1
theorem rn_days {nc nk tb : Nat} {zC zM : sg_M} (hn : rl_now nc nk tb zC zM) : ∃ d, d ≤ 9060 ∧ zM.2 5 104 = nI d := (rn_inv hn).2.2.2.2.2.2.1
theorem rn_times {nc nk tb : Nat} {zC zM : sg_M} (hn : rl_now nc nk tb zC zM) : tb ≤ 100000 ∧ ∀ c, c < 8 → ∃ g, g ≤ tb ∧ zM.2 5 (96 + c) = nI g := (rn_inv hn).2.2.2.2.2.2.2.2
/-! the reference -/
theorem rM_weather {nc nk tb : Nat} {zC zM : sg_M} (hr : rl_road nc nk zC zM) (hn : rl_now nc nk tb zC zM) (k : Nat) (hk : k ≤ 1000) : gM_weatherOf (zM.2 5 104 + nI k) zM = some (sp_rain zM k) ∧ ∃ g, g ≤ 30 ∧ sp_rain zM k = nI g := by
  obtain ⟨-, -, -, -, -, -, -, -, -, hw⟩ := hr
  obtain ⟨-, -, -, -, -, -, -, -, -, hi⟩ := hn
  obtain ⟨d, hd, hd2⟩ := hi.2.2.2.2.2.2.1
  unfold gM_weatherOf sp_rain
  rcases hw with ⟨h1, -, -⟩ | ⟨nw, h1, h2, h3, -, h5⟩
  · simp only [h1, if_true]
    exact ⟨trivial, 5, by omega, rfl⟩
  · have h0 : ¬ nI nw = 0 := nI_ne0 (by omega) (by omega)
    have e1 : zM.2 5 104 + nI k = nI (d + k) := by rw [hd2, nI_add]
    have e2 : sg_rem (nI (d + k)) (nI nw) = nI ((d + k) % nw) := pk_rem (by omega) (by omega) (by omega)
    have h6 : (d + k) % nw < nw := Nat.mod_lt _ (by omega)
    rw [e1, h3, e2, hd2, pi_cl (by omega), pi_cl (by omega)]
    simp only [h0, if_false]
    rw [pi_in (by omega) (by omega), pi_cl (by omega)]
    exact ⟨rfl, (h5 _ h6).2⟩
theorem rM_wetL {nc nk tb : Nat} {zC zM : sg_M} (hr : rl_road nc nk zC zM) (hn : rl_now nc nk tb zC zM) (k : Nat) (hk : k ≤ 1000) : ∀ (i j g n : Nat), j + i = k → i < n → g ≤ 60 → gM_wetBehind_L n (nI k) (nI g) (nI j) zM = some (sp_rain zM k + sp_half i (nI g)) := by
  intro i
  induction i with
  | zero =>
    intro j g n hj hn1 hg
    obtain ⟨m, rfl⟩ : ∃ m, n = m + 1 := ⟨n - 1, by omega⟩
    unfold gM_wetBehind_L
    rw [if_pos ((pi_le (by omega) (by omega)).mpr (by omega)), pi_104, (rM_weather hr hn k hk).1]
    rfl
  | succ i ih =>
    intro j g n hj hn1 hg
    obtain ⟨m, rfl⟩ : ∃ m, n = m + 1 := ⟨n - 1, by omega⟩
    unfold gM_wetBehind_L
    rw [if_neg (by rw [pi_le (by omega) (by omega)]; omega)]
    by_cases h0 : g = 0
    · subst h0
      rw [if_pos (show nI 0 ≤ 0 from by decide), pi_104, (rM_weather hr hn k hk).1, show nI 0 = 0 from rfl, sp_half_0]
      rfl
    · rw [if_neg (nI_nle (by omega) (by omega))]
      have e : nI g / 2 = nI (g / 2) := pk_div (a := g) (d := 2) (by omega) (by omega) (by omega)
      rw [pl_let, e, nI_1, ih (j + 1) (g / 2) m (by omega) (by omega) (by omega), sp_half, e]
theorem rM_wetBehind {nc nk tb : Nat} {zC zM : sg_M} (hr : rl_road nc nk zC zM) (hn : rl_now nc nk tb zC zM) (k n : Nat) (hk : k ≤ 1000) (hn1 : k < n) : gM_wetBehind n (nI k) zM = some (sp_wet zM k) := by
  obtain ⟨d, hd, hd2, -⟩ := rn_storm hn
  unfold gM_wetBehind sp_wet
  rw [pl_let, pi_105, hd2]
  exact rM_wetL hr hn k hk k 0 d n (by omega) hn1 hd
theorem sp_wet_rng {nc nk tb : Nat} {zC zM : sg_M} (hr : rl_road nc nk zC zM) (hn : rl_now nc nk tb zC zM) (k : Nat) (hk : k ≤ 1000) : ∃ g, g ≤ 90 ∧ sp_wet zM k = nI g := by
  obtain ⟨d, hd, hd2, -⟩ := rn_storm hn
  obtain ⟨a, ha, ha2⟩ := (rM_weather hr hn k hk).2
  obtain ⟨b, hb, hb2⟩ := sp_half_nI k d hd
  exact ⟨a + b, by omega, by unfold sp_wet; rw [hd2, ha2, hb2, nI_add]⟩
theorem rM_wet {nc nk tb : Nat} {zC zM : sg_M} (hr : rl_road nc nk zC zM) (hn : rl_now nc nk tb zC zM) (n : Nat) (hn1 : 0 < n) : gM_wet n zM = some (sp_wet0 zM) := by
  unfold gM_wet sp_wet0
  by_cases h : zM.1 0 = 0
  · rw [if_pos h, if_pos h]
  · rw [if_neg h, if_neg h, show (0 : Int32) = nI 0 from rfl, rM_wetBehind hr hn 0 n (by omega) hn1]
    rfl
theorem rM_ground {nc nk : Nat} {zC zM : sg_M} (hr : rl_road nc nk zC zM) {c x : Nat} (hc : c < nk) (hx : x < nc) (wet : Int32) : gM_groundOf (nI c) (nI x) wet zM = some (sp_ground zM c x wet) := by
  have h1 := hr.1
  have h2 := hr.2.1
  unfold gM_groundOf sp_ground
  rw [pi_in (j := x) (n := 20) (by omega) (by omega), pi_in (j := c) (by omega) (by omega), pi_in (j := x) (n := 106) (by omega) (by omega), pi_cl (by omega), pi_cl (by omega)]
  rfl
theorem rM_weighs {nc nk : Nat} {zC zM : sg_M} (hr : rl_road nc nk zC zM) {c : Nat} (hc : c < nk) (ld : Int32) : gM_weighs (nI c) ld zM = some (sp_weight zM c ld) := by
  have h2 := hr.2.1
  unfold gM_weighs sp_weight
  rw [pi_in (j := c) (by omega) (by omega), pi_cl (by omega), pi_96, pi_in (j := 96 + c) (by omega) (by omega), pi_cl (by omega)]
  simp only [if_true]
  split
  · rfl
  · split
    · split <;> rfl
    · rfl
theorem rM_stopL {nc nk : Nat} {zC zM : sg_M} (hr : rl_road nc nk zC zM) {c : Nat} (hc : c < nk) (ld wet : Int32) : ∀ (k j n : Nat), j + k = nc → k < n → gM_stopBy_L n (nI c) ld wet (nI j) zM = some (sp_stopF zM c ld wet k j) := by
  have h1 := hr.1
  have h5 := hr.2.2.2.2.1
  intro k
  induction k with
  | zero =>
    intro j n hj hn
    obtain ⟨m, rfl⟩ : ∃ m, n = m + 1 := ⟨n - 1, by omega⟩
    unfold gM_stopBy_L sp_stopF
    rw [h5, if_pos ((pi_le (by omega) (by omega)).mpr (by omega))]
  | succ k ih =>
    intro j n hj hn
    obtain ⟨m, rfl⟩ : ∃ m, n = m + 1 := ⟨n - 1, by omega⟩
    unfold gM_stopBy_L sp_stopF
    rw [h5, if_neg (by rw [pi_le (by omega) (by omega)]; omega), rM_ground hr hc (by omega), rM_weighs hr hc]
    simp only [Option.bind_some]
    split
    · rw [nI_1, ih (j + 1) m (by omega) (by omega)]
    · rfl
theorem rM_stopBy {nc nk : Nat} {zC zM : sg_M} (hr : rl_road nc nk zC zM) {c : Nat} (hc : c < nk) (ld wet : Int32) (n : Nat) (hn : 21 ≤ n) : gM_stopBy n (nI c) ld wet zM = some (sp_stop nc zM c ld wet) := by
  have h1 := hr.1
  exact rM_stopL hr hc ld wet nc 0 n (by omega) (by omega)
theorem rM_stopOf {nc nk : Nat} {zC zM : sg_M} (hr : rl_road nc nk zC zM) {c : Nat} (hc : c < nk) (wet : Int32) (n : Nat) (hn : 21 ≤ n) : gM_stopOf n (nI c) wet zM = some (sp_stop nc zM c (zM.2 5 (80 + c)) wet) := by
  have h2 := hr.2.1
  unfold gM_stopOf
  rw [pi_80, pi_in (by omega) (by omega), pi_cl (by omega), rM_stopBy hr hc _ _ n hn]
  rfl
theorem sp_stopF_rng {zM : sg_M} {c : Nat} {ld wet : Int32} : ∀ (k j : Nat), sp_stopF zM c ld wet k j = -1 ∨ ∃ x, x < j + k ∧ sp_stopF zM c ld wet k j = nI x := by
  intro k
  induction k with
  | zero => intro j; exact Or.inl rfl
  | succ k ih =>
    intro j
    unfold sp_stopF
    split
    · rcases ih (j + 1) with h | ⟨x, hx, h⟩
      · exact Or.inl h
      · exact Or.inr ⟨x, by omega, h⟩
    · exact Or.inr ⟨j, by omega, rfl⟩
theorem sp_stop_rng (nc : Nat) (zM : sg_M) (c : Nat) (ld wet : Int32) : sp_stop nc zM c ld wet = -1 ∨ ∃ x, x < nc ∧ sp_stop nc zM c ld wet = nI x := by
  rcases sp_stopF_rng (zM := zM) (c := c) (ld := ld) (wet := wet) nc 0 with h | ⟨x, hx, h⟩
  · exact Or.inl h
  · exact Or.inr ⟨x, by omega, h⟩
/-! the class -/
theorem rC_weather {nc nk tb : Nat} {zC zM : sg_M} (hr : rl_road nc nk zC zM) (hn : rl_now nc nk tb zC zM) (h0 : nc ≠ 0) (k : Nat) (hk : k ≤ 1000) : gC_Road_weatherOn (zC.1 12 + nI k) zC = some (sp_rain zM k) := by
  obtain ⟨h20, -, -, h9, -, -, -, -, -, hw⟩ := hr
  obtain ⟨-, -, -, -, -, -, -, hdy, -, hi⟩ := hn
  obtain ⟨d, hd, hd2⟩ := hi.2.2.2.2.2.2.1
  unfold gC_Road_weatherOn sp_rain
  have e1 : zC.1 12 + nI k = nI (d + k) := by rw [hdy, hd2, nI_add]
  rw [e1, h9, if_neg (nI_ne0 (by omega) (by omega))]
  rcases hw with ⟨h1, h2, h3⟩ | ⟨nw, h1, h2, h3, h4, h5⟩
  · have e2 : sg_rem (nI (d + k)) 1 = nI 0 := by
      have := pk_rem (a := d + k) (d := 1) (by omega) (by omega) (by omega)
      rw [Nat.mod_one] at this
      exact this
    rw [h2, e2, if_neg (by decide), if_pos (pi_nneg' (by omega)), if_neg (by decide), pi_in (by omega) (by omega), pi_cl (by omega), h1, h3]
    rfl
  · have h6 : (d + k) % nw < nw := Nat.mod_lt _ (by omega)
    have e2 : sg_rem (nI (d + k)) (nI nw) = nI ((d + k) % nw) := pk_rem (by omega) (by omega) (by omega)
    rw [h4, e2, if_neg (nI_nle (by omega) (by omega)), if_pos (pi_nneg' (by omega)), if_neg (nI_ne0 (by omega) (by omega)), pi_in (by omega) (by omega), pi_cl (by omega), h3, if_neg (nI_ne0 (by omega) (by omega)), hd2, pi_cl (by omega), pi_cl (by omega), (h5 _ h6).1]
    rfl
theorem rC_wetL {nc nk tb : Nat} {zC zM : sg_M} (hr : rl_road nc nk zC zM) (hn : rl_now nc nk tb zC zM) (h0 : nc ≠ 0) (k : Nat) (hk : k ≤ 1000) : ∀ (i j n : Nat) (s : Int32), j + i = k → i < n → gC_Kingdom_wetBehind_L n (nI k) s (nI j) zC = some (sp_rain zM k + sp_half i s) := by
  intro i
  induction i with
  | zero =>
    intro j n s hj hn1
    obtain ⟨m, rfl⟩ : ∃ m, n = m + 1 := ⟨n - 1, by omega⟩
    unfold gC_Kingdom_wetBehind_L
    rw [if_pos ((pi_le (by omega) (by omega)).mpr (by omega)), rC_weather hr hn h0 k hk]
    rfl
  | succ i ih =>
    intro j n s hj hn1
    obtain ⟨m, rfl⟩ : ∃ m, n = m + 1 := ⟨n - 1, by omega⟩
    unfold gC_Kingdom_wetBehind_L
    rw [if_neg (by rw [pi_le (by omega) (by omega)]; omega), pl_let, nI_1, ih (j + 1) m _ (by omega) (by omega), sp_half]
theorem rC_wetBehind {nc nk tb : Nat} {zC zM : sg_M} (hr : rl_road nc nk zC zM) (hn : rl_now nc nk tb zC zM) (h0 : nc ≠ 0) (k n : Nat) (hk : k ≤ 1000) (hn1 : k < n) : gC_Kingdom_wetBehind n (nI k) zC = some (sp_wet zM k) := by
  unfold gC_Kingdom_wetBehind sp_wet
  rw [pl_let, hn.2.2.2.2.2.2.2.2.1]
  exact rC_wetL hr hn h0 k hk k 0 n _ (by omega) hn1
theorem rC_wet0 {nc nk tb : Nat} {zC zM : sg_M} (hr : rl_road nc nk zC zM) (hn : rl_now nc nk tb zC zM) (n : Nat) (hn1 : 0 < n) : gC_Kingdom_wetBehind n 0 zC = some (sp_wet0 zM) := by
  have h1 := hr.1
  have h4 := hr.2.2.2.1
  have h5 := hr.2.2.2.2.1
  unfold sp_wet0
  by_cases h : nc = 0
  · obtain ⟨d, hd, hd2, hd3⟩ := rn_storm hn
    have hd4 := hd3 h
    obtain ⟨m, rfl⟩ : ∃ m, n = m + 1 := ⟨n - 1, by omega⟩
    rw [h5, h, if_pos (show nI 0 = 0 from rfl)]
    unfold gC_Kingdom_wetBehind gC_Kingdom_wetBehind_L gC_Road_weatherOn
    rw [pl_let, if_pos (show (0 : Int32) ≤ 0 from by decide), h4, h, if_pos (show nI 0 = 0 from rfl), hn.2.2.2.2.2.2.2.2.1, hd2, hd4]
    rfl
  · rw [h5, if_neg (nI_ne0 (by omega) (by omega)), show (0 : Int32) = nI 0 from rfl]
    exact rC_wetBehind hr hn h 0 n (by omega) hn1
theorem sp_nb (v : Int32) : (if (0 : Int32) ≤ v then some v else some 0) = some (gM_notBelow v) := by
  unfold gM_notBelow
  by_cases h : (0 : Int32) ≤ v
  · rw [if_pos h]
    by_cases h2 : v ≤ 0
    · rw [if_pos h2, Int32.le_antisymm h2 h]
    · rw [if_neg h2]
  · rw [if_neg h, if_pos (Int32.le_of_lt (Int32.not_le.mp h))]
theorem rC_ground {nc nk tb : Nat} {zC zM : sg_M} (hr : rl_road nc nk zC zM) (hn : rl_now nc nk tb zC zM) {c x : Nat} (hc : c < nk) (hx : x < nc) (wet : Int32) : gC_Kingdom_groundFor (nI c) (nI x) wet zC = some (sp_ground zM c x wet) := by
  have h1 := hr.1
  have h2 := hr.2.1
  have hs := (hr.2.2.2.2.2.2.2.1 x hx).1
  have hw := (hr.2.2.2.2.2.2.2.2.1 c hc).1
  have hg := hn.1 x (by omega)
  unfold gC_Kingdom_groundFor sp_ground
  rw [pi_in (j := x) (n := 20) (by omega) (by omega), pi_in (j := c) (by omega) (by omega), pi_cl (by omega), pi_cl (by omega), hs, hw, hg]
  exact sp_nb _
theorem rC_weight {nc nk tb : Nat} {zC zM : sg_M} (hr : rl_road nc nk zC zM) (hn : rl_now nc nk tb zC zM) {c : Nat} (hc : c < nk) (ld : Int32) : gC_Kingdom_weightOf (nI c) ld zC = some (sp_weight zM c ld) := by
  have h2 := hr.2.1
  have hw := (hr.2.2.2.2.2.2.2.2.1 c hc).1
  have ht := hn.2.2.2.2.2.2.1 c (by omega)
  unfold gC_Kingdom_weightOf sp_weight
  rw [pi_in (j := c) (by omega) (by omega), pi_cl (by omega), hw, ht]
  simp only [if_true]
  split
  · rfl
  · split
    · split <;> rfl
    · rfl
theorem rC_sink {nc nk tb : Nat} {zC zM : sg_M} (hr : rl_road nc nk zC zM) (hn : rl_now nc nk tb zC zM) {c x : Nat} (hc : c < nk) (hx : x < nc) (wet ld : Int32) : gC_Kingdom_sinkOf (nI c) (nI x) wet ld zC = some (sp_ground zM c x wet + sp_weight zM c ld) := by
  unfold gC_Kingdom_sinkOf
  rw [rC_ground hr hn hc hx, rC_weight hr hn hc]
  rfl
theorem rC_stopL {nc nk tb : Nat} {zC zM : sg_M} (hr : rl_road nc nk zC zM) (hn : rl_now nc nk tb zC zM) {c : Nat} (hc : c < nk) (ld wet : Int32) : ∀ (k j n : Nat), j + k = nc → k < n → gC_Kingdom_stopOf_L n (nI c) wet ld (nI j) zC = some (sp_stopF zM c ld wet k j) := by
  have h1 := hr.1
  have h4 := hr.2.2.2.1
  intro k
  induction k with
  | zero =>
    intro j n hj hn1
    obtain ⟨m, rfl⟩ : ∃ m, n = m + 1 := ⟨n - 1, by omega⟩
    unfold gC_Kingdom_stopOf_L sp_stopF
    rw [h4, if_pos ((pi_le (by omega) (by omega)).mpr (by omega))]
  | succ k ih =>
    intro j n hj hn1
    obtain ⟨m, rfl⟩ : ∃ m, n = m + 1 := ⟨n - 1, by omega⟩
    unfold gC_Kingdom_stopOf_L sp_stopF
    rw [h4, if_neg (by rw [pi_le (by omega) (by omega)]; omega), rC_sink hr hn hc (by omega)]
    simp only [Option.bind_some]
    split
    · rw [nI_1, ih (j + 1) m (by omega) (by omega)]
    · rfl
theorem rC_stopOf {nc nk tb : Nat} {zC zM : sg_M} (hr : rl_road nc nk zC zM) (hn : rl_now nc nk tb zC zM) {c : Nat} (hc : c < nk) (ld wet : Int32) (n : Nat) (hn1 : 21 ≤ n) : gC_Kingdom_stopOf n (nI c) wet ld zC = some (sp_stop nc zM c ld wet) := by
  have h1 := hr.1
  exact rC_stopL hr hn hc ld wet nc 0 n (by omega) (by omega)
theorem rC_stopBehind {nc nk tb : Nat} {zC zM : sg_M} (hr : rl_road nc nk zC zM) (hn : rl_now nc nk tb zC zM) {c : Nat} (hc : c < nk) (k n : Nat) (hk : k ≤ 1000) (hn1 : 21 + k ≤ n) : gC_Kingdom_stopBehind n (nI c) (nI k) zC = some (sp_stop nc zM c (zM.2 5 (80 + c)) (sp_wet zM k)) := by
  have h2 := hr.2.1
  have h3 := hr.2.2.1
  have hl := hn.2.2.2.2.1 c hc
  unfold gC_Kingdom_stopBehind
  rw [rC_wetBehind hr hn (by omega) k n hk (by omega)]
  simp only [Option.bind_some]
  rw [pi_in (by omega) (by omega), pi_cl (by omega), hl, rC_stopOf hr hn hc _ _ n (by omega)]
  rfl

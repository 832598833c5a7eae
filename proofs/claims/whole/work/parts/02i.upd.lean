/-! changing one number of the state: equalities (rl_eq) and what always holds (rl_inv) -/
def rl_eq (nc nk : Nat) (ga nm my fk ld sk tm : Nat → Int32) (dy sm : Int32) (f : Nat → Int32) : Prop :=
  (∀ x, x < 20 → ga x = f x) ∧ (∀ x, x < nc → nm x = f (20 + x)) ∧ (∀ x, x < nc → my x = f (40 + x)) ∧ (∀ x, x < 20 → fk x = f (60 + x)) ∧
  (∀ c, c < nk → ld c = f (80 + c)) ∧ (∀ c, c < nk → sk c = f (88 + c)) ∧ (∀ c, c < 8 → tm c = f (96 + c)) ∧ dy = f 104 ∧ sm = f 105
theorem rl_st_of {nc nk tb : Nat} {ga nm my fk ld sk tm : Nat → Int32} {dy sm : Int32} {f : Nat → Int32} (h : rl_eq nc nk ga nm my fk ld sk tm dy sm f) (hi : rl_inv nc nk tb f) : rl_st nc nk tb ga nm my fk ld sk tm dy sm f := ⟨h.1, h.2.1, h.2.2.1, h.2.2.2.1, h.2.2.2.2.1, h.2.2.2.2.2.1, h.2.2.2.2.2.2.1, h.2.2.2.2.2.2.2.1, h.2.2.2.2.2.2.2.2, hi⟩
theorem rl_st_eq {nc nk tb : Nat} {ga nm my fk ld sk tm : Nat → Int32} {dy sm : Int32} {f : Nat → Int32} (h : rl_st nc nk tb ga nm my fk ld sk tm dy sm f) : rl_eq nc nk ga nm my fk ld sk tm dy sm f := ⟨h.1, h.2.1, h.2.2.1, h.2.2.2.1, h.2.2.2.2.1, h.2.2.2.2.2.1, h.2.2.2.2.2.2.1, h.2.2.2.2.2.2.2.1, h.2.2.2.2.2.2.2.2.1⟩
theorem rq_ga {nc nk : Nat} (hk : nc ≤ 20 ∧ nk ≤ 8) {ga nm my fk ld sk tm : Nat → Int32} {dy sm : Int32} {f : Nat → Int32} (h : rl_eq nc nk ga nm my fk ld sk tm dy sm f) {x : Nat} (hx : x < 20) (v : Int32) : rl_eq nc nk (upd ga x v) nm my fk ld sk tm dy sm (upd f (x) v) := by
  obtain ⟨h0, h1, h2, h3, h4, h5, h6, h7, h8⟩ := h
  refine ⟨fun y hy => ?_, fun y hy => ?_, fun y hy => ?_, fun y hy => ?_, fun y hy => ?_, fun y hy => ?_, fun y hy => ?_, ?_, ?_⟩
  · rw [pu_at, pu_at]
    by_cases e : y = x
    · rw [if_pos e, if_pos (by omega)]
    · rw [if_neg e, if_neg (by omega)]; exact h0 y hy
  · rw [pu_at, if_neg (by omega)]; exact h1 y hy
  · rw [pu_at, if_neg (by omega)]; exact h2 y hy
  · rw [pu_at, if_neg (by omega)]; exact h3 y hy
  · rw [pu_at, if_neg (by omega)]; exact h4 y hy
  · rw [pu_at, if_neg (by omega)]; exact h5 y hy
  · rw [pu_at, if_neg (by omega)]; exact h6 y hy
  · rw [pu_at, if_neg (by omega)]; exact h7
  · rw [pu_at, if_neg (by omega)]; exact h8
theorem rq_nm {nc nk : Nat} (hk : nc ≤ 20 ∧ nk ≤ 8) {ga nm my fk ld sk tm : Nat → Int32} {dy sm : Int32} {f : Nat → Int32} (h : rl_eq nc nk ga nm my fk ld sk tm dy sm f) {x : Nat} (hx : x < 20) (v : Int32) : rl_eq nc nk ga (upd nm x v) my fk ld sk tm dy sm (upd f (20 + x) v) := by
  obtain ⟨h0, h1, h2, h3, h4, h5, h6, h7, h8⟩ := h
  refine ⟨fun y hy => ?_, fun y hy => ?_, fun y hy => ?_, fun y hy => ?_, fun y hy => ?_, fun y hy => ?_, fun y hy => ?_, ?_, ?_⟩
  · rw [pu_at, if_neg (by omega)]; exact h0 y hy
  · rw [pu_at, pu_at]
    by_cases e : y = x
    · rw [if_pos e, if_pos (by omega)]
    · rw [if_neg e, if_neg (by omega)]; exact h1 y hy
  · rw [pu_at, if_neg (by omega)]; exact h2 y hy
  · rw [pu_at, if_neg (by omega)]; exact h3 y hy
  · rw [pu_at, if_neg (by omega)]; exact h4 y hy
  · rw [pu_at, if_neg (by omega)]; exact h5 y hy
  · rw [pu_at, if_neg (by omega)]; exact h6 y hy
  · rw [pu_at, if_neg (by omega)]; exact h7
  · rw [pu_at, if_neg (by omega)]; exact h8
theorem rq_my {nc nk : Nat} (hk : nc ≤ 20 ∧ nk ≤ 8) {ga nm my fk ld sk tm : Nat → Int32} {dy sm : Int32} {f : Nat → Int32} (h : rl_eq nc nk ga nm my fk ld sk tm dy sm f) {x : Nat} (hx : x < 20) (v : Int32) : rl_eq nc nk ga nm (upd my x v) fk ld sk tm dy sm (upd f (40 + x) v) := by
  obtain ⟨h0, h1, h2, h3, h4, h5, h6, h7, h8⟩ := h
  refine ⟨fun y hy => ?_, fun y hy => ?_, fun y hy => ?_, fun y hy => ?_, fun y hy => ?_, fun y hy => ?_, fun y hy => ?_, ?_, ?_⟩
  · rw [pu_at, if_neg (by omega)]; exact h0 y hy
  · rw [pu_at, if_neg (by omega)]; exact h1 y hy
  · rw [pu_at, pu_at]
    by_cases e : y = x
    · rw [if_pos e, if_pos (by omega)]
    · rw [if_neg e, if_neg (by omega)]; exact h2 y hy
  · rw [pu_at, if_neg (by omega)]; exact h3 y hy
  · rw [pu_at, if_neg (by omega)]; exact h4 y hy
  · rw [pu_at, if_neg (by omega)]; exact h5 y hy
  · rw [pu_at, if_neg (by omega)]; exact h6 y hy
  · rw [pu_at, if_neg (by omega)]; exact h7
  · rw [pu_at, if_neg (by omega)]; exact h8
theorem rq_fk {nc nk : Nat} (hk : nc ≤ 20 ∧ nk ≤ 8) {ga nm my fk ld sk tm : Nat → Int32} {dy sm : Int32} {f : Nat → Int32} (h : rl_eq nc nk ga nm my fk ld sk tm dy sm f) {x : Nat} (hx : x < 20) (v : Int32) : rl_eq nc nk ga nm my (upd fk x v) ld sk tm dy sm (upd f (60 + x) v) := by
  obtain ⟨h0, h1, h2, h3, h4, h5, h6, h7, h8⟩ := h
  refine ⟨fun y hy => ?_, fun y hy => ?_, fun y hy => ?_, fun y hy => ?_, fun y hy => ?_, fun y hy => ?_, fun y hy => ?_, ?_, ?_⟩
  · rw [pu_at, if_neg (by omega)]; exact h0 y hy
  · rw [pu_at, if_neg (by omega)]; exact h1 y hy
  · rw [pu_at, if_neg (by omega)]; exact h2 y hy
  · rw [pu_at, pu_at]
    by_cases e : y = x
    · rw [if_pos e, if_pos (by omega)]
    · rw [if_neg e, if_neg (by omega)]; exact h3 y hy
  · rw [pu_at, if_neg (by omega)]; exact h4 y hy
  · rw [pu_at, if_neg (by omega)]; exact h5 y hy
  · rw [pu_at, if_neg (by omega)]; exact h6 y hy
  · rw [pu_at, if_neg (by omega)]; exact h7
  · rw [pu_at, if_neg (by omega)]; exact h8
theorem rq_ld {nc nk : Nat} (hk : nc ≤ 20 ∧ nk ≤ 8) {ga nm my fk ld sk tm : Nat → Int32} {dy sm : Int32} {f : Nat → Int32} (h : rl_eq nc nk ga nm my fk ld sk tm dy sm f) {x : Nat} (hx : x < nk) (v : Int32) : rl_eq nc nk ga nm my fk (upd ld x v) sk tm dy sm (upd f (80 + x) v) := by
  obtain ⟨h0, h1, h2, h3, h4, h5, h6, h7, h8⟩ := h
  refine ⟨fun y hy => ?_, fun y hy => ?_, fun y hy => ?_, fun y hy => ?_, fun y hy => ?_, fun y hy => ?_, fun y hy => ?_, ?_, ?_⟩
  · rw [pu_at, if_neg (by omega)]; exact h0 y hy
  · rw [pu_at, if_neg (by omega)]; exact h1 y hy
  · rw [pu_at, if_neg (by omega)]; exact h2 y hy
  · rw [pu_at, if_neg (by omega)]; exact h3 y hy
  · rw [pu_at, pu_at]
    by_cases e : y = x
    · rw [if_pos e, if_pos (by omega)]
    · rw [if_neg e, if_neg (by omega)]; exact h4 y hy
  · rw [pu_at, if_neg (by omega)]; exact h5 y hy
  · rw [pu_at, if_neg (by omega)]; exact h6 y hy
  · rw [pu_at, if_neg (by omega)]; exact h7
  · rw [pu_at, if_neg (by omega)]; exact h8
theorem rq_sk {nc nk : Nat} (hk : nc ≤ 20 ∧ nk ≤ 8) {ga nm my fk ld sk tm : Nat → Int32} {dy sm : Int32} {f : Nat → Int32} (h : rl_eq nc nk ga nm my fk ld sk tm dy sm f) {x : Nat} (hx : x < 8) (v : Int32) : rl_eq nc nk ga nm my fk ld (upd sk x v) tm dy sm (upd f (88 + x) v) := by
  obtain ⟨h0, h1, h2, h3, h4, h5, h6, h7, h8⟩ := h
  refine ⟨fun y hy => ?_, fun y hy => ?_, fun y hy => ?_, fun y hy => ?_, fun y hy => ?_, fun y hy => ?_, fun y hy => ?_, ?_, ?_⟩
  · rw [pu_at, if_neg (by omega)]; exact h0 y hy
  · rw [pu_at, if_neg (by omega)]; exact h1 y hy
  · rw [pu_at, if_neg (by omega)]; exact h2 y hy
  · rw [pu_at, if_neg (by omega)]; exact h3 y hy
  · rw [pu_at, if_neg (by omega)]; exact h4 y hy
  · rw [pu_at, pu_at]
    by_cases e : y = x
    · rw [if_pos e, if_pos (by omega)]
    · rw [if_neg e, if_neg (by omega)]; exact h5 y hy
  · rw [pu_at, if_neg (by omega)]; exact h6 y hy
  · rw [pu_at, if_neg (by omega)]; exact h7
  · rw [pu_at, if_neg (by omega)]; exact h8
theorem rq_tm {nc nk : Nat} (hk : nc ≤ 20 ∧ nk ≤ 8) {ga nm my fk ld sk tm : Nat → Int32} {dy sm : Int32} {f : Nat → Int32} (h : rl_eq nc nk ga nm my fk ld sk tm dy sm f) {x : Nat} (hx : x < 8) (v : Int32) : rl_eq nc nk ga nm my fk ld sk (upd tm x v) dy sm (upd f (96 + x) v) := by
  obtain ⟨h0, h1, h2, h3, h4, h5, h6, h7, h8⟩ := h
  refine ⟨fun y hy => ?_, fun y hy => ?_, fun y hy => ?_, fun y hy => ?_, fun y hy => ?_, fun y hy => ?_, fun y hy => ?_, ?_, ?_⟩
  · rw [pu_at, if_neg (by omega)]; exact h0 y hy
  · rw [pu_at, if_neg (by omega)]; exact h1 y hy
  · rw [pu_at, if_neg (by omega)]; exact h2 y hy
  · rw [pu_at, if_neg (by omega)]; exact h3 y hy
  · rw [pu_at, if_neg (by omega)]; exact h4 y hy
  · rw [pu_at, if_neg (by omega)]; exact h5 y hy
  · rw [pu_at, pu_at]
    by_cases e : y = x
    · rw [if_pos e, if_pos (by omega)]
    · rw [if_neg e, if_neg (by omega)]; exact h6 y hy
  · rw [pu_at, if_neg (by omega)]; exact h7
  · rw [pu_at, if_neg (by omega)]; exact h8
theorem rq_dy {nc nk : Nat} (hk : nc ≤ 20 ∧ nk ≤ 8) {ga nm my fk ld sk tm : Nat → Int32} {dy sm : Int32} {f : Nat → Int32} (h : rl_eq nc nk ga nm my fk ld sk tm dy sm f) (v : Int32) : rl_eq nc nk ga nm my fk ld sk tm v sm (upd f 104 v) := by
  obtain ⟨h0, h1, h2, h3, h4, h5, h6, h7, h8⟩ := h
  refine ⟨fun y hy => ?_, fun y hy => ?_, fun y hy => ?_, fun y hy => ?_, fun y hy => ?_, fun y hy => ?_, fun y hy => ?_, ?_, ?_⟩
  · rw [pu_at, if_neg (by omega)]; exact h0 y hy
  · rw [pu_at, if_neg (by omega)]; exact h1 y hy
  · rw [pu_at, if_neg (by omega)]; exact h2 y hy
  · rw [pu_at, if_neg (by omega)]; exact h3 y hy
  · rw [pu_at, if_neg (by omega)]; exact h4 y hy
  · rw [pu_at, if_neg (by omega)]; exact h5 y hy
  · rw [pu_at, if_neg (by omega)]; exact h6 y hy
  · rw [pu_at, if_pos rfl]
  · rw [pu_at, if_neg (by omega)]; exact h8
theorem rq_sm {nc nk : Nat} (hk : nc ≤ 20 ∧ nk ≤ 8) {ga nm my fk ld sk tm : Nat → Int32} {dy sm : Int32} {f : Nat → Int32} (h : rl_eq nc nk ga nm my fk ld sk tm dy sm f) (v : Int32) : rl_eq nc nk ga nm my fk ld sk tm dy v (upd f 105 v) := by
  obtain ⟨h0, h1, h2, h3, h4, h5, h6, h7, h8⟩ := h
  refine ⟨fun y hy => ?_, fun y hy => ?_, fun y hy => ?_, fun y hy => ?_, fun y hy => ?_, fun y hy => ?_, fun y hy => ?_, ?_, ?_⟩
  · rw [pu_at, if_neg (by omega)]; exact h0 y hy
  · rw [pu_at, if_neg (by omega)]; exact h1 y hy
  · rw [pu_at, if_neg (by omega)]; exact h2 y hy
  · rw [pu_at, if_neg (by omega)]; exact h3 y hy
  · rw [pu_at, if_neg (by omega)]; exact h4 y hy
  · rw [pu_at, if_neg (by omega)]; exact h5 y hy
  · rw [pu_at, if_neg (by omega)]; exact h6 y hy
  · rw [pu_at, if_neg (by omega)]; exact h7
  · rw [pu_at, if_pos rfl]
theorem ri_ga {nc nk tb : Nat} (hk : nc ≤ 20 ∧ nk ≤ 8) {f : Nat → Int32} (h : rl_inv nc nk tb f) {x g : Nat} (hx : x < 20) (hg : g ≤ 60) : rl_inv nc nk tb (upd f (x) (nI g)) := by
  obtain ⟨h0, h1, h2, h3, h4, h5, h6, h7, h8, h9⟩ := h
  refine ⟨fun y hy => ?_, fun y hy => ?_, fun y hy => ?_, fun y hy => ?_, fun y hy => ?_, fun y hy => ?_, ?_, ?_, h8, fun y hy => ?_⟩
  · rw [pu_at]
    by_cases e : y = x
    · rw [if_pos (by omega)]; exact ⟨g, hg, rfl⟩
    · rw [if_neg (by omega)]; exact h0 y hy
  · rw [pu_at, if_neg (by omega)]; exact h1 y hy
  · rw [pu_at, pu_at, if_neg (by omega), if_neg (by omega)]; exact h2 y hy
  · rw [pu_at, if_neg (by omega)]; exact h3 y hy
  · rw [pu_at, if_neg (by omega)]; exact h4 y hy
  · rw [pu_at, if_neg (by omega)]; exact h5 y hy
  · rw [pu_at, if_neg (by omega)]; exact h6
  · rw [pu_at, if_neg (by omega)]; exact h7
  · rw [pu_at, if_neg (by omega)]; exact h9 y hy
theorem ri_nm {nc nk tb : Nat} (hk : nc ≤ 20 ∧ nk ≤ 8) {f : Nat → Int32} (h : rl_inv nc nk tb f) {x g : Nat} (hx : x < 20) (hg : g ≤ 9) : rl_inv nc nk tb (upd f (20 + x) (nI g)) := by
  obtain ⟨h0, h1, h2, h3, h4, h5, h6, h7, h8, h9⟩ := h
  refine ⟨fun y hy => ?_, fun y hy => ?_, fun y hy => ?_, fun y hy => ?_, fun y hy => ?_, fun y hy => ?_, ?_, ?_, h8, fun y hy => ?_⟩
  · rw [pu_at, if_neg (by omega)]; exact h0 y hy
  · rw [pu_at]
    by_cases e : y = x
    · rw [if_pos (by omega)]; exact Or.inr ⟨g, hg, rfl⟩
    · rw [if_neg (by omega)]; exact h1 y hy
  · rw [pu_at, pu_at]
    by_cases e : y = x
    · rw [if_pos (by omega)]; intro q; exact absurd q (pi_m1 (by omega))
    · rw [if_neg (by omega), if_neg (by omega)]; exact h2 y hy
  · rw [pu_at, if_neg (by omega)]; exact h3 y hy
  · rw [pu_at, if_neg (by omega)]; exact h4 y hy
  · rw [pu_at, if_neg (by omega)]; exact h5 y hy
  · rw [pu_at, if_neg (by omega)]; exact h6
  · rw [pu_at, if_neg (by omega)]; exact h7
  · rw [pu_at, if_neg (by omega)]; exact h9 y hy
theorem ri_my {nc nk tb : Nat} (hk : nc ≤ 20 ∧ nk ≤ 8) {f : Nat → Int32} (h : rl_inv nc nk tb f) {x : Nat} {v : Int32} (hx : x < 20) (hv : ¬ f (20 + x) = -1 ∨ v = -1) : rl_inv nc nk tb (upd f (40 + x) v) := by
  obtain ⟨h0, h1, h2, h3, h4, h5, h6, h7, h8, h9⟩ := h
  refine ⟨fun y hy => ?_, fun y hy => ?_, fun y hy => ?_, fun y hy => ?_, fun y hy => ?_, fun y hy => ?_, ?_, ?_, h8, fun y hy => ?_⟩
  · rw [pu_at, if_neg (by omega)]; exact h0 y hy
  · rw [pu_at, if_neg (by omega)]; exact h1 y hy
  · rw [pu_at, pu_at, if_neg (by omega)]
    by_cases e : y = x
    · rw [if_pos (by omega)]; intro q; subst e; exact hv.resolve_left (fun p => p q)
    · rw [if_neg (by omega)]; exact h2 y hy
  · rw [pu_at, if_neg (by omega)]; exact h3 y hy
  · rw [pu_at, if_neg (by omega)]; exact h4 y hy
  · rw [pu_at, if_neg (by omega)]; exact h5 y hy
  · rw [pu_at, if_neg (by omega)]; exact h6
  · rw [pu_at, if_neg (by omega)]; exact h7
  · rw [pu_at, if_neg (by omega)]; exact h9 y hy
theorem ri_fk {nc nk tb : Nat} (hk : nc ≤ 20 ∧ nk ≤ 8) {f : Nat → Int32} (h : rl_inv nc nk tb f) {x g : Nat} (hx : x < 20) (hg : g ≤ 9999) : rl_inv nc nk tb (upd f (60 + x) (nI g)) := by
  obtain ⟨h0, h1, h2, h3, h4, h5, h6, h7, h8, h9⟩ := h
  refine ⟨fun y hy => ?_, fun y hy => ?_, fun y hy => ?_, fun y hy => ?_, fun y hy => ?_, fun y hy => ?_, ?_, ?_, h8, fun y hy => ?_⟩
  · rw [pu_at, if_neg (by omega)]; exact h0 y hy
  · rw [pu_at, if_neg (by omega)]; exact h1 y hy
  · rw [pu_at, pu_at, if_neg (by omega), if_neg (by omega)]; exact h2 y hy
  · rw [pu_at]
    by_cases e : y = x
    · rw [if_pos (by omega)]; exact ⟨g, hg, rfl⟩
    · rw [if_neg (by omega)]; exact h3 y hy
  · rw [pu_at, if_neg (by omega)]; exact h4 y hy
  · rw [pu_at, if_neg (by omega)]; exact h5 y hy
  · rw [pu_at, if_neg (by omega)]; exact h6
  · rw [pu_at, if_neg (by omega)]; exact h7
  · rw [pu_at, if_neg (by omega)]; exact h9 y hy
theorem ri_ld {nc nk tb : Nat} (hk : nc ≤ 20 ∧ nk ≤ 8) {f : Nat → Int32} (h : rl_inv nc nk tb f) {x g : Nat} (hx : x < nk) (hg : 1 ≤ g ∧ g ≤ 60) : rl_inv nc nk tb (upd f (80 + x) (nI g)) := by
  obtain ⟨h0, h1, h2, h3, h4, h5, h6, h7, h8, h9⟩ := h
  refine ⟨fun y hy => ?_, fun y hy => ?_, fun y hy => ?_, fun y hy => ?_, fun y hy => ?_, fun y hy => ?_, ?_, ?_, h8, fun y hy => ?_⟩
  · rw [pu_at, if_neg (by omega)]; exact h0 y hy
  · rw [pu_at, if_neg (by omega)]; exact h1 y hy
  · rw [pu_at, pu_at, if_neg (by omega), if_neg (by omega)]; exact h2 y hy
  · rw [pu_at, if_neg (by omega)]; exact h3 y hy
  · rw [pu_at, if_neg (by omega)]; exact h4 y hy
  · rw [pu_at]
    by_cases e : y = x
    · rw [if_pos (by omega)]; exact ⟨g, hg.1, hg.2, rfl⟩
    · rw [if_neg (by omega)]; exact h5 y hy
  · rw [pu_at, if_neg (by omega)]; exact h6
  · rw [pu_at, if_neg (by omega)]; exact h7
  · rw [pu_at, if_neg (by omega)]; exact h9 y hy
theorem ri_sk {nc nk tb : Nat} (hk : nc ≤ 20 ∧ nk ≤ 8) {f : Nat → Int32} (h : rl_inv nc nk tb f) {x : Nat} {v : Int32} (hx : x < nk) (hv : v = -1 ∨ ∃ q, q < nc ∧ v = nI q) : rl_inv nc nk tb (upd f (88 + x) v) := by
  obtain ⟨h0, h1, h2, h3, h4, h5, h6, h7, h8, h9⟩ := h
  refine ⟨fun y hy => ?_, fun y hy => ?_, fun y hy => ?_, fun y hy => ?_, fun y hy => ?_, fun y hy => ?_, ?_, ?_, h8, fun y hy => ?_⟩
  · rw [pu_at, if_neg (by omega)]; exact h0 y hy
  · rw [pu_at, if_neg (by omega)]; exact h1 y hy
  · rw [pu_at, pu_at, if_neg (by omega), if_neg (by omega)]; exact h2 y hy
  · rw [pu_at, if_neg (by omega)]; exact h3 y hy
  · rw [pu_at]
    by_cases e : y = x
    · rw [if_pos (by omega)]; exact hv
    · rw [if_neg (by omega)]; exact h4 y hy
  · rw [pu_at, if_neg (by omega)]; exact h5 y hy
  · rw [pu_at, if_neg (by omega)]; exact h6
  · rw [pu_at, if_neg (by omega)]; exact h7
  · rw [pu_at, if_neg (by omega)]; exact h9 y hy
theorem ri_tm {nc nk tb : Nat} (hk : nc ≤ 20 ∧ nk ≤ 8) {f : Nat → Int32} (h : rl_inv nc nk tb f) {x g : Nat} (hx : x < 8) (hg : g ≤ tb) : rl_inv nc nk tb (upd f (96 + x) (nI g)) := by
  obtain ⟨h0, h1, h2, h3, h4, h5, h6, h7, h8, h9⟩ := h
  refine ⟨fun y hy => ?_, fun y hy => ?_, fun y hy => ?_, fun y hy => ?_, fun y hy => ?_, fun y hy => ?_, ?_, ?_, h8, fun y hy => ?_⟩
  · rw [pu_at, if_neg (by omega)]; exact h0 y hy
  · rw [pu_at, if_neg (by omega)]; exact h1 y hy
  · rw [pu_at, pu_at, if_neg (by omega), if_neg (by omega)]; exact h2 y hy
  · rw [pu_at, if_neg (by omega)]; exact h3 y hy
  · rw [pu_at, if_neg (by omega)]; exact h4 y hy
  · rw [pu_at, if_neg (by omega)]; exact h5 y hy
  · rw [pu_at, if_neg (by omega)]; exact h6
  · rw [pu_at, if_neg (by omega)]; exact h7
  · rw [pu_at]
    by_cases e : y = x
    · rw [if_pos (by omega)]; exact ⟨g, hg, rfl⟩
    · rw [if_neg (by omega)]; exact h9 y hy
theorem ri_dy {nc nk tb : Nat} (hk : nc ≤ 20 ∧ nk ≤ 8) {f : Nat → Int32} (h : rl_inv nc nk tb f) {g : Nat} (hg : g ≤ 9060) : rl_inv nc nk tb (upd f (104) (nI g)) := by
  obtain ⟨h0, h1, h2, h3, h4, h5, h6, h7, h8, h9⟩ := h
  refine ⟨fun y hy => ?_, fun y hy => ?_, fun y hy => ?_, fun y hy => ?_, fun y hy => ?_, fun y hy => ?_, ?_, ?_, h8, fun y hy => ?_⟩
  · rw [pu_at, if_neg (by omega)]; exact h0 y hy
  · rw [pu_at, if_neg (by omega)]; exact h1 y hy
  · rw [pu_at, pu_at, if_neg (by omega), if_neg (by omega)]; exact h2 y hy
  · rw [pu_at, if_neg (by omega)]; exact h3 y hy
  · rw [pu_at, if_neg (by omega)]; exact h4 y hy
  · rw [pu_at, if_neg (by omega)]; exact h5 y hy
  · rw [pu_at, if_pos rfl]; exact ⟨g, hg, rfl⟩
  · rw [pu_at, if_neg (by omega)]; exact h7
  · rw [pu_at, if_neg (by omega)]; exact h9 y hy
theorem ri_sm {nc nk tb : Nat} (hk : nc ≤ 20 ∧ nk ≤ 8) {f : Nat → Int32} (h : rl_inv nc nk tb f) {g : Nat} (hg : g ≤ 60 ∧ (nc = 0 → g = 0)) : rl_inv nc nk tb (upd f (105) (nI g)) := by
  obtain ⟨h0, h1, h2, h3, h4, h5, h6, h7, h8, h9⟩ := h
  refine ⟨fun y hy => ?_, fun y hy => ?_, fun y hy => ?_, fun y hy => ?_, fun y hy => ?_, fun y hy => ?_, ?_, ?_, h8, fun y hy => ?_⟩
  · rw [pu_at, if_neg (by omega)]; exact h0 y hy
  · rw [pu_at, if_neg (by omega)]; exact h1 y hy
  · rw [pu_at, pu_at, if_neg (by omega), if_neg (by omega)]; exact h2 y hy
  · rw [pu_at, if_neg (by omega)]; exact h3 y hy
  · rw [pu_at, if_neg (by omega)]; exact h4 y hy
  · rw [pu_at, if_neg (by omega)]; exact h5 y hy
  · rw [pu_at, if_neg (by omega)]; exact h6
  · rw [pu_at, if_pos rfl]; exact ⟨g, hg.1, rfl, hg.2⟩
  · rw [pu_at, if_neg (by omega)]; exact h9 y hy
theorem ri_mono {nc nk tb tb2 : Nat} {f : Nat → Int32} (h : rl_inv nc nk tb f) (h1 : tb ≤ tb2) (h2 : tb2 ≤ 100000) : rl_inv nc nk tb2 f := by
  obtain ⟨h0, g1, g2, h3, h4, h5, h6, h7, h8, h9⟩ := h
  exact ⟨h0, g1, g2, h3, h4, h5, h6, h7, h2, fun c hc => by obtain ⟨g, hg, e⟩ := h9 c hc; exact ⟨g, by omega, e⟩⟩
theorem ri_rz {nc nk tb : Nat} (hk : nc ≤ 20 ∧ nk ≤ 8) {f : Nat → Int32} (h : rl_inv nc nk tb f) {x : Nat} (hx : x < 20) : rl_inv nc nk tb (upd (upd f (20 + x) (-1)) (40 + x) (-1)) := by
  obtain ⟨h0, h1, h2, h3, h4, h5, h6, h7, h8, h9⟩ := h
  refine ⟨fun y hy => ?_, fun y hy => ?_, fun y hy => ?_, fun y hy => ?_, fun y hy => ?_, fun y hy => ?_, ?_, ?_, h8, fun y hy => ?_⟩
  · rw [pu_at, if_neg (by omega), pu_at, if_neg (by omega)]; exact h0 y hy
  · rw [pu_at, if_neg (by omega), pu_at]
    by_cases e : y = x
    · rw [if_pos (by omega)]; exact Or.inl rfl
    · rw [if_neg (by omega)]; exact h1 y hy
  · rw [pu_at, if_neg (by omega), pu_at, pu_at]
    by_cases e : y = x
    · intro _; rw [if_pos (by omega)]
    · rw [if_neg (by omega), if_neg (by omega), pu_at, if_neg (by omega)]; exact h2 y hy
  · rw [pu_at, if_neg (by omega), pu_at, if_neg (by omega)]; exact h3 y hy
  · rw [pu_at, if_neg (by omega), pu_at, if_neg (by omega)]; exact h4 y hy
  · rw [pu_at, if_neg (by omega), pu_at, if_neg (by omega)]; exact h5 y hy
  · rw [pu_at, if_neg (by omega), pu_at, if_neg (by omega)]; exact h6
  · rw [pu_at, if_neg (by omega), pu_at, if_neg (by omega)]; exact h7
  · rw [pu_at, if_neg (by omega), pu_at, if_neg (by omega)]; exact h9 y hy
/-! frames: what changes of the state alone leaves as it is -/
def fn_C (z z' : sg_M) : Prop := (∀ k, (k ≠ 12 ∧ k ≠ 13) → z'.1 k = z.1 k) ∧ ∀ a, (a < 11 ∨ 17 < a) → z'.2 a = z.2 a
def fn_M (z z' : sg_M) : Prop := (∀ k, z'.1 k = z.1 k) ∧ ∀ a, a ≠ 5 → z'.2 a = z.2 a
theorem fn_C.rf (z : sg_M) : fn_C z z := ⟨fun _ _ => rfl, fun _ _ => rfl⟩
theorem fn_M.rf (z : sg_M) : fn_M z z := ⟨fun _ => rfl, fun _ _ => rfl⟩
theorem fn_C.tr {x y z : sg_M} (h : fn_C x y) (g : fn_C y z) : fn_C x z := ⟨fun k hk => (g.1 k hk).trans (h.1 k hk), fun a ha => (g.2 a ha).trans (h.2 a ha)⟩
theorem fn_M.tr {x y z : sg_M} (h : fn_M x y) (g : fn_M y z) : fn_M x z := ⟨fun k => (g.1 k).trans (h.1 k), fun a ha => (g.2 a ha).trans (h.2 a ha)⟩
theorem fn_road {nc nk : Nat} {zC zM zC' zM' : sg_M} (hC : fn_C zC zC') (hM : fn_M zM zM') (h : rl_road nc nk zC zM) : rl_road nc nk zC' zM' := by
  unfold rl_road at *
  rw [hC.1 9 (by omega), hC.1 10 (by omega), hC.1 11 (by omega), hC.2 6 (by omega), hC.2 7 (by omega), hC.2 8 (by omega), hC.2 10 (by omega), hM.1 0, hM.1 1, hM.1 2, hM.2 0 (by omega), hM.2 1 (by omega), hM.2 2 (by omega), hM.2 4 (by omega)]
  exact h

/-! the beginning -/
def iz_C : sg_M := (fun k => if k = 2 then -1 else 0, fun _ _ => 0)
def iz_M : sg_M := (fun k => if k = 5 then -1 else 0, fun _ _ => 0)
theorem st_init : ∃ z9 z1, gC_Road_clear_9 iz_C = some z9 ∧ gC_State_begin 1000 z9 = some z1 ∧ Rl 0 z1 iz_M := by
  obtain ⟨z9, e9⟩ : ∃ z, z = sg_w (sg_s (sg_s (sg_s iz_C 9 0) 11 0) 10 1) 7 0 5 := ⟨_, rfl⟩
  obtain ⟨z1, b1, b2, b3, b4, b5, b6, b7⟩ := rC_begin 1000 (by omega) z9
  refine ⟨z9, z1, by rw [e9]; rfl, b1, 0, 0, 0, 0, 0, 0, 0, ?_, ?_, ⟨by omega, by omega, ?_, rfl, ?_, fun j hj => by omega⟩, ⟨by omega, ?_, rfl, fun j hj => by omega⟩, ⟨by omega, ?_, rfl, fun j hj => by omega⟩, fun i hi => ?_, rl_text0 ?_ rfl, ?_, 0, by omega, ?_, rfl⟩
  · refine ⟨by omega, by omega, fun _ => rfl, ?_, rfl, ?_, rfl, fun x hx => by omega, fun c hc => by omega, Or.inl ⟨rfl, ?_, ?_⟩⟩
    · rw [b4 9 (by omega), e9]; rfl
    · rw [b4 11 (by omega), e9]; rfl
    · rw [b4 10 (by omega), e9]; rfl
    · rw [b5 7 (by omega), e9, pw_2, if_pos rfl, pi_c0, pu_at, if_pos rfl]
  · refine ⟨fun x hx => (b6 x hx).1, fun x hx => by omega, fun x hx => by omega, fun x hx => (b6 x hx).2.2.2, fun c hc => by omega, fun c hc => by omega, fun c hc => (b7 c hc).2.2, b2, b3, fun x hx => ⟨0, by omega, rfl⟩, fun x hx => Or.inr ⟨0, by omega, rfl⟩, fun x hx h => absurd h (show ¬ (0 : Int32) = -1 by decide), fun x hx => ⟨0, by omega, rfl⟩, fun c hc => by omega, fun c hc => by omega, ⟨0, by omega, rfl⟩, ⟨0, by omega, rfl, fun _ => rfl⟩, by omega, fun c hc => ⟨0, by omega, rfl⟩⟩
  · rw [b4 24 (by omega), e9]; rfl
  · rw [b4 25 (by omega), e9]; rfl
  · rw [b4 19 (by omega), e9]; rfl
  · rw [b4 20 (by omega), e9]; rfl
  · refine ⟨?_, Or.inl rfl⟩
    rw [b5 27 (by omega), e9]; rfl
  · rw [b4 1 (by omega), e9]; rfl
  · rw [b4 2 (by omega), e9]; rfl
  · rw [b4 0 (by omega), e9]; rfl

section LE0
theorem row0_0 {j : Int} (h : j < 4 ∨ 8 < j) : row0 j = 0 := by
  unfold row0 up
  rw [if_neg (by omega), if_neg (by omega), if_neg (by omega), if_neg (by omega), if_neg (by omega)]
theorem row0_4 : row0 4 = 20 := rfl
theorem row0_5 : row0 5 = 50 := rfl
theorem row0_6 : row0 6 = 2 := rfl
theorem row0_7 : row0 7 = 6 := rfl
theorem row0_8 : row0 8 = 8 := rfl
theorem row0_iR (j : Int) : iR (row0 j) := by
  unfold row0 up
  split
  · exact ⟨by decide, by decide⟩
  split
  · exact ⟨by decide, by decide⟩
  split
  · exact ⟨by decide, by decide⟩
  split
  · exact ⟨by decide, by decide⟩
  split
  · exact ⟨by decide, by decide⟩
  · exact iR_0
theorem stg0_iR (j : Int) : iR (stg0 j) := by
  unfold stg0 up
  split
  · exact ⟨by decide, by decide⟩
  split
  · exact ⟨by decide, by decide⟩
  split
  · exact ⟨by decide, by decide⟩
  split
  · exact ⟨by decide, by decide⟩
  split
  · exact ⟨by decide, by decide⟩
  · exact iR_0
theorem ls_SR : SR ls_s0 := by
  refine ⟨fun c i => ?_, fun c k => ?_, fun c i => ⟨by show (-9223372036854775808 : Int) ≤ 0; decide, by show (0 : Int) < 9223372036854775808; decide⟩⟩
  · show iR (ls_ia c i)
    unfold ls_ia u1
    split
    · exact row0_iR i
    split
    · exact stg0_iR i
    split
    · exact stg0_iR i
    split
    · exact stg0_iR i
    · exact iR_0
  · show iR (ls_sc c k)
    unfold ls_sc u2
    split
    · exact ⟨by decide, by decide⟩
    split
    · exact ⟨by decide, by decide⟩
    · exact iR_0
theorem row0_WF : WF row0 := by
  have e0 := row0_0 (j := 0) (by omega)
  have e1 := row0_0 (j := 1) (by omega)
  have e2 := row0_0 (j := 2) (by omega)
  have e3 := row0_0 (j := 3) (by omega)
  refine ⟨?_, fun p hp0 hp1 => ?_, fun p hp0 hp1 => ?_, fun p hp0 hp1 => ?_⟩
  · unfold W0
    rw [e0, e1, e2, e3, row0_4, row0_5, row0_6, row0_7, row0_8]
    decide
  · rw [e1] at hp1; omega
  · rw [e2] at hp1; omega
  · rw [e3] at hp1; omega
theorem row0_GM : GM row0 := by
  refine ⟨row0_WF, fun w h0 h1 => ?_, fun j hj => row0_0 (by omega)⟩
  rw [row0_0 (j := 0) (by omega)] at h1
  omega
theorem row0_pair (a b : Int) : pairOf row0 a b = -1 := by
  unfold pairOf
  rw [row0_0 (j := 2) (by omega)]
  rfl
theorem ls_RK : RK ls_s0 13 row0 := by
  have e0 := row0_0 (j := 0) (by omega)
  have e1 := row0_0 (j := 1) (by omega)
  have e3 := row0_0 (j := 3) (by omega)
  refine ⟨by rw [e0]; rfl, by rw [e1]; rfl, by rw [row0_0 (j := 2) (by omega)]; rfl, by rw [e3]; rfl, ?_, ?_, ?_, ?_, ?_, ?_, ?_, ?_, ?_, ?_, ?_, ?_⟩
  · intro w h0 h1; rw [e0] at h1; omega
  · intro w j h0 h1; rw [e0] at h1; omega
  · intro w h0 h1; rw [e1] at h1; omega
  · intro w j h0 h1; rw [e1] at h1; omega
  · intro w h0 h1; rw [e1] at h1; omega
  · intro w j h0 h1; rw [e1] at h1; omega
  · intro w h0 h1; rw [e1] at h1; omega
  · intro w h0 h1; rw [e1] at h1; omega
  · intro j _ _; exact Or.inl rfl
  · intro a b _ _ _ _
    rw [row0_pair, if_pos rfl]
    rfl
  · intro j h0 h1; rw [e3] at h1; omega
  · intro i h0 h1
    have hc : i = 0 ∨ i = 1 ∨ i = 2 ∨ i = 3 ∨ i = 4 := by omega
    rcases hc with rfl | rfl | rfl | rfl | rfl <;> rfl
theorem ls_CI : CI ls_s0 row0 (fun _ => 0) 0 := by
  refine ⟨Or.inl ⟨rfl, rfl⟩, row0_GM, ls_RK, rfl, fun z => absurd rfl z, ⟨⟨?_, ?_⟩, fun i h0 h1 => ?_, fun c _ _ z => absurd rfl z⟩, fun z => absurd rfl z, fun z => absurd rfl z, fun z => absurd rfl z⟩
  · show (0 : Int) ≤ 0; decide
  · show (0 : Int) ≤ 7913; decide
  · have : i < 0 := h1
    omega
theorem ls_LE : LE ls_s0 := by
  refine ⟨row0, fun _ => 0, 0, fun _ => 0, 0, -1, ⟨⟨rfl, rfl, rfl, rfl, rfl, rfl, fun z => absurd rfl z⟩, ls_CI, ⟨rfl, rfl, rfl⟩, fun _ => ⟨Int.le_refl 0, by show (0 : Int) ≤ 255; decide⟩, ⟨Int.le_refl 0, by show (0 : Int) ≤ 400; decide⟩, fun _ _ => rfl⟩⟩
theorem law_wp {g : AG} {d : Nat} (hL : ag_L g ≤ 3072) (hd : 60 ≤ d) : Wp g d mL_law QW 0 [some (.ref (ag_b g)), none, none, none, none, none, none] [] [] (3 * 513 + 1 + 28 + 1 + 101 + 1) (18 * 513 + 1 + 163258 + 52 + 85191 + 15) :=
  ls_start hd (fun ad => law_loop (Q := QS) hL hd (fun _ _ => rfl) 513 0 ls_s0 (3 * 513) (18 * 513) (by omega) (by omega) (by omega) (by omega) (by omega) ls_SR ls_LE)
end LE0

section FKb
variable {σ : SG} {m t : Int → Int} {k : Nat}
theorem BeP_fk {S : SK} {b c : Int} (hB : SB σ m k) (hW : WF m) (hI : IS m S) (hC : SCl σ m S) (hmb : S.mn ≤ 1000000) (h : BeP σ m S (ia σ 62 (m 3)) (kN σ) b c) : (if b = -1 then -1 else kK σ b) = fkM m S ∧ c = fcM m S ∧ (b = -1 ↔ fkM m S = -1) := by
  have h3 := hW.1.2.2.2.1
  have hfi := hB.kn.fi (m 3) h3.1 (by omega)
  have hmem : ∀ q, q ∈ candF m S ↔ ∃ j, (ia σ 62 (m 3) ≤ j ∧ j < kN σ) ∧ kK σ j = q ∧ ¬ S.ls q = 0 := fun q => by
    rw [mem_candF]
    constructor
    · rintro ⟨h1, h2⟩
      obtain ⟨j, hj, e⟩ := hC.al q h2
      have hv := (hB.kn.vd j hj.1 hj.2).1
      have hvb := vC_b hW.1 hv
      have ek : kK σ j / 294 = kM σ j := (keyC_s hW.1 hv).1
      have hp := full_pc hW.1 hvb.1
      have hf := hfi.2 j hj.1 hj.2
      have hk : kM σ j = fullM m := by rw [← ek, e]; omega
      have hp2 := hp.2.mpr hk
      exact ⟨j, ⟨by
        rcases Classical.em (ia σ 62 (m 3) ≤ j) with z | z
        · exact z
        · have := hf.mp (by omega)
          have hk' : (pc (kM σ j) : Int) = m 3 := hp2
          omega, hj.2⟩, e, h2⟩
    · rintro ⟨j, hj, e, h2⟩
      have hv := (hB.kn.vd j (by omega) hj.2).1
      have hvb := vC_b hW.1 hv
      have ek : kK σ j / 294 = kM σ j := (keyC_s hW.1 hv).1
      have hp := full_pc hW.1 hvb.1
      have hf := hfi.2 j (by omega) hj.2
      have hp1 : (pc (kM σ j) : Int) ≤ m 3 := hp.1
      have hk : kM σ j = fullM m := hp.2.mp (by
        have : ¬ (pc (kM σ j) : Int) < m 3 := fun z => by have := hf.mpr z; omega
        show (pc (kM σ j) : Int) = m 3
        omega)
      rw [← e]
      exact ⟨by omega, by rw [e]; exact h2⟩
  have hk0 : ∀ j, 0 ≤ j → j < kN σ → 0 ≤ kK σ j := fun j h0 h1 => (keyC_s hW.1 (hB.kn.vd j h0 h1).1).2.1.1
  rcases h with ⟨z1, z2, z3⟩ | ⟨z1, z2, z3, z4⟩
  · have := fk_of hW hI (by omega) (best := -1) (Or.inl ⟨rfl, fun q hq => by
      obtain ⟨j, hj, e, h2⟩ := (hmem q).mp hq
      rw [← e] at h2
      exact h2 (z3 j hj.1 hj.2)⟩)
    rw [if_pos z1]
    refine ⟨this, ?_, fun _ => this.symm, fun _ => z1⟩
    unfold fcM
    rw [if_pos this.symm, z2]
  · have hb0 := hk0 b (by omega) z1.2
    have hne : ¬ b = -1 := by omega
    have := fk_of hW hI (by omega) (best := kK σ b) (Or.inr ⟨(hmem _).mpr ⟨b, z1, rfl, z2⟩, fun q hq => by
      obtain ⟨j, hj, e, h2⟩ := (hmem q).mp hq
      rw [← e] at h2 ⊢
      exact z4 j hj.1 hj.2 h2⟩)
    rw [if_neg hne]
    refine ⟨this, ?_, fun z => absurd z hne, fun z => by omega⟩
    unfold fcM
    rw [← this, if_neg (by omega)]
    exact z3
end FKb

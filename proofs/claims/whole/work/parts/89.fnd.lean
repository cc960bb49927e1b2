section FND
variable {g : AG} {ad : Nat → Nat} {d : Nat} {σ : SG} {m t : Int → Int} {k : Nat}
def Dk2 (σ s : SG) : Prop := Fr (fun c => c = 75) σ s ∧ ∀ j, ¬ j = 15 → sc s 75 j = sc σ 75 j
/-- the best whole half so far -/
def BeP (σ : SG) (m : Int → Int) (S : SK) (f0 x b c : Int) : Prop := (b = -1 ∧ c = -1 ∧ ∀ j, f0 ≤ j → j < x → S.ls (kK σ j) = 0) ∨ ((f0 ≤ b ∧ b < x) ∧ ¬ S.ls (kK σ b) = 0 ∧ c = scF m S (kK σ b) ∧ ∀ j, f0 ≤ j → j < x → ¬ S.ls (kK σ j) = 0 → rkF m S (kK σ b) ≤ rkF m S (kK σ j))
theorem f_find {S : SK} (hk : isK k) (hB : SB σ m k) (hW : WF m) (hI : IS m S) (hC : SCl σ m S) (hmb : S.mn ≤ 1000000) (hS : SR σ) (hd : 2 ≤ d) : Eb g ad d mX7_find 0 0 [.ref (ad 75)] σ (Kv fun s => ∃ b, BeP σ m S (ia σ 62 (m 3)) (kN σ) b (sc s 75 15) ∧ PaC s m (if b = -1 then [] else pthM S (kK σ b)) ∧ Fr (fun c => c = 84 ∨ c = 75) σ s ∧ ∀ j, ¬ j = 15 → ¬ j = 17 → sc s 75 j = sc σ 75 j) := by
  have hnb := hB.kn.nb
  have h3 := hW.1.2.2.2.1
  have hm0 := hW.1.1
  have hf0 := (hB.kn.fi (m 3) h3.1 (by omega)).1
  refine EbS rfl pl_X7 rfl rfl (bX7_find_0 hS ?_)
  simp (config := {decide := true}) only [sc_S, ia_S, la_S, rv_S, sc_I, rv_I, la_I, ia_I, sc_L, rv_L, ia_L, la_L, sc_A, rv_A, la_A, ia_A, sc_B, rv_B, ia_B, la_B, sc_R, ia_R, la_R, rv_R, ia_w, la_w, rv_w, sc_w, if_true, if_false]
  rw [hB.op.pl]
  refine ⟨⟨by omega, by omega⟩, fun _ _ hS0 => ?_⟩
  have hD0 : Dk2 σ (setS σ 75 15 (-1)) := ⟨(Fr.refl σ).S rfl, fun j hj => by rw [sc_S, if_neg (fun z => hj z.2)]⟩
  refine up_loop (P := fun x => ∀ (τ : SG) (b : Int), SR τ → Dk2 σ τ → BeP σ m S (ia σ 62 (m 3)) x b (sc τ 75 15) → aX7_find_23 g ad d (Kv fun s => ∃ b, BeP σ m S (ia σ 62 (m 3)) (kN σ) b (sc s 75 15) ∧ PaC s m (if b = -1 then [] else pthM S (kK σ b)) ∧ Fr (fun c => c = 84 ∨ c = 75) σ s ∧ ∀ j, ¬ j = 15 → ¬ j = 17 → sc s 75 j = sc σ 75 j) 0 0 τ b x) (hi := kN σ) (ia σ 62 (m 3)) hf0.2 ?_ ?_ _ (-1) hS0 hD0 (Or.inl ⟨rfl, by simp (config := {decide := true}) only [sc_S, ia_S, la_S, rv_S, sc_I, rv_I, la_I, ia_I, sc_L, rv_L, ia_L, la_L, sc_A, rv_A, la_A, ia_A, sc_B, rv_B, ia_B, la_B, sc_R, ia_R, la_R, rv_R, ia_w, la_w, rv_w, sc_w, if_true, if_false], fun j a b => by omega⟩)
  · intro τ b hSt hD hP
    have hF : Fr Fcl σ τ := hD.1.mono (fun c hc => by rw [hc]; exact ⟨by omega, by omega⟩)
    have hBt := hB.fr hk hF
    have e60 : ia τ 60 = ia σ 60 := hD.1.ia 60 (by omega)
    have e5 : kN τ = kN σ := hD.1.sc 58 5 (by omega)
    have ekK : ∀ i', kK τ i' = kK σ i' := fun i' => by show keyC (ia τ 60 i') = keyC (ia σ 60 i'); rw [e60]
    have hCt : SCl τ m S := hC.fr (hD.1.ia 76 (by omega)) (hD.1.ia 77 (by omega)) (hD.1.ia 78 (by omega)) (hD.1.ia 79 (by omega)) (hD.1.ia 80 (by omega)) (hD.1.ia 81 (by omega)) e60 (hD.1.sc 58 5 (by omega)) (hD.2 13 (by decide))
    have hbb : b = -1 ∨ (0 ≤ b ∧ b < kN τ) ∧ ¬ S.ls (kK τ b) = 0 := by
      rcases hP with ⟨z, -⟩ | ⟨z1, z2, -⟩
      · exact Or.inl z
      · exact Or.inr ⟨by rw [e5]; omega, by rw [ekK]; exact z2⟩
    have ib : iR b := by rcases hbb with z | z <;> exact iR_of (by omega) (by omega)
    refine bX7_find_23 ib (iR_of (by omega) (by omega)) hSt ⟨fun _ => ?_, fun z => absurd (by show kN τ ≤ kN σ; omega) z⟩
    refine Cl.vo (f_trace (d := d - 1) hBt hW hI hCt hbb hSt) (by omega) (fun s1 hS1 h1 => re_v ⟨b, ?_, ?_, ?_, fun j h15 h17 => ?_⟩)
    · rw [h1.2.2 15 (by decide)]; exact hP
    · rw [ekK] at h1; exact h1.1
    · exact (hD.1.mono (fun c hc => Or.inr hc)).trans h1.2.1
    · rw [h1.2.2 j h17]; exact hD.2 j h15
  · sorry
end FND

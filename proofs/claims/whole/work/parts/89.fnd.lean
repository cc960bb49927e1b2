section FND
variable {g : AG} {ad : Nat → Nat} {d : Nat} {σ : SG} {m t : Int → Int} {k : Nat}
def Dk2 (σ s : SG) : Prop := Fr (fun c => c = 75) σ s ∧ ∀ j, ¬ j = 15 → sc s 75 j = sc σ 75 j
/-- the best whole half so far -/
def BeP (σ : SG) (m : Int → Int) (S : SK) (f0 x b c : Int) : Prop := (b = -1 ∧ c = -1 ∧ ∀ j, f0 ≤ j → j < x → S.ls (kK σ j) = 0) ∨ ((f0 ≤ b ∧ b < x) ∧ ¬ S.ls (kK σ b) = 0 ∧ c = scF m S (kK σ b) ∧ ∀ j, f0 ≤ j → j < x → ¬ S.ls (kK σ j) = 0 → rkF m S (kK σ b) ≤ rkF m S (kK σ j))
theorem f_find {S : SK} (hk : isK k) (hB : SB σ m k) (hW : WF m) (hI : IS m S) (hC : SCl σ m S) (hmb : S.mn ≤ 1000000) (hS : SR σ) (hd : 2 ≤ d) : Eb g ad d mX7_find 0 0 [.ref (ad 75)] σ (Kv fun s => ∃ b, BeP σ m S (ia σ 62 (m 3)) (kN σ) b (sc s 75 15) ∧ PaC s m (if b = -1 then [] else pthM S (kK σ b)) ∧ Fr (fun c => c = 84 ∨ c = 75) σ s ∧ ∀ j, ¬ j = 15 → ¬ j = 17 → sc s 75 j = sc σ 75 j) := by
  have hnb := hB.kn.nb
  have h3 := hW.1.2.2.2.1
  have hm0 := hW.1.1
  have hf0 := (hB.kn.fi (m 3) h3.1 (by omega)).1
  refine EbS rfl pl_X7 rfl rfl (bX7_find_0 hS ?_)
  simp (config := {decide := true}) only [sc_S, ia_S, la_S, rv_S, sc_I, rv_I, la_I, ia_I, sc_L, rv_L, ia_L, la_L, sc_A, rv_A, la_A, ia_A, sc_B, rv_B, ia_B, la_B, sc_R, ia_R, la_R, rv_R, ia_w, la_w, rv_w, sc_w, if_true, if_false]
  rw [hB.op.pl]
  refine ⟨⟨by omega, by omega⟩, fun _ _ hS0 => ?_⟩
  have hD0 : Dk2 σ (setS σ 75 15 (-1)) := ⟨(Fr.refl σ).S rfl, fun j hj => by rw [sc_S, if_neg (fun z => hj z.2)]⟩
  refine up_loop (P := fun x => ∀ (τ : SG) (b : Int), SR τ → Dk2 σ τ → BeP σ m S (ia σ 62 (m 3)) x b (sc τ 75 15) → aX7_find_23 g ad d (Kv fun s => ∃ b, BeP σ m S (ia σ 62 (m 3)) (kN σ) b (sc s 75 15) ∧ PaC s m (if b = -1 then [] else pthM S (kK σ b)) ∧ Fr (fun c => c = 84 ∨ c = 75) σ s ∧ ∀ j, ¬ j = 15 → ¬ j = 17 → sc s 75 j = sc σ 75 j) 0 0 τ b x) (hi := kN σ) (ia σ 62 (m 3)) hf0.2 ?_ ?_ _ (-1) hS0 hD0 (Or.inl ⟨rfl, by simp (config := {decide := true}) only [sc_S, ia_S, la_S, rv_S, sc_I, rv_I, la_I, ia_I, sc_L, rv_L, ia_L, la_L, sc_A, rv_A, la_A, ia_A, sc_B, rv_B, ia_B, la_B, sc_R, ia_R, la_R, rv_R, ia_w, la_w, rv_w, sc_w, if_true, if_false], fun j a b => by omega⟩)
  · intro τ b hSt hD hP
    have hF : Fr Fcl σ τ := hD.1.mono (fun c hc => by rw [hc]; exact ⟨by omega, by omega⟩)
    have hBt := hB.fr hk hF
    have e60 : ia τ 60 = ia σ 60 := hD.1.ia 60 (by omega)
    have e5 : kN τ = kN σ := hD.1.sc 58 5 (by omega)
    have ekK : ∀ i', kK τ i' = kK σ i' := fun i' => by show keyC (ia τ 60 i') = keyC (ia σ 60 i'); rw [e60]
    have hCt : SCl τ m S := hC.fr (hD.1.ia 76 (by omega)) (hD.1.ia 77 (by omega)) (hD.1.ia 78 (by omega)) (hD.1.ia 79 (by omega)) (hD.1.ia 80 (by omega)) (hD.1.ia 81 (by omega)) e60 (hD.1.sc 58 5 (by omega)) (hD.2 13 (by decide))
    have hbb : b = -1 ∨ (0 ≤ b ∧ b < kN τ) ∧ ¬ S.ls (kK τ b) = 0 := by
      rcases hP with ⟨z, -⟩ | ⟨z1, z2, -⟩
      · exact Or.inl z
      · exact Or.inr ⟨by rw [e5]; omega, by rw [ekK]; exact z2⟩
    have ib : iR b := by rcases hbb with z | z <;> exact iR_of (by omega) (by omega)
    refine bX7_find_23 ib (iR_of (by omega) (by omega)) hSt ⟨fun _ => ?_, fun z => absurd (by show kN τ ≤ kN σ; omega) z⟩
    refine Cl.vo (f_trace (d := d - 1) hBt hW hI hCt hbb hSt) (by omega) (fun s1 hS1 h1 => re_v ⟨b, ?_, ?_, ?_, fun j h15 h17 => ?_⟩)
    · rw [h1.2.2 15 (by decide)]; exact hP
    · rw [ekK] at h1; exact h1.1
    · exact (hD.1.mono (fun c hc => Or.inr hc)).trans h1.2.1
    · rw [h1.2.2 j h17]; exact hD.2 j h15
  · intro x hx0 hx1 ih τ b hSt hD hP
    have hF : Fr Fcl σ τ := hD.1.mono (fun c hc => by rw [hc]; exact ⟨by omega, by omega⟩)
    have hBt := hB.fr hk hF
    have e60 : ia τ 60 = ia σ 60 := hD.1.ia 60 (by omega)
    have e5 : sc τ 58 5 = kN σ := hD.1.sc 58 5 (by omega)
    have e77 : ia τ 77 = ia σ 77 := hD.1.ia 77 (by omega)
    have e76 : ia τ 76 = ia σ 76 := hD.1.ia 76 (by omega)
    have hv := (hB.kn.vd x (by omega) hx1).1
    have hvb := vC_b hW.1 hv
    have htm := hC.tm x (by omega) hx1
    have ix : iR x := iR_of (by omega) (by omega)
    have ix1 : iR (x + 1) := iR_of (by omega) (by omega)
    have ib : iR b := by rcases hP with z | z <;> exact iR_of (by omega) (by omega)
    have hmdb : ∀ q, ¬ S.ls q = 0 → 0 ≤ S.md q ∧ S.md q ≤ 1000000 := fun q hq => by have := hI.mad q hq; omega
    refine bX7_find_23 ib ix hSt ⟨fun z => absurd z (by omega), fun _ => ⟨⟨by omega, by omega⟩, fun c => ?_, fun c => ⟨ix1, fun _ _ _ => ih τ b hSt hD ?_⟩⟩⟩
    rotate_left
    · rw [e77] at c
      have hl0 := htm.mpr c
      rcases hP with ⟨z1, z2, z3⟩ | ⟨z1, z2, z3, z4⟩
      · refine Or.inl ⟨z1, z2, fun j a b' => ?_⟩
        by_cases e : j = x
        · rw [e]; exact hl0
        · exact z3 j a (by omega)
      · refine Or.inr ⟨by omega, z2, z3, fun j a b' hj => ?_⟩
        have : ¬ j = x := fun e => by rw [e] at hj; exact hj hl0
        exact z4 j a (by omega) hj
    rw [e77] at c
    have hls : ¬ S.ls (kK σ x) = 0 := fun z => c (htm.mp z)
    have hcs := hC.cs_ x (by omega) hx1 hls
    have hrb := rkn_b hB hW hI hC hmb ⟨by omega, hx1⟩ hls
    have hlast : kK σ x % 42 - 1 = wx (ia σ 60 x % 41) := congrArg (fun y : Nd => y.2.2) (keyC_s hW.1 hv).2.2
    have hsc : scF m S (kK σ x) = ia σ 76 x + aft m (wx (ia σ 60 x % 41)) (-1) := by
      unfold scF
      rw [hlast, hcs.1]
    have ha := aft_b hW.1 hW.2.2.1 (wx (ia σ 60 x % 41)) (-1)
    have hmx := hmdb _ hls
    refine EI.k (n_last (d := d - 1) ⟨by omega, by omega⟩ (by rw [e60]; exact hv.1) hSt) (by omega) (fun _ _ => ?_)
    refine EI.k (o_ending (d := d - 1) hk hBt.rk hW hBt.op.kn (by rw [e60]; omega) hSt (by omega)) (by omega) (fun _ _ => ?_)
    rw [e76, e77, e60, ← hsc]
    have isc : iR (scF m S (kK σ x)) := by rw [hsc]; exact iR_of (by omega) (by omega)
    have hrx : rkF m S (kK σ x) = scF m S (kK σ x) * 4294967296 + S.md (kK σ x) := rfl
    -- x is the best now
    have new : (∀ j, ia σ 62 (m 3) ≤ j → j < x → ¬ S.ls (kK σ j) = 0 → rkF m S (kK σ x) ≤ rkF m S (kK σ j)) → SR (setS τ 75 15 (scF m S (kK σ x))) → aX7_find_23 g ad d (Kv fun s => ∃ b, BeP σ m S (ia σ 62 (m 3)) (kN σ) b (sc s 75 15) ∧ PaC s m (if b = -1 then [] else pthM S (kK σ b)) ∧ Fr (fun c => c = 84 ∨ c = 75) σ s ∧ ∀ j, ¬ j = 15 → ¬ j = 17 → sc s 75 j = sc σ 75 j) 0 0 (setS τ 75 15 (scF m S (kK σ x))) x (x + 1) := fun hall hS5 => ih _ x hS5 ⟨hD.1.S rfl, fun j hj => by rw [sc_S, if_neg (fun z => hj z.2)]; exact hD.2 j hj⟩ (Or.inr ⟨by omega, hls, by simp (config := {decide := true}) only [sc_S, ia_S, la_S, rv_S, sc_I, rv_I, la_I, ia_I, sc_L, rv_L, ia_L, la_L, sc_A, rv_A, la_A, ia_A, sc_B, rv_B, ia_B, la_B, sc_R, ia_R, la_R, rv_R, ia_w, la_w, rv_w, sc_w, if_true, if_false], fun j a b' hj => by
      by_cases e : j = x
      · rw [e]; exact Int.le_refl _
      · exact hall j a (by omega) hj⟩)
    rcases hP with ⟨z1, z2, z3⟩ | ⟨z1, z2, z3, z4⟩
    · exact ⟨fun _ => ⟨isc, ix1, fun _ _ hS5 => new (fun j a b' hj => absurd (z3 j a b') hj) hS5⟩, fun z => absurd z1 z⟩
    · have hrbb : rkF m S (kK σ b) = scF m S (kK σ b) * 4294967296 + S.md (kK σ b) := rfl
      have hmb' := hmdb _ z2
      have hcb := (hC.cs_ b (by omega) (by omega) z2).2
      have keep : rkF m S (kK σ b) ≤ rkF m S (kK σ x) → aX7_find_23 g ad d (Kv fun s => ∃ b, BeP σ m S (ia σ 62 (m 3)) (kN σ) b (sc s 75 15) ∧ PaC s m (if b = -1 then [] else pthM S (kK σ b)) ∧ Fr (fun c => c = 84 ∨ c = 75) σ s ∧ ∀ j, ¬ j = 15 → ¬ j = 17 → sc s 75 j = sc σ 75 j) 0 0 τ b (x + 1) := fun hle => ih τ b hSt hD (Or.inr ⟨by omega, z2, z3, fun j a b' hj => by
        by_cases e : j = x
        · rw [e]; exact hle
        · exact z4 j a (by omega) hj⟩)
      have newle : rkF m S (kK σ x) ≤ rkF m S (kK σ b) → ∀ j, ia σ 62 (m 3) ≤ j → j < x → ¬ S.ls (kK σ j) = 0 → rkF m S (kK σ x) ≤ rkF m S (kK σ j) := fun h j a b' hj => Int.le_trans h (z4 j a b' hj)
      rw [z3, hcb, hcs.2]
      refine ⟨fun z => by omega, fun _ => ⟨isc, fun c2 => ⟨ix1, fun _ _ hS5 => new (newle (by omega)) hS5⟩, fun c2 => ⟨fun c3 => ⟨ix1, fun _ _ _ => keep (by omega)⟩, fun c3 => ⟨⟨by omega, by omega⟩, fun c4 => ⟨ix1, fun _ _ _ => keep (by omega)⟩, fun c4 => ⟨ix1, fun _ _ hS5 => new (newle (by omega)) hS5⟩⟩⟩⟩⟩
end FND

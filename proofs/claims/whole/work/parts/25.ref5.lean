section L3G
variable {g : AG} {ad : Nat → Nat} {d : Nat} {σ : SG}
/-- what is laid is right -/
def LI (σ : SG) : Prop := ¬ sc σ 102 20 = 0 → LV (ia σ 103) (ia σ 112)
theorem sc_setS {σ : SG} {i k : Nat} {v : Int} : sc (setS σ i k v) i k = v := u2_at
theorem sc_setS_ne {σ : SG} {i k a b : Nat} {v : Int} (h : ¬ (a = i ∧ b = k)) : sc (setS σ i k v) a b = sc σ a b := if_neg h
theorem e_lays (hW : W0 (ia σ 103)) (hS : SR σ) (hI : LI σ) : Eb g ad d mX11_lays 0 0 [.ref (ad 102)] σ (Kv fun s => LV (ia σ 103) (ia s 112) ∧ ¬ sc s 102 20 = 0 ∧ Fm [112] [20] σ s) := by
  have h0 := hW.1
  refine EbS rfl pl_X11 rfl rfl (bX11_lays_0 hS ⟨fun c => ?_, fun c => re_v ⟨hI c, c, Fm.refl σ⟩⟩)
  intro _ _
  have key : ∀ (n : Nat) (k : Int) (τ : SG), 0 ≤ k → k + n = 18816 → SR τ → Fm [112] [20] σ τ → (∀ j, 0 ≤ j → j < k → ia τ 112 j = -1) → Wb g ad d mX11_lays (Kv fun s => LV (ia σ 103) (ia s 112) ∧ ¬ sc s 102 20 = 0 ∧ Fm [112] [20] σ s) 10 [some (.ref (ad 102)), some (vi k)] [] τ 0 0 := by
    intro n
    induction n with
    | zero =>
      intro k τ hk0 hk hSt hF hall
      refine bX11_lays_10 (iR_of (by omega) (by omega)) hSt ⟨fun _ => re_v ⟨?_, ?_, Fm.setS hF (by decide)⟩, fun c2 => absurd (by omega) c2⟩
      · intro a b e a0 a1 b0 b1 e0 e1
        exact Or.inl (hall _ (by omega) (by omega))
      · rw [sc_setS]
        decide
    | succ n ih =>
      intro k τ hk0 hk hSt hF hall
      refine bX11_lays_10 (iR_of (by omega) (by omega)) hSt ⟨fun c2 => absurd c2 (by omega), fun _ => ⟨⟨hk0, by omega⟩, iR_of (by omega) (by omega), fun _ hS' => ?_⟩⟩
      refine ih (k + 1) _ (by omega) (by omega) hS' (Fm.setI hF (by decide)) (fun j hj0 hj1 => ?_)
      rw [ia_setI]
      by_cases e : j = k
      · subst e
        rw [up_at]
      · rw [up_ne e]
        exact hall j hj0 (by omega)
  exact key 18816 0 σ (by omega) (by omega) hS (Fm.refl σ) (fun j h0 h1 => by omega)
theorem e_exact0 (hW : WF (ia σ 103)) (hS : SR σ) (hI : LI σ) (hd : 11 ≤ d) : Eb g ad d mX11_exact0 0 0 [.ref (ad 102)] σ (Ki fun r s => r = restM (ia σ 103) 0 0 (-1) ∧ LV (ia σ 103) (ia s 112) ∧ ¬ sc s 102 20 = 0 ∧ Fm [112] [20, 22, 23] σ s) := by
  have h0 := hW.1.1
  refine EbS rfl pl_X11 rfl rfl (bX11_exact0_0 hS ?_)
  refine Cl.vo (e_lays (d := 0) hW.1 hS hI) (by omega) (fun s1 hS1 h1 => ?_)
  obtain ⟨hL1, hn1, hF1⟩ := h1
  have em : ia s1 103 = ia σ 103 := hF1.2.2.1 103 (by decide)
  refine Cl.i (e_rest (σ := s1) (d := 10) 7 (by omega) (by omega) (by decide) (by decide) (by rw [em]; omega) (em ▸ hW) hS1 (em ▸ hL1)) (by omega) (fun r s2 hr hS2 h2 => ?_)
  rw [em] at h2
  obtain ⟨h3, hL2, hF2⟩ := h2
  refine re_i ⟨h3, hL2, ?_, (hF1.mono (by decide) (by decide)).trans (hF2.mono (by decide) (by decide))⟩
  rw [hF2.2.2.2 102 20 (by decide)]
  exact hn1
end L3G

section LOO
variable {g : AG} {ad : Nat → Nat} {d : Nat} {Q : AO → SG → Prop}
theorem sL_eq (hL : ag_L g ≤ 3072) : sL g = (ag_L g : Int) := by
  unfold sL
  exact Int32.toInt_ofNat_of_lt (by omega)
theorem law_loop (hL : ag_L g ≤ 3072) (hd : 60 ≤ d) (hQ : ∀ s, SR s → Q (.inl (some (vi 1))) s) : ∀ (n : Nat) (x4 : Int) (σ : SG) (rc rs : Nat), 0 ≤ x4 → x4 ≤ 4000 → (ag_L g : Int) ≤ x4 + 6 * n + 5 → 3 * n ≤ rc → 18 * n ≤ rs → SR σ → LE σ → aL_law_23 g ad d Q rc rs σ x4 := by
  have hsl := sL_eq hL
  intro n
  induction n with
  | zero =>
    intro x4 σ rc rs h0 h40 hn _ _ hS hE
    refine bL_law_23 hL (iR_of (by omega) (by omega)) hS ?_
    rw [hsl]
    exact ⟨iR_of (by omega) (by omega), fun _ _ h2 => hQ σ h2, fun z => absurd (by omega) z⟩
  | succ n ih =>
    intro x4 σ rc rs h0 h40 hn hrc hrs hS hE
    have h4 : iR x4 := iR_of (by omega) (by omega)
    obtain ⟨rc1, e1⟩ : ∃ rc1, rc = rc1 + 3 := ⟨rc - 3, by omega⟩
    obtain ⟨rs1, e2⟩ : ∃ rs1, rs = rs1 + 18 := ⟨rs - 18, by omega⟩
    subst e1
    subst e2
    refine bL_law_23 hL h4 hS ?_
    rw [hsl]
    refine ⟨iR_of (by omega) (by omega), fun _ _ h2 => hQ σ h2, fun c0 => ⟨⟨h0, by omega⟩, ?_⟩⟩
    have hb : 0 ≤ x4 ∧ x4 + 6 ≤ (ag_L g : Int) := ⟨h0, by omega⟩
    obtain ⟨m, k, h, tp, tn, f, hJ⟩ := hE
    have cont : ∀ rc' rs', rc1 ≤ rc' → rs1 ≤ rs' → ∀ s, SR s → LE s → aL_law_2061 g ad d Q rc' rs' s x4 := fun rc' rs' q1 q2 s hSs hLE => bL_law_2061 hL h4 hSs ⟨iR_of (by omega) (by omega), fun _ hS' => ih (x4 + 6) s rc' rs' (by omega) (by omega) (by omega) (by omega) (by omega) hS' hLE⟩
    have out_ : ∀ rc' rs', rc1 ≤ rc' → rs1 ≤ rs' → SR σ → aL_law_2061 g ad d Q rc' rs' σ x4 := fun rc' rs' q1 q2 hS' => cont rc' rs' q1 q2 σ hS' ⟨m, k, h, tp, tn, f, hJ⟩

    exact ⟨fun _ _ hS' => out_ (rc1 + 3) (rs1 + 18) (by omega) (by omega) hS',
      fun _ _ hS' => cs_208 (rc := rc1 + 3) (rs := rs1 + 18) hL hJ hS' h4 hb hd (cont _ _ (by omega) (by omega)),
      fun _ _ hS' => cs_281 (rc := rc1 + 3) (rs := rs1 + 18) hL hJ hS' h4 hb hd (cont _ _ (by omega) (by omega)),
      fun _ _ hS' => cs_306 (rc := rc1 + 2) (rs := rs1 + 12) hL hJ hS' h4 hd (cont _ _ (by omega) (by omega)),
      fun _ _ hS' => cs_350 (rc := rc1 + 2) (rs := rs1 + 12) hL hJ hS' h4 hd (cont _ _ (by omega) (by omega)),
      fun _ _ hS' => cs_394 (rc := rc1 + 2) (rs := rs1 + 12) hL hJ hS' h4 hd (cont _ _ (by omega) (by omega)),
      fun _ _ hS' => cs_438 (rc := rc1 + 1) (rs := rs1 + 6) hL hJ hS' h4 hd (cont _ _ (by omega) (by omega)),
      fun _ _ hS' => cs_482 (rc := rc1 + 3) (rs := rs1 + 18) hL hJ hS' h4 hd (cont _ _ (by omega) (by omega)),
      fun _ _ hS' => cs_495 (rc := rc1 + 2) (rs := rs1 + 12) hL hJ hS' h4 hb hd (cont _ _ (by omega) (by omega)),
      fun _ _ hS' => cs_563 (rc := rc1 + 1) (rs := rs1 + 6) hL hJ hS' h4 hb hd (cont _ _ (by omega) (by omega)),
      fun _ _ hS' => cs_631 (rc := rc1 + 2) (rs := rs1 + 12) hL hJ hS' h4 hb hd (cont _ _ (by omega) (by omega)),
      fun _ _ hS' => cs_727 (rc := rc1 + 1) (rs := rs1 + 6) hL hJ hS' h4 hb hd (cont _ _ (by omega) (by omega)),
      fun _ _ hS' => cs_795 (rc := rc1 + 2) (rs := rs1 + 12) hL hJ hS' h4 hb hd (cont _ _ (by omega) (by omega)),
      fun _ _ hS' => cs_851 (rc := rc1 + 1) (rs := rs1 + 6) hL hJ hS' h4 hb hd (cont _ _ (by omega) (by omega)),
      fun _ _ hS' => cs_919 (rc := rc1 + 1) (rs := rs1 + 6) hL hJ hS' h4 hb hd (cont _ _ (by omega) (by omega)),
      fun _ _ hS' => cs_987 (rc := rc1 + 1) (rs := rs1 + 6) hL hJ hS' h4 hb hd (cont _ _ (by omega) (by omega)),
      fun _ _ hS' => cs_1078 (rc := rc1 + 2) (rs := rs1 + 12) hL hJ hS' h4 hb hd (cont _ _ (by omega) (by omega)),
      fun _ _ hS' => cs_1146 (rc := rc1 + 2) (rs := rs1 + 12) hL hJ hS' h4 hb hd (cont _ _ (by omega) (by omega)),
      fun _ _ hS' => cs_1214 (rc := rc1 + 0) (rs := rs1 + 0) hL hJ hS' h4 hb hd (cont _ _ (by omega) (by omega)),
      fun _ _ hS' => cs_1282 (rc := rc1 + 3) (rs := rs1 + 18) hL hJ hS' h4 hb hd (cont _ _ (by omega) (by omega)),
      fun _ _ hS' => cs_1295 (rc := rc1 + 3) (rs := rs1 + 18) hL hJ hS' h4 hb hd (cont _ _ (by omega) (by omega)),
      fun _ _ hS' => cs_1308 (rc := rc1 + 2) (rs := rs1 + 12) hL hJ hS' h4 hb hd (cont _ _ (by omega) (by omega)),
      fun _ _ hS' => cs_1376 (rc := rc1 + 2) (rs := rs1 + 12) hL hJ hS' h4 hb hd (cont _ _ (by omega) (by omega)),
      fun _ _ hS' => cs_1456 (rc := rc1 + 2) (rs := rs1 + 12) hL hJ hS' h4 hb hd (cont _ _ (by omega) (by omega)),
      fun _ _ hS' => cs_1524 (rc := rc1 + 2) (rs := rs1 + 12) hL hJ hS' h4 hb hd (cont _ _ (by omega) (by omega)),
      fun _ _ hS' => cs_1580 (rc := rc1 + 2) (rs := rs1 + 12) hL hJ hS' h4 hb hd (cont _ _ (by omega) (by omega)),
      fun _ _ hS' => cs_1648 (rc := rc1 + 2) (rs := rs1 + 12) hL hJ hS' h4 hb hd (cont _ _ (by omega) (by omega)),
      fun _ _ hS' => cs_1716 (rc := rc1 + 2) (rs := rs1 + 12) hL hJ hS' h4 hd (cont _ _ (by omega) (by omega)),
      fun _ _ hS' => cs_1760 (rc := rc1 + 2) (rs := rs1 + 12) hL hJ hS' h4 hd (cont _ _ (by omega) (by omega)),
      fun _ _ hS' => cs_1804 (rc := rc1 + 2) (rs := rs1 + 12) hL hJ hS' h4 hb hd (cont _ _ (by omega) (by omega)),
      fun _ _ hS' => cs_1860 (rc := rc1 + 2) (rs := rs1 + 12) hL hJ hS' h4 hb hd (cont _ _ (by omega) (by omega)),
      fun _ _ hS' => cs_1916 (rc := rc1 + 3) (rs := rs1 + 18) hL hJ hS' h4 hb hd (cont _ _ (by omega) (by omega)),
      fun _ _ hS' => cs_1929 (rc := rc1 + 3) (rs := rs1 + 18) hL hJ hS' h4 hb hd (cont _ _ (by omega) (by omega)),
      fun _ _ hS' => cs_1942 (rc := rc1 + 3) (rs := rs1 + 18) hL hJ hS' h4 hb hd (cont _ _ (by omega) (by omega)),
      fun _ _ hS' => cs_1955 (rc := rc1 + 3) (rs := rs1 + 18) hL hJ hS' h4 hb hd (cont _ _ (by omega) (by omega)),
      fun _ _ hS' => cs_1968 (rc := rc1 + 2) (rs := rs1 + 12) hL hJ hS' h4 hd (cont _ _ (by omega) (by omega)),
      fun _ _ hS' => cs_2012 (rc := rc1 + 3) (rs := rs1 + 18) hL hJ hS' h4 hd (cont _ _ (by omega) (by omega)),
      fun _ _ hS' => cs_2023 (rc := rc1 + 3) (rs := rs1 + 18) hL hJ hS' h4 hd (cont _ _ (by omega) (by omega)),
      fun _ _ hS' => cs_2036 (rc := rc1 + 3) (rs := rs1 + 18) hL hJ hS' h4 hb hd (cont _ _ (by omega) (by omega))⟩
end LOO

section LIK
variable {g : AG} {ad : Nat → Nat} {d : Nat} {σ : SG} {m t : Int → Int} {k : Nat}
theorem l_apart {x2 x4 : Int} {c1 n1 c3 n3 : Nat} {A B : Nat → Int} (hc1 : aI c1 n1) (hc3 : aI c3 n3) (h89 : c1 ≠ 89 ∧ c3 ≠ 89) (hA : ∀ i : Nat, (i : Int) < x2 → ia σ c1 i = A i) (hB : ∀ i : Nat, (i : Int) < x4 → ia σ c3 i = B i) (h2 : 0 ≤ x2 ∧ x2 ≤ n1 ∧ x2 ≤ 18) (h4 : 0 ≤ x4 ∧ x4 ≤ n3 ∧ x4 ≤ 18) (hS : SR σ) (hd : 1 ≤ d) : Eb g ad d mX4_apart 0 0 [.ref (ad 88), .ref (ad c1), vi x2, .ref (ad c3), vi x4] σ (Ki fun r s => r = edT A B x2.toNat x4.toNat ∧ Fr (fun c => c = 89) σ s ∧ sc s = sc σ) := by
  have i2 : iR x2 := iR_of (by omega) (by omega)
  have i4 : iR x4 := iR_of (by omega) (by omega)
  refine EbS rfl pl_X4 rfl rfl (bX4_apart_0 hc1 hc3 i2 i4 hS ?_)
  intro _ _ _ _
  refine up_loop (P := fun j => ∀ τ : SG, SR τ → Fr (fun c => c = 89) σ τ → sc τ = sc σ → (∀ b : Nat, (b : Int) < j → ia τ 89 b = edT A B 0 b) → aX4_apart_3 g ad d (Ki fun r s => r = edT A B x2.toNat x4.toNat ∧ Fr (fun c => c = 89) σ s ∧ sc s = sc σ) 0 0 τ x2 x4 j c1 c3) (hi := x4 + 1) 0 (by omega) ?_ ?_ σ hS (Fr.refl σ) rfl (fun b hb => by omega)
  rotate_left
  · intro j hj0 hj1 ih τ hSt hF hsc hv
    refine bX4_apart_3 hc1 hc3 i2 i4 (iR_of (by omega) (by omega)) hSt ⟨fun z => absurd z (by omega), fun _ => ⟨⟨hj0, by omega⟩, iR_of (by omega) (by omega), fun _ _ _ hS1 => ih _ hS1 (hF.I rfl) hsc (fun b hb => ?_)⟩⟩
    rw [ia_I, if_pos rfl]
    by_cases c : (b : Int) = j
    · rw [c, up_at, edT]; exact c.symm
    · rw [up_ne c]; exact hv b (by omega)
  intro τ hSt hF hsc hv
  refine bX4_apart_3 hc1 hc3 i2 i4 (iR_of (by omega) (by omega)) hSt ⟨fun _ _ _ _ _ => ?_, fun z => absurd (by omega) z⟩
  -- row by row
  have rows : ∀ (n : Nat) (i : Int) (τ : SG), i + n = x2 + 1 → 1 ≤ i → SR τ → Fr (fun c => c = 89) σ τ → sc τ = sc σ → (∀ b : Nat, (b : Int) ≤ x4 → ia τ 89 b = edT A B (i - 1).toNat b) → aX4_apart_28 g ad d (Ki fun r s => r = edT A B x2.toNat x4.toNat ∧ Fr (fun c => c = 89) σ s ∧ sc s = sc σ) 0 0 τ x2 x4 i c1 c3 := by
    intro n
    induction n with
    | zero =>
      intro i τ hi h1 hSt hF hsc hv
      refine bX4_apart_28 hc1 hc3 i2 i4 (iR_of (by omega) (by omega)) hSt ⟨fun _ => ⟨⟨h4.1, by omega⟩, re_i ⟨?_, hF, hsc⟩⟩, fun z => absurd (by omega) z⟩
      have := hv x4.toNat (by omega)
      rw [show ((x4.toNat : Nat) : Int) = x4 by omega, show i - 1 = x2 by omega] at this
      exact this
    | succ n ihn =>
      intro i τ hi h1 hSt hF hsc hv
      have ii : iR i := iR_of (by omega) (by omega)
      refine bX4_apart_28 hc1 hc3 i2 i4 ii hSt ⟨fun z => absurd z (by omega), fun _ _ _ _ _ _ hS1 => ?_⟩
      have hv0 := hv 0 (by omega)
      rw [show (((0 : Nat) : Int)) = 0 from rfl] at hv0
      rw [hv0]
      obtain ⟨a, ha⟩ : ∃ a : Nat, i = ((a + 1 : Nat) : Int) := ⟨(i - 1).toNat, by omega⟩
      have ea : (i - 1).toNat = a := by omega
      rw [ea] at hv hv0 ⊢
      have hAa : ∀ {s : SG}, Fr (fun c => c = 89) σ s → ia s c1 (i - 1) = A a := fun {s} hFs => by
        rw [hFs.ia c1 h89.1, show i - 1 = (a : Int) by omega]
        exact hA a (by omega)
      refine up_loop (P := fun j => ∀ (τ : SG) (corner : Int), SR τ → Fr (fun c => c = 89) σ τ → sc τ = sc σ → (∀ b : Nat, (b : Int) < j → ia τ 89 b = edT A B (a + 1) b) → (∀ b : Nat, j ≤ (b : Int) → (b : Int) ≤ x4 → ia τ 89 b = edT A B a b) → corner = edT A B a (j - 1).toNat → aX4_apart_53 g ad d (Ki fun r s => r = edT A B x2.toNat x4.toNat ∧ Fr (fun c => c = 89) σ s ∧ sc s = sc σ) 0 0 τ x2 x4 i corner j c1 c3) (hi := x4 + 1) 1 (by omega) ?_ ?_ _ _ hS1 (hF.I rfl) hsc (fun b hb => ?_) (fun b hb hb1 => ?_) rfl
      · intro τ corner hSt hF hsc h1' _ hc
        have hcb := edT_b (A := A) (B := B) a (x4 + 1 - 1).toNat
        refine bX4_apart_53 hc1 hc3 i2 i4 ii (iR_of (by omega) (by omega)) (iR_of (by omega) (by omega)) hSt ⟨fun _ => ⟨iR_of (by omega) (by omega), fun _ _ _ _ => ihn (i + 1) τ (by omega) (by omega) hSt hF hsc (fun b hb => ?_)⟩, fun z => absurd (by omega) z⟩
        rw [show (i + 1 - 1).toNat = a + 1 by omega]
        exact h1' b (by omega)
      · intro j hj0 hj1 ih τ corner hSt hF hsc h1' h2' hc
        have hcb := edT_b (A := A) (B := B) a (j - 1).toNat
        obtain ⟨b0, hb0⟩ : ∃ b0 : Nat, j = ((b0 + 1 : Nat) : Int) := ⟨(j - 1).toNat, by omega⟩
        have eb : (j - 1).toNat = b0 := by omega
        rw [eb] at hc hcb
        have eBb : ia τ c3 (j - 1) = B b0 := by
          rw [hF.ia c3 h89.2, show j - 1 = (b0 : Int) by omega]
          exact hB b0 (by omega)
        have e1 : ia τ 89 (j - 1) = edT A B (a + 1) b0 := by
          have := h1' b0 (by omega)
          rw [show ((b0 : Nat) : Int) = j - 1 by omega] at this
          exact this
        have e2 : ia τ 89 j = edT A B a (b0 + 1) := by
          have := h2' (b0 + 1) (by omega) (by omega)
          rw [← hb0] at this
          exact this
        have c1b := edT_b (A := A) (B := B) (a + 1) b0
        have c2b := edT_b (A := A) (B := B) a (b0 + 1)
        have ej : iR (j + 1) := iR_of (by omega) (by omega)
        have next : ∀ (v : Int), v = edT A B (a + 1) (b0 + 1) → SR (setI τ 89 j v) → aX4_apart_53 g ad d (Ki fun r s => r = edT A B x2.toNat x4.toNat ∧ Fr (fun c => c = 89) σ s ∧ sc s = sc σ) 0 0 (setI τ 89 j v) x2 x4 i (edT A B a (b0 + 1)) (j + 1) c1 c3 := by
          intro v hv' hSs
          refine ih _ _ hSs (hF.I rfl) hsc (fun b hb => ?_) (fun b hb hb1 => ?_) (by rw [show (j + 1 - 1).toNat = b0 + 1 by omega])
          · rw [ia_I, if_pos rfl]
            by_cases c : (b : Int) = j
            · rw [c, up_at, hv', show b = b0 + 1 by omega]
            · rw [up_ne c]; exact h1' b (by omega)
          · rw [ia_I, if_pos rfl, up_ne (by omega)]
            exact h2' b (by omega) hb1
        refine bX4_apart_53 hc1 hc3 i2 i4 ii (iR_of (by omega) (by omega)) (iR_of (by omega) (by omega)) hSt ⟨fun z => absurd z (by omega), fun _ => ⟨⟨by omega, by omega⟩, ⟨by omega, by omega⟩, ?_⟩⟩
        rw [hAa hF, eBb, e1, e2]
        refine ⟨fun c => ⟨⟨by omega, by omega⟩, ⟨by omega, by omega⟩, ?_⟩, fun c => ⟨⟨by omega, by omega⟩, ⟨by omega, by omega⟩, ?_⟩⟩
        · refine EI.k (j_min (d := d - 1) (iR_of (by omega) (by omega)) (iR_of (by omega) (by omega)) hSt) hd (fun _ _ => ?_)
          refine EI.k (j_min (d := d - 1) (iR_of (by omega) (by omega)) (iR_of (by omega) (by omega)) hSt) hd (fun _ _ => ⟨ej, fun _ _ _ _ _ hS7 => next _ ?_ hS7⟩)
          rw [edT, if_neg c, ← hc]
          omega
        · refine EI.k (j_min (d := d - 1) (iR_of (by omega) (by omega)) (iR_of (by omega) (by omega)) hSt) hd (fun _ _ => ?_)
          refine EI.k (j_min (d := d - 1) (iR_of (by omega) (by omega)) (iR_of (by omega) (by omega)) hSt) hd (fun _ _ => ⟨ej, fun _ _ _ _ _ hS7 => next _ ?_ hS7⟩)
          rw [edT, if_pos c, ← hc]
          omega
      · rw [ia_I, if_pos rfl, show b = 0 by omega, show (((0 : Nat) : Int)) = 0 from rfl, up_at, edT, ha]
      · rw [ia_I, if_pos rfl, up_ne (by omega)]
        exact hv b hb1
  exact rows x2.toNat 1 τ (by omega) (Int.le_refl _) hSt hF hsc (fun b hb => by rw [show ((1 : Int) - 1).toNat = 0 from rfl]; exact hv b (by omega))
/-- how often a row stands in another -/
theorem l_howOften {x2 x4 n : Int} {c1 n1 c3 n3 : Nat} {f h : Int → Int} (ef : ia σ c1 = f) (eh : ia σ c3 = h) (hc1 : aI c1 n1) (hc3 : aI c3 n3) (hn1 : n1 ≤ 2000 ∧ n3 ≤ 2000) (h2 : 0 ≤ x2 ∧ x2 + n ≤ n1) (h4 : 0 ≤ x4 ∧ x4 ≤ n3) (hn : 1 ≤ n) (hS : SR σ) (hd : 1 ≤ d) : EI g ad d mX4_howOften [.ref (ad 88), .ref (ad c1), vi x2, .ref (ad c3), vi x4, vi n] σ (((ir 0 (x4 - n + 1)).filter (fun j => alR h j f x2 n)).length : Int) σ := by
  have i2 : iR x2 := iR_of (by omega) (by omega)
  have i4 : iR x4 := iR_of (by omega) (by omega)
  have i5 : iR n := iR_of (by omega) (by omega)
  have hsym : ∀ j, alR f x2 h j n = true ↔ alR h j f x2 n = true := fun j => by
    rw [alR_iff, alR_iff]
    exact ⟨fun z k a b => (z k a b).symm, fun z k a b => (z k a b).symm⟩
  refine EbS rfl pl_X4 rfl rfl (bX4_howOften_0 hc1 hc3 i2 i4 i5 hS ?_)
  intro _ _ _ _ _ _
  have stop : ∀ (c j : Int), x4 - n + 1 ≤ j → (0 ≤ j ∧ j ≤ 2000) → iR c → c = (((ir 0 (x4 - n + 1)).filter (fun j => alR h j f x2 n)).length : Int) → aX4_howOften_6 g ad d (Ki fun r s => r = (((ir 0 (x4 - n + 1)).filter (fun j => alR h j f x2 n)).length : Int) ∧ s = σ) 0 0 σ x2 x4 n c j c1 c3 := by
    intro c j hj hj2 ic hv
    exact bX4_howOften_6 hc1 hc3 i2 i4 i5 ic (iR_of (by omega) (by omega)) hS ⟨iR_of (by omega) (by omega), fun _ => re_i ⟨hv, rfl⟩, fun z => absurd (by omega) z⟩
  by_cases c0 : x4 - n + 1 ≤ 0
  · exact stop 0 0 c0 (by omega) (iR_lit rfl) (by rw [ir_nil c0]; rfl)
  · refine up_loop (P := fun j => ∀ c : Int, (0 ≤ c ∧ c ≤ j) → c + (((ir j (x4 - n + 1)).filter (fun j => alR h j f x2 n)).length : Int) = (((ir 0 (x4 - n + 1)).filter (fun j => alR h j f x2 n)).length : Int) → aX4_howOften_6 g ad d (Ki fun r s => r = (((ir 0 (x4 - n + 1)).filter (fun j => alR h j f x2 n)).length : Int) ∧ s = σ) 0 0 σ x2 x4 n c j c1 c3) (hi := x4 - n + 1) 0 (by omega) ?_ ?_ 0 (by omega) (by omega)
    · intro c hc hv
      rw [ir_nil (Int.le_refl _)] at hv
      refine stop c _ (Int.le_refl _) (by omega) (iR_of (by omega) (by omega)) ?_
      rw [← hv]
      show c = c + ((0 : Nat) : Int)
      omega
    · intro j hj0 hj1 ih c hc hv
      rw [ir_cons hj1] at hv
      refine bX4_howOften_6 hc1 hc3 i2 i4 i5 (iR_of (by omega) (by omega)) (iR_of (by omega) (by omega)) hS ⟨iR_of (by omega) (by omega), fun z => absurd z (by omega), fun _ => ?_⟩
      refine EI.k (k_sameRow (d := d - 1) ef eh hc1 hc3 h2 ⟨hj0, by omega⟩ (by omega) hn1 hS) hd (fun _ _ => ?_)
      refine bi_zn (fun cs => ⟨iR_of (by omega) (by omega), iR_of (by omega) (by omega), fun _ _ _ _ _ _ => ih (c + 1) (by omega) ?_⟩) (fun cs => ⟨iR_of (by omega) (by omega), iR_of (by omega) (by omega), fun _ _ _ _ _ _ => ih (c + 0) (by omega) ?_⟩)
      · rw [List.filter_cons_of_pos (p := fun j => alR h j f x2 n) ((hsym j).mp cs), List.length_cons] at hv
        omega
      · rw [List.filter_cons_of_neg (p := fun j => alR h j f x2 n) (fun z => cs ((hsym j).mpr z))] at hv
        omega
end LIK

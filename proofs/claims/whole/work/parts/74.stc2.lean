section ST2
variable {g : AG} {ad : Nat → Nat} {d : Nat} {σ : SG} {m t : Int → Int} {k : Nat}
theorem t_reckon (hO : OPT σ m k) (hW : WF m) (hS : SR σ) (hd : 2 ≤ d) : Eb g ad d mX8_reckon 0 0 [.ref (ad 72)] σ (Kv fun s => STR s m ∧ Fr Scl σ s) := by
  have h3 := hW.1.2.2.2.1
  have hf := fullM_b hW.1
  have hlen := ops_len hW.1
  refine EbS rfl pl_X8 rfl rfl (bX8_reckon_0 hS ?_)
  refine EV.k (j_fill (d := d - 1) aI_73 (iR_lit rfl) (by decide) hS) (by omega) (fun hS1 => ?_)
  intro _ _
  have hF1 : Fr Scl σ (setA σ 73 (fil (ia σ 73) 36 1000000)) := (Fr.refl σ).A ⟨by omega, by omega⟩
  have e1 : ∀ j, 0 ≤ j → j < 36 → ia (setA σ 73 (fil (ia σ 73) 36 1000000)) 73 j = 1000000 := fun j a b => by
    rw [ia_A, if_pos rfl]
    exact if_pos ⟨a, by omega⟩
  generalize setA σ 73 (fil (ia σ 73) 36 1000000) = s1 at hS1 hF1 e1
  -- the options
  refine up_loop (P := fun i => ∀ τ : SG, SR τ → Fr Scl σ τ → (∀ a b, 0 ≤ a → a ≤ b → b < 6 → ia τ 73 (a * 6 + b) = ocF m ((ops m).take i.toNat) a b) → aX8_reckon_11 g ad d (Kv fun s => STR s m ∧ Fr Scl σ s) 0 0 τ i) (hi := ((ops m).length : Int)) 0 (by omega) ?_ ?_ s1 hS1 hF1 (fun a b h0 h1 h2 => by rw [e1 _ (by omega) (by omega)]; rfl)
  rotate_left
  · intro i hi0 hi1 ih τ hSt hF hv
    have hOt := hO.fr hF (fun c hc => Scl_O c hc)
    obtain ⟨q, hget, -, hE, hq⟩ := hOt.at hi0 hi1
    have hc := cov_b hW.2.1 hq.2.1
    have ho := isOpt_b hq.2.2
    have hown := ownC_b hW (a := q.1) hq.2.1
    have htk : (ops m).take (i + 1).toNat = (ops m).take i.toNat ++ [q] := by
      rw [show (i + 1).toNat = i.toNat + 1 by omega, List.take_succ, hget]
      rfl
    have hfo : ∀ a b, ocF m ((ops m).take (i + 1).toNat) a b = if decide (q.1 = a ∧ q.1 + cov m q.2 - 1 = b) = true then min (ocF m ((ops m).take i.toNat) a b) (ownC m q.1 q.2) else ocF m ((ops m).take i.toNat) a b := fun a b => by
      rw [htk]
      unfold ocF
      rw [List.foldl_append]
      rfl
    refine bX8_reckon_11 (iR_of (by omega) (by omega)) hSt ⟨fun z => absurd z (by rw [hOt.l.1]; omega), fun _ => ⟨⟨hi0, by omega⟩, ?_⟩⟩
    rw [hE.st, hE.en, hE.ow]
    have eat : q.1 * 6 + (q.1 + cov m q.2) - 1 = q.1 * 6 + (q.1 + cov m q.2 - 1) := by omega
    rw [eat]
    refine ⟨⟨by omega, by omega⟩, ?_⟩
    refine EI.k (j_min (d := d - 1) (hSt.1 73 _) (iR_of (by omega) (by omega)) hSt) (by omega) (fun _ _ => ⟨iR_of (by omega) (by omega), fun _ hS3 => ih _ hS3 (hF.I ⟨by omega, by omega⟩) (fun a b h0 h1 h2 => ?_)⟩)
    rw [ia_I, if_pos rfl, hfo a b]
    by_cases cc : q.1 = a ∧ q.1 + cov m q.2 - 1 = b
    · rw [if_pos (decide_eq_true cc), ← cc.1, ← cc.2, up_at, hv q.1 (q.1 + cov m q.2 - 1) hq.1.1 (by omega) (by omega)]
    · rw [if_neg (by rw [decide_eq_true_eq]; exact cc), up_ne (by omega)]
      exact hv a b h0 h1 h2
  intro τ hSt hF hv
  have hOt := hO.fr hF (fun c hc => Scl_O c hc)
  rw [show (((ops m).length : Int)).toNat = (ops m).length by omega, List.take_length] at hv
  refine bX8_reckon_11 (iR_of (by omega) (by omega)) hSt ⟨fun _ _ _ => ?_, fun z => absurd (by rw [hOt.l.1]; omega) z⟩
  -- the aheads
  have last : ∀ s2 : SG, SR s2 → Fr Scl σ s2 → StC s2 m → aX8_reckon_129 g ad d (Kv fun s => STR s m ∧ Fr Scl σ s) 0 0 s2 0 := by
    intro s2 hS2 hF2 hT2
    refine up_loop (P := fun c => ∀ τ : SG, SR τ → Fr Scl σ τ → StC τ m → (∀ c', 0 ≤ c' → c' < c → ia τ 74 c' = ahM m c') → aX8_reckon_129 g ad d (Kv fun s => STR s m ∧ Fr Scl σ s) 0 0 τ c) (hi := fullM m + 1) 0 (by omega) ?_ ?_ s2 hS2 hF2 hT2 (fun c' a b => by omega)
    · intro τ hSt hF hT hA
      refine bX8_reckon_129 (iR_of (by omega) (by omega)) hSt ?_
      exact EI.k (o_full (d := d - 1) (hO.fr hF (fun c hc => Scl_O c hc)) hW hSt) (by omega) (fun _ _ => ⟨fun _ => re_v ⟨⟨hT, fun c' a b => hA c' a (by omega)⟩, hF⟩, fun z => absurd (by omega) z⟩)
    · intro c hc0 hc1 ih τ hSt hF hT hA
      have hOt := hO.fr hF (fun c hc => Scl_O c hc)
      refine bX8_reckon_129 (iR_of (by omega) (by omega)) hSt ?_
      refine EI.k (o_full (d := d - 1) hOt hW hSt) (by omega) (fun _ _ => ⟨fun z => absurd z (by omega), fun _ => ?_⟩)
      refine EI.k (t_ahead (d := d - 1) hOt hW hT (by omega) hSt) (by omega) (fun _ _ => ⟨⟨by omega, by omega⟩, iR_of (by omega) (by omega), fun _ hS3 => ih _ hS3 (hF.I ⟨by omega, by omega⟩) (fun a b h0 h1 h2 => by rw [ia_I, if_neg (by decide)]; exact hT a b h0 h1 h2) (fun c' a b => ?_)⟩)
      rw [ia_I, if_pos rfl]
      by_cases cc : c' = c
      · rw [cc, up_at]
      · rw [up_ne cc]
        exact hA c' a (by omega)
  -- one place
  have one : ∀ a, 0 ≤ a → a < m 3 → ocF m (ops m) a a = strM m a a := fun a h0 h1 => by
    have := str_oc hW h0 (Int.le_refl a) h1
    rw [ir_nil (Int.le_refl _)] at this
    exact this.symm
  -- longer and longer
  have sizes : ∀ (n : Nat) (z : Int) (τ : SG), z + n = m 3 + 1 → 2 ≤ z → SR τ → Fr Scl σ τ → (∀ a b, 0 ≤ a → a ≤ b → b < m 3 → (b - a + 1 < z → ia τ 73 (a * 6 + b) = strM m a b) ∧ (z ≤ b - a + 1 → ia τ 73 (a * 6 + b) = ocF m (ops m) a b)) → aX8_reckon_79 g ad d (Kv fun s => STR s m ∧ Fr Scl σ s) 0 0 τ z := by
    intro n
    induction n with
    | zero =>
      intro z τ hz h2 hSt hF hv
      have hOt := hO.fr hF (fun c hc => Scl_O c hc)
      refine bX8_reckon_79 (iR_of (by omega) (by omega)) hSt ⟨fun _ _ _ => last τ hSt hF (fun a b h0 h1 h4 => (hv a b h0 h1 h4).1 (by omega)), fun z => absurd (by rw [hOt.pl]; omega) z⟩
    | succ n ihn =>
      intro z τ hz h2 hSt hF hv
      have hOt := hO.fr hF (fun c hc => Scl_O c hc)
      have iz : iR z := iR_of (by omega) (by omega)
      refine bX8_reckon_79 iz hSt ⟨fun y => absurd y (by rw [hOt.pl]; omega), fun _ _ _ _ => ?_⟩
      refine up_loop (P := fun a => ∀ τ : SG, SR τ → Fr Scl σ τ → (∀ a' b', 0 ≤ a' → a' ≤ b' → b' < m 3 → ((b' - a' + 1 < z ∨ b' - a' + 1 = z ∧ a' < a) → ia τ 73 (a' * 6 + b') = strM m a' b') ∧ (¬ (b' - a' + 1 < z ∨ b' - a' + 1 = z ∧ a' < a) → ia τ 73 (a' * 6 + b') = ocF m (ops m) a' b')) → aX8_reckon_92 g ad d (Kv fun s => STR s m ∧ Fr Scl σ s) 0 0 τ z a) (hi := m 3 - z + 1) 0 (by omega) ?_ ?_ τ hSt hF (fun a b h0 h1 h4 => ⟨fun y => (hv a b h0 h1 h4).1 (by omega), fun y => (hv a b h0 h1 h4).2 (by omega)⟩)
      · intro τ hSt hF hv
        have hOt := hO.fr hF (fun c hc => Scl_O c hc)
        refine bX8_reckon_92 iz (iR_of (by omega) (by omega)) hSt ⟨iR_of (by omega) (by omega), fun _ => ⟨iR_of (by omega) (by omega), fun _ _ => ihn (z + 1) τ (by omega) (by omega) hSt hF (fun a b h0 h1 h4 => ⟨fun y => (hv a b h0 h1 h4).1 (by omega), fun y => (hv a b h0 h1 h4).2 (by omega)⟩)⟩, fun y => absurd (by rw [hOt.pl]; omega) y⟩
      · intro a ha0 ha1 ih τ hSt hF hv
        have hOt := hO.fr hF (fun c hc => Scl_O c hc)
        refine bX8_reckon_92 iz (iR_of (by omega) (by omega)) hSt ⟨iR_of (by omega) (by omega), fun y => absurd y (by rw [hOt.pl]; omega), fun _ => ?_⟩
        refine Cl.vo (t_join (d := d - 1) (m := m) (a := a) (b := a + z - 1) ⟨ha0, by omega, by omega⟩ hW (fun a' b' h0 h1 h4 h5 => (hv a' b' h0 h1 h4).1 (by omega)) ((hv a (a + z - 1) ha0 (by omega) (by omega)).2 (by omega)) hSt (by omega)) (by omega) (fun s3 hS3 h3' => ⟨iR_of (by omega) (by omega), fun _ _ _ => ?_⟩)
        obtain ⟨hF3, hsc3, hn3, ho3⟩ := h3'
        refine ih s3 hS3 (hF.trans (hF3.mono (fun c hc => by rw [hc]; exact ⟨by omega, by omega⟩))) (fun a' b' h0 h1 h4 => ?_)
        by_cases cc : a' = a ∧ b' = a + z - 1
        · rw [cc.1, cc.2]
          exact ⟨fun _ => hn3, fun y => absurd (by omega) y⟩
        · rw [ho3 _ (by omega)]
          exact ⟨fun y => (hv a' b' h0 h1 h4).1 (by omega), fun y => (hv a' b' h0 h1 h4).2 (by omega)⟩
  by_cases c1 : m 3 + 1 < 2
  · refine bX8_reckon_79 (iR_lit rfl) hSt ⟨fun _ _ _ => last τ hSt hF (fun a b h0 h1 h4 => ?_), fun z => absurd (by rw [hOt.pl]; omega) z⟩
    omega
  · refine sizes (m 3 - 1).toNat 2 τ (by omega) (by omega) hSt hF (fun a b h0 h1 h4 => ⟨fun y => ?_, fun y => hv a b h0 h1 (by omega)⟩)
    have : a = b := by omega
    subst this
    rw [hv a a h0 h1 (by omega)]
    exact one a h0 h4
end ST2

section AGC
variable {g : AG} {ad : Nat → Nat} {d : Nat} {σ : SG} {m m1 mi t : Int → Int} {k : Nat} {hi : Int}
theorem rk_all (hW : WF m) : ∀ (n : Nat), (∃ w ∈ LW m, n ≤ rkW m w) → ∃ R, Rdy m R ∧ R.length = n
  | 0, _ => ⟨[], fun i w h => by simp at h, rfl⟩
  | n + 1, ⟨v, hv, hn⟩ => by
    obtain ⟨R, hR, hl⟩ := rk_all hW n ⟨v, hv, by omega⟩
    obtain ⟨w, hw, hwR, hrk, _⟩ := hR.next hW hv (fun z => by have := (hR.mem z).2; omega)
    refine ⟨R ++ [w], fun i u hu => ?_, by rw [List.length_append, List.length_singleton, hl]⟩
    by_cases c : i < R.length
    · rw [List.getElem?_append_left c] at hu
      exact hR i u hu
    · rw [List.getElem?_append_right (by omega)] at hu
      have h1 := (List.getElem?_eq_some_iff.mp hu).1
      rw [List.length_singleton] at h1
      have e0 : i - R.length = 0 := by omega
      rw [e0] at hu
      have e1 : w = u := by simpa using hu
      rw [← e1]
      exact ⟨hw, by omega⟩
theorem way_down (hW : WF m) {i j : Int} (hi' : 0 ≤ i) (hij : i ≤ j) (h : wayK m i = none) : wayK m j = none := by
  cases hj : wayK m j with
  | none => rfl
  | some v =>
    exfalso
    have h1 := rk_way hW hj
    obtain ⟨R, hR, hl⟩ := rk_all hW i.toNat ⟨v, h1.1, by omega⟩
    obtain ⟨w, hw, _, hrk, _⟩ := hR.next hW h1.1 (fun z => by have := (hR.mem z).2; omega)
    have := way_rk hW hw (k := i) (by omega)
    rw [h] at this
    cases this
theorem mnF_s : ∀ (j : Nat) (i : Int), (∀ k, i ≤ k → k < mnF m j i → ¬ wayK m k = none) ∧ (mnF m j i = i + j ∨ wayK m (mnF m j i) = none)
  | 0, i => by rw [mnF]; exact ⟨fun k h1 h2 => by omega, Or.inl (by omega)⟩
  | j + 1, i => by
    rw [mnF]
    by_cases c : wayK m i = none
    · rw [if_pos c]
      exact ⟨fun k h1 h2 => by omega, Or.inr c⟩
    · rw [if_neg c]
      have ih := mnF_s j (i + 1)
      refine ⟨fun k h1 h2 => ?_, ?_⟩
      · by_cases e : k = i
        · rw [e]; exact c
        · exact ih.1 k (by omega) h2
      · rcases ih.2 with z | z
        · exact Or.inl (by omega)
        · exact Or.inr z
theorem mn_s (hW : WF m) {n : Int} (hn : 1 ≤ n) : (1 ≤ mnM m n ∧ mnM m n ≤ n) ∧ ∀ k, 0 ≤ k → k < n → (wayK m k = none ↔ mnM m n ≤ k) := by
  have h1 := mnF_s (m := m) n.toNat 0
  have h2 := mnF_b (m := m) n.toNat 0
  have e : mnM m n = mnF m n.toNat 0 := rfl
  rw [← e] at h1 h2
  have key : ∀ k, 0 ≤ k → k < n → (wayK m k = none ↔ mnM m n ≤ k) := fun k h0 h3 => by
    constructor
    · intro z
      refine Classical.byContradiction (fun c => ?_)
      exact h1.1 k h0 (by omega) z
    · intro z
      rcases h1.2 with y | y
      · omega
      · exact way_down hW (by omega) z y
  refine ⟨⟨?_, by omega⟩, key⟩
  obtain ⟨w, hw, _⟩ := way0e hW
  refine Classical.byContradiction (fun c => ?_)
  have := (key 0 (by omega) (by omega)).mpr (by omega)
  rw [hw] at this
  cases this
theorem mid_ag {n M : Int} (hM : M = mnM m n) (hM0 : 0 ≤ M) : midW ((ir 0 M).map (tx m)) = agV m n := by
  have hl : ((ir 0 M).map (tx m)).length = M.toNat := by rw [List.length_map, ir_length]; omega
  have hl' : (((ir 0 M).map (tx m)).length : Int) = M := by rw [hl]; omega
  have hg : ∀ i, 0 ≤ i → i < M → ((ir 0 M).map (tx m)).getD i.toNat [] = tx m i := fun i h0 h1 => by
    rw [List.getD_eq_getElem?_getD, List.getElem?_map, ir_get (by omega)]
    show tx m (0 + ((i.toNat : Nat) : Int)) = tx m i
    rw [show (0 : Int) + ((i.toNat : Nat) : Int) = i by omega]
  have hs : ∀ i, 0 ≤ i → i < M → sumW ((ir 0 M).map (tx m)) i = sumE m M i := fun i h0 h1 => by
    unfold sumW sumE
    rw [hl']
    refine foldl_cong _ _ (fun s j hj => ?_)
    have := mem_ir.mp hj
    rw [hg i h0 h1, hg j this.1 this.2]
    rfl
  unfold midW agV
  rw [hl', ← hM]
  congr 1
  refine foldl_cong _ _ (fun b i hi' => ?_)
  have := mem_ir.mp hi'
  rw [hs i this.1 this.2]
theorem LkT.uf {s : SG} {T : List (List Int)} (h : LkT σ T) (hu : Uf σ s) : LkT s T := by
  refine ⟨?_, h.2.1, fun i l hl' => ?_⟩
  · rw [(hu 88 (by omega) (by omega)).2.2]
    exact h.1
  · have h1 := h.2.2 i l hl'
    have hi' := (List.getElem?_eq_some_iff.mp hl').1
    have h10 := h.2.1
    rw [(hu 101 (by omega) (by omega)).1, (hu (91 + i) (by omega) (by omega)).1]
    exact h1
theorem q_agreed {x1 : Int} (h : CI σ m mi hi) (h1 : iR x1) (hS : SR σ) (hd : 9 ≤ d) : Eb g ad d mX10_agreed 1 6 [.ref (ad 0), vi x1] σ (XC σ m mi hi (if agreedT x1 = 0 then agV m x1 else 0) (agreedT x1) (X1 xIA)) := by
  have hW := h.gm.wf
  have hia : ¬ (1 ≤ x1 ∧ x1 ≤ 10) → SR σ → XC σ m mi hi (if agreedT x1 = 0 then agV m x1 else 0) (agreedT x1) (X1 xIA) (.inr xIA) σ := fun z => by
    have eT : agreedT x1 = 1 := by unfold agreedT; rw [if_neg z]
    exact xe (by rw [eT]; decide) ⟨rfl, eT⟩ h Qf.refl
  refine EbS rfl pl_X10 rfl rfl (bX10_agreed_0 h1 hS ⟨fun c => ⟨by omega, hia (by omega)⟩, fun c => ⟨fun c2 => ?_, fun c2 => ⟨by omega, hia (by omega)⟩⟩⟩)
  have eT : agreedT x1 = 0 := by unfold agreedT; rw [if_pos ⟨by omega, c2⟩]
  have hmn := mn_s hW (n := x1) (by omega)
  refine Cl.vo (l_clear (d := d - 1) hS) (by omega) (fun s2 hS2 h2 _ _ hS2' => ?_)
  have k2 := h.keep h2.2 (fun c hc => by unfold Lcl at hc; omega)
  refine up_loop (P := fun x => 0 ≤ x → ∀ τ, SR τ → CI τ m mi hi → Qf σ τ → LkT τ ((ir 0 (min x (mnM m x1))).map (tx m)) → aX10_agreed_31 g ad d (XC σ m mi hi (if agreedT x1 = 0 then agV m x1 else 0) (agreedT x1) (X1 xIA)) 1 6 τ x1 x) (hi := x1) 0 (by omega) ?_ ?_ (Int.le_refl _) s2 hS2' k2.1 k2.2 ?_
  · intro _ τ hSt hc hq hT
    rw [show min x1 (mnM m x1) = mnM m x1 by omega] at hT
    refine bX10_agreed_31 h1 h1 hSt ⟨fun _ => ?_, fun z => absurd (Int.le_refl _) z⟩
    refine Cl.i (l_middle (d := d - 1) hT (by rw [List.length_map, ir_length]; omega) hSt (by omega)) (by omega) (fun r s3 hr3 hS3 h3 => ?_)
    have k3 := hc.keep h3.2.1 (fun c hc' => by omega)
    refine xr eT ?_ k3.1 (hq.trans k3.2)
    rw [if_pos eT, h3.1]
    exact mid_ag rfl (by omega)
  · intro x hx0 hx1 ih hxx τ hSt hc hq hT
    have i2 : iR x := iR_of (by omega) (by omega)
    have i2' : iR (x + 1) := iR_of (by omega) (by omega)
    refine bX10_agreed_31 h1 i2 hSt ⟨fun z => absurd z (by omega), fun _ => ?_⟩
    refine Cl.i (p_unfold (d := d - 1) hc ⟨hx0, by omega⟩ hSt (by omega)) (by omega) (fun r s3 hr3 hS3 h3 => ?_)
    have hT3 := hT.uf h3.2.2.2.1.2
    rcases h3.1 with ⟨w, hw, er, hu, hL, _⟩ | ⟨hw, er, _, _⟩
    · have hlt : x < mnM m x1 := by
        refine Classical.byContradiction (fun c3 => ?_)
        have := (hmn.2 x hx0 hx1).mpr (by omega)
        rw [hw] at this
        cases this
      have etx : tx m x = txt m w.2 := by unfold tx; rw [hw]
      have htl := tx_len hW x
      rw [etx] at htl
      refine ⟨fun z => absurd z (by omega), fun _ => ?_⟩
      rw [hu.ts]
      have hlen : ((ir 0 (min x (mnM m x1))).map (tx m)).length < 10 := by rw [List.length_map, ir_length]; omega
      refine Cl.vo (l_add (d := d - 1) aI_71 (by omega) hT3 hlen hu.tx ⟨by omega, htl⟩ hS3 (by omega)) (by omega) (fun s4 hS4 h4 => ⟨i2', fun _ _ hS' => ?_⟩)
      have k4 := h3.2.1.keep h4.2 (fun c hc' => by unfold Lcl at hc'; omega)
      refine ih (by omega) s4 hS' k4.1 ((hq.trans h3.2.2.2.2).trans k4.2) ?_
      have e1 : min (x + 1) (mnM m x1) = x + 1 := by omega
      have e2 : min x (mnM m x1) = x := by omega
      rw [e1, ir_snoc hx0, List.map_append, List.map_singleton, etx]
      have := h4.1
      rw [e2] at this
      exact this
    · have hge := (hmn.2 x hx0 hx1).mp hw
      refine ⟨fun _ => ⟨i2', fun _ _ hS' => ih (by omega) s3 hS' h3.2.1 (hq.trans h3.2.2.2.2) ?_⟩, fun z => absurd er z⟩
      rw [show min (x + 1) (mnM m x1) = min x (mnM m x1) by omega]
      exact hT3
  · rw [show min 0 (mnM m x1) = 0 by omega, ir_nil (Int.le_refl _)]
    exact h2.1
end AGC

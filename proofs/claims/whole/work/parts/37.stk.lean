section STK
variable {g : AG} {ad : Nat → Nat} {d : Nat} {σ : SG} {m : Int → Int}
/-- the reference's rows hold these halves -/
def RelS (τ : SG) (S : SK) : Prop := (∀ k, 0 ≤ k → k < 18816 → ia τ 118 k = S.ls k) ∧ (∀ k, 0 ≤ k → k < 18816 → ¬ S.ls k = 0 → ia τ 120 k = S.cs k) ∧ (∀ k, 0 ≤ k → k < 18816 → ¬ S.ls k = 0 → ia τ 121 k = S.md k) ∧ (∀ k, 0 ≤ k → k < 18816 → ¬ S.ls k = 0 → ia τ 122 k = S.fr k) ∧ (∀ k, 0 ≤ k → k < 18816 → ¬ S.ls k = 0 → ia τ 123 k = S.bs k) ∧ (∀ k, 0 ≤ k → k < 18816 → ¬ S.ls k = 0 → ia τ 124 k = S.bo k) ∧ (sc τ 102 43 = S.mn) ∧ (sc τ 102 44 = S.mg)
theorem RelS.ls {τ : SG} {S : SK} (h_ : RelS τ S) : ∀ k, 0 ≤ k → k < 18816 → ia τ 118 k = S.ls k := h_.1
theorem RelS.cs {τ : SG} {S : SK} (h_ : RelS τ S) : ∀ k, 0 ≤ k → k < 18816 → ¬ S.ls k = 0 → ia τ 120 k = S.cs k := h_.2.1
theorem RelS.md {τ : SG} {S : SK} (h_ : RelS τ S) : ∀ k, 0 ≤ k → k < 18816 → ¬ S.ls k = 0 → ia τ 121 k = S.md k := h_.2.2.1
theorem RelS.fr {τ : SG} {S : SK} (h_ : RelS τ S) : ∀ k, 0 ≤ k → k < 18816 → ¬ S.ls k = 0 → ia τ 122 k = S.fr k := h_.2.2.2.1
theorem RelS.bs {τ : SG} {S : SK} (h_ : RelS τ S) : ∀ k, 0 ≤ k → k < 18816 → ¬ S.ls k = 0 → ia τ 123 k = S.bs k := h_.2.2.2.2.1
theorem RelS.bo {τ : SG} {S : SK} (h_ : RelS τ S) : ∀ k, 0 ≤ k → k < 18816 → ¬ S.ls k = 0 → ia τ 124 k = S.bo k := h_.2.2.2.2.2.1
theorem RelS.mn {τ : SG} {S : SK} (h_ : RelS τ S) : sc τ 102 43 = S.mn := h_.2.2.2.2.2.2.1
theorem RelS.mg {τ : SG} {S : SK} (h_ : RelS τ S) : sc τ 102 44 = S.mg := h_.2.2.2.2.2.2.2
theorem RelS.cong {τ τ' : SG} {S : SK} (h : RelS τ S) (h1 : ia τ' 118 = ia τ 118) (h2 : ia τ' 120 = ia τ 120) (h3 : ia τ' 121 = ia τ 121) (h4 : ia τ' 122 = ia τ 122) (h5 : ia τ' 123 = ia τ 123) (h6 : ia τ' 124 = ia τ 124) (h7 : sc τ' 102 43 = sc τ 102 43) (h8 : sc τ' 102 44 = sc τ 102 44) : RelS τ' S :=
  ⟨by rw [h1]; exact h.ls, by rw [h2]; exact h.cs, by rw [h3]; exact h.md, by rw [h4]; exact h.fr, by rw [h5]; exact h.bs, by rw [h6]; exact h.bo, h7.trans h.mn, h8.trans h.mg⟩
theorem RelS.fm {A K : List Nat} {τ τ' : SG} {S : SK} (h : RelS τ S) (hF : Fm A K τ τ') (hA : A.all (fun c => decide (¬ (118 ≤ c ∧ c ≤ 124) ∨ c = 119)) = true) (hK : K.all (fun k => decide (k ≠ 43 ∧ k ≠ 44)) = true) : RelS τ' S := by
  have ha : ∀ c, 118 ≤ c ∧ c ≤ 124 → ¬ c = 119 → ia τ' c = ia τ c := fun c h1 h2 => hF.2.2.1 c (fun q => by have := of_decide_eq_true (List.all_eq_true.mp hA c q); omega)
  have hk : ∀ k, k = 43 ∨ k = 44 → sc τ' 102 k = sc τ 102 k := fun k h1 => hF.2.2.2 102 k (fun q => by have := of_decide_eq_true (List.all_eq_true.mp hK k q.2); omega)
  exact h.cong (ha 118 (by omega) (by omega)) (ha 120 (by omega) (by omega)) (ha 121 (by omega) (by omega)) (ha 122 (by omega) (by omega)) (ha 123 (by omega) (by omega)) (ha 124 (by omega) (by omega)) (hk 43 (by omega)) (hk 44 (by omega))
theorem e_lies {S : SK} {x1 x2 x3 x4 x5 : Int} (hR : RelS σ S) (hS : SR σ) (h1 : 0 ≤ x1 ∧ x1 < 18816) (h2 : iR x2) (h3 : iR x3) (h4 : iR x4) (h5 : iR x5) (hmn : -1 ≤ S.mn ∧ S.mn < 1000000000) (hmg : 0 ≤ S.mg ∧ S.mg ≤ S.mn + 1) : Eb g ad d mX11_lies 0 0 [.ref (ad 102), vi x1, vi x2, vi x3, vi x4, vi x5] σ (Kv fun s => RelS s (lieS S x1 x2 x3 x4 x5) ∧ Fm [118, 120, 121, 122, 123, 124] [43, 44] σ s) := by
  have i1 : iR x1 := iR_of (by omega) (by omega)
  have els := hR.ls x1 h1.1 h1.2
  -- the half is laid
  have lay : ∀ τ mg, SR τ → ¬ (¬ S.ls x1 = 0 ∧ S.cs x1 ≤ x2) → mg = S.mg + (if S.ls x1 = 0 then 0 else 1) → (∀ c, ia τ c = ia σ c) → sc τ 102 43 = S.mn + 1 → sc τ 102 44 = mg → Fm [118, 120, 121, 122, 123, 124] [43, 44] σ τ → aX11_lies_49 g ad d (Kv fun s => RelS s (lieS S x1 x2 x3 x4 x5) ∧ Fm [118, 120, 121, 122, 123, 124] [43, 44] σ s) 0 0 τ x1 x2 x3 x4 x5 := by
    intro τ mg hSt hn hmg' hia e43 e44 hF
    refine bX11_lies_49 i1 h2 h3 h4 h5 hSt ⟨h1, re_v ⟨?_, ((((((hF.setI (by decide)).setI (by decide)).setI (by decide)).setI (by decide)).setI (by decide)).setI (by decide))⟩⟩
    unfold lieS
    rw [if_neg hn]
    have key : ∀ (c : Nat) (f : Int → Int) (v : Int) , (∀ k, 0 ≤ k → k < 18816 → ¬ S.ls k = 0 → ia σ c k = f k) → ∀ k, 0 ≤ k → k < 18816 → ¬ up S.ls x1 1 k = 0 → up (ia τ c) x1 v k = up f x1 v k := by
      intro c f v hf k hk0 hk1 hk
      by_cases e : k = x1
      · rw [e, up_at, up_at]
      · rw [up_ne e] at hk
        rw [up_ne e, up_ne e, hia]
        exact hf k hk0 hk1 hk
    refine ⟨fun k hk0 hk1 => ?_, fun k hk0 hk1 hk => ?_, fun k hk0 hk1 hk => ?_, fun k hk0 hk1 hk => ?_, fun k hk0 hk1 hk => ?_, fun k hk0 hk1 hk => ?_, ?_, ?_⟩
    · simp (config := {decide := true}) only [sc_S, ia_S, la_S, rv_S, sc_I, rv_I, la_I, ia_I, sc_L, rv_L, ia_L, la_L, sc_A, rv_A, la_A, ia_A, sc_B, rv_B, ia_B, la_B, sc_R, ia_R, la_R, rv_R, ia_w, la_w, rv_w, sc_w, if_true, if_false]
      show up (ia τ 118) x1 1 k = up S.ls x1 1 k
      by_cases e : k = x1
      · rw [e, up_at, up_at]
      · rw [up_ne e, up_ne e, hia]
        exact hR.ls k hk0 hk1
    · simp (config := {decide := true}) only [sc_S, ia_S, la_S, rv_S, sc_I, rv_I, la_I, ia_I, sc_L, rv_L, ia_L, la_L, sc_A, rv_A, la_A, ia_A, sc_B, rv_B, ia_B, la_B, sc_R, ia_R, la_R, rv_R, ia_w, la_w, rv_w, sc_w, if_true, if_false]
      exact key 120 S.cs x2 hR.cs k hk0 hk1 hk
    · simp (config := {decide := true}) only [sc_S, ia_S, la_S, rv_S, sc_I, rv_I, la_I, ia_I, sc_L, rv_L, ia_L, la_L, sc_A, rv_A, la_A, ia_A, sc_B, rv_B, ia_B, la_B, sc_R, ia_R, la_R, rv_R, ia_w, la_w, rv_w, sc_w, if_true, if_false]
      rw [e43]
      exact key 121 S.md (S.mn + 1) hR.md k hk0 hk1 hk
    · simp (config := {decide := true}) only [sc_S, ia_S, la_S, rv_S, sc_I, rv_I, la_I, ia_I, sc_L, rv_L, ia_L, la_L, sc_A, rv_A, la_A, ia_A, sc_B, rv_B, ia_B, la_B, sc_R, ia_R, la_R, rv_R, ia_w, la_w, rv_w, sc_w, if_true, if_false]
      exact key 122 S.fr x3 hR.fr k hk0 hk1 hk
    · simp (config := {decide := true}) only [sc_S, ia_S, la_S, rv_S, sc_I, rv_I, la_I, ia_I, sc_L, rv_L, ia_L, la_L, sc_A, rv_A, la_A, ia_A, sc_B, rv_B, ia_B, la_B, sc_R, ia_R, la_R, rv_R, ia_w, la_w, rv_w, sc_w, if_true, if_false]
      exact key 123 S.bs x4 hR.bs k hk0 hk1 hk
    · simp (config := {decide := true}) only [sc_S, ia_S, la_S, rv_S, sc_I, rv_I, la_I, ia_I, sc_L, rv_L, ia_L, la_L, sc_A, rv_A, la_A, ia_A, sc_B, rv_B, ia_B, la_B, sc_R, ia_R, la_R, rv_R, ia_w, la_w, rv_w, sc_w, if_true, if_false]
      exact key 124 S.bo x5 hR.bo k hk0 hk1 hk
    · simp (config := {decide := true}) only [sc_S, ia_S, la_S, rv_S, sc_I, rv_I, la_I, ia_I, sc_L, rv_L, ia_L, la_L, sc_A, rv_A, la_A, ia_A, sc_B, rv_B, ia_B, la_B, sc_R, ia_R, la_R, rv_R, ia_w, la_w, rv_w, sc_w, if_true, if_false]
      exact e43
    · simp (config := {decide := true}) only [sc_S, ia_S, la_S, rv_S, sc_I, rv_I, la_I, ia_I, sc_L, rv_L, ia_L, la_L, sc_A, rv_A, la_A, ia_A, sc_B, rv_B, ia_B, la_B, sc_R, ia_R, la_R, rv_R, ia_w, la_w, rv_w, sc_w, if_true, if_false]
      rw [e44, hmg']
  refine EbS rfl pl_X11 rfl rfl (bX11_lies_0 i1 h2 h3 h4 h5 hS ?_)
  simp (config := {decide := true}) only [sc_S, ia_S, la_S, rv_S, sc_I, rv_I, la_I, ia_I, sc_L, rv_L, ia_L, la_L, sc_A, rv_A, la_A, ia_A, sc_B, rv_B, ia_B, la_B, sc_R, ia_R, la_R, rv_R, ia_w, la_w, rv_w, sc_w, if_true, if_false]
  rw [hR.mn, hR.mg, els]
  refine ⟨iR_of (by omega) (by omega), h1, fun c => ?_, fun c => ⟨iR_of (by omega) (by omega), ?_⟩⟩
  · intro _ _ _ _ _ hS'
    refine bX11_lies_29 i1 h2 h3 h4 h5 hS' ⟨h1, ?_⟩
    simp (config := {decide := true}) only [sc_S, ia_S, la_S, rv_S, sc_I, rv_I, la_I, ia_I, sc_L, rv_L, ia_L, la_L, sc_A, rv_A, la_A, ia_A, sc_B, rv_B, ia_B, la_B, sc_R, ia_R, la_R, rv_R, ia_w, la_w, rv_w, sc_w, if_true, if_false]
    rw [els]
    refine ⟨fun _ => ?_, fun q => absurd c q⟩
    intros
    exact lay _ _ hS' (fun q => q.1 c) rfl (fun c => rfl) (by simp (config := {decide := true}) only [sc_S, ia_S, la_S, rv_S, sc_I, rv_I, la_I, ia_I, sc_L, rv_L, ia_L, la_L, sc_A, rv_A, la_A, ia_A, sc_B, rv_B, ia_B, la_B, sc_R, ia_R, la_R, rv_R, ia_w, la_w, rv_w, sc_w, if_true, if_false]) (by simp (config := {decide := true}) only [sc_S, ia_S, la_S, rv_S, sc_I, rv_I, la_I, ia_I, sc_L, rv_L, ia_L, la_L, sc_A, rv_A, la_A, ia_A, sc_B, rv_B, ia_B, la_B, sc_R, ia_R, la_R, rv_R, ia_w, la_w, rv_w, sc_w, if_true, if_false]; rw [hR.mg, if_pos c]; omega) ((Fm.refl σ).setS (by decide))
  · intro _ _ _ _ _ hS'
    refine bX11_lies_29 i1 h2 h3 h4 h5 hS' ⟨h1, ?_⟩
    simp (config := {decide := true}) only [sc_S, ia_S, la_S, rv_S, sc_I, rv_I, la_I, ia_I, sc_L, rv_L, ia_L, la_L, sc_A, rv_A, la_A, ia_A, sc_B, rv_B, ia_B, la_B, sc_R, ia_R, la_R, rv_R, ia_w, la_w, rv_w, sc_w, if_true, if_false]
    rw [els, hR.cs x1 h1.1 h1.2 c]
    refine ⟨fun q => absurd q c, fun _ => ⟨fun c2 => ?_, fun c2 => re_v ⟨?_, ((Fm.refl σ).setS (by decide)).setS (by decide)⟩⟩⟩
    · intros
      exact lay _ _ hS' (fun q => by omega) rfl (fun c => rfl) (by simp (config := {decide := true}) only [sc_S, ia_S, la_S, rv_S, sc_I, rv_I, la_I, ia_I, sc_L, rv_L, ia_L, la_L, sc_A, rv_A, la_A, ia_A, sc_B, rv_B, ia_B, la_B, sc_R, ia_R, la_R, rv_R, ia_w, la_w, rv_w, sc_w, if_true, if_false]) (by simp (config := {decide := true}) only [sc_S, ia_S, la_S, rv_S, sc_I, rv_I, la_I, ia_I, sc_L, rv_L, ia_L, la_L, sc_A, rv_A, la_A, ia_A, sc_B, rv_B, ia_B, la_B, sc_R, ia_R, la_R, rv_R, ia_w, la_w, rv_w, sc_w, if_true, if_false]; rw [if_neg c]) (((Fm.refl σ).setS (by decide)).setS (by decide))
    · unfold lieS
      rw [if_pos ⟨c, by omega⟩]
      exact ⟨hR.ls, hR.cs, hR.md, hR.fr, hR.bs, hR.bo, by simp (config := {decide := true}) only [sc_S, ia_S, la_S, rv_S, sc_I, rv_I, la_I, ia_I, sc_L, rv_L, ia_L, la_L, sc_A, rv_A, la_A, ia_A, sc_B, rv_B, ia_B, la_B, sc_R, ia_R, la_R, rv_R, ia_w, la_w, rv_w, sc_w, if_true, if_false], by simp (config := {decide := true}) only [sc_S, ia_S, la_S, rv_S, sc_I, rv_I, la_I, ia_I, sc_L, rv_L, ia_L, la_L, sc_A, rv_A, la_A, ia_A, sc_B, rv_B, ia_B, la_B, sc_R, ia_R, la_R, rv_R, ia_w, la_w, rv_w, sc_w, if_true, if_false]⟩
theorem e_goesOn {S : SK} {k : Int} (em : ia σ 103 = m) (hW : WF m) (hR : RelS σ S) (hI : IS m S) (hk : ¬ S.ls k = 0) (hS : SR σ) (hmn : S.mn < 999000000) (hm1 : -1 ≤ S.mn) (hd : 5 ≤ d) : Eb g ad d mX11_goesOn 0 0 [.ref (ad 102), vi k] σ (Kv fun s => RelS s (goS m S k) ∧ Fm [118, 120, 121, 122, 123, 124] [22, 23, 43, 44] σ s) := by
  have hW0 := hW.1
  have hkr := hI.rng k hk
  have h3 := hW.1.2.2.2.1
  have h0 := hW.1.1
  have hlen := sr_len hW0
  have hk1 : 0 ≤ k ∧ k < 18816 := ⟨hkr.1, hkr.2.1⟩
  have ik : iR k := iR_of (by omega) (by omega)
  have hnd := hkr.2.2
  have hn1 : 0 ≤ k / 294 ∧ k / 294 ≤ 63 := hnd.1
  have hn2 : 0 ≤ k / 42 % 7 ∧ k / 42 % 7 ≤ 6 := hnd.2.1
  have hn3 : -1 ≤ k % 42 - 1 ∧ k % 42 - 1 < m 0 := hnd.2.2
  have is1 : iR (k / 294) := iR_of (by omega) (by omega)
  refine EbS rfl pl_X11 rfl rfl (bX11_goesOn_0 ik hS ?_)
  refine EI.k (by apply e_setOf <;> (first | with_reducible assumption | with_reducible exact iR_of (by omega) (by omega) | omega | with_reducible (exact bi_01) | assumption)) (by omega) (fun _ _ => ?_)
  intros
  have hlen0 : ((sr m 0).length : Int) ≤ 186 := by omega
  refine so_loop (m := m) hW0
    (A := fun s => ∀ τ T, SR τ → Fm [118, 120, 121, 122, 123, 124] [22, 23, 43, 44] σ τ → RelS τ T → IS m T → ¬ T.ls k = 0 → T.mn + (sr m s).length < 999001000 → -1 ≤ T.mn → (sr m s).foldl (goS1 m k) T = goS m S k → aX11_goesOn_8 g ad d (Kv fun s => RelS s (goS m S k) ∧ Fm [118, 120, 121, 122, 123, 124] [22, 23, 43, 44] σ s) 0 0 τ k (k / 294) s)
    (B := fun s o => ∀ τ T, SR τ → Fm [118, 120, 121, 122, 123, 124] [22, 23, 43, 44] σ τ → RelS τ T → IS m T → ¬ T.ls k = 0 → T.mn + (so m s o).length < 999001000 → -1 ≤ T.mn → (so m s o).foldl (goS1 m k) T = goS m S k → aX11_goesOn_25 g ad d (Kv fun s => RelS s (goS m S k) ∧ Fm [118, 120, 121, 122, 123, 124] [22, 23, 43, 44] σ s) 0 0 τ k (k / 294) s o)
    ?_ ?_ ?_ ?_ σ S hS (Fm.refl σ) hR hI hk (by omega) hm1 rfl
  · intro τ T hSt hF hRt hIt hkt hb hb1 hv
    have et : ia τ 103 = m := (hF.a 103 rfl).trans em
    rw [sr_end (Int.le_refl _)] at hv
    refine bX11_goesOn_8 ik is1 (iR_of (by omega) (by omega)) hSt ⟨fun _ => re_v ⟨?_, hF⟩, fun q => absurd (by rw [et]; omega) q⟩
    have hv' : T = goS m S k := hv
    rw [← hv']
    exact hRt
  · intro s hs0 hs1 hB τ T hSt hF hRt hIt hkt hb hb1 hv
    have et : ia τ 103 = m := (hF.a 103 rfl).trans em
    refine bX11_goesOn_8 ik is1 (iR_of (by omega) (by omega)) hSt ⟨fun q => absurd q (by rw [et]; omega), fun _ => ?_⟩
    refine EI.k (by apply (w_next et) <;> (first | with_reducible assumption | with_reducible exact iR_of (by omega) (by omega) | omega | with_reducible (exact bi_01) | assumption)) (by omega) (fun _ _ => ?_)
    intros
    rw [sr_so hW0 hs1] at hb hv
    exact hB τ T hSt hF hRt hIt hkt hb hb1 hv
  · intro s hs0 hs1 hA τ T hSt hF hRt hIt hkt hb hb1 hv
    refine bX11_goesOn_25 ik is1 (iR_of (by omega) (by omega)) (iR_lit rfl) hSt ⟨fun _ => ⟨iR_of (by omega) (by omega), fun _ _ _ _ => ?_⟩, fun q => absurd (by decide) q⟩
    rw [so_100] at hb hv
    exact hA τ T hSt hF hRt hIt hkt hb hb1 hv
  · intro s o hs0 hs1 ho hnx τ T hSt hF hRt hIt hkt hb hb1 hv
    have et : ia τ 103 = m := (hF.a 103 rfl).trans em
    have hob := isO_b hW0 ho
    have io : iR o := iR_of (by omega) (by omega)
    have is_ : iR s := iR_of (by omega) (by omega)
    have hmem : (s, o) ∈ sr m 0 := mem_sr.mpr ⟨⟨hs0, hs1⟩, ho⟩
    rw [so_cons hW0 ho, List.length_cons] at hb
    rw [so_cons hW0 ho, List.foldl_cons] at hv
    have hgi := goS1_IS (p := (s, o)) hW hIt hkt hmem
    have hgk := goS1_keep (S := T) hW hnd hmem (j := k) (Nat.le_refl _)
    refine bX11_goesOn_25 ik is1 is_ io hSt ⟨fun q => absurd q (by omega), fun _ => ?_⟩
    refine EI.k (by apply e_placeOf <;> (first | with_reducible assumption | with_reducible exact iR_of (by omega) (by omega) | omega | with_reducible (exact bi_01) | assumption)) (by omega) (fun _ _ => ?_)
    refine EI.k (by apply (w_may et) <;> (first | with_reducible assumption | with_reducible exact iR_of (by omega) (by omega) | omega | with_reducible (exact bi_01) | assumption)) (by omega) (fun _ _ => ?_)
    refine bi_nz (fun c4 => ?_) (fun c4 => ?_)
    · have hst := stp_nd (p := (s, o)) hW hnd hmem c4
      have hkb := keyN_b hst.1 hW0
      have hs1' := hst.1.1
      have hs2' := hst.1.2.1
      have hs3' := hst.1.2.2
      have hcst := hIt.cst k hkt
      have hp6 := st_pc6 hn1
      have hw := hst.2.2.2.2
      refine EI.k (by apply e_placeOf <;> (first | with_reducible assumption | with_reducible exact iR_of (by omega) (by omega) | omega | with_reducible (exact bi_01) | assumption)) (by omega) (fun _ _ => ?_)
      refine EI.k (by apply e_lastOf <;> (first | with_reducible assumption | with_reducible exact iR_of (by omega) (by omega) | omega | with_reducible (exact bi_01) | assumption)) (by omega) (fun _ _ => ?_)
      refine EV.k (by apply (w_weighs et) <;> (first | with_reducible assumption | with_reducible exact iR_of (by omega) (by omega) | omega | with_reducible (exact bi_01) | assumption)) (by omega) (fun _ => ?_)
      refine EI.k (by apply (w_maskOf (σ := wst τ _ _) et) <;> (first | with_reducible assumption | with_reducible exact iR_of (by omega) (by omega) | omega | with_reducible (exact bi_01) | assumption)) (by omega) (fun _ _ => ?_)
      refine EI.k (by apply (w_covers (σ := wst τ _ _) et) <;> (first | with_reducible assumption | with_reducible exact iR_of (by omega) (by omega) | omega | with_reducible (exact bi_01) | assumption)) (by omega) (fun _ _ => ?_)
      simp (config := {decide := true}) only [sc_S, ia_S, la_S, rv_S, sc_I, rv_I, la_I, ia_I, sc_L, rv_L, ia_L, la_L, sc_A, rv_A, la_A, ia_A, sc_B, rv_B, ia_B, la_B, sc_R, ia_R, la_R, rv_R, ia_w, la_w, rv_w, sc_w, if_true, if_false]
      refine EI.k (e_key (x0 := (stp m (ndK k) (s, o)).1) (x1 := (stp m (ndK k) (s, o)).2.1) (x2 := (stp m (ndK k) (s, o)).2.2) hs1' hs2' ⟨hs3'.1, by omega⟩ (by assumption)) (by omega) (fun _ _ => ⟨hk1, ?_⟩)
      simp (config := {decide := true}) only [sc_S, ia_S, la_S, rv_S, sc_I, rv_I, la_I, ia_I, sc_L, rv_L, ia_L, la_L, sc_A, rv_A, la_A, ia_A, sc_B, rv_B, ia_B, la_B, sc_R, ia_R, la_R, rv_R, ia_w, la_w, rv_w, sc_w, if_true, if_false]
      rw [hRt.cs k hk1.1 hk1.2 hkt]
      have hRw : RelS (wst τ (weigh m (k / 42 % 7) (k % 42 - 1) s o).1 (weigh m (k / 42 % 7) (k % 42 - 1) s o).2) T := hRt.cong rfl rfl rfl rfl rfl rfl (by simp (config := {decide := true}) only [sc_S, ia_S, la_S, rv_S, sc_I, rv_I, la_I, ia_I, sc_L, rv_L, ia_L, la_L, sc_A, rv_A, la_A, ia_A, sc_B, rv_B, ia_B, la_B, sc_R, ia_R, la_R, rv_R, ia_w, la_w, rv_w, sc_w, if_true, if_false]) (by simp (config := {decide := true}) only [sc_S, ia_S, la_S, rv_S, sc_I, rv_I, la_I, ia_I, sc_L, rv_L, ia_L, la_L, sc_A, rv_A, la_A, ia_A, sc_B, rv_B, ia_B, la_B, sc_R, ia_R, la_R, rv_R, ia_w, la_w, rv_w, sc_w, if_true, if_false])
      have hmgb := hIt.mgb
      have hcost : iR (T.cs k + wgt m (ndK k) (s, o)) := iR_of (by omega) (by omega)
      refine Cl.vo (e_lies (d := d - 1) (S := T) (x1 := keyN (stp m (ndK k) (s, o))) (x2 := T.cs k + wgt m (ndK k) (s, o)) (x3 := k) (x4 := s) (x5 := o) hRw (by assumption) hkb hcost ik is_ io ⟨hb1, by omega⟩ hmgb) (by omega) (fun s5 hS5 h5 => ?_)
      have hF5 : Fm [118, 120, 121, 122, 123, 124] [22, 23, 43, 44] σ s5 := (hF.wst (by decide) (by decide)).trans (h5.2.mono (by decide) (by decide))
      have e5 : ia s5 103 = m := (hF5.a 103 rfl).trans em
      refine EI.k (by apply (w_next e5) <;> (first | with_reducible assumption | with_reducible exact iR_of (by omega) (by omega) | omega | with_reducible (exact bi_01) | assumption)) (by omega) (fun _ _ => ?_)
      intros
      have e1 : goS1 m k T (s, o) = lieS T (keyN (stp m (ndK k) (s, o))) (T.cs k + wgt m (ndK k) (s, o)) k s o := if_pos c4
      refine hnx s5 _ hS5 hF5 (by rw [e1]; exact h5.1) hgi.1 (by rw [hgk.1]; exact hkt) (by omega) (by omega) hv
    · have e1 : goS1 m k T (s, o) = T := if_neg c4
      refine EI.k (by apply (w_next et) <;> (first | with_reducible assumption | with_reducible exact iR_of (by omega) (by omega) | omega | with_reducible (exact bi_01) | assumption)) (by omega) (fun _ _ => ?_)
      intros
      rw [e1] at hv
      exact hnx τ T hSt hF hRt hIt hkt (by omega) hb1 hv
end STK

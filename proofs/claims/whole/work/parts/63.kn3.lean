section KN3
variable {g : AG} {ad : Nat → Nat} {d : Nat} {σ : SG} {m t : Int → Int} {k : Nat} {e f : Int}
theorem k_living (hk : isK k) (hR : RK σ k m) (hW : W0 m) (hS : SR σ) : EI g ad d mX2_livingPhrases [.ref (ad k)] σ (cnt (fun p => decide (of_ m p 9 = 0)) (m 1).toNat 0) σ := by
  have h1 := hW.2.1
  refine EbS rfl pl_X2 rfl rfl (bX2_livingPhrases_0 hk hS ?_)
  intro _ _ _
  refine up_loop (P := fun p => ∀ c : Int, 0 ≤ c → c ≤ p → c + cnt (fun p => decide (of_ m p 9 = 0)) (m 1 - p).toNat p = cnt (fun p => decide (of_ m p 9 = 0)) (m 1).toNat 0 → aX2_livingPhrases_4 g ad d (Ki fun r s => r = cnt (fun p => decide (of_ m p 9 = 0)) (m 1).toNat 0 ∧ s = σ) 0 0 σ c p k) (hi := m 1) 0 h1.1 ?_ ?_ 0 (by omega) (by omega) (by rw [Int.sub_zero, Int.zero_add])
  · intro c h0 hc hv
    refine bX2_livingPhrases_4 hk (iR_of (by omega) (by omega)) (iR_of (by omega) (by omega)) hS ⟨fun _ => re_i ⟨?_, rfl⟩, fun z => absurd (by rw [hR.p]; omega) z⟩
    rw [← hv, Int.sub_self]
    show c = c + 0
    omega
  · intro p hp0 hp1 ih c h0 hc hv
    rw [show (m 1 - p).toNat = (m 1 - (p + 1)).toNat + 1 by omega, cnt] at hv
    refine bX2_livingPhrases_4 hk (iR_of (by omega) (by omega)) (iR_of (by omega) (by omega)) hS ⟨fun z => absurd z (by rw [hR.p]; omega), fun _ => ⟨⟨hp0, by omega⟩, ?_⟩⟩
    rw [hR.go p hp0 hp1]
    refine ⟨fun c2 => ⟨iR_of (by omega) (by omega), fun _ _ _ => ih c h0 (by omega) ?_⟩, fun c2 => ⟨iR_of (by omega) (by omega), iR_of (by omega) (by omega), fun _ _ _ => ih (c + 1) (by omega) (by omega) ?_⟩⟩
    · rw [if_neg (by simp [c2])] at hv
      omega
    · rw [if_pos (by simp [c2])] at hv
      omega
theorem k_isOption {x1 x2 : Int} (hk : isK k) (hR : RK σ k m) (hW : WF m) (h1 : 0 ≤ x1 ∧ x1 < m 1) (h2 : 0 ≤ x2 ∧ x2 < 6) (hS : SR σ) (hd : 1 ≤ d) : EI g ad d mX2_isOption [.ref (ad k), vi x1, vi x2] σ (bi (isOpt m x1 x2 = true)) σ := by
  have hm1 := hW.1.2.1
  have hm3 := hW.1.2.2.2.1
  have hp := hW.2.1 x1 h1.1 h1.2
  have hne : ¬ x1 = 99 := by omega
  have hcov : cov m x1 = of_ m x1 0 := by unfold cov; rw [if_neg hne]
  refine EbS rfl pl_X2 rfl rfl (bX2_isOption_0 hk (iR_of (by omega) (by omega)) (iR_of (by omega) (by omega)) hS ⟨⟨by omega, by omega⟩, ?_⟩)
  rw [hR.go x1 h1.1 h1.2, hR.ss x1 h1.1 h1.2, hR.n]
  refine ⟨fun c => re_i ⟨(bi_f ?_).symm, rfl⟩, fun c => ⟨iR_of (by omega) (by omega), fun c2 => re_i ⟨(bi_f ?_).symm, rfl⟩, fun c2 => ?_⟩⟩
  · unfold isOpt
    rw [if_neg hne, if_pos (by omega)]
    simp
  · unfold isOpt
    rw [if_neg hne, if_neg (by omega), hcov, if_pos (by omega)]
    simp
  · have hopt : isOpt m x1 x2 = allN (optP m x1 x2) (of_ m x1 0).toNat 0 := by
      unfold isOpt
      rw [if_neg hne, if_neg (by omega), hcov, if_neg (by omega)]
    have e1 : alR (ia σ (k + 3)) (x1 * 3) (ia σ (k + 10)) x2 (of_ m x1 0) = true ↔ isOpt m x1 x2 = true := by
      rw [hopt, alR_iff, allN_iff]
      constructor
      · intro hh j hj0 hj1
        have := hh j hj0 (by omega)
        rw [hR.so x1 j h1.1 h1.2 hj0 (by omega), hR.pl (x2 + j) (by omega) (by omega)] at this
        unfold optP
        rw [show 849 + x2 + j = 849 + (x2 + j) by omega]
        exact decide_eq_true this
      · intro hh j hj0 hj1
        have := of_decide_eq_true (hh j hj0 (by omega))
        rw [hR.so x1 j h1.1 h1.2 hj0 (by omega), hR.pl (x2 + j) (by omega) (by omega), this, show 849 + x2 + j = 849 + (x2 + j) by omega]
    refine EI.k (k_sameRow (d := d - 1) rfl rfl (aK hk).2.2.1 (aK hk).2.2.2.2.2.2.2.2.1 ⟨by omega, by omega⟩ ⟨by omega, by omega⟩ (by omega) ⟨by decide, by decide⟩ hS) (by omega) (fun _ _ => bi_zn (fun c3 => re_i ⟨(bi_t (e1.mp c3)).symm, rfl⟩) (fun c3 => re_i ⟨(bi_f (fun z => c3 (e1.mpr z))).symm, rfl⟩))
theorem k_hasTwin {x1 : Int} (hk : isK k) (hR : RK σ k m) (hW : WF m) (h1 : 0 ≤ x1 ∧ x1 < m 1) (hS : SR σ) (hd : 2 ≤ d) : EI g ad d mX2_hasTwin [.ref (ad k), vi x1] σ (bi (¬ alkL m (srcL m x1) (tgtL m x1) = -1)) σ := by
  have hm1 := hW.1.2.1
  have hp := hW.2.1 x1 h1.1 h1.2
  have ls : ((srcL m x1).length : Int) = of_ m x1 0 := by unfold srcL; rw [List.length_map, ir_length]; omega
  have lt : ((tgtL m x1).length : Int) = of_ m x1 4 := by unfold tgtL; rw [List.length_map, ir_length]; omega
  have hsrc : hl (ia σ (k + 3)) (x1 * 3) (srcL m x1) := by
    intro i v hv
    have hi := (List.getElem?_eq_some_iff.mp hv).1
    unfold srcL at hv
    rw [List.getElem?_map, ir_get (by omega)] at hv
    have hv' : of_ m x1 (1 + (0 + i)) = v := Option.some.inj hv
    rw [hR.so x1 i h1.1 h1.2 (by omega) (by omega), ← hv', Int.zero_add]
  have htgt : hl (ia σ (k + 5)) (x1 * 3) (tgtL m x1) := by
    intro i v hv
    have hi := (List.getElem?_eq_some_iff.mp hv).1
    unfold tgtL at hv
    rw [List.getElem?_map, ir_get (by omega)] at hv
    have hv' : of_ m x1 (5 + (0 + i)) = v := Option.some.inj hv
    rw [hR.tt x1 i h1.1 h1.2 (by omega) (by omega), ← hv', Int.zero_add]
  refine EbS rfl pl_X2 rfl rfl (bX2_hasTwin_0 hk (iR_of (by omega) (by omega)) hS ⟨⟨by omega, by omega⟩, ?_⟩)
  rw [hR.ss x1 h1.1 h1.2, hR.ts x1 h1.1 h1.2]
  refine EI.k (k_findPhrase (d := d - 1) hk hR hW (aK hk).2.2.1 (aK hk).2.2.2.2.1 hsrc ls.symm htgt lt.symm (by omega) (by omega) ⟨by omega, by omega⟩ ⟨by omega, by omega⟩ ⟨by decide, by decide⟩ hS (by omega)) (by omega) (fun _ _ => ⟨fun c => re_i ⟨(bi_f (fun z => z c)).symm, rfl⟩, fun c => re_i ⟨(bi_t c).symm, rfl⟩⟩)
/-! a copy -/
/-- these arrays of k0 are those of k1 -/
def CpA (σ s : SG) (k0 k1 : Nat) (L : List (Nat × Int)) : Prop := ∀ x ∈ L, ∀ j, 0 ≤ j → j < x.2 → ia s (k0 + x.1) j = ia σ (k1 + x.1) j
def CpS (σ s : SG) (k0 k1 : Nat) (L : List Nat) : Prop := ∀ i ∈ L, sc s k0 i = sc σ k1 i
theorem cp_A {s : SG} {k0 k1 : Nat} {L : List (Nat × Int)} {K : List Nat} {i : Nat} {n : Int} (hk0 : isK k0) (hk1 : isK k1) (hne : k0 ≠ k1) (hF : Fr (Kcl k0) σ s) (hA : CpA σ s k0 k1 L) (hK : CpS σ s k0 k1 K) (hi : i ≤ 11) (hL : L.all (fun x => decide (x.1 ≠ i)) = true) : Fr (Kcl k0) σ (setA s (k0 + i) (cpy (ia s (k1 + i)) (ia s (k0 + i)) 0 0 n)) ∧ CpA σ (setA s (k0 + i) (cpy (ia s (k1 + i)) (ia s (k0 + i)) 0 0 n)) k0 k1 ((i, n) :: L) ∧ CpS σ (setA s (k0 + i) (cpy (ia s (k1 + i)) (ia s (k0 + i)) 0 0 n)) k0 k1 K := by
  have b0 := isK_b hk0
  have b1 := isK_b hk1
  refine ⟨hF.A ⟨by omega, by omega⟩, fun x hx j h0 h1 => ?_, hK⟩
  rcases List.mem_cons.mp hx with rfl | hx
  · rw [ia_A, if_pos rfl]
    unfold cpy
    have h1' : j < n := h1
    rw [if_pos ⟨h0, by omega⟩, show (0 : Int) + (j - 0) = j by omega, hF.ia (k1 + i) (fun z => by obtain ⟨z1, z2⟩ := z; omega)]
  · have := of_decide_eq_true (List.all_eq_true.mp hL x hx)
    rw [ia_A, if_neg (by omega)]
    exact hA x hx j h0 h1
theorem cp_S {s : SG} {k0 k1 : Nat} {L : List (Nat × Int)} {K : List Nat} {i : Nat} (hk0 : isK k0) (hk1 : isK k1) (hne : k0 ≠ k1) (hF : Fr (Kcl k0) σ s) (hA : CpA σ s k0 k1 L) (hK : CpS σ s k0 k1 K) : Fr (Kcl k0) σ (setS s k0 i (sc s k1 i)) ∧ CpA σ (setS s k0 i (sc s k1 i)) k0 k1 L ∧ CpS σ (setS s k0 i (sc s k1 i)) k0 k1 (i :: K) := by
  have b0 := isK_b hk0
  have b1 := isK_b hk1
  refine ⟨hF.S ⟨by omega, by omega⟩, hA, fun j hj => ?_⟩
  have e1 : sc s k1 i = sc σ k1 i := hF.sc k1 i (fun z => by obtain ⟨z1, z2⟩ := z; omega)
  rw [sc_S]
  by_cases c : j = i
  · rw [if_pos ⟨rfl, c⟩, c, e1]
  · rw [if_neg (fun z => c z.2)]
    rcases List.mem_cons.mp hj with rfl | hj
    · exact absurd rfl c
    · exact hK j hj
theorem copy_end {s : SG} {k0 k1 : Nat} (hR : RK σ k1 m) (hG : GM m) (hA : CpA σ s k0 k1 [(11, 5), (10, 6), (9, 1681), (8, 30), (7, 30), (6, 30), (5, 90), (4, 30), (3, 90), (2, 40), (1, 320)]) (hK : CpS σ s k0 k1 [13, 11, 9, 2]) : RK s k0 m := by
  have h0 := hG.wf.1.1
  have h1 := hG.wf.1.2.1
  have h3 := hG.wf.1.2.2.2.1
  refine ⟨?_, ?_, ?_, ?_, ?_, ?_, ?_, ?_, ?_, ?_, ?_, ?_, ?_, ?_, ?_, ?_⟩
  · rw [hK 2 (by decide)]; exact hR.w
  · rw [hK 9 (by decide)]; exact hR.p
  · rw [hK 11 (by decide)]; exact hR.f
  · rw [hK 13 (by decide)]; exact hR.n
  · exact fun w a b => by rw [hA (2, 40) (by simp) w a (by show w < 40; omega)]; exact hR.ln w a b
  · intro w j a b c e
    have := hG.wl w a b
    rw [hA (1, 320) (by simp) _ (by omega) (by show w * 8 + j < 320; omega)]; exact hR.lt w j a b c e
  · exact fun p a b => by rw [hA (4, 30) (by simp) p a (by show p < 30; omega)]; exact hR.ss p a b
  · intro p j a b c e
    have := hG.wf.2.1 p a b
    rw [hA (3, 90) (by simp) _ (by omega) (by show p * 3 + j < 90; omega)]; exact hR.so p j a b c e
  · exact fun p a b => by rw [hA (6, 30) (by simp) p a (by show p < 30; omega)]; exact hR.ts p a b
  · intro p j a b c e
    have := hG.wf.2.1 p a b
    rw [hA (5, 90) (by simp) _ (by omega) (by show p * 3 + j < 90; omega)]; exact hR.tt p j a b c e
  · exact fun p a b => by rw [hA (7, 30) (by simp) p a (by show p < 30; omega)]; exact hR.co p a b
  · exact fun p a b => by rw [hA (8, 30) (by simp) p a (by show p < 30; omega)]; exact hR.go p a b
  · exact fun j a b => by rw [hA (8, 30) (by simp) j a b]; exact hR.gb j a b
  · exact fun a b a0 a1 b0 b1 => by rw [hA (9, 1681) (by simp) _ (by omega) (by show a * 41 + b < 1681; omega)]; exact hR.fl a b a0 a1 b0 b1
  · exact fun j a b => by rw [hA (10, 6) (by simp) j a (by show j < 6; omega)]; exact hR.pl j a b
  · exact fun i a b => by rw [hA (11, 5) (by simp) i a b]; exact hR.st i a b
theorem k_copy {k0 k1 : Nat} (hk0 : isK k0) (hk1 : isK k1) (hne : k0 ≠ k1) (hR : RK σ k1 m) (hG : GM m) (hS : SR σ) (hd : 2 ≤ d) : Eb g ad d mX2_copy 0 0 [.ref (ad k0), .ref (ad k1)] σ (Kv fun s => RK s k0 m ∧ Fr (Kcl k0) σ s) := by
  have b0 := isK_b hk0
  have b1 := isK_b hk1
  refine EbS rfl pl_X2 rfl rfl (bX2_copy_0 hk0 hk1 hS ⟨hd, fun h1 => ?_⟩)
  have c1 := cp_A (i := 1) (n := 320) (L := []) (K := []) hk0 hk1 hne (Fr.refl σ) (fun x hx => by cases hx) (fun x hx => by cases hx) (by omega) rfl
  refine bX2_copy_18 hk0 hk1 h1 ⟨hd, fun h2 => ?_⟩
  have c2 := cp_A (i := 2) (n := 40) hk0 hk1 hne c1.1 c1.2.1 c1.2.2 (by omega) rfl
  refine bX2_copy_36 hk0 hk1 h2 (fun h3 => ?_)
  have c3 := cp_S (i := 2) hk0 hk1 hne c2.1 c2.2.1 c2.2.2
  refine bX2_copy_44 hk0 hk1 h3 ⟨hd, fun h4 => ?_⟩
  have c4 := cp_A (i := 3) (n := 90) hk0 hk1 hne c3.1 c3.2.1 c3.2.2 (by omega) rfl
  refine bX2_copy_62 hk0 hk1 h4 ⟨hd, fun h5 => ?_⟩
  have c5 := cp_A (i := 4) (n := 30) hk0 hk1 hne c4.1 c4.2.1 c4.2.2 (by omega) rfl
  refine bX2_copy_80 hk0 hk1 h5 ⟨hd, fun h6 => ?_⟩
  have c6 := cp_A (i := 5) (n := 90) hk0 hk1 hne c5.1 c5.2.1 c5.2.2 (by omega) rfl
  refine bX2_copy_98 hk0 hk1 h6 ⟨hd, fun h7 => ?_⟩
  have c7 := cp_A (i := 6) (n := 30) hk0 hk1 hne c6.1 c6.2.1 c6.2.2 (by omega) rfl
  refine bX2_copy_116 hk0 hk1 h7 ⟨hd, fun h8 => ?_⟩
  have c8 := cp_A (i := 7) (n := 30) hk0 hk1 hne c7.1 c7.2.1 c7.2.2 (by omega) rfl
  refine bX2_copy_134 hk0 hk1 h8 (fun _ h9 => ?_)
  refine up_loop (P := fun x => ∀ s, SR s → Fr (Kcl k0) σ s → CpA σ s k0 k1 [(7, 30), (6, 30), (5, 90), (4, 30), (3, 90), (2, 40), (1, 320)] → CpS σ s k0 k1 [2] → (∀ j, 0 ≤ j → j < x → ia s (k0 + 8) j = ia σ (k1 + 8) j) → aX2_copy_136 g ad d (Kv fun s => RK s k0 m ∧ Fr (Kcl k0) σ s) 0 0 s x k0 k1) (hi := 30) 0 (by omega) ?_ ?_ _ h9 c8.1 c8.2.1 c8.2.2 (fun j h0 h1 => by omega)
  · intro s hs hF hA hK h8'
    refine bX2_copy_136 hk0 hk1 (iR_lit rfl) hs ⟨fun _ ix h10 => ?_, fun z => absurd (by decide) z⟩
    have hA8 : CpA σ s k0 k1 [(8, 30), (7, 30), (6, 30), (5, 90), (4, 30), (3, 90), (2, 40), (1, 320)] := by
      intro y hy j a b
      rcases List.mem_cons.mp hy with rfl | hy
      · exact h8' j a b
      · exact hA y hy j a b
    have c9 := cp_S (i := 9) hk0 hk1 hne hF hA8 hK
    refine bX2_copy_168 hk0 hk1 ix h10 ⟨hd, fun _ h11 => ?_⟩
    have c10 := cp_A (i := 9) (n := 1681) hk0 hk1 hne c9.1 c9.2.1 c9.2.2 (by omega) rfl
    refine bX2_copy_186 hk0 hk1 ix h11 (fun _ h12 => ?_)
    have c11 := cp_S (i := 11) hk0 hk1 hne c10.1 c10.2.1 c10.2.2
    refine bX2_copy_194 hk0 hk1 ix h12 ⟨hd, fun _ h13 => ?_⟩
    have c12 := cp_A (i := 10) (n := 6) hk0 hk1 hne c11.1 c11.2.1 c11.2.2 (by omega) rfl
    refine bX2_copy_212 hk0 hk1 ix h13 (fun _ h14 => ?_)
    have c13 := cp_S (i := 13) hk0 hk1 hne c12.1 c12.2.1 c12.2.2
    refine bX2_copy_220 hk0 hk1 ix h14 ⟨hd, fun _ h15 => ?_⟩
    have c14 := cp_A (i := 11) (n := 5) hk0 hk1 hne c13.1 c13.2.1 c13.2.2 (by omega) rfl
    refine bX2_copy_238 hk0 hk1 ix h15 (re_v ⟨?_, c14.1⟩)
    exact copy_end hR hG c14.2.1 c14.2.2
  · intro x hx0 hx1 ih s hs hF hA hK h8'
    have e8 : ia s (k1 + 8) = ia σ (k1 + 8) := hF.ia (k1 + 8) (fun z => by obtain ⟨z1, z2⟩ := z; omega)
    refine bX2_copy_136 hk0 hk1 (iR_of (by omega) (by omega)) hs ⟨fun z => absurd z (by omega), fun _ => ⟨⟨hx0, hx1⟩, ?_, iR_of (by omega) (by omega), fun _ hs' => ?_⟩⟩
    · rw [e8]; exact hR.gb x hx0 hx1
    · refine ih _ hs' (hF.I ⟨by omega, by omega⟩) (fun y hy j h0 h1 => ?_) hK (fun j h0 h1 => ?_)
      · have hy8 : y.1 ≠ 8 := by
          simp only [List.mem_cons, List.not_mem_nil, or_false] at hy
          rcases hy with rfl | rfl | rfl | rfl | rfl | rfl | rfl <;> decide
        rw [ia_I, if_neg (by omega)]
        exact hA y hy j h0 h1
      · rw [ia_I, if_pos rfl, e8]
        by_cases c : j = x
        · rw [c, up_at]
        · rw [up_ne c]; exact h8' j h0 (by omega)
end KN3

section OF2
variable {g : AG} {ad : Nat → Nat} {d : Nat} {σ : SG} {m t : Int → Int} {k : Nat}
def rkn (σ : SG) (m : Int → Int) (S : SK) (i : Int) : Int := rkS m S (kK σ i)
theorem rkn_b {S : SK} {i : Int} (hB : SB σ m k) (hW : WF m) (hI : IS m S) (hC : SCl σ m S) (hmb : S.mn ≤ 1000000) (hi : 0 ≤ i ∧ i < kN σ) (hls : ¬ S.ls (kK σ i) = 0) : rkn σ m S i = (ia σ 76 i + ahM m (ia σ 60 i / 287)) * 4294967296 + ia σ 77 i ∧ (0 ≤ ia σ 76 i ∧ ia σ 76 i ≤ 4000) ∧ (0 ≤ ia σ 76 i + ahM m (ia σ 60 i / 287) ∧ ia σ 76 i + ahM m (ia σ 60 i / 287) < 1000000) ∧ (0 ≤ ia σ 77 i ∧ ia σ 77 i < 4294967296) ∧ (0 ≤ rkn σ m S i ∧ rkn σ m S i < 4611686018427387904) := by
  have hv := (hB.kn.vd i hi.1 hi.2).1
  have hvb := vC_b hW.1 hv
  have hks := keyC_s hW.1 hv
  have hkk : kK σ i / 294 = ia σ 60 i / 287 := hks.1
  have hcs := hC.cs_ i hi.1 hi.2 hls
  have hcb := hI.cst _ hls
  have hpc6 := st_pc6 hvb.2.1
  have hmd := hI.mad _ hls
  have hah := ahM_b hW (ia σ 60 i / 287)
  rw [hkk] at hcb
  have e : rkn σ m S i = (ia σ 76 i + ahM m (ia σ 60 i / 287)) * 4294967296 + ia σ 77 i := by
    show (S.cs (kK σ i) + ahM m (kK σ i / 294)) * 4294967296 + S.md (kK σ i) = _
    rw [hkk, hcs.1, hcs.2]
  rw [← hcs.1] at hcb
  rw [← hcs.2] at hmd
  refine ⟨e, by omega, by omega, by omega, ?_⟩
  rw [e]
  omega
theorem f_offer {S : SK} {i w : Int} {T : List Int} (hB : SB σ m k) (hW : WF m) (hI : IS m S) (hC : SCl σ m S) (hmb : S.mn ≤ 1000000) (hi : 0 ≤ i ∧ i < kN σ) (hls : ¬ S.ls (kK σ i) = 0) (hw : 1 ≤ w ∧ w ≤ 40) (hT : StA σ (rkn σ m S) T) (h11 : sc σ 75 11 = (T.length : Int)) (hlw : (T.length : Int) ≤ w) (hU : Up (rkn σ m S) T) (hTm : ∀ y ∈ T, (0 ≤ y ∧ y < kN σ) ∧ ¬ S.ls (kK σ y) = 0 ∧ ¬ y = i) (hS : SR σ) (hd : 2 ≤ d) : Eb g ad d mX7_offer 0 0 [.ref (ad 75), vi i, vi w] σ (Kv fun s => StA s (rkn σ m S) ((ins (rkn σ m S) i T).take w.toNat) ∧ sc s 75 11 = (((ins (rkn σ m S) i T).take w.toNat).length : Int) ∧ Ok σ s) := by
  have hnb := hB.kn.nb
  have hrb := rkn_b hB hW hI hC hmb hi hls
  have hrT : ∀ y ∈ T, 0 ≤ rkn σ m S y ∧ rkn σ m S y < 4611686018427387904 := fun y hy => (rkn_b hB hW hI hC hmb (hTm y hy).1 (hTm y hy).2.1).2.2.2.2
  have hlR : ∀ y, y = i ∨ y ∈ T → lR (rkn σ m S y) := fun y hy => by
    rcases hy with rfl | hy
    · exact ⟨by omega, by omega⟩
    · have := hrT y hy
      exact ⟨by omega, by omega⟩
  have hne : ∀ y ∈ T, rkn σ m S i ≠ rkn σ m S y := fun y hy => by
    have h1 := hTm y hy
    refine rkS_ne hI hW (by omega) hls h1.2.1 (fun e => h1.2.2 ?_)
    have h2 := hB.kn.vd y h1.1.1 h1.1.2
    have h4 := hB.kn.vd i hi.1 hi.2
    have := keyC_inj hW.1 h2.1 h4.1 e.symm
    rw [this, h4.2] at h2
    omega
  have ii : iR i := iR_of (by omega) (by omega)
  have iw : iR w := iR_of (by omega) (by omega)
  have hTb : ∀ y ∈ T, 0 ≤ y ∧ y < 7913 := fun y hy => by have := (hTm y hy).1; omega
  refine EbS rfl pl_X7 rfl rfl (bX7_offer_0 ii iw hS ?_)
  refine EI.k (f_score (d := d - 1) hB.kn hB.st hW hi (by omega) hS (by omega)) (by omega) (fun _ _ => ⟨⟨hi.1, by omega⟩, ?_⟩)
  rw [rank_n hrb.2.2.1 hrb.2.2.2.1, ← hrb.1, h11]
  refine ⟨fun c => ⟨⟨by omega, by omega⟩, ?_⟩, fun c => ?_⟩
  · have hlw' : T.length = w.toNat := by omega
    obtain ⟨T0, z, rfl⟩ : ∃ T0 z, T = T0 ++ [z] := by
      have hne' : T ≠ [] := fun e => by rw [e] at hlw'; have : (0 : Nat) = w.toNat := hlw'; omega
      exact ⟨T.dropLast, T.getLast hne', (List.dropLast_concat_getLast hne').symm⟩
    rw [List.length_append, List.length_singleton] at hlw'
    have hz : la σ 82 (w - 1) = rkn σ m S z := by
      have := hT T0.length z (by rw [List.getElem?_append_right (Nat.le_refl _), Nat.sub_self]; rfl)
      rw [show ((T0.length : Nat) : Int) = w - 1 by omega] at this
      exact this.2
    rw [hz]
    have hzm : z ∈ T0 ++ [z] := List.mem_append.mpr (Or.inr (List.mem_singleton.mpr rfl))
    have hU0 : Up (rkn σ m S) T0 := (List.pairwise_append.mp hU).1
    have hUz : ∀ y ∈ T0, rkn σ m S y < rkn σ m S z := fun y hy => (List.pairwise_append.mp hU).2.2 y hy z (List.mem_singleton.mpr rfl)
    refine ⟨fun c2 => ?_, fun c2 => re_v ?_⟩
    · have hlt := (lCmp_lt (hlR i (Or.inl rfl)) (hlR z (Or.inr hzm))).mp c2
      have e1 : (((T0 ++ [z]).length : Nat) : Int) - 1 = (T0.length : Int) := by rw [List.length_append, List.length_singleton]; omega
      rw [e1]
      have etop : (ins (rkn σ m S) i (T0 ++ [z])).take w.toNat = ins (rkn σ m S) i T0 := by
        rw [← hlw']
        exact top_in hlt
      rw [etop]
      refine ⟨iR_of (by omega) (by omega), fun _ _ _ _ _ => ?_⟩
      have := f_offer61 (g := g) (ad := ad) (d := d) (σ := σ) (x := i) (x2 := w) hU0 (by omega) iw (by omega) (fun y hy => hlR y (hy.elim Or.inl (fun h => Or.inr (List.mem_append.mpr (Or.inl h))))) (fun y hy => hTb y (List.mem_append.mpr (Or.inl hy))) (fun y hy => hne y (List.mem_append.mpr (Or.inl hy))) T0.length σ (Nat.le_refl _) hS Ok.refl (by rw [h11, List.length_append, List.length_singleton]; omega) (fun p j hp hpj => hT p j (by rw [List.getElem?_append_left hp]; exact hpj)) (fun p j hp hpj => by have := (List.getElem?_eq_some_iff.mp hpj).1; omega) (fun y hy => by rw [List.drop_length] at hy; cases hy)
      rw [show (((ins (rkn σ m S) i T0).length : Nat) : Int) = (T0.length : Int) + 1 by rw [len_ins]; omega]
      exact this
    · have hle : ¬ rkn σ m S i < rkn σ m S z := fun y => c2 ((lCmp_lt (hlR i (Or.inl rfl)) (hlR z (Or.inr hzm))).mpr y)
      have hnz := hne z hzm
      have etop : (ins (rkn σ m S) i (T0 ++ [z])).take w.toNat = T0 ++ [z] := by
        refine top_out (by rw [List.length_append, List.length_singleton]; exact hlw') (fun y hy => ?_)
        rcases List.mem_append.mp hy with y1 | y1
        · have := hUz y y1
          omega
        · rw [List.mem_singleton.mp y1]
          omega
      rw [etop]
      exact ⟨hT, h11, Ok.refl⟩
  · simp (config := {decide := true}) only [sc_S, ia_S, la_S, rv_S, sc_I, rv_I, la_I, ia_I, sc_L, rv_L, ia_L, la_L, sc_A, rv_A, la_A, ia_A, sc_B, rv_B, ia_B, la_B, sc_R, ia_R, la_R, rv_R, ia_w, la_w, rv_w, sc_w, if_true, if_false]
    rw [show (T.length : Int) + 1 - 1 = (T.length : Int) by omega]
    refine ⟨iR_of (by omega) (by omega), iR_of (by omega) (by omega), fun _ _ _ _ hS1 => ?_⟩
    have etop : (ins (rkn σ m S) i T).take w.toNat = ins (rkn σ m S) i T := List.take_of_length_le (by rw [len_ins]; omega)
    rw [etop]
    have := f_offer61 (g := g) (ad := ad) (d := d) (σ := σ) (x := i) (x2 := w) hU (by omega) iw (by omega) hlR hTb hne T.length (setS σ 75 11 ((T.length : Int) + 1)) (Nat.le_refl _) hS1 ⟨(Fr.refl σ).S (Or.inr (Or.inr rfl)), fun j hj => by rw [sc_S, if_neg (fun z => hj z.2)]⟩ (by simp (config := {decide := true}) only [sc_S, ia_S, la_S, rv_S, sc_I, rv_I, la_I, ia_I, sc_L, rv_L, ia_L, la_L, sc_A, rv_A, la_A, ia_A, sc_B, rv_B, ia_B, la_B, sc_R, ia_R, la_R, rv_R, ia_w, la_w, rv_w, sc_w, if_true, if_false]) (fun p j hp hpj => hT p j hpj) (fun p j hp hpj => by have := (List.getElem?_eq_some_iff.mp hpj).1; omega) (fun y hy => by rw [List.drop_length] at hy; cases hy)
    rw [show (((ins (rkn σ m S) i T).length : Nat) : Int) = (T.length : Int) + 1 by rw [len_ins]; omega]
    exact this
end OF2

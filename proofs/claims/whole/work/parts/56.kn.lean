/-- a word as the class numbers it: 40 is the edge -/
def wx (a : Int) : Int := if a = 40 then -1 else a
def xw (a : Int) : Int := if a = -1 then 40 else a
/-- a Knowledge holds what the row m says -/
def RK (s : SG) (k : Nat) (m : Int → Int) : Prop := (sc s k 2 = m 0) ∧ (sc s k 9 = m 1) ∧ (sc s k 11 = m 2) ∧ (sc s k 13 = m 3) ∧ (∀ w, 0 ≤ w → w < m 0 → ia s (k + 2) w = m (9 + 9 * w)) ∧ (∀ w j, 0 ≤ w → w < m 0 → 0 ≤ j → j < m (9 + 9 * w) → ia s (k + 1) (w * 8 + j) = m (9 + 9 * w + 1 + j) + 97) ∧ (∀ p, 0 ≤ p → p < m 1 → ia s (k + 4) p = of_ m p 0) ∧ (∀ p j, 0 ≤ p → p < m 1 → 0 ≤ j → j < of_ m p 0 → ia s (k + 3) (p * 3 + j) = of_ m p (1 + j)) ∧ (∀ p, 0 ≤ p → p < m 1 → ia s (k + 6) p = of_ m p 4) ∧ (∀ p j, 0 ≤ p → p < m 1 → 0 ≤ j → j < of_ m p 4 → ia s (k + 5) (p * 3 + j) = of_ m p (5 + j)) ∧ (∀ p, 0 ≤ p → p < m 1 → ia s (k + 7) p = of_ m p 8) ∧ (∀ p, 0 ≤ p → p < m 1 → ia s (k + 8) p = of_ m p 9) ∧ (∀ j, 0 ≤ j → j < 30 → ia s (k + 8) j = 0 ∨ ia s (k + 8) j = 1) ∧ (∀ a b, 0 ≤ a → a ≤ 40 → 0 ≤ b → b ≤ 40 → ia s (k + 9) (a * 41 + b) = if pairOf m (wx a) (wx b) = -1 then 0 else m (669 + 3 * pairOf m (wx a) (wx b) + 2) + 1) ∧ (∀ j, 0 ≤ j → j < m 3 → ia s (k + 10) j = m (849 + j)) ∧ (∀ i, 0 ≤ i → i < 5 → ia s (k + 11) i = m (4 + i))
theorem RK.w {s : SG} {k : Nat} {m : Int → Int} (h_ : RK s k m) : sc s k 2 = m 0 := h_.1
theorem RK.p {s : SG} {k : Nat} {m : Int → Int} (h_ : RK s k m) : sc s k 9 = m 1 := h_.2.1
theorem RK.f {s : SG} {k : Nat} {m : Int → Int} (h_ : RK s k m) : sc s k 11 = m 2 := h_.2.2.1
theorem RK.n {s : SG} {k : Nat} {m : Int → Int} (h_ : RK s k m) : sc s k 13 = m 3 := h_.2.2.2.1
theorem RK.ln {s : SG} {k : Nat} {m : Int → Int} (h_ : RK s k m) : ∀ w, 0 ≤ w → w < m 0 → ia s (k + 2) w = m (9 + 9 * w) := h_.2.2.2.2.1
theorem RK.lt {s : SG} {k : Nat} {m : Int → Int} (h_ : RK s k m) : ∀ w j, 0 ≤ w → w < m 0 → 0 ≤ j → j < m (9 + 9 * w) → ia s (k + 1) (w * 8 + j) = m (9 + 9 * w + 1 + j) + 97 := h_.2.2.2.2.2.1
theorem RK.ss {s : SG} {k : Nat} {m : Int → Int} (h_ : RK s k m) : ∀ p, 0 ≤ p → p < m 1 → ia s (k + 4) p = of_ m p 0 := h_.2.2.2.2.2.2.1
theorem RK.so {s : SG} {k : Nat} {m : Int → Int} (h_ : RK s k m) : ∀ p j, 0 ≤ p → p < m 1 → 0 ≤ j → j < of_ m p 0 → ia s (k + 3) (p * 3 + j) = of_ m p (1 + j) := h_.2.2.2.2.2.2.2.1
theorem RK.ts {s : SG} {k : Nat} {m : Int → Int} (h_ : RK s k m) : ∀ p, 0 ≤ p → p < m 1 → ia s (k + 6) p = of_ m p 4 := h_.2.2.2.2.2.2.2.2.1
theorem RK.tt {s : SG} {k : Nat} {m : Int → Int} (h_ : RK s k m) : ∀ p j, 0 ≤ p → p < m 1 → 0 ≤ j → j < of_ m p 4 → ia s (k + 5) (p * 3 + j) = of_ m p (5 + j) := h_.2.2.2.2.2.2.2.2.2.1
theorem RK.co {s : SG} {k : Nat} {m : Int → Int} (h_ : RK s k m) : ∀ p, 0 ≤ p → p < m 1 → ia s (k + 7) p = of_ m p 8 := h_.2.2.2.2.2.2.2.2.2.2.1
theorem RK.go {s : SG} {k : Nat} {m : Int → Int} (h_ : RK s k m) : ∀ p, 0 ≤ p → p < m 1 → ia s (k + 8) p = of_ m p 9 := h_.2.2.2.2.2.2.2.2.2.2.2.1
theorem RK.gb {s : SG} {k : Nat} {m : Int → Int} (h_ : RK s k m) : ∀ j, 0 ≤ j → j < 30 → ia s (k + 8) j = 0 ∨ ia s (k + 8) j = 1 := h_.2.2.2.2.2.2.2.2.2.2.2.2.1
theorem RK.fl {s : SG} {k : Nat} {m : Int → Int} (h_ : RK s k m) : ∀ a b, 0 ≤ a → a ≤ 40 → 0 ≤ b → b ≤ 40 → ia s (k + 9) (a * 41 + b) = if pairOf m (wx a) (wx b) = -1 then 0 else m (669 + 3 * pairOf m (wx a) (wx b) + 2) + 1 := h_.2.2.2.2.2.2.2.2.2.2.2.2.2.1
theorem RK.pl {s : SG} {k : Nat} {m : Int → Int} (h_ : RK s k m) : ∀ j, 0 ≤ j → j < m 3 → ia s (k + 10) j = m (849 + j) := h_.2.2.2.2.2.2.2.2.2.2.2.2.2.2.1
theorem RK.st {s : SG} {k : Nat} {m : Int → Int} (h_ : RK s k m) : ∀ i, 0 ≤ i → i < 5 → ia s (k + 11) i = m (4 + i) := h_.2.2.2.2.2.2.2.2.2.2.2.2.2.2.2
section KNs
variable {g : AG} {ad : Nat → Nat} {d : Nat} {σ : SG} {m t : Int → Int} {k : Nat}
/-- but for these cells all is as it was -/
def Fr (C : Nat → Prop) (σ s : SG) : Prop := rv s = rv σ ∧ ∀ c, ¬ C c → ia s c = ia σ c ∧ la s c = la σ c ∧ sc s c = sc σ c
theorem Fr.refl {C : Nat → Prop} (σ : SG) : Fr C σ σ := ⟨rfl, fun _ _ => ⟨rfl, rfl, rfl⟩⟩
theorem Fr.trans {C : Nat → Prop} {σ s u : SG} (h1 : Fr C σ s) (h2 : Fr C s u) : Fr C σ u := ⟨h2.1.trans h1.1, fun c hc => ⟨(h2.2 c hc).1.trans (h1.2 c hc).1, (h2.2 c hc).2.1.trans (h1.2 c hc).2.1, (h2.2 c hc).2.2.trans (h1.2 c hc).2.2⟩⟩
theorem Fr.mono {C C' : Nat → Prop} {σ s : SG} (h : Fr C σ s) (hC : ∀ c, C c → C' c) : Fr C' σ s := ⟨h.1, fun c hc => h.2 c (fun q => hc (hC c q))⟩
theorem Fr.ia {C : Nat → Prop} {σ s : SG} (h : Fr C σ s) (c : Nat) (hc : ¬ C c) : ia s c = ia σ c := (h.2 c hc).1
theorem Fr.la {C : Nat → Prop} {σ s : SG} (h : Fr C σ s) (c : Nat) (hc : ¬ C c) : la s c = la σ c := (h.2 c hc).2.1
theorem Fr.sc {C : Nat → Prop} {σ s : SG} (h : Fr C σ s) (c j : Nat) (hc : ¬ C c) : sc s c j = sc σ c j := congrFun (h.2 c hc).2.2 j
theorem Fr.S {C : Nat → Prop} {σ s : SG} (h : Fr C σ s) {c j : Nat} {v : Int} (hc : C c) : Fr C σ (setS s c j v) := by
  refine ⟨h.1, fun b hb => ⟨(h.2 b hb).1, (h.2 b hb).2.1, ?_⟩⟩
  rw [← (h.2 b hb).2.2]
  exact u2_row (fun e => hb (by rw [e]; exact hc))
theorem Fr.A {C : Nat → Prop} {σ s : SG} (h : Fr C σ s) {c : Nat} {f : Int → Int} (hc : C c) : Fr C σ (setA s c f) := by
  refine ⟨h.1, fun b hb => ⟨?_, (h.2 b hb).2.1, (h.2 b hb).2.2⟩⟩
  rw [← (h.2 b hb).1]
  exact u1_row (fun e => hb (by rw [e]; exact hc))
theorem Fr.I {C : Nat → Prop} {σ s : SG} (h : Fr C σ s) {c : Nat} {j v : Int} (hc : C c) : Fr C σ (setI s c j v) := h.A hc
theorem Fr.B {C : Nat → Prop} {σ s : SG} (h : Fr C σ s) {c : Nat} {f : Int → Int} (hc : C c) : Fr C σ (setB s c f) := by
  refine ⟨h.1, fun b hb => ⟨(h.2 b hb).1, ?_, (h.2 b hb).2.2⟩⟩
  rw [← (h.2 b hb).2.1]
  exact u1_row (fun e => hb (by rw [e]; exact hc))
theorem Fr.L {C : Nat → Prop} {σ s : SG} (h : Fr C σ s) {c : Nat} {j v : Int} (hc : C c) : Fr C σ (setL s c j v) := h.B hc
/-- the cells of a Knowledge -/
def Kcl (k : Nat) : Nat → Prop := fun c => k ≤ c ∧ c ≤ k + 11
theorem RK.fr {C : Nat → Prop} {s : SG} (h : RK σ k m) (hF : Fr C σ s) (hC : ∀ c, Kcl k c → ¬ C c) : RK s k m := by
  have ha : ∀ i, i ≤ 11 → ia s (k + i) = ia σ (k + i) := fun i hi => hF.ia _ (hC _ ⟨by omega, by omega⟩)
  have hs : ∀ j, sc s k j = sc σ k j := fun j => hF.sc k j (hC _ ⟨by omega, by omega⟩)
  refine ⟨?_, ?_, ?_, ?_, ?_, ?_, ?_, ?_, ?_, ?_, ?_, ?_, ?_, ?_, ?_, ?_⟩
  · rw [hs]; exact h.w
  · rw [hs]; exact h.p
  · rw [hs]; exact h.f
  · rw [hs]; exact h.n
  · rw [ha 2 (by omega)]; exact h.ln
  · rw [ha 1 (by omega)]; exact h.lt
  · rw [ha 4 (by omega)]; exact h.ss
  · rw [ha 3 (by omega)]; exact h.so
  · rw [ha 6 (by omega)]; exact h.ts
  · rw [ha 5 (by omega)]; exact h.tt
  · rw [ha 7 (by omega)]; exact h.co
  · rw [ha 8 (by omega)]; exact h.go
  · rw [ha 8 (by omega)]; exact h.gb
  · rw [ha 9 (by omega)]; exact h.fl
  · rw [ha 10 (by omega)]; exact h.pl
  · rw [ha 11 (by omega)]; exact h.st
theorem aK (hk : isK k) : aI (k + 1) 320 ∧ aI (k + 2) 40 ∧ aI (k + 3) 90 ∧ aI (k + 4) 30 ∧ aI (k + 5) 90 ∧ aI (k + 6) 30 ∧ aI (k + 7) 30 ∧ aI (k + 9) 1681 ∧ aI (k + 10) 6 ∧ aI (k + 11) 5 := by
  rcases hk with rfl | rfl | rfl
  · exact ⟨aI_2, aI_3, aI_4, aI_5, aI_6, aI_7, aI_8, aI_10, aI_11, aI_12⟩
  · exact ⟨aI_14, aI_15, aI_16, aI_17, aI_18, aI_19, aI_20, aI_22, aI_23, aI_24⟩
  · exact ⟨aI_26, aI_27, aI_28, aI_29, aI_30, aI_31, aI_32, aI_34, aI_35, aI_36⟩
theorem k_sameRow {x1 x3 x4 : Int} {c0 n0 c2 n2 : Nat} {f h : Int → Int} (ef : ia σ c0 = f) (eh : ia σ c2 = h) (hc0 : aI c0 n0) (hc2 : aI c2 n2) (h1 : 0 ≤ x1 ∧ x1 + x4 ≤ n0) (h3 : 0 ≤ x3 ∧ x3 + x4 ≤ n2) (h4 : 0 ≤ x4) (hn : n0 ≤ 2000 ∧ n2 ≤ 2000) (hS : SR σ) : EI g ad d mX2_sameRow [.ref (ad c0), vi x1, .ref (ad c2), vi x3, vi x4] σ (bi (alR f x1 h x3 x4 = true)) σ := by
  have i1 : iR x1 := iR_of (by omega) (by omega)
  have i3 : iR x3 := iR_of (by omega) (by omega)
  have i4 : iR x4 := iR_of (by omega) (by omega)
  refine EbS rfl pl_X2 rfl rfl (bX2_sameRow_0 hc0 hc2 i1 i3 i4 hS ?_)
  intros
  have hh := up_loop (P := fun k => allN (fun k => decide (f (x1 + k) = h (x3 + k))) (x4 - k).toNat k = alR f x1 h x3 x4 → aX2_sameRow_3 g ad d (Ki fun r s => r = bi (alR f x1 h x3 x4 = true) ∧ s = σ) 0 0 σ x1 x3 x4 k c0 c2) (hi := x4) 0 h4 ?_ ?_
  · exact hh (by rw [Int.sub_zero]; rfl)
  · intro hv
    refine bX2_sameRow_3 hc0 hc2 i1 i3 i4 i4 hS ⟨fun _ => re_i ⟨(bi_t ?_).symm, rfl⟩, fun q => absurd (Int.le_refl _) q⟩
    rw [← hv, Int.sub_self]
    rfl
  · intro k hk0 hk1 ih hv
    rw [show (x4 - k).toNat = (x4 - (k + 1)).toNat + 1 by omega, allN] at hv
    refine bX2_sameRow_3 hc0 hc2 i1 i3 i4 (iR_of (by omega) (by omega)) hS ⟨fun q => absurd q (by omega), fun _ => ⟨⟨by omega, by omega⟩, ⟨by omega, by omega⟩, ?_⟩⟩
    rw [ef, eh]
    refine ⟨fun c => ⟨iR_of (by omega) (by omega), fun _ _ _ _ _ => ih ?_⟩, fun c => re_i ⟨(bi_f ?_).symm, rfl⟩⟩
    · rw [decide_eq_true c, Bool.true_and] at hv
      exact hv
    · rw [← hv, decide_eq_false c]
      simp
theorem allN_iff {p : Int → Bool} : ∀ (n : Nat) (k : Int), allN p n k = true ↔ ∀ j, k ≤ j → j < k + n → p j = true
  | 0, k => ⟨fun _ j h1 h2 => by omega, fun _ => rfl⟩
  | n + 1, k => by
    rw [allN, Bool.and_eq_true, allN_iff n (k + 1)]
    constructor
    · rintro ⟨h1, h2⟩ j hj0 hj1
      by_cases c : j = k
      · rw [c]; exact h1
      · exact h2 j (by omega) (by omega)
    · intro hh
      exact ⟨hh k (by omega) (by omega), fun j h1 h2 => hh j (by omega) (by omega)⟩
theorem alR_iff {f h : Int → Int} {i j n : Int} : alR f i h j n = true ↔ ∀ k, 0 ≤ k → k < n → f (i + k) = h (j + k) := by
  unfold alR
  rw [allN_iff]
  constructor
  · intro hh k h0 h1
    exact of_decide_eq_true (hh k h0 (by omega))
  · intro hh k h0 h1
    exact decide_eq_true (hh k h0 (by omega))
theorem k_flow {x1 x2 : Int} (hk : isK k) (hR : RK σ k m) (hW : WF m) (h1 : 0 ≤ x1 ∧ x1 ≤ 40) (h2 : 0 ≤ x2 ∧ x2 ≤ 40) (hS : SR σ) : EI g ad d mX2_flow [.ref (ad k), vi x1, vi x2] σ (aft m (wx x1) (wx x2)) σ := by
  have hf := hR.fl x1 x2 h1.1 h1.2 h2.1 h2.2
  have hp := pairOf_b hW.1 (wx x1) (wx x2)
  have h0 := hR.st 0 (by omega) (by omega)
  refine EbS rfl pl_X2 rfl rfl (bX2_flow_0 hk (iR_of (by omega) (by omega)) (iR_of (by omega) (by omega)) hS ⟨⟨by omega, by omega⟩, fun c => ?_, fun c => ?_⟩)
  · rw [hf] at c ⊢
    have c1 : ¬ pairOf m (wx x1) (wx x2) = -1 := fun z => c (if_pos z)
    have hw := hW.2.2.1 (pairOf m (wx x1) (wx x2)) (by omega) hp.2
    rw [if_neg c1]
    refine ⟨iR_of (by omega) (by omega), re_i ⟨?_, rfl⟩⟩
    unfold aft
    rw [if_neg c1]
    omega
  · rw [hf] at c
    have c1 : pairOf m (wx x1) (wx x2) = -1 := by
      by_cases z : pairOf m (wx x1) (wx x2) = -1
      · exact z
      · rw [if_neg z] at c
        have hw := hW.2.2.1 (pairOf m (wx x1) (wx x2)) (by omega) hp.2
        omega
    refine re_i ⟨?_, rfl⟩
    unfold aft
    rw [if_pos c1, h0]
    rfl
theorem k_findWord {x2 x3 : Int} (hk : isK k) (hR : RK σ k m) (hW : W0 m) (hL : WL m) (et : ia σ 38 = t) (h2 : 0 ≤ x2 ∧ x2 + x3 ≤ 400) (h3 : 1 ≤ x3 ∧ x3 ≤ 8) (hS : SR σ) (hd : 1 ≤ d) : EI g ad d mX2_findWord [.ref (ad k), .ref (ad 38), vi x2, vi x3] σ (findW m t x2 x3) σ := by
  have h0 := hW.1
  have i2 : iR x2 := iR_of (by omega) (by omega)
  have i3 : iR x3 := iR_of (by omega) (by omega)
  refine EbS rfl pl_X2 rfl rfl (bX2_findWord_0 hk aI_38 i2 i3 hS ?_)
  intro _ _ _ _
  refine up_loop (P := fun w => sea (spl m t x2 x3) (m 0 - w).toNat w = findW m t x2 x3 → aX2_findWord_3 g ad d (Ki fun r s => r = findW m t x2 x3 ∧ s = σ) 0 0 σ x2 x3 w k 38) (hi := m 0) 0 h0.1 ?_ ?_ (by rw [Int.sub_zero]; rfl)
  · intro hv
    refine bX2_findWord_3 hk aI_38 i2 i3 (iR_of (by omega) (by omega)) hS ⟨fun _ => re_i ⟨?_, rfl⟩, fun z => absurd (by rw [hR.w]; omega) z⟩
    rw [← hv, Int.sub_self]
    rfl
  · intro w hw0 hw1 ih hv
    rw [show (m 0 - w).toNat = (m 0 - (w + 1)).toNat + 1 by omega, sea] at hv
    have iw : iR (w + 1) := iR_of (by omega) (by omega)
    have eln := hR.ln w hw0 hw1
    refine bX2_findWord_3 hk aI_38 i2 i3 (iR_of (by omega) (by omega)) hS ⟨fun z => absurd z (by rw [hR.w]; omega), fun _ => ⟨⟨by omega, by omega⟩, fun c => ⟨iw, fun _ _ _ _ => ih ?_⟩, fun c => ?_⟩⟩
    · rw [eln] at c
      rw [← hv, if_neg]
      unfold spl
      simp [c]
    · rw [eln] at c
      have hal : alR (ia σ (k + 1)) (w * 8) t x2 x3 = true ↔ spl m t x2 x3 w = true := by
        rw [alR_iff]
        unfold spl
        rw [Bool.and_eq_true, allN_iff]
        constructor
        · intro hh
          refine ⟨decide_eq_true c, fun j hj0 hj1 => decide_eq_true ?_⟩
          have := hh j hj0 (by omega)
          rw [hR.lt w j hw0 hw1 hj0 (by omega)] at this
          omega
        · rintro ⟨-, hh⟩ j hj0 hj1
          have := of_decide_eq_true (hh j hj0 (by omega))
          rw [hR.lt w j hw0 hw1 hj0 (by omega)]
          omega
      refine EI.k (k_sameRow (d := d - 1) rfl et (aK hk).1 aI_38 ⟨by omega, by omega⟩ ⟨by omega, by omega⟩ (by omega) ⟨by decide, by decide⟩ hS) (by omega) (fun _ _ => bi_zn (fun c2 => re_i ⟨?_, rfl⟩) (fun c2 => ⟨iw, fun _ _ _ _ => ih ?_⟩))
      · rw [← hv, if_pos (hal.mp c2)]
      · rw [← hv, if_neg (fun z => c2 (hal.mpr z))]
/-- words are the same but for a new one -/
theorem k_addWord {x2 x3 : Int} (hk : isK k) (hR : RK σ k m) (hW : WF m) (hL : WL m) (h40 : m 0 < 40) (et : ia σ 38 = t) (h2 : 0 ≤ x2 ∧ x2 + x3 ≤ 400) (h3 : 1 ≤ x3 ∧ x3 ≤ 8) (hS : SR σ) (hd : 2 ≤ d) : Eb g ad d mX2_addWord 0 0 [.ref (ad k), .ref (ad 38), vi x2, vi x3] σ (Ki fun r s => r = m 0 ∧ RK s k (addW m t x2 x3) ∧ Fr (Kcl k) σ s) := by
  have h0 := hW.1.1
  have hk' : k = 1 ∨ k = 13 ∨ k = 25 := hk
  have i2 : iR x2 := iR_of (by omega) (by omega)
  have i3 : iR x3 := iR_of (by omega) (by omega)
  refine EbS rfl pl_X2 rfl rfl (bX2_addWord_0 hk aI_38 i2 i3 hS ?_)
  have e2 : sc (setI (setA σ (k + 1) (cpy (ia σ 38) (ia σ (k + 1)) x2 ((sc σ k 2) * 8) x3)) (k + 2) (sc σ k 2) x3) k 2 = m 0 := hR.w
  rw [e2, hR.w, et]
  refine ⟨⟨by omega, by omega, by omega, by show x2 + x3 ≤ 400; omega, by omega⟩, hd, ⟨by omega, by omega⟩, iR_of (by omega) (by omega), re_i ⟨rfl, ?_, (((Fr.refl σ).A ⟨by omega, by omega⟩).I ⟨by omega, by omega⟩).S ⟨by omega, by omega⟩⟩⟩
  have hat := fun j => addW_at (m := m) (t := t) (p := x2) (n := x3) (j := j) h0.1
  have hfar : ∀ j, ¬ j = 0 → (j < 9 + 9 * m 0 ∨ 9 + 9 * m 0 + 9 ≤ j) → addW m t x2 x3 j = m j := fun j h1 h2 => by rw [hat, if_neg h1, if_neg (by omega), if_neg (by omega)]
  have ea0 : addW m t x2 x3 0 = m 0 + 1 := by rw [hat, if_pos rfl]
  have eaw : ∀ w, 0 ≤ w → w < m 0 → addW m t x2 x3 (9 + 9 * w) = m (9 + 9 * w) := fun w h1 h2 => hfar _ (by omega) (by omega)
  have ean : addW m t x2 x3 (9 + 9 * m 0) = x3 := by rw [hat, if_neg (by omega), if_pos rfl]
  have eof : ∀ p w, 0 ≤ p → 0 ≤ w → of_ (addW m t x2 x3) p w = of_ m p w := fun p w h1 h2 => hfar _ (by omega) (by omega)
  have epr : ∀ a b, pairOf (addW m t x2 x3) a b = pairOf m a b := by
    intro a b
    unfold pairOf
    rw [hfar 2 (by omega) (by omega)]
    refine sea_cong _ _ (fun j h1 h2 => ?_)
    unfold pairP
    rw [hfar (669 + 3 * j) (by omega) (by omega), hfar (669 + 3 * j + 1) (by omega) (by omega)]
  have hs : ∀ j, ¬ j = 2 → sc (setS (setI (setA σ (k + 1) (cpy t (ia σ (k + 1)) x2 (m 0 * 8) x3)) (k + 2) (m 0) x3) k 2 (m 0 + 1)) k j = sc σ k j := fun j hj => by rw [sc_S, if_neg (fun z => hj z.2)]; rfl
  have hi : ∀ i, ¬ i = 1 → ¬ i = 2 → ia (setS (setI (setA σ (k + 1) (cpy t (ia σ (k + 1)) x2 (m 0 * 8) x3)) (k + 2) (m 0) x3) k 2 (m 0 + 1)) (k + i) = ia σ (k + i) := fun i h1 h2 => by
    rw [ia_S, ia_I, if_neg (by omega), ia_A, if_neg (by omega)]
  have hi1 : ia (setS (setI (setA σ (k + 1) (cpy t (ia σ (k + 1)) x2 (m 0 * 8) x3)) (k + 2) (m 0) x3) k 2 (m 0 + 1)) (k + 1) = cpy t (ia σ (k + 1)) x2 (m 0 * 8) x3 := by
    rw [ia_S, ia_I, if_neg (by omega), ia_A, if_pos rfl]
  have hi2 : ia (setS (setI (setA σ (k + 1) (cpy t (ia σ (k + 1)) x2 (m 0 * 8) x3)) (k + 2) (m 0) x3) k 2 (m 0 + 1)) (k + 2) = up (ia σ (k + 2)) (m 0) x3 := by
    rw [ia_S, ia_I, if_pos rfl, ia_A, if_neg (by omega)]
  have e1 := hfar 1 (by omega) (by omega)
  have e3 := hfar 3 (by omega) (by omega)
  have e2' := hfar 2 (by omega) (by omega)
  refine ⟨?_, ?_, ?_, ?_, ?_, ?_, ?_, ?_, ?_, ?_, ?_, ?_, ?_, ?_, ?_, ?_⟩
  · rw [ea0, sc_S, if_pos ⟨rfl, rfl⟩]
  · rw [hs 9 (by omega), e1]; exact hR.p
  · rw [hs 11 (by omega), e2']; exact hR.f
  · rw [hs 13 (by omega), e3]; exact hR.n
  · intro w hw0 hw1
    rw [hi2]
    by_cases c : w = m 0
    · rw [c, up_at, ean]
    · rw [up_ne c, eaw w hw0 (by omega)]; exact hR.ln w hw0 (by omega)
  · intro w j hw0 hw1 hj0 hj1
    rw [hi1]
    unfold cpy
    by_cases c : w = m 0
    · subst c
      rw [ean] at hj1
      rw [if_pos ⟨by omega, by omega⟩, hat, if_neg (by omega), if_neg (by omega), if_pos ⟨by omega, by omega⟩, if_pos (by omega), show x2 + (m 0 * 8 + j - m 0 * 8) = x2 + j by omega, show 9 + 9 * m 0 + 1 + j - (9 + 9 * m 0 + 1) = j by omega]
      omega
    · rw [eaw w hw0 (by omega)] at hj1
      have := hL w hw0 (by omega)
      rw [if_neg (by omega), hfar _ (by omega) (by omega)]
      exact hR.lt w j hw0 (by omega) hj0 hj1
  · rw [hi 4 (by omega) (by omega), e1]; exact fun p h0 h1 => by rw [eof p 0 h0 (by omega)]; exact hR.ss p h0 h1
  · rw [hi 3 (by omega) (by omega), e1]
    intro p j h0 h1 h2 h3
    rw [eof p 0 h0 (by omega)] at h3
    rw [eof p _ h0 (by omega)]; exact hR.so p j h0 h1 h2 h3
  · rw [hi 6 (by omega) (by omega), e1]; exact fun p h0 h1 => by rw [eof p 4 h0 (by omega)]; exact hR.ts p h0 h1
  · rw [hi 5 (by omega) (by omega), e1]
    intro p j h0 h1 h2 h3
    rw [eof p 4 h0 (by omega)] at h3
    rw [eof p _ h0 (by omega)]; exact hR.tt p j h0 h1 h2 h3
  · rw [hi 7 (by omega) (by omega), e1]; exact fun p h0 h1 => by rw [eof p 8 h0 (by omega)]; exact hR.co p h0 h1
  · rw [hi 8 (by omega) (by omega), e1]; exact fun p h0 h1 => by rw [eof p 9 h0 (by omega)]; exact hR.go p h0 h1
  · rw [hi 8 (by omega) (by omega)]; exact hR.gb
  · rw [hi 9 (by omega) (by omega)]
    intro a b ha0 ha1 hb0 hb1
    have hp := pairOf_b hW.1 (wx a) (wx b)
    rw [epr, hR.fl a b ha0 ha1 hb0 hb1]
    by_cases c : pairOf m (wx a) (wx b) = -1
    · rw [if_pos c, if_pos c]
    · rw [if_neg c, if_neg c, hfar _ (by omega) (by omega)]
  · rw [hi 10 (by omega) (by omega), e3]; exact fun j h0 h1 => by rw [hfar _ (by omega) (by omega)]; exact hR.pl j h0 h1
  · rw [hi 11 (by omega) (by omega)]; exact fun i h0 h1 => by rw [hfar _ (by omega) (by omega)]; exact hR.st i h0 h1
end KNs

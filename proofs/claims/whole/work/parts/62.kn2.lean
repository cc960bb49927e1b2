section KN2
variable {g : AG} {ad : Nat → Nat} {d : Nat} {σ : SG} {m t : Int → Int} {k : Nat} {e f : Int}
theorem isK_b (hk : isK k) : k = 1 ∨ k = 13 ∨ k = 25 := hk
theorem Kcl_no {c : Nat} (hk : isK k) (hc : 37 ≤ c) : ¬ Kcl k c := by
  have := isK_b hk
  rintro ⟨h1, h2⟩
  omega
theorem k_findPhrase {x2 x3 x5 x6 : Int} {c1 n1 c4 n4 : Nat} {a b : List Int} (hk : isK k) (hR : RK σ k m) (hW : WF m) (hc1 : aI c1 n1) (hc4 : aI c4 n4) (ha : hl (ia σ c1) x2 a) (h3 : x3 = a.length) (hb : hl (ia σ c4) x5 b) (h6 : x6 = b.length) (ha3 : a.length ≤ 3) (hb3 : b.length ≤ 3) (h2 : 0 ≤ x2 ∧ x2 + x3 ≤ n1) (h5 : 0 ≤ x5 ∧ x5 + x6 ≤ n4) (hn : n1 ≤ 2000 ∧ n4 ≤ 2000) (hS : SR σ) (hd : 1 ≤ d) : EI g ad d mX2_findPhrase [.ref (ad k), .ref (ad c1), vi x2, vi x3, .ref (ad c4), vi x5, vi x6] σ (alkL m a b) σ := by
  have hm1 := hW.1.2.1
  have i2 : iR x2 := iR_of (by omega) (by omega)
  have i3 : iR x3 := iR_of (by omega) (by omega)
  have i5 : iR x5 := iR_of (by omega) (by omega)
  have i6 : iR x6 := iR_of (by omega) (by omega)
  refine EbS rfl pl_X2 rfl rfl (bX2_findPhrase_0 hk hc1 hc4 i2 i3 i5 i6 hS ?_)
  intro _ _ _ _ _ _
  refine up_loop (P := fun p => sea (fun p => decide (of_ m p 9 = 0) && (decide (srcL m p = a) && decide (tgtL m p = b))) (m 1 - p).toNat p = alkL m a b → aX2_findPhrase_3 g ad d (Ki fun r s => r = alkL m a b ∧ s = σ) 0 0 σ x2 x3 x5 x6 p k c1 c4) (hi := m 1) 0 hm1.1 ?_ ?_ (by rw [Int.sub_zero]; rfl)
  · intro hv
    refine bX2_findPhrase_3 hk hc1 hc4 i2 i3 i5 i6 (iR_of (by omega) (by omega)) hS ⟨fun _ => re_i ⟨?_, rfl⟩, fun z => absurd (by rw [hR.p]; omega) z⟩
    rw [← hv, Int.sub_self]
    rfl
  · intro p hp0 hp1 ih hv
    rw [show (m 1 - p).toNat = (m 1 - (p + 1)).toNat + 1 by omega, sea] at hv
    have ip : iR p := iR_of (by omega) (by omega)
    have hpp := hW.2.1 p hp0 hp1
    have next : ¬ (decide (of_ m p 9 = 0) && (decide (srcL m p = a) && decide (tgtL m p = b))) = true → iR (p + 1) ∧ (iR x2 → iR x3 → iR x5 → iR x6 → iR (p + 1) → SR σ → aX2_findPhrase_3 g ad d (Ki fun r s => r = alkL m a b ∧ s = σ) 0 0 σ x2 x3 x5 x6 (p + 1) k c1 c4) := by
      intro hno
      rw [if_neg hno] at hv
      exact ⟨iR_of (by omega) (by omega), fun _ _ _ _ _ _ => ih hv⟩
    have hsrc : srcL m p = a ↔ of_ m p 0 = (a.length : Int) ∧ ∀ i : Nat, i < a.length → of_ m p (1 + i) = a.getD i 0 := mapir_eq (by omega)
    have htgt : tgtL m p = b ↔ of_ m p 4 = (b.length : Int) ∧ ∀ i : Nat, i < b.length → of_ m p (5 + i) = b.getD i 0 := mapir_eq (by omega)
    refine bX2_findPhrase_3 hk hc1 hc4 i2 i3 i5 i6 ip hS ⟨fun z => absurd z (by rw [hR.p]; omega), fun _ => ⟨⟨hp0, by omega⟩, ?_⟩⟩
    rw [hR.go p hp0 hp1, hR.ss p hp0 hp1, hR.ts p hp0 hp1]
    refine ⟨fun c => next (by simp [c]), fun c => ⟨fun c2 => next ?_, fun c2 => ⟨fun c3 => next ?_, fun c3 => ?_⟩⟩⟩
    · have : ¬ srcL m p = a := fun z => c2 (by rw [h3]; exact (hsrc.mp z).1)
      simp [this]
    · have : ¬ tgtL m p = b := fun z => c3 (by rw [h6]; exact (htgt.mp z).1)
      simp [this]
    · have e1 : alR (ia σ (k + 3)) (p * 3) (ia σ c1) x2 x3 = true ↔ srcL m p = a := by
        rw [alR_iff, hsrc]
        constructor
        · intro hh
          refine ⟨by omega, fun i hi => ?_⟩
          have := hh i (by omega) (by omega)
          rw [hR.so p i hp0 hp1 (by omega) (by omega), hl_getD ha hi] at this
          exact this
        · rintro ⟨-, hh⟩ j hj0 hj1
          have := hh j.toNat (by omega)
          rw [show ((j.toNat : Nat) : Int) = j by omega] at this
          rw [hR.so p j hp0 hp1 hj0 (by omega), this, ← hl_getD ha (i := j.toNat) (by omega)]
          congr 1
          omega
      have e2 : alR (ia σ (k + 5)) (p * 3) (ia σ c4) x5 x6 = true ↔ tgtL m p = b := by
        rw [alR_iff, htgt]
        constructor
        · intro hh
          refine ⟨by omega, fun i hi => ?_⟩
          have := hh i (by omega) (by omega)
          rw [hR.tt p i hp0 hp1 (by omega) (by omega), hl_getD hb hi] at this
          exact this
        · rintro ⟨-, hh⟩ j hj0 hj1
          have := hh j.toNat (by omega)
          rw [show ((j.toNat : Nat) : Int) = j by omega] at this
          rw [hR.tt p j hp0 hp1 hj0 (by omega), this, ← hl_getD hb (i := j.toNat) (by omega)]
          congr 1
          omega
      refine EI.k (k_sameRow (d := d - 1) rfl rfl (aK hk).2.2.1 hc1 ⟨by omega, by omega⟩ h2 (by omega) ⟨by decide, hn.1⟩ hS) (by omega) (fun _ _ => bi_zn (fun c4 => ?_) (fun c4 => next ?_))
      · refine EI.k (k_sameRow (d := d - 1) rfl rfl (aK hk).2.2.2.2.1 hc4 ⟨by omega, by omega⟩ h5 (by omega) ⟨by decide, hn.2⟩ hS) (by omega) (fun _ _ => bi_zn (fun c5 => re_i ⟨?_, rfl⟩) (fun c5 => next ?_))
        · rw [← hv, if_pos (by simp [c, e1.mp c4, e2.mp c5])]
        · have : ¬ tgtL m p = b := fun z => c5 (e2.mpr z)
          simp [this]
      · have : ¬ srcL m p = a := fun z => c4 (e1.mpr z)
        simp [this]
/-- what the class's state says is said of every row that it holds -/
theorem RK.src {m' : Int → Int} (h : RK σ k m) (h' : RK σ k m') (hW : WF m) (hW' : WF m') {p : Int} (hp : 0 ≤ p ∧ p < m 1) : srcL m p = srcL m' p ∧ tgtL m p = tgtL m' p ∧ of_ m p 9 = of_ m' p 9 := by
  have e1 : m 1 = m' 1 := by rw [← h.p, ← h'.p]
  have hp' : p < m' 1 := by omega
  have e0 : of_ m p 0 = of_ m' p 0 := by rw [← h.ss p hp.1 hp.2, ← h'.ss p hp.1 hp']
  have e4 : of_ m p 4 = of_ m' p 4 := by rw [← h.ts p hp.1 hp.2, ← h'.ts p hp.1 hp']
  refine ⟨?_, ?_, by rw [← h.go p hp.1 hp.2, ← h'.go p hp.1 hp']⟩
  · unfold srcL
    rw [← e0]
    refine List.map_congr_left (fun j hj => ?_)
    rw [mem_ir] at hj
    rw [← h.so p j hp.1 hp.2 hj.1 hj.2, ← h'.so p j hp.1 hp' hj.1 (by omega)]
  · unfold tgtL
    rw [← e4]
    refine List.map_congr_left (fun j hj => ?_)
    rw [mem_ir] at hj
    rw [← h.tt p j hp.1 hp.2 hj.1 hj.2, ← h'.tt p j hp.1 hp' hj.1 (by omega)]
theorem RK.alk {m' : Int → Int} (h : RK σ k m) (h' : RK σ k m') (hW : WF m) (hW' : WF m') (a b : List Int) : alkL m a b = alkL m' a b := by
  have e1 : m 1 = m' 1 := by rw [← h.p, ← h'.p]
  unfold alkL
  rw [← e1]
  refine sea_cong _ _ (fun p hp0 hp1 => ?_)
  have := h.src h' hW hW' (p := p) ⟨hp0, by omega⟩
  rw [this.1, this.2.1, this.2.2]
/-! the parts of a Knowledge -/
def RKw (s : SG) (k : Nat) (m : Int → Int) : Prop := sc s k 2 = m 0 ∧ (∀ w, 0 ≤ w → w < m 0 → ia s (k + 2) w = m (9 + 9 * w)) ∧ (∀ w j, 0 ≤ w → w < m 0 → 0 ≤ j → j < m (9 + 9 * w) → ia s (k + 1) (w * 8 + j) = m (9 + 9 * w + 1 + j) + 97)
def RKp (s : SG) (k : Nat) (m : Int → Int) : Prop := sc s k 9 = m 1 ∧ (∀ p, 0 ≤ p → p < m 1 → ia s (k + 4) p = of_ m p 0) ∧ (∀ p j, 0 ≤ p → p < m 1 → 0 ≤ j → j < of_ m p 0 → ia s (k + 3) (p * 3 + j) = of_ m p (1 + j)) ∧ (∀ p, 0 ≤ p → p < m 1 → ia s (k + 6) p = of_ m p 4) ∧ (∀ p j, 0 ≤ p → p < m 1 → 0 ≤ j → j < of_ m p 4 → ia s (k + 5) (p * 3 + j) = of_ m p (5 + j)) ∧ (∀ p, 0 ≤ p → p < m 1 → ia s (k + 7) p = of_ m p 8) ∧ (∀ p, 0 ≤ p → p < m 1 → ia s (k + 8) p = of_ m p 9) ∧ (∀ j, 0 ≤ j → j < 30 → ia s (k + 8) j = 0 ∨ ia s (k + 8) j = 1)
def RKf (s : SG) (k : Nat) (m : Int → Int) : Prop := sc s k 11 = m 2 ∧ (∀ a b, 0 ≤ a → a ≤ 40 → 0 ≤ b → b ≤ 40 → ia s (k + 9) (a * 41 + b) = if pairOf m (wx a) (wx b) = -1 then 0 else m (669 + 3 * pairOf m (wx a) (wx b) + 2) + 1)
def RKn (s : SG) (k : Nat) (m : Int → Int) : Prop := sc s k 13 = m 3 ∧ (∀ j, 0 ≤ j → j < m 3 → ia s (k + 10) j = m (849 + j))
def RKs (s : SG) (k : Nat) (m : Int → Int) : Prop := ∀ i, 0 ≤ i → i < 5 → ia s (k + 11) i = m (4 + i)
theorem RK.gw (h : RK σ k m) : RKw σ k m := ⟨h.w, h.ln, h.lt⟩
theorem RK.gp (h : RK σ k m) : RKp σ k m := ⟨h.p, h.ss, h.so, h.ts, h.tt, h.co, h.go, h.gb⟩
theorem RK.gf (h : RK σ k m) : RKf σ k m := ⟨h.f, h.fl⟩
theorem RK.gn (h : RK σ k m) : RKn σ k m := ⟨h.n, h.pl⟩
theorem RK.of5 {s : SG} (a : RKw s k m) (b : RKp s k m) (c : RKf s k m) (e : RKn s k m) (f : RKs s k m) : RK s k m :=
  ⟨a.1, b.1, c.1, e.1, a.2.1, a.2.2, b.2.1, b.2.2.1, b.2.2.2.1, b.2.2.2.2.1, b.2.2.2.2.2.1, b.2.2.2.2.2.2.1, b.2.2.2.2.2.2.2, c.2, e.2, f⟩
theorem RKw.c {s : SG} {m' : Int → Int} (h : RKw σ k m) (hG : GM m) (h2 : sc s k 2 = sc σ k 2) (i2 : ia s (k + 2) = ia σ (k + 2)) (i1 : ia s (k + 1) = ia σ (k + 1)) (e0 : m' 0 = m 0) (ha : ∀ j, 9 ≤ j → j < 369 → m' j = m j) : RKw s k m' := by
  have h0 := hG.wf.1.1
  unfold RKw
  rw [h2, i2, i1, e0]
  refine ⟨h.1, fun w a b => ?_, fun w j a b c e => ?_⟩
  · rw [ha _ (by omega) (by omega)]; exact h.2.1 w a b
  · rw [ha _ (by omega) (by omega)] at e
    have := hG.wl w a b
    rw [ha _ (by omega) (by omega)]
    exact h.2.2 w j a b c e
theorem RKp.c {s : SG} {m' : Int → Int} (h : RKp σ k m) (hG : GM m) (h9 : sc s k 9 = sc σ k 9) (hi : ∀ i, 3 ≤ i → i ≤ 8 → ia s (k + i) = ia σ (k + i)) (e1 : m' 1 = m 1) (ha : ∀ j, 369 ≤ j → j < 669 → m' j = m j) : RKp s k m' := by
  have h1 := hG.wf.1.2.1
  have ho : ∀ p w, 0 ≤ p → p < m 1 → 0 ≤ w → w ≤ 9 → of_ m' p w = of_ m p w := fun p w a b c e => ha _ (by omega) (by omega)
  unfold RKp
  rw [h9, hi 3 (by omega) (by omega), hi 4 (by omega) (by omega), hi 5 (by omega) (by omega), hi 6 (by omega) (by omega), hi 7 (by omega) (by omega), hi 8 (by omega) (by omega), e1]
  obtain ⟨a1, a2, a3, a4, a5, a6, a7, a8⟩ := h
  refine ⟨a1, fun p a b => ?_, fun p j a b c e => ?_, fun p a b => ?_, fun p j a b c e => ?_, fun p a b => ?_, fun p a b => ?_, a8⟩
  · rw [ho p 0 a b (by omega) (by omega)]; exact a2 p a b
  · have hs := hG.wf.2.1 p a b
    rw [ho p 0 a b (by omega) (by omega)] at e
    rw [ho p _ a b (by omega) (by omega)]; exact a3 p j a b c e
  · rw [ho p 4 a b (by omega) (by omega)]; exact a4 p a b
  · have hs := hG.wf.2.1 p a b
    rw [ho p 4 a b (by omega) (by omega)] at e
    rw [ho p _ a b (by omega) (by omega)]; exact a5 p j a b c e
  · rw [ho p 8 a b (by omega) (by omega)]; exact a6 p a b
  · rw [ho p 9 a b (by omega) (by omega)]; exact a7 p a b
theorem pairOf_cong {m' : Int → Int} (h2 : 0 ≤ m 2 ∧ m 2 ≤ 60) (e2 : m' 2 = m 2) (ha : ∀ j, 669 ≤ j → j < 849 → m' j = m j) (a b : Int) : pairOf m' a b = pairOf m a b := by
  unfold pairOf
  rw [e2]
  refine sea_cong _ _ (fun j h1 h2 => ?_)
  unfold pairP
  rw [ha (669 + 3 * j) (by omega) (by omega), ha (669 + 3 * j + 1) (by omega) (by omega)]
theorem RKf.c {s : SG} {m' : Int → Int} (h : RKf σ k m) (hG : GM m) (h11 : sc s k 11 = sc σ k 11) (i9 : ia s (k + 9) = ia σ (k + 9)) (e2 : m' 2 = m 2) (ha : ∀ j, 669 ≤ j → j < 849 → m' j = m j) : RKf s k m' := by
  have h2 := hG.wf.1.2.2.1
  unfold RKf
  rw [h11, i9, e2]
  refine ⟨h.1, fun a b a0 a1 b0 b1 => ?_⟩
  have hp := pairOf_b hG.wf.1 (wx a) (wx b)
  rw [pairOf_cong h2 e2 ha, h.2 a b a0 a1 b0 b1]
  by_cases c : pairOf m (wx a) (wx b) = -1
  · rw [if_pos c, if_pos c]
  · rw [if_neg c, if_neg c, ha _ (by omega) (by omega)]
theorem RKn.c {s : SG} {m' : Int → Int} (h : RKn σ k m) (hG : GM m) (h13 : sc s k 13 = sc σ k 13) (i10 : ia s (k + 10) = ia σ (k + 10)) (e3 : m' 3 = m 3) (ha : ∀ j, 849 ≤ j → j < 855 → m' j = m j) : RKn s k m' := by
  have h3 := hG.wf.1.2.2.2.1
  unfold RKn
  rw [h13, i10, e3]
  exact ⟨h.1, fun j a b => by rw [ha _ (by omega) (by omega)]; exact h.2 j a b⟩
theorem RKs.c {s : SG} {m' : Int → Int} (h : RKs σ k m) (i11 : ia s (k + 11) = ia σ (k + 11)) (ha : ∀ j, 4 ≤ j → j < 9 → m' j = m j) : RKs s k m' := by
  unfold RKs
  rw [i11]
  exact fun i a b => by rw [ha _ (by omega) (by omega)]; exact h i a b
/-- a phrase's cost, or whether it is gone -/
theorem RK.upP {p v w : Int} {i : Nat} (h : RK σ k m) (hG : GM m) (hp : 0 ≤ p ∧ p < m 1) (hw : i = 7 ∧ w = 8 ∨ i = 8 ∧ w = 9 ∧ (v = 0 ∨ v = 1)) : RK (setI σ (k + i) p v) k (up m (369 + 10 * p + w) v) := by
  have h1 := hG.wf.1.2.1
  have hu : ∀ j, (j < 369 ∨ 669 ≤ j) → up m (369 + 10 * p + w) v j = m j := fun j hj => up_ne (by omega)
  have hi : ∀ b, ¬ b = i → ia (setI σ (k + i) p v) (k + b) = ia σ (k + b) := fun b hb => by rw [ia_I, if_neg (by omega)]
  refine RK.of5 (h.gw.c hG rfl (hi 2 (by omega)) (hi 1 (by omega)) (hu 0 (by omega)) (fun j a b => hu j (by omega))) ?_ (h.gf.c hG rfl (hi 9 (by omega)) (hu 2 (by omega)) (fun j a b => hu j (by omega))) (h.gn.c hG rfl (hi 10 (by omega)) (hu 3 (by omega)) (fun j a b => hu j (by omega))) (RKs.c h.st (hi 11 (by omega)) (fun j a b => hu j (by omega)))
  have ho : ∀ q u, 0 ≤ q → q < m 1 → 0 ≤ u → u ≤ 9 → ¬ (q = p ∧ u = w) → of_ (up m (369 + 10 * p + w) v) q u = of_ m q u := fun q u a b c e z => by unfold of_; exact up_ne (by omega)
  have hpw : of_ (up m (369 + 10 * p + w) v) p w = v := by unfold of_; rw [up_at]
  unfold RKp
  rw [hu 1 (by omega)]
  refine ⟨h.p, fun q a b => ?_, fun q j a b c e => ?_, fun q a b => ?_, fun q j a b c e => ?_, fun q a b => ?_, fun q a b => ?_, fun j a b => ?_⟩
  · rw [hi 4 (by omega), ho q 0 a b (by omega) (by omega) (by omega)]; exact h.ss q a b
  · have hs := hG.wf.2.1 q a b
    rw [ho q 0 a b (by omega) (by omega) (by omega)] at e
    rw [hi 3 (by omega), ho q _ a b (by omega) (by omega) (by omega)]; exact h.so q j a b c e
  · rw [hi 6 (by omega), ho q 4 a b (by omega) (by omega) (by omega)]; exact h.ts q a b
  · have hs := hG.wf.2.1 q a b
    rw [ho q 4 a b (by omega) (by omega) (by omega)] at e
    rw [hi 5 (by omega), ho q _ a b (by omega) (by omega) (by omega)]; exact h.tt q j a b c e
  · rcases hw with ⟨rfl, rfl⟩ | ⟨rfl, rfl, -⟩
    · rw [ia_I, if_pos rfl]
      by_cases c : q = p
      · rw [c, up_at, hpw]
      · rw [up_ne c, ho q 8 a b (by omega) (by omega) (by omega)]; exact h.co q a b
    · rw [hi 7 (by omega), ho q 8 a b (by omega) (by omega) (by omega)]; exact h.co q a b
  · rcases hw with ⟨rfl, rfl⟩ | ⟨rfl, rfl, -⟩
    · rw [hi 8 (by omega), ho q 9 a b (by omega) (by omega) (by omega)]; exact h.go q a b
    · rw [ia_I, if_pos rfl]
      by_cases c : q = p
      · rw [c, up_at, hpw]
      · rw [up_ne c, ho q 9 a b (by omega) (by omega) (by omega)]; exact h.go q a b
  · rcases hw with ⟨rfl, rfl⟩ | ⟨rfl, rfl, hv⟩
    · rw [hi 8 (by omega)]; exact h.gb j a b
    · rw [ia_I, if_pos rfl]
      by_cases c : j = p
      · rw [c, up_at]; exact hv
      · rw [up_ne c]; exact h.gb j a b
theorem RowR_ex {a b : List Int} (ha : a.length ≤ 3) : ∃ R, RowR R a b := by
  refine ⟨fun j => if j = 0 then (a.length : Int) else if j ≤ 3 then a.getD (j - 1).toNat 0 else if j = 4 then (b.length : Int) else b.getD (j - 5).toNat 0, rfl, fun i v hv => ?_, rfl, fun i v hv => ?_⟩
  · have hi := (List.getElem?_eq_some_iff.mp hv).1
    show (if (1 : Int) + i = 0 then _ else if (1 : Int) + i ≤ 3 then _ else _) = v
    rw [if_neg (by omega), if_pos (by omega), show ((1 : Int) + i - 1).toNat = i by omega, List.getD_eq_getElem?_getD, hv]
    rfl
  · show (if (5 : Int) + i = 0 then _ else if (5 : Int) + i ≤ 3 then _ else if (5 : Int) + i = 4 then _ else _) = v
    rw [if_neg (by omega), if_neg (by omega), if_neg (by omega), show ((5 : Int) + i - 5).toNat = i by omega, List.getD_eq_getElem?_getD, hv]
    rfl
theorem RowR_G {R : Int → Int} {a b : List Int} (h : RowR R a b) (ha : 1 ≤ a.length ∧ a.length ≤ 3) (hb : b.length ≤ 3) (hw1 : ∀ w ∈ a, 0 ≤ w ∧ w < m 0) (hw2 : ∀ w ∈ b, 0 ≤ w ∧ w < m 0) : RowG m R 0 := by
  obtain ⟨h1, h2, h3, h4⟩ := h
  refine ⟨by omega, by show 0 ≤ R 4 ∧ R 4 ≤ 3; omega, fun k hk0 hk1 => ?_, fun k hk0 hk1 => ?_⟩
  · rw [show (0 : Int) + (1 + k) = 1 + k by omega]
    exact hw1 _ (hl_mem h2 hk0 (by omega))
  · have hk1' : k < R 4 := hk1
    rw [show (0 : Int) + (5 + k) = 5 + k by omega]
    exact hw2 _ (hl_mem h4 hk0 (by omega))
theorem k_addPhrase {x2 x3 x5 x6 x7 P : Int} {c1 n1 c4 n4 : Nat} {a b : List Int} (hk : isK k) (h9 : sc σ k 9 = P) (hP : 0 ≤ P ∧ P < 30) (hc1 : aI c1 n1) (hc4 : aI c4 n4) (h37 : 37 ≤ c1 ∧ 37 ≤ c4) (ha : hl (ia σ c1) x2 a) (h3 : x3 = a.length) (hb : hl (ia σ c4) x5 b) (h6 : x6 = b.length) (ha3 : a.length ≤ 3) (hb3 : b.length ≤ 3) (h2 : 0 ≤ x2 ∧ x2 + x3 ≤ n1) (h5 : 0 ≤ x5 ∧ x5 + x6 ≤ n4) (hn : n1 ≤ 2000 ∧ n4 ≤ 2000) (i7 : iR x7) (hS : SR σ) (hd : 2 ≤ d) : Eb g ad d mX2_addPhrase 0 0 [.ref (ad k), .ref (ad c1), vi x2, vi x3, .ref (ad c4), vi x5, vi x6, vi x7] σ (Kv fun s => (∀ m R, RK σ k m → GM m → RowR R a b → RK s k (comesS m R 0 x7)) ∧ Fr (Kcl k) σ s) := by
  have hkb := isK_b hk
  have i2 : iR x2 := iR_of (by omega) (by omega)
  have i3 : iR x3 := iR_of (by omega) (by omega)
  have i5 : iR x5 := iR_of (by omega) (by omega)
  have i6 : iR x6 := iR_of (by omega) (by omega)
  refine EbS rfl pl_X2 rfl rfl (bX2_addPhrase_0 hk hc1 hc4 i2 i3 i5 i6 i7 hS ?_)
  have q4 : ia (setA σ (k + 3) (cpy (ia σ c1) (ia σ (k + 3)) x2 (P * 3) x3)) c4 = ia σ c4 := by rw [ia_A, if_neg (by omega)]
  have q5 : ia (setA σ (k + 3) (cpy (ia σ c1) (ia σ (k + 3)) x2 (P * 3) x3)) (k + 5) = ia σ (k + 5) := by rw [ia_A, if_neg (by omega)]
  rw [h9, q4, q5]
  have e9 : sc (setI (setI (setI (setI (setA (setA σ (k + 3) (cpy (ia σ c1) (ia σ (k + 3)) x2 (P * 3) x3)) (k + 5) (cpy (ia σ c4) (ia σ (k + 5)) x5 (P * 3) x6)) (k + 4) P x3) (k + 6) P x6) (k + 7) P x7) (k + 8) P 0) k 9 = P := h9
  rw [e9]
  refine ⟨⟨h2.1, by omega, by omega, h2.2, by omega⟩, hd, ⟨h5.1, by omega, by omega, h5.2, by omega⟩, hP, iR_of (by omega) (by omega), re_v ⟨fun m R hR hG hRR => ?_, ?_⟩⟩
  rotate_left
  · exact ((((((((Fr.refl σ).A ⟨by omega, by omega⟩).A ⟨by omega, by omega⟩).I ⟨by omega, by omega⟩).I ⟨by omega, by omega⟩).I ⟨by omega, by omega⟩).I ⟨by omega, by omega⟩)).S ⟨by omega, by omega⟩
  have e1P : m 1 = P := by rw [← hR.p]; exact h9
  have hat := fun j => comesS_at (m := m) (R := R) (r := 0) (c := x7) (j := j) (by omega)
  have hfar : ∀ j, ¬ j = 1 → (j < 369 ∨ 669 ≤ j) → comesS m R 0 x7 j = m j := fun j z1 z2 => by rw [hat, if_neg z1, if_neg (by omega), if_neg (by omega), if_neg (by omega)]
  have hold : ∀ p w, 0 ≤ p → p < m 1 → 0 ≤ w → w ≤ 9 → of_ (comesS m R 0 x7) p w = of_ m p w := by
    intro p w hp0 hp1 hw0 hw1
    unfold of_
    rw [hat, if_neg (by omega), if_neg (by omega), if_neg (by omega), if_neg (by omega)]
  have hnew : ∀ w, 0 ≤ w → w ≤ 7 → of_ (comesS m R 0 x7) (m 1) w = R w := by
    intro w hw0 hw1
    unfold of_
    rw [hat, if_neg (by omega), if_neg (by omega), if_neg (by omega), if_pos ⟨by omega, by omega⟩]
    congr 1
    omega
  have hn8 : of_ (comesS m R 0 x7) (m 1) 8 = x7 := by
    unfold of_
    rw [hat, if_neg (by omega), if_neg (by omega), if_pos rfl]
  have hn9 : of_ (comesS m R 0 x7) (m 1) 9 = 0 := by
    unfold of_
    rw [hat, if_neg (by omega), if_pos rfl]
  have ee1 : comesS m R 0 x7 1 = m 1 + 1 := by rw [hat, if_pos rfl]
  generalize hs : setS (setI (setI (setI (setI (setA (setA σ (k + 3) (cpy (ia σ c1) (ia σ (k + 3)) x2 (P * 3) x3)) (k + 5) (cpy (ia σ c4) (ia σ (k + 5)) x5 (P * 3) x6)) (k + 4) P x3) (k + 6) P x6) (k + 7) P x7) (k + 8) P 0) k 9 (P + 1) = s
  have j3 : ia s (k + 3) = cpy (ia σ c1) (ia σ (k + 3)) x2 (P * 3) x3 := by
    rw [← hs, ia_S, ia_I, if_neg (by omega), ia_I, if_neg (by omega), ia_I, if_neg (by omega), ia_I, if_neg (by omega), ia_A, if_neg (by omega), ia_A, if_pos rfl]
  have j5 : ia s (k + 5) = cpy (ia σ c4) (ia σ (k + 5)) x5 (P * 3) x6 := by
    rw [← hs, ia_S, ia_I, if_neg (by omega), ia_I, if_neg (by omega), ia_I, if_neg (by omega), ia_I, if_neg (by omega), ia_A, if_pos rfl]
  have j4 : ia s (k + 4) = up (ia σ (k + 4)) P x3 := by
    rw [← hs, ia_S, ia_I, if_neg (by omega), ia_I, if_neg (by omega), ia_I, if_neg (by omega), ia_I, if_pos rfl, ia_A, if_neg (by omega), ia_A, if_neg (by omega)]
  have j6 : ia s (k + 6) = up (ia σ (k + 6)) P x6 := by
    rw [← hs, ia_S, ia_I, if_neg (by omega), ia_I, if_neg (by omega), ia_I, if_pos rfl, ia_I, if_neg (by omega), ia_A, if_neg (by omega), ia_A, if_neg (by omega)]
  have j7 : ia s (k + 7) = up (ia σ (k + 7)) P x7 := by
    rw [← hs, ia_S, ia_I, if_neg (by omega), ia_I, if_pos rfl, ia_I, if_neg (by omega), ia_I, if_neg (by omega), ia_A, if_neg (by omega), ia_A, if_neg (by omega)]
  have j8 : ia s (k + 8) = up (ia σ (k + 8)) P 0 := by
    rw [← hs, ia_S, ia_I, if_pos rfl, ia_I, if_neg (by omega), ia_I, if_neg (by omega), ia_I, if_neg (by omega), ia_A, if_neg (by omega), ia_A, if_neg (by omega)]
  have jo : ∀ i, (i < 3 ∨ 8 < i) → ia s (k + i) = ia σ (k + i) := fun i hi => by
    rw [← hs, ia_S, ia_I, if_neg (by omega), ia_I, if_neg (by omega), ia_I, if_neg (by omega), ia_I, if_neg (by omega), ia_A, if_neg (by omega), ia_A, if_neg (by omega)]
  have js : ∀ j, ¬ j = 9 → sc s k j = sc σ k j := fun j hj => by rw [← hs, sc_S, if_neg (fun z => hj z.2)]; rfl
  have js9 : sc s k 9 = P + 1 := by rw [← hs, sc_S, if_pos ⟨rfl, rfl⟩]
  obtain ⟨r1, r2, r3, r4⟩ := hRR
  refine RK.of5 (hR.gw.c hG (js 2 (by omega)) (jo 2 (by omega)) (jo 1 (by omega)) (hfar 0 (by omega) (by omega)) (fun j a b => hfar j (by omega) (by omega))) ?_ (hR.gf.c hG (js 11 (by omega)) (jo 9 (by omega)) (hfar 2 (by omega) (by omega)) (fun j a b => hfar j (by omega) (by omega))) (hR.gn.c hG (js 13 (by omega)) (jo 10 (by omega)) (hfar 3 (by omega) (by omega)) (fun j a b => hfar j (by omega) (by omega))) (RKs.c hR.st (jo 11 (by omega)) (fun j a b => hfar j (by omega) (by omega)))
  unfold RKp
  rw [ee1, js9, j3, j4, j5, j6, j7, j8, ← e1P]
  refine ⟨rfl, fun p a0 a1 => ?_, fun p j a0 a1 j0 j1 => ?_, fun p a0 a1 => ?_, fun p j a0 a1 j0 j1 => ?_, fun p a0 a1 => ?_, fun p a0 a1 => ?_, fun j a0 a1 => ?_⟩
  · by_cases c : p = m 1
    · rw [c, up_at, hnew 0 (by omega) (by omega), r1, h3]
    · rw [up_ne c, hold p 0 a0 (by omega) (by omega) (by omega)]; exact hR.ss p a0 (by omega)
  · unfold cpy
    by_cases c : p = m 1
    · subst c
      rw [hnew 0 (by omega) (by omega)] at j1
      rw [if_pos ⟨by omega, by omega⟩, show x2 + (m 1 * 3 + j - m 1 * 3) = x2 + j by omega, hnew _ (by omega) (by omega)]
      have w1 := hl_getD ha (i := j.toNat) (by omega)
      have w2 := hl_getD r2 (i := j.toNat) (by omega)
      rw [show x2 + ((j.toNat : Nat) : Int) = x2 + j by omega] at w1
      rw [show (1 : Int) + ((j.toNat : Nat) : Int) = 1 + j by omega] at w2
      rw [w1, w2]
    · have hs' := hG.wf.2.1 p a0 (by omega)
      rw [hold p 0 a0 (by omega) (by omega) (by omega)] at j1
      rw [if_neg (by omega), hold p _ a0 (by omega) (by omega) (by omega)]
      exact hR.so p j a0 (by omega) j0 j1
  · by_cases c : p = m 1
    · rw [c, up_at, hnew 4 (by omega) (by omega), r3, h6]
    · rw [up_ne c, hold p 4 a0 (by omega) (by omega) (by omega)]; exact hR.ts p a0 (by omega)
  · unfold cpy
    by_cases c : p = m 1
    · subst c
      rw [hnew 4 (by omega) (by omega)] at j1
      rw [if_pos ⟨by omega, by omega⟩, show x5 + (m 1 * 3 + j - m 1 * 3) = x5 + j by omega, hnew _ (by omega) (by omega)]
      have w1 := hl_getD hb (i := j.toNat) (by omega)
      have w2 := hl_getD r4 (i := j.toNat) (by omega)
      rw [show x5 + ((j.toNat : Nat) : Int) = x5 + j by omega] at w1
      rw [show (5 : Int) + ((j.toNat : Nat) : Int) = 5 + j by omega] at w2
      rw [w1, w2]
    · have hs' := hG.wf.2.1 p a0 (by omega)
      rw [hold p 4 a0 (by omega) (by omega) (by omega)] at j1
      rw [if_neg (by omega), hold p _ a0 (by omega) (by omega) (by omega)]
      exact hR.tt p j a0 (by omega) j0 j1
  · by_cases c : p = m 1
    · rw [c, up_at, hn8]
    · rw [up_ne c, hold p 8 a0 (by omega) (by omega) (by omega)]; exact hR.co p a0 (by omega)
  · by_cases c : p = m 1
    · rw [c, up_at, hn9]
    · rw [up_ne c, hold p 9 a0 (by omega) (by omega) (by omega)]; exact hR.go p a0 (by omega)
  · by_cases c : j = m 1
    · rw [c, up_at]; exact Or.inl rfl
    · rw [up_ne c]; exact hR.gb j a0 a1
end KN2

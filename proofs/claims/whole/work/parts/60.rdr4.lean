section RDR4
variable {g : AG} {ad : Nat → Nat} {d : Nat} {σ : SG} {m t : Int → Int} {k : Nat} {e f : Int} {new : Bool} {D : Nat → Prop}
/-- an edge, or a word -/
theorem edgeC {c : Int} {K : Int → SG → Prop} (hi : iR c) (h : CB t e k true σ f m) (hS : SR σ) (hd : 4 ≤ d)
    (hK : ∀ r s, iR r → SR s → (match pEdge t e c (sc σ 37 15) m with
      | Except.error f1 => 0 ≤ f1 ∧ ∃ m', CB t e k true s (fst1 f f1) m'
      | Except.ok (w, p, m') => r = xw w ∧ CB t e k true s f m' ∧ sc s 37 15 = p) → Fy [] [2, 15] (Dk true k) σ s → K r s) :
    Cl g ad d mX6_take 0 0 [.ref (ad 37), vi c] σ (Ki fun r2 s2 => ((r2 = 0 → Cl g ad d mX6_readWord 0 0 [.ref (ad 37)] s2 (Ki fun r3 s3 => K r3 s3)) ∧ (¬ r2 = 0 → K 40 s2))) := by
  have h0 := h.a0
  have ha1 := h.a1
  refine EI.k (c_take (d := d - 1) h hS hi (by omega)) (by omega) (fun _ hS2 => bi_zn (fun c1 => ?_) (fun c1 => ?_))
  · have hp : pEdge t e c (sc σ 37 15) m = .ok (-1) (skp t e (sc σ 37 15 + 1)) m := if_pos c1
    have hb := scn_le (b := blk t) (e := e) (p := sc σ 37 15 + 1) (by omega)
    rw [if_pos c1] at hS2 ⊢
    refine hK 40 _ (iR_lit rfl) hS2 ?_ ((Fy.refl σ).setS (by decide))
    rw [hp]
    exact ⟨rfl, h.at (by unfold skp; omega) hb.2, by simp (config := {decide := true}) only [sc_S, ia_S, la_S, rv_S, sc_I, rv_I, la_I, ia_I, sc_L, rv_L, ia_L, la_L, sc_A, rv_A, la_A, ia_A, sc_B, rv_B, ia_B, la_B, sc_R, ia_R, la_R, rv_R, ia_w, la_w, rv_w, sc_w, if_true, if_false]⟩
  · have hp : pEdge t e c (sc σ 37 15) m = pWord t e true (sc σ 37 15) m := if_neg c1
    rw [if_neg c1] at hS2 ⊢
    refine Cl.i (c_readWord (d := d - 1) h hS (by omega)) (by omega) (fun r3 s3 hr3 hS3 h3 => hK r3 s3 hr3 hS3 ?_ h3.2)
    rw [hp]
    cases hw : pWord t e true (sc σ 37 15) m with
    | error f1 =>
      have := h3.1
      rw [hw] at this
      exact ⟨pWord_bad h0 hw, m, this.2⟩
    | ok rr_ =>
      obtain ⟨w, p, m'⟩ := rr_
      have := h3.1
      rw [hw] at this
      obtain ⟨q1, q2, q3⟩ := this
      have hok := pWord_ok h.gm ha1 hw
      refine ⟨?_, q2, q3⟩
      rcases hok.2.2.1 with z | z
      · rw [q1]
        unfold cw xw
        rw [if_neg (by omega), if_neg (by omega)]
      · exact absurd z.1 (by decide)
/-- a pair as the class holds it -/
def RowD (s : SG) (i : Int) (x : RowP) : Prop := ia s 39 i = x.1 ∧ ia s 40 (i * 3) = xw x.2.1 ∧ ia s 42 (i * 3) = xw x.2.2.1 ∧ ia s 44 i = x.2.2.2 ∧ (0 ≤ x.2.2.2 ∧ x.2.2.2 ≤ 99) ∧ 0 ≤ x.1
theorem RowD_keep {s : SG} {i j : Int} {x : RowP} (h : RowD σ i x) (hs : SmE σ s j) (h0 : 0 ≤ i) (hij : ¬ i = j) : RowD s i x := by
  obtain ⟨h1, h2, h3, h4, h5, h6⟩ := h
  obtain ⟨a, b, c, e, f, gg⟩ := hs
  exact ⟨by rw [a _ (by omega)]; exact h1, by rw [b _ (by omega)]; exact h2, by rw [e _ (by omega)]; exact h3, by rw [gg _ (by omega)]; exact h4, h5, h6⟩
theorem c_readPair {p i : Int} (h : CP t e k true σ p m) (hi : 0 ≤ i ∧ i < 12) (hS : SR σ) (hd : 5 ≤ d) : Eb g ad d mX6_readPair 0 0 [.ref (ad 37), vi i] σ (Kv fun s => CX t e k true s (pPair t e p m) (fun x => RowD s i x) ∧ sc s 37 9 = i + 1 ∧ Ye (Dk true k) σ s ∧ SmE σ s i) := by
  have hik := h.1.ik
  obtain ⟨hC, e15⟩ := h
  have hp0 : 0 ≤ p := by rw [← e15]; exact hC.a0
  have ii : iR i := iR_of (by omega) (by omega)
  refine EbS rfl pl_X6 rfl rfl (bX6_readPair_0 ii hS ⟨hi, ?_⟩)
  rw [e15]
  have hC1 : CB t e k true (setI σ 39 i p) (-1) m := hC.I (Nat.le_refl _)
  have hS1 : SR (setI σ 39 i p) := SR_setI hS (iR_of (by omega) (by have := hC.eb; have := hC.a1; omega))
  have e151 : sc (setI σ 39 i p) 37 15 = p := e15
  -- the number, behind all
  have tail : ∀ (s2 s5 : SG) (r3 r6 : Int) (x : PR (Int × Int)), iR r3 → iR r6 → SR s5 → Fy [] [2, 15] (Dk true k) (setI σ 39 i p) s2 → Fy [] [2, 15] (Dk true k) (setI s2 40 (i * 3) r3) s5 → (match x with
      | Except.error f1 => 0 ≤ f1 ∧ ∃ m', CB t e k true s5 f1 m'
      | Except.ok (w, p2, m') => r3 = xw w.1 ∧ r6 = xw w.2 ∧ CB t e k true s5 (-1) m' ∧ sc s5 37 15 = p2) → (x.bind fun w p2 m2 => (pNum t e 99 p2 m2).bind fun c p3 m3 => .ok (p, w.1, w.2, c) p3 m3) = pPair t e p m →
      Cl g ad d mX6_readNumber 0 0 [.ref (ad 37), vi 99] (setI s5 42 (i * 3) r6) (Ki fun r7 s7 => iR (i + 1) ∧ (SR (setS (setI s7 44 i r7) 37 9 (i + 1)) → (Kv fun s => CX t e k true s (pPair t e p m) (fun x => RowD s i x) ∧ sc s 37 9 = i + 1 ∧ Ye (Dk true k) σ s ∧ SmE σ s i) (.inl none) (setS (setI s7 44 i r7) 37 9 (i + 1)))) := by
    intro s2 s5 r3 r6 x ir3 ir6 hS5 hF2 hF5 hx hv
    have hS5' : SR (setI s5 42 (i * 3) r6) := SR_setI hS5 ir6
    have fin : ∀ (s7 : SG) (r7 : Int), Fy [] [2, 15] (Dk true k) (setI s5 42 (i * 3) r6) s7 → Ye (Dk true k) σ (setS (setI s7 44 i r7) 37 9 (i + 1)) ∧ SmE σ (setS (setI s7 44 i r7) 37 9 (i + 1)) i ∧ ia (setS (setI s7 44 i r7) 37 9 (i + 1)) 39 i = p ∧ ia (setS (setI s7 44 i r7) 37 9 (i + 1)) 40 (i * 3) = r3 ∧ ia (setS (setI s7 44 i r7) 37 9 (i + 1)) 42 (i * 3) = r6 := by
      intro s7 r7 hF7
      have q7 : ∀ c, 37 ≤ c → ia s7 c = ia (setI s5 42 (i * 3) r6) c := fun c hc => hF7.a hik c hc (fun z => by cases z)
      have q5 : ∀ c, 37 ≤ c → ia s5 c = ia (setI s2 40 (i * 3) r3) c := fun c hc => hF5.a hik c hc (fun z => by cases z)
      have q2 : ∀ c, 37 ≤ c → ia s2 c = ia (setI σ 39 i p) c := fun c hc => hF2.a hik c hc (fun z => by cases z)
      have b39 : ia (setS (setI s7 44 i r7) 37 9 (i + 1)) 39 = up (ia σ 39) i p := by
        simp (config := {decide := true}) only [sc_S, ia_S, la_S, rv_S, sc_I, rv_I, la_I, ia_I, sc_L, rv_L, ia_L, la_L, sc_A, rv_A, la_A, ia_A, sc_B, rv_B, ia_B, la_B, sc_R, ia_R, la_R, rv_R, ia_w, la_w, rv_w, sc_w, if_true, if_false]; rw [q7 39 (by omega)]; simp (config := {decide := true}) only [sc_S, ia_S, la_S, rv_S, sc_I, rv_I, la_I, ia_I, sc_L, rv_L, ia_L, la_L, sc_A, rv_A, la_A, ia_A, sc_B, rv_B, ia_B, la_B, sc_R, ia_R, la_R, rv_R, ia_w, la_w, rv_w, sc_w, if_true, if_false]; rw [q5 39 (by omega)]; simp (config := {decide := true}) only [sc_S, ia_S, la_S, rv_S, sc_I, rv_I, la_I, ia_I, sc_L, rv_L, ia_L, la_L, sc_A, rv_A, la_A, ia_A, sc_B, rv_B, ia_B, la_B, sc_R, ia_R, la_R, rv_R, ia_w, la_w, rv_w, sc_w, if_true, if_false]; rw [q2 39 (by omega)]; simp (config := {decide := true}) only [sc_S, ia_S, la_S, rv_S, sc_I, rv_I, la_I, ia_I, sc_L, rv_L, ia_L, la_L, sc_A, rv_A, la_A, ia_A, sc_B, rv_B, ia_B, la_B, sc_R, ia_R, la_R, rv_R, ia_w, la_w, rv_w, sc_w, if_true, if_false]
      have b40 : ia (setS (setI s7 44 i r7) 37 9 (i + 1)) 40 = up (ia σ 40) (i * 3) r3 := by
        simp (config := {decide := true}) only [sc_S, ia_S, la_S, rv_S, sc_I, rv_I, la_I, ia_I, sc_L, rv_L, ia_L, la_L, sc_A, rv_A, la_A, ia_A, sc_B, rv_B, ia_B, la_B, sc_R, ia_R, la_R, rv_R, ia_w, la_w, rv_w, sc_w, if_true, if_false]; rw [q7 40 (by omega)]; simp (config := {decide := true}) only [sc_S, ia_S, la_S, rv_S, sc_I, rv_I, la_I, ia_I, sc_L, rv_L, ia_L, la_L, sc_A, rv_A, la_A, ia_A, sc_B, rv_B, ia_B, la_B, sc_R, ia_R, la_R, rv_R, ia_w, la_w, rv_w, sc_w, if_true, if_false]; rw [q5 40 (by omega)]; simp (config := {decide := true}) only [sc_S, ia_S, la_S, rv_S, sc_I, rv_I, la_I, ia_I, sc_L, rv_L, ia_L, la_L, sc_A, rv_A, la_A, ia_A, sc_B, rv_B, ia_B, la_B, sc_R, ia_R, la_R, rv_R, ia_w, la_w, rv_w, sc_w, if_true, if_false]; rw [q2 40 (by omega)]; simp (config := {decide := true}) only [sc_S, ia_S, la_S, rv_S, sc_I, rv_I, la_I, ia_I, sc_L, rv_L, ia_L, la_L, sc_A, rv_A, la_A, ia_A, sc_B, rv_B, ia_B, la_B, sc_R, ia_R, la_R, rv_R, ia_w, la_w, rv_w, sc_w, if_true, if_false]
      have b41 : ia (setS (setI s7 44 i r7) 37 9 (i + 1)) 41 = ia σ 41 := by
        simp (config := {decide := true}) only [sc_S, ia_S, la_S, rv_S, sc_I, rv_I, la_I, ia_I, sc_L, rv_L, ia_L, la_L, sc_A, rv_A, la_A, ia_A, sc_B, rv_B, ia_B, la_B, sc_R, ia_R, la_R, rv_R, ia_w, la_w, rv_w, sc_w, if_true, if_false]; rw [q7 41 (by omega)]; simp (config := {decide := true}) only [sc_S, ia_S, la_S, rv_S, sc_I, rv_I, la_I, ia_I, sc_L, rv_L, ia_L, la_L, sc_A, rv_A, la_A, ia_A, sc_B, rv_B, ia_B, la_B, sc_R, ia_R, la_R, rv_R, ia_w, la_w, rv_w, sc_w, if_true, if_false]; rw [q5 41 (by omega)]; simp (config := {decide := true}) only [sc_S, ia_S, la_S, rv_S, sc_I, rv_I, la_I, ia_I, sc_L, rv_L, ia_L, la_L, sc_A, rv_A, la_A, ia_A, sc_B, rv_B, ia_B, la_B, sc_R, ia_R, la_R, rv_R, ia_w, la_w, rv_w, sc_w, if_true, if_false]; rw [q2 41 (by omega)]; simp (config := {decide := true}) only [sc_S, ia_S, la_S, rv_S, sc_I, rv_I, la_I, ia_I, sc_L, rv_L, ia_L, la_L, sc_A, rv_A, la_A, ia_A, sc_B, rv_B, ia_B, la_B, sc_R, ia_R, la_R, rv_R, ia_w, la_w, rv_w, sc_w, if_true, if_false]
      have b42 : ia (setS (setI s7 44 i r7) 37 9 (i + 1)) 42 = up (ia σ 42) (i * 3) r6 := by
        simp (config := {decide := true}) only [sc_S, ia_S, la_S, rv_S, sc_I, rv_I, la_I, ia_I, sc_L, rv_L, ia_L, la_L, sc_A, rv_A, la_A, ia_A, sc_B, rv_B, ia_B, la_B, sc_R, ia_R, la_R, rv_R, ia_w, la_w, rv_w, sc_w, if_true, if_false]; rw [q7 42 (by omega)]; simp (config := {decide := true}) only [sc_S, ia_S, la_S, rv_S, sc_I, rv_I, la_I, ia_I, sc_L, rv_L, ia_L, la_L, sc_A, rv_A, la_A, ia_A, sc_B, rv_B, ia_B, la_B, sc_R, ia_R, la_R, rv_R, ia_w, la_w, rv_w, sc_w, if_true, if_false]; rw [q5 42 (by omega)]; simp (config := {decide := true}) only [sc_S, ia_S, la_S, rv_S, sc_I, rv_I, la_I, ia_I, sc_L, rv_L, ia_L, la_L, sc_A, rv_A, la_A, ia_A, sc_B, rv_B, ia_B, la_B, sc_R, ia_R, la_R, rv_R, ia_w, la_w, rv_w, sc_w, if_true, if_false]; rw [q2 42 (by omega)]; simp (config := {decide := true}) only [sc_S, ia_S, la_S, rv_S, sc_I, rv_I, la_I, ia_I, sc_L, rv_L, ia_L, la_L, sc_A, rv_A, la_A, ia_A, sc_B, rv_B, ia_B, la_B, sc_R, ia_R, la_R, rv_R, ia_w, la_w, rv_w, sc_w, if_true, if_false]
      have b43 : ia (setS (setI s7 44 i r7) 37 9 (i + 1)) 43 = ia σ 43 := by
        simp (config := {decide := true}) only [sc_S, ia_S, la_S, rv_S, sc_I, rv_I, la_I, ia_I, sc_L, rv_L, ia_L, la_L, sc_A, rv_A, la_A, ia_A, sc_B, rv_B, ia_B, la_B, sc_R, ia_R, la_R, rv_R, ia_w, la_w, rv_w, sc_w, if_true, if_false]; rw [q7 43 (by omega)]; simp (config := {decide := true}) only [sc_S, ia_S, la_S, rv_S, sc_I, rv_I, la_I, ia_I, sc_L, rv_L, ia_L, la_L, sc_A, rv_A, la_A, ia_A, sc_B, rv_B, ia_B, la_B, sc_R, ia_R, la_R, rv_R, ia_w, la_w, rv_w, sc_w, if_true, if_false]; rw [q5 43 (by omega)]; simp (config := {decide := true}) only [sc_S, ia_S, la_S, rv_S, sc_I, rv_I, la_I, ia_I, sc_L, rv_L, ia_L, la_L, sc_A, rv_A, la_A, ia_A, sc_B, rv_B, ia_B, la_B, sc_R, ia_R, la_R, rv_R, ia_w, la_w, rv_w, sc_w, if_true, if_false]; rw [q2 43 (by omega)]; simp (config := {decide := true}) only [sc_S, ia_S, la_S, rv_S, sc_I, rv_I, la_I, ia_I, sc_L, rv_L, ia_L, la_L, sc_A, rv_A, la_A, ia_A, sc_B, rv_B, ia_B, la_B, sc_R, ia_R, la_R, rv_R, ia_w, la_w, rv_w, sc_w, if_true, if_false]
      have b44 : ia (setS (setI s7 44 i r7) 37 9 (i + 1)) 44 = up (ia σ 44) i r7 := by
        simp (config := {decide := true}) only [sc_S, ia_S, la_S, rv_S, sc_I, rv_I, la_I, ia_I, sc_L, rv_L, ia_L, la_L, sc_A, rv_A, la_A, ia_A, sc_B, rv_B, ia_B, la_B, sc_R, ia_R, la_R, rv_R, ia_w, la_w, rv_w, sc_w, if_true, if_false]; rw [q7 44 (by omega)]; simp (config := {decide := true}) only [sc_S, ia_S, la_S, rv_S, sc_I, rv_I, la_I, ia_I, sc_L, rv_L, ia_L, la_L, sc_A, rv_A, la_A, ia_A, sc_B, rv_B, ia_B, la_B, sc_R, ia_R, la_R, rv_R, ia_w, la_w, rv_w, sc_w, if_true, if_false]; rw [q5 44 (by omega)]; simp (config := {decide := true}) only [sc_S, ia_S, la_S, rv_S, sc_I, rv_I, la_I, ia_I, sc_L, rv_L, ia_L, la_L, sc_A, rv_A, la_A, ia_A, sc_B, rv_B, ia_B, la_B, sc_R, ia_R, la_R, rv_R, ia_w, la_w, rv_w, sc_w, if_true, if_false]; rw [q2 44 (by omega)]; simp (config := {decide := true}) only [sc_S, ia_S, la_S, rv_S, sc_I, rv_I, la_I, ia_I, sc_L, rv_L, ia_L, la_L, sc_A, rv_A, la_A, ia_A, sc_B, rv_B, ia_B, la_B, sc_R, ia_R, la_R, rv_R, ia_w, la_w, rv_w, sc_w, if_true, if_false]
      have g1 : Ye (Dk true k) σ (setI σ 39 i p) := (Fy.refl σ).setI (by decide)
      have g2 : Ye (Dk true k) σ (setI s2 40 (i * 3) r3) := (g1.trans (hF2.mono (by decide) (by decide))).setI (by decide)
      have g5 : Ye (Dk true k) σ (setI s5 42 (i * 3) r6) := (g2.trans (hF5.mono (by decide) (by decide))).setI (by decide)
      refine ⟨((g5.trans (hF7.mono (by decide) (by decide))).setI (by decide)).setS (by decide), ⟨?_, ?_, ?_, ?_, ?_, ?_⟩, ?_, ?_, ?_⟩
      · rw [b39]; exact Sm.refl.up (by omega)
      · rw [b40]; exact Sm.refl.up (by omega)
      · rw [b41]; exact Sm.refl
      · rw [b42]; exact Sm.refl.up (by omega)
      · rw [b43]; exact Sm.refl
      · rw [b44]; exact Sm.refl.up (by omega)
      · rw [b39, up_at]
      · rw [b40, up_at]
      · rw [b42, up_at]
    cases x with
    | error f1 =>
      obtain ⟨hf1, m', hC5⟩ := hx
      have hv' : pPair t e p m = .bad f1 := hv.symm
      refine Cl.i (c_readNumber_bad (d := d - 1) (D := Dk true k) (hC5.I (c := 42) (by decide)) hf1 hS5' (iR_lit rfl) (by omega)) (by omega) (fun r7 s7 hr7 hS7 h7 => ⟨iR_of (by omega) (by omega), re_v ?_⟩)
      obtain ⟨c1, c2, -⟩ := fin s7 r7 h7.2
      refine ⟨?_, by simp (config := {decide := true}) only [sc_S, ia_S, la_S, rv_S, sc_I, rv_I, la_I, ia_I, sc_L, rv_L, ia_L, la_L, sc_A, rv_A, la_A, ia_A, sc_B, rv_B, ia_B, la_B, sc_R, ia_R, la_R, rv_R, ia_w, la_w, rv_w, sc_w, if_true, if_false], c1, c2⟩
      rw [hv']
      exact ⟨⟨m', (h7.1.I (c := 44) (by decide)).S rfl⟩, hf1⟩
    | ok rr_ =>
      obtain ⟨w, p2, m2⟩ := rr_
      obtain ⟨hw1, hw2, hC5, e155⟩ := hx
      have hv' : ((pNum t e 99 p2 m2).bind fun c p3 m3 => .ok (p, w.1, w.2, c) p3 m3) = pPair t e p m := hv
      have hp20 : 0 ≤ p2 := by rw [← e155]; exact hC5.a0
      refine Cl.i (c_readNumber (d := d - 1) (D := Dk true k) (hC5.I (c := 42) (j := i * 3) (v := r6) (by decide)) hS5' (iR_lit rfl) (by omega)) (by omega) (fun r7 s7 hr7 hS7 h7 => ⟨iR_of (by omega) (by omega), re_v ?_⟩)
      obtain ⟨hX7, hF7⟩ := h7
      rw [show sc (setI s5 42 (i * 3) r6) 37 15 = p2 from e155] at hX7
      obtain ⟨c1, c2, c3, c4, c5⟩ := fin s7 r7 hF7
      refine ⟨?_, by simp (config := {decide := true}) only [sc_S, ia_S, la_S, rv_S, sc_I, rv_I, la_I, ia_I, sc_L, rv_L, ia_L, la_L, sc_A, rv_A, la_A, ia_A, sc_B, rv_B, ia_B, la_B, sc_R, ia_R, la_R, rv_R, ia_w, la_w, rv_w, sc_w, if_true, if_false], c1, c2⟩
      cases hp4 : pNum t e 99 p2 m2 with
      | error f1 =>
        rw [hp4] at hX7 hv'
        have hv'' : pPair t e p m = .bad f1 := hv'.symm
        rw [hv'']
        exact ⟨⟨m2, (hX7.2.I (c := 44) (by decide)).S rfl⟩, pNum_bad hp20 hp4⟩
      | ok rr_ =>
        obtain ⟨c, p4, m4⟩ := rr_
        rw [hp4] at hX7 hv'
        obtain ⟨hr7', hcb, hC7, em4, e157⟩ := hX7
        have hv'' : pPair t e p m = .ok (p, w.1, w.2, c) p4 m4 := hv'.symm
        rw [hv'']
        refine ⟨⟨(hC7.I (c := 44) (by decide)).S rfl, by simp (config := {decide := true}) only [sc_S, ia_S, la_S, rv_S, sc_I, rv_I, la_I, ia_I, sc_L, rv_L, ia_L, la_L, sc_A, rv_A, la_A, ia_A, sc_B, rv_B, ia_B, la_B, sc_R, ia_R, la_R, rv_R, ia_w, la_w, rv_w, sc_w, if_true, if_false]; exact e157⟩, c3, by rw [c4]; exact hw1, by rw [c5]; exact hw2, ?_, hcb, hp0⟩
        simp (config := {decide := true}) only [sc_S, ia_S, la_S, rv_S, sc_I, rv_I, la_I, ia_I, sc_L, rv_L, ia_L, la_L, sc_A, rv_A, la_A, ia_A, sc_B, rv_B, ia_B, la_B, sc_R, ia_R, la_R, rv_R, ia_w, la_w, rv_w, sc_w, if_true, if_false]
        rw [up_at]
        exact hr7'
  refine edgeC (iR_lit rfl) hC1 hS1 (by omega) (fun r3 s3 hr3 hS3 hX3 hF3 => ⟨⟨by omega, by omega⟩, ?_⟩)
  rw [e151] at hX3
  have hS3' : SR (setI s3 40 (i * 3) r3) := SR_setI hS3 hr3
  cases hp1 : pEdge t e 94 p m with
  | error f1 =>
    rw [hp1] at hX3
    obtain ⟨hf1, m', hC3⟩ := hX3
    rw [show fst1 (-1) f1 = f1 from if_pos rfl] at hC3
    have hv : pPair t e p m = .bad f1 := by unfold pPair; rw [hp1]; rfl
    refine edgeC (iR_lit rfl) (hC3.I (c := 40) (j := i * 3) (v := r3) (by decide)) hS3' (by omega) (fun r6 s6 hr6 hS6 hX6 hF6 => ?_)
    refine tail s3 s6 r3 r6 (PR.bad f1) hr3 hr6 hS6 hF3 hF6 ⟨hf1, ?_⟩ (by rw [hv]; rfl)
    cases hp2 : pEdge t e 36 (sc (setI s3 40 (i * 3) r3) 37 15) m' with
    | error f2 =>
      rw [hp2] at hX6
      obtain ⟨-, m6, hC6⟩ := hX6
      rw [fst1_bad hf1] at hC6
      exact ⟨m6, hC6⟩
    | ok rr_ =>
      obtain ⟨w, p6, m6⟩ := rr_
      rw [hp2] at hX6
      exact ⟨m6, hX6.2.1⟩
  | ok rr_ =>
    obtain ⟨a, p1, m1⟩ := rr_
    rw [hp1] at hX3
    obtain ⟨hr3', hC3, e153⟩ := hX3
    refine edgeC (iR_lit rfl) (hC3.I (c := 40) (j := i * 3) (v := r3) (by decide)) hS3' (by omega) (fun r6 s6 hr6 hS6 hX6 hF6 => ?_)
    rw [show sc (setI s3 40 (i * 3) r3) 37 15 = p1 from e153] at hX6
    have hv : pPair t e p m = (pEdge t e 36 p1 m1).bind fun b p2 m2 => (pNum t e 99 p2 m2).bind fun c p3 m3 => .ok (p, a, b, c) p3 m3 := by unfold pPair; rw [hp1]; rfl
    cases hp2 : pEdge t e 36 p1 m1 with
    | error f2 =>
      rw [hp2] at hX6 hv
      obtain ⟨hf2, m6, hC6⟩ := hX6
      rw [show fst1 (-1) f2 = f2 from if_pos rfl] at hC6
      exact tail s3 s6 r3 r6 (PR.bad f2) hr3 hr6 hS6 hF3 hF6 ⟨hf2, m6, hC6⟩ hv.symm
    | ok rr_ =>
      obtain ⟨b, p2, m2⟩ := rr_
      rw [hp2] at hX6 hv
      obtain ⟨hr6', hC6, e156⟩ := hX6
      exact tail s3 s6 r3 r6 (PR.ok (a, b) p2 m2) hr3 hr6 hS6 hF3 hF6 ⟨hr3', hr6', hC6, e156⟩ hv.symm
/-! one behind another -/
theorem c_goesOn_bad {i : Int} (h : CB t e k new σ f m) (hf : 0 ≤ f) (hi : iR i) (hS : SR σ) (hd : 1 ≤ d) : EI g ad d mX6_goesOn [.ref (ad 37), vi i] σ 0 σ := by
  refine EbS rfl pl_X6 rfl rfl (bX6_goesOn_0 hi hS ?_)
  refine EI.k (c_isRight (d := d - 1) hS) (by omega) (fun _ _ => bi_zn (fun c => absurd c (by rw [h.fa]; omega)) (fun c => re_i ⟨rfl, rfl⟩))
theorem c_goesOn {p i : Int} (h : CP t e k new σ p m) (hi : 0 ≤ i ∧ i < 12) (hS : SR σ) (hd : 3 ≤ d) : Eb g ad d mX6_goesOn 0 0 [.ref (ad 37), vi i] σ (Ki fun r s => (e ≤ p → r = 0 ∧ s = σ) ∧ (¬ e ≤ p → match pSign t e 59 p m with
    | Except.error f1 => r = 0 ∧ 0 ≤ f1 ∧ CB t e k new s f1 m
    | Except.ok (_, p2, m2) => m2 = m ∧ (i + 1 < 12 → r = 1 ∧ CP t e k new s p2 m) ∧ (¬ i + 1 < 12 → r = 0 ∧ 0 ≤ p2 ∧ CB t e k new s p2 m)) ∧ Fy [] [2, 15] D σ s) := by
  obtain ⟨hC, e15⟩ := h
  have hp0 : 0 ≤ p := by rw [← e15]; exact hC.a0
  have ii : iR i := iR_of (by omega) (by omega)
  refine EbS rfl pl_X6 rfl rfl (bX6_goesOn_0 ii hS ?_)
  refine EI.k (c_isRight (d := d - 1) hS) (by omega) (fun _ _ => ?_)
  rw [show bi (sc σ 37 2 = -1) = 1 from bi_t hC.fa, e15, hC.en]
  refine ⟨fun z => absurd z (by decide), fun _ => ⟨fun c1 => ?_, fun c1 => re_i ⟨fun _ => ⟨rfl, rfl⟩, fun z => absurd (by omega) z, Fy.refl σ⟩⟩⟩
  refine Cl.vo (c_expect (d := d - 1) (D := D) hC hS (iR_lit rfl) (by omega)) (by omega) (fun s2 hS2 h2 => ⟨iR_of (by omega) (by omega), fun c2 => ?_, fun c2 => ?_⟩)
  · obtain ⟨hX2, hF2⟩ := h2
    rw [e15] at hX2
    refine EI.k (c_isRight (d := d - 1) hS2) (by omega) (fun _ _ => ⟨bi_01, re_i ⟨fun z => absurd z (by omega), fun _ => ?_, hF2⟩⟩)
    cases hp : pSign t e 59 p m with
    | error f1 =>
      rw [hp] at hX2
      have hf1 := pSign_bad hp0 hp
      have hC2 : CB t e k new s2 (fst1 (-1) f1) m := hX2
      rw [show fst1 (-1) f1 = f1 from if_pos rfl] at hC2
      exact ⟨bi_f (by rw [hC2.fa]; omega), hf1, hC2⟩
    | ok rr_ =>
      obtain ⟨u, p2, m2⟩ := rr_
      rw [hp] at hX2
      obtain ⟨a, b, c⟩ := hX2
      rw [b] at a
      exact ⟨b, fun _ => ⟨bi_t a.fa, a, c⟩, fun z => absurd c2 z⟩
  · obtain ⟨hX2, hF2⟩ := h2
    rw [e15] at hX2
    refine EV.k (c_fail (d := d - 1) (SR_sc hS2 37 15) hS2) (by omega) (fun hS3 => ?_)
    refine EI.k (c_isRight (d := d - 1) hS3) (by omega) (fun _ _ => ⟨bi_01, re_i ⟨fun z => absurd z (by omega), fun _ => ?_, failY hF2 (by decide)⟩⟩)
    cases hp : pSign t e 59 p m with
    | error f1 =>
      rw [hp] at hX2
      have hf1 := pSign_bad hp0 hp
      have hC2 : CB t e k new s2 (fst1 (-1) f1) m := hX2
      rw [show fst1 (-1) f1 = f1 from if_pos rfl] at hC2
      have hC3 := hC2.fail hC2.a0
      rw [fst1_bad hf1] at hC3
      exact ⟨bi_f (by rw [hC3.fa]; omega), hf1, hC3⟩
    | ok rr_ =>
      obtain ⟨u, p2, m2⟩ := rr_
      rw [hp] at hX2
      obtain ⟨a, b, c⟩ := hX2
      rw [b] at a
      have h0 := a.a0
      have hC3 := a.fail h0
      rw [show fst1 (-1) (sc s2 37 15) = sc s2 37 15 from if_pos rfl] at hC3
      refine ⟨b, fun z => absurd z c2, fun _ => ⟨bi_f (by rw [hC3.fa]; omega), by omega, ?_⟩⟩
      rw [c] at hC3
      rw [← c] at hC3 ⊢
      exact hC3
/-- where reading begins -/
def Fz (D : Nat → Prop) (σ s : SG) : Prop := (∀ c j, ¬ (c = 37 ∧ j = 16) → rv s c j = rv σ c j) ∧ (∀ c, ¬ (37 ≤ c ∧ c ≤ 47) → ¬ D c → ia s c = ia σ c ∧ la s c = la σ c ∧ sc s c = sc σ c) ∧ ia s 38 = ia σ 38 ∧ sc s 37 1 = sc σ 37 1
theorem Fz.y {A K : List Nat} {s u : SG} (h : Fz (Dk new k) σ s) (hF : Fy A K (Dk new k) s u) (hk : isK k) (hA : A.all (fun c => decide (39 ≤ c ∧ c ≤ 47)) = true) (hK : decide (1 ∈ K) = false) : Fz (Dk new k) σ u := by
  refine ⟨fun c j hj => by rw [hF.1]; exact h.1 c j hj, fun c hc hD => ?_, ?_, ?_⟩
  · have q := h.2.1 c hc hD
    refine ⟨(hF.2.2.1 c (fun z => ?_) hD).trans q.1, (hF.2.1 c hD).trans q.2.1, ?_⟩
    · have := of_decide_eq_true (List.all_eq_true.mp hA c z)
      omega
    · funext j
      exact (hF.2.2.2 c j (fun z => by omega) hD).trans (congrFun q.2.2 j)
  · rw [hF.a hk 38 (by decide) (fun z => by have := of_decide_eq_true (List.all_eq_true.mp hA 38 z); omega)]
    exact h.2.2.1
  · rw [hF.s hk 1 (of_decide_eq_false hK)]
    exact h.2.2.2
theorem c_start (hk : isK k) (hR : RK σ k m) (hG : GM m) (et : ia σ 38 = t) (htb : ∀ j, 0 ≤ t j ∧ t j ≤ 255) (ee : sc σ 37 1 = e) (heb : 0 ≤ e ∧ e ≤ 400) (hS : SR σ) (hd : 1 ≤ d) : Eb g ad d mX6_start 0 0 [.ref (ad 37), .ref (ad k), vi (if new = true then 1 else 0)] σ (Kv fun s => CP t e k new s (skp t e 0) m ∧ sc s 37 9 = 0 ∧ sc s 37 11 = 0 ∧ sc s 37 13 = 0 ∧ (∀ c, ia s c = ia σ c) ∧ Fz (Dk new k) σ s) := by
  have hn : (if new = true then (1 : Int) else 0) = 0 ∨ (if new = true then (1 : Int) else 0) = 1 := by split <;> simp
  generalize hv : (if new = true then (1 : Int) else 0) = v at hn
  have iv := iR01 hn
  refine EbS rfl pl_X6 rfl rfl (bX6_start_0 hk iv hS ⟨hn, ?_⟩)
  have hS' : SR (setS (setS (setS (setS (setS (setS (setR σ 37 16 k) 37 17 v) 37 15 0) 37 2 (-1)) 37 9 0) 37 11 0) 37 13 0) := SR_setS (SR_setS (SR_setS (SR_setS (SR_setS (SR_setS (SR_setR hS) iv) (iR_lit rfl)) (iR_lit rfl)) (iR_lit rfl)) (iR_lit rfl)) (iR_lit rfl)
  have hC : CB t e k new (setS (setS (setS (setS (setS (setS (setR σ 37 16 k) 37 17 v) 37 15 0) 37 2 (-1)) 37 9 0) 37 11 0) 37 13 0) (-1) m := by
    refine ⟨et, htb, by simp (config := {decide := true}) only [sc_S, ia_S, la_S, rv_S, sc_I, rv_I, la_I, ia_I, sc_L, rv_L, ia_L, la_L, sc_A, rv_A, la_A, ia_A, sc_B, rv_B, ia_B, la_B, sc_R, ia_R, la_R, rv_R, ia_w, la_w, rv_w, sc_w, if_true, if_false]; exact ee, heb, by simp (config := {decide := true}) only [sc_S, ia_S, la_S, rv_S, sc_I, rv_I, la_I, ia_I, sc_L, rv_L, ia_L, la_L, sc_A, rv_A, la_A, ia_A, sc_B, rv_B, ia_B, la_B, sc_R, ia_R, la_R, rv_R, ia_w, la_w, rv_w, sc_w, if_true, if_false], by simp (config := {decide := true}) only [sc_S, ia_S, la_S, rv_S, sc_I, rv_I, la_I, ia_I, sc_L, rv_L, ia_L, la_L, sc_A, rv_A, la_A, ia_A, sc_B, rv_B, ia_B, la_B, sc_R, ia_R, la_R, rv_R, ia_w, la_w, rv_w, sc_w, if_true, if_false]; exact heb.1, by simp (config := {decide := true}) only [sc_S, ia_S, la_S, rv_S, sc_I, rv_I, la_I, ia_I, sc_L, rv_L, ia_L, la_L, sc_A, rv_A, la_A, ia_A, sc_B, rv_B, ia_B, la_B, sc_R, ia_R, la_R, rv_R, ia_w, la_w, rv_w, sc_w, if_true, if_false], by simp (config := {decide := true}) only [sc_S, ia_S, la_S, rv_S, sc_I, rv_I, la_I, ia_I, sc_L, rv_L, ia_L, la_L, sc_A, rv_A, la_A, ia_A, sc_B, rv_B, ia_B, la_B, sc_R, ia_R, la_R, rv_R, ia_w, la_w, rv_w, sc_w, if_true, if_false]; exact hv.symm, by simp (config := {decide := true}) only [sc_S, ia_S, la_S, rv_S, sc_I, rv_I, la_I, ia_I, sc_L, rv_L, ia_L, la_L, sc_A, rv_A, la_A, ia_A, sc_B, rv_B, ia_B, la_B, sc_R, ia_R, la_R, rv_R, ia_w, la_w, rv_w, sc_w, if_true, if_false], Or.inl rfl, hR.rd hk (fun _ _ => rfl) (fun c j hc => ?_), hG, hk⟩
    rw [sc_S, if_neg (by omega), sc_S, if_neg (by omega), sc_S, if_neg (by omega), sc_S, if_neg (by omega), sc_S, if_neg (by omega), sc_S, if_neg (by omega)]
    rfl
  have e15 : sc (setS (setS (setS (setS (setS (setS (setR σ 37 16 k) 37 17 v) 37 15 0) 37 2 (-1)) 37 9 0) 37 11 0) 37 13 0) 37 15 = 0 := by simp (config := {decide := true}) only [sc_S, ia_S, la_S, rv_S, sc_I, rv_I, la_I, ia_I, sc_L, rv_L, ia_L, la_L, sc_A, rv_A, la_A, ia_A, sc_B, rv_B, ia_B, la_B, sc_R, ia_R, la_R, rv_R, ia_w, la_w, rv_w, sc_w, if_true, if_false]
  refine EV.k (w_skip (d := d - 1) hC hS') (by omega) (fun _ => re_v ?_)
  have hC2 := hC.sk
  rw [e15] at hC2 ⊢
  refine ⟨⟨hC2, by simp (config := {decide := true}) only [sc_S, ia_S, la_S, rv_S, sc_I, rv_I, la_I, ia_I, sc_L, rv_L, ia_L, la_L, sc_A, rv_A, la_A, ia_A, sc_B, rv_B, ia_B, la_B, sc_R, ia_R, la_R, rv_R, ia_w, la_w, rv_w, sc_w, if_true, if_false]⟩, by simp (config := {decide := true}) only [sc_S, ia_S, la_S, rv_S, sc_I, rv_I, la_I, ia_I, sc_L, rv_L, ia_L, la_L, sc_A, rv_A, la_A, ia_A, sc_B, rv_B, ia_B, la_B, sc_R, ia_R, la_R, rv_R, ia_w, la_w, rv_w, sc_w, if_true, if_false], by simp (config := {decide := true}) only [sc_S, ia_S, la_S, rv_S, sc_I, rv_I, la_I, ia_I, sc_L, rv_L, ia_L, la_L, sc_A, rv_A, la_A, ia_A, sc_B, rv_B, ia_B, la_B, sc_R, ia_R, la_R, rv_R, ia_w, la_w, rv_w, sc_w, if_true, if_false], by simp (config := {decide := true}) only [sc_S, ia_S, la_S, rv_S, sc_I, rv_I, la_I, ia_I, sc_L, rv_L, ia_L, la_L, sc_A, rv_A, la_A, ia_A, sc_B, rv_B, ia_B, la_B, sc_R, ia_R, la_R, rv_R, ia_w, la_w, rv_w, sc_w, if_true, if_false], fun _ => rfl, fun c j hj => ?_, fun c hc _ => ⟨rfl, rfl, ?_⟩, rfl, by simp (config := {decide := true}) only [sc_S, ia_S, la_S, rv_S, sc_I, rv_I, la_I, ia_I, sc_L, rv_L, ia_L, la_L, sc_A, rv_A, la_A, ia_A, sc_B, rv_B, ia_B, la_B, sc_R, ia_R, la_R, rv_R, ia_w, la_w, rv_w, sc_w, if_true, if_false]⟩
  · show u2 (rv σ) 37 16 k c j = rv σ c j
    unfold u2
    rw [if_neg hj]
  · funext j
    rw [sc_S, if_neg (by omega), sc_S, if_neg (by omega), sc_S, if_neg (by omega), sc_S, if_neg (by omega), sc_S, if_neg (by omega), sc_S, if_neg (by omega), sc_S, if_neg (by omega)]
    rfl
def RowsC {ρ : Type} (RR : SG → Int → ρ → Prop) (s : SG) (l : List ρ) : Prop := ∀ (i : Nat) (x : ρ), l[i]? = some x → RR s i x
theorem c_readBook (hk : isK k) (hR : RK σ k m) (hG : GM m) (et : ia σ 38 = t) (htb : ∀ j, 0 ≤ t j ∧ t j ≤ 255) (ee : sc σ 37 1 = e) (heb : 0 ≤ e ∧ e ≤ 400) (hS : SR σ) (hd : 6 ≤ d) : Eb g ad d mX6_readBook 0 0 [.ref (ad 37), .ref (ad k)] σ (Kv fun s => CX t e k true s (pRds t e (pEntry t e) (skp t e 0) m) (fun l => sc s 37 9 = (l.length : Int) ∧ (l.length : Int) ≤ 12 ∧ RowsC RowC s l) ∧ Fz (Dk true k) σ s) := by
  refine EbS rfl pl_X6 rfl rfl (bX6_readBook_0 hk hS ?_)
  refine Cl.vo (c_start (d := d - 1) (new := true) hk hR hG et htb ee heb hS (by omega)) (by omega) (fun s1 hS1 h1 => ?_)
  obtain ⟨hCP, h9, -, -, hia, hFz⟩ := h1
  have e15 := hCP.2
  rw [hCP.1.en, e15]
  -- it ends
  have stop : ∀ (s : SG) (x2 x3 : Int), SR s → iR x2 → iR x3 → x2 = 0 → CX t e k true s (pRds t e (pEntry t e) (skp t e 0) m) (fun l => sc s 37 9 = (l.length : Int) ∧ (l.length : Int) ≤ 12 ∧ RowsC RowC s l) → Fz (Dk true k) σ s → aX6_readBook_25 g ad d (Kv fun s => CX t e k true s (pRds t e (pEntry t e) (skp t e 0) m) (fun l => sc s 37 9 = (l.length : Int) ∧ (l.length : Int) ≤ 12 ∧ RowsC RowC s l) ∧ Fz (Dk true k) σ s) 0 0 s x2 x3 k := by
    intro s x2 x3 hs i2 i3 hx2 hX hF
    exact bX6_readBook_25 hk i2 i3 hs ⟨fun _ => re_v ⟨hX, hF⟩, fun _ => ⟨fun _ => re_v ⟨hX, hF⟩, fun z => absurd hx2 z⟩⟩
  have key : ∀ (n : Nat) (τ : SG) (l : List Row) (p' : Int) (m' : Int → Int), l.length + n = 13 → l.length ≤ 11 → SR τ → CP t e k true τ p' m' → sc τ 37 9 = (l.length : Int) → RowsC RowC τ l → Fz (Dk true k) σ τ → pRd t e (pEntry t e) n l p' m' = pRds t e (pEntry t e) (skp t e 0) m → aX6_readBook_25 g ad d (Kv fun s => CX t e k true s (pRds t e (pEntry t e) (skp t e 0) m) (fun l => sc s 37 9 = (l.length : Int) ∧ (l.length : Int) ≤ 12 ∧ RowsC RowC s l) ∧ Fz (Dk true k) σ s) 0 0 τ 1 l.length k := by
    intro n
    induction n with
    | zero => intro τ l p' m' h1 h2; omega
    | succ n ih =>
      intro τ l p' m' hln hl11 hSt hCPt h9t hRo hFt hv
      have il : iR (l.length : Int) := iR_of (by omega) (by omega)
      have il1 : iR ((l.length : Int) + 1) := iR_of (by omega) (by omega)
      rw [pRd, if_neg (by omega)] at hv
      refine bX6_readBook_25 hk (iR_lit rfl) il hSt ⟨fun z => absurd z (by omega), fun _ => ⟨fun z => absurd z (by decide), fun _ => ?_⟩⟩
      refine Cl.vo (c_readEntry (d := d - 1) hCPt (by omega) hSt (by omega)) (by omega) (fun s2 hS2 h2 => ?_)
      obtain ⟨hX2, h92, hF2, hSm2⟩ := h2
      have hFz2 : Fz (Dk true k) σ s2 := hFt.y hF2 hk rfl rfl
      cases hpe : pEntry t e p' m' with
      | error f1 =>
        rw [hpe] at hX2 hv
        obtain ⟨⟨m2, hC2⟩, hf1⟩ := hX2
        refine EI.k (c_goesOn_bad (d := d - 1) hC2 hf1 il hS2 (by omega)) (by omega) (fun _ _ => ⟨il1, fun _ _ _ => ?_⟩)
        refine stop s2 0 _ hS2 (iR_lit rfl) il1 rfl ?_ hFz2
        have hv' : pRds t e (pEntry t e) (skp t e 0) m = .bad f1 := hv.symm
        rw [hv']
        exact ⟨⟨m2, hC2⟩, hf1⟩
      | ok rr_ =>
        obtain ⟨x, p1, m1⟩ := rr_
        rw [hpe] at hX2 hv
        obtain ⟨hCP2, hRx⟩ := hX2
        have hv' : (if e ≤ p1 then PR.ok (l ++ [x]) p1 m1 else (pSign t e 59 p1 m1).bind fun _ p2 m2 => pRd t e (pEntry t e) n (l ++ [x]) p2 m2) = pRds t e (pEntry t e) (skp t e 0) m := hv
        have elen : (l ++ [x]).length = l.length + 1 := by rw [List.length_append, List.length_singleton]
        have hRo2 : RowsC RowC s2 (l ++ [x]) := by
          intro i y hy
          by_cases ci : i < l.length
          · rw [List.getElem?_append_left ci] at hy
            exact RowC_keep (hRo i y hy) hSm2 (by omega) (by omega)
          · rw [List.getElem?_append_right (by omega)] at hy
            have hi1 : i - l.length < 1 := (List.getElem?_eq_some_iff.mp hy).1
            have hi2 : i = l.length := by omega
            subst hi2
            rw [Nat.sub_self] at hy
            have := Option.some.inj hy
            subst this
            exact hRx
        refine Cl.i (c_goesOn (d := d - 1) (D := Dk true k) hCP2 (i := (l.length : Int)) (by omega) hS2 (by omega)) (by omega) (fun r3 s3 hr3 hS3 h3 => ⟨il1, fun ir3 _ _ => ?_⟩)
        obtain ⟨hA, hB, hF3⟩ := h3
        have hFz3 : Fz (Dk true k) σ s3 := hFz2.y hF3 hk rfl rfl
        have hik := hk
        have q3 : ∀ c, 37 ≤ c → ia s3 c = ia s2 c := fun c hc => hF3.a hk c hc (fun z => by cases z)
        have hRo3 : RowsC RowC s3 (l ++ [x]) := by
          intro i y hy
          have := hRo2 i y hy
          unfold RowC at this ⊢
          rw [q3 39 (by omega), q3 40 (by omega), q3 41 (by omega), q3 42 (by omega), q3 43 (by omega), q3 44 (by omega)]
          exact this
        have h93 : sc s3 37 9 = (l.length : Int) + 1 := by rw [hF3.s hk 9 (by decide)]; exact h92
        by_cases c1 : e ≤ p1
        · rw [if_pos c1] at hv'
          obtain ⟨rfl, rfl⟩ := hA c1
          refine stop _ 0 _ hS3 (iR_lit rfl) il1 rfl ?_ hFz3
          rw [← hv']
          exact ⟨hCP2, by rw [h92, elen]; omega, by rw [elen]; omega, hRo2⟩
        · rw [if_neg c1] at hv'
          have hB' := hB c1
          cases hps : pSign t e 59 p1 m1 with
          | error f1 =>
            rw [hps] at hB' hv'
            obtain ⟨r0, hf1, hC3⟩ := hB'
            refine stop s3 r3 _ hS3 ir3 il1 r0 ?_ hFz3
            have hv'' : pRds t e (pEntry t e) (skp t e 0) m = .bad f1 := hv'.symm
            rw [hv'']
            exact ⟨⟨m1, hC3⟩, hf1⟩
          | ok rr_ =>
            obtain ⟨u, p2, m2⟩ := rr_
            rw [hps] at hB' hv'
            obtain ⟨em2, hB1, hB2⟩ := hB'
            have hv'' : pRd t e (pEntry t e) n (l ++ [x]) p2 m1 = pRds t e (pEntry t e) (skp t e 0) m := by rw [← hv', em2]; rfl
            by_cases c2 : (l.length : Int) + 1 < 12
            · obtain ⟨r1, hCP3⟩ := hB1 c2
              rw [r1]
              have := ih s3 (l ++ [x]) p2 m1 (by omega) (by omega) hS3 hCP3 (by rw [h93, elen]; omega) hRo3 hFz3 hv''
              rw [elen] at this
              exact this
            · obtain ⟨r0, hp2, hC3⟩ := hB2 c2
              refine stop s3 r3 _ hS3 ir3 il1 r0 ?_ hFz3
              have en : n = 1 := by omega
              subst en
              rw [pRd, if_pos (by rw [elen]; omega)] at hv''
              rw [← hv'']
              exact ⟨⟨m1, hC3⟩, hp2⟩
  refine ⟨fun c _ _ _ => ?_, fun c _ _ _ => ?_⟩
  · refine stop s1 0 0 hS1 (iR_lit rfl) (iR_lit rfl) rfl ?_ hFz
    have hv : pRds t e (pEntry t e) (skp t e 0) m = .ok [] (skp t e 0) m := by unfold pRds; rw [if_neg (by omega)]
    rw [hv]
    exact ⟨hCP, h9, by show ((0 : Nat) : Int) ≤ 12; omega, fun i x hx => by cases hx⟩
  · refine key 13 s1 [] (skp t e 0) m rfl (Nat.zero_le _) hS1 hCP h9 (fun i x hx => by cases hx) hFz ?_
    unfold pRds
    rw [if_pos (by omega)]
theorem c_readFluency (hk : isK k) (hR : RK σ k m) (hG : GM m) (et : ia σ 38 = t) (htb : ∀ j, 0 ≤ t j ∧ t j ≤ 255) (ee : sc σ 37 1 = e) (heb : 0 ≤ e ∧ e ≤ 400) (hS : SR σ) (hd : 6 ≤ d) : Eb g ad d mX6_readFluency 0 0 [.ref (ad 37), .ref (ad k)] σ (Kv fun s => CX t e k true s (pRds t e (pPair t e) (skp t e 0) m) (fun l => sc s 37 9 = (l.length : Int) ∧ (l.length : Int) ≤ 12 ∧ RowsC RowD s l) ∧ Fz (Dk true k) σ s) := by
  refine EbS rfl pl_X6 rfl rfl (bX6_readFluency_0 hk hS ?_)
  refine Cl.vo (c_start (d := d - 1) (new := true) hk hR hG et htb ee heb hS (by omega)) (by omega) (fun s1 hS1 h1 => ?_)
  obtain ⟨hCP, h9, -, -, hia, hFz⟩ := h1
  have e15 := hCP.2
  rw [hCP.1.en, e15]
  -- it ends
  have stop : ∀ (s : SG) (x2 x3 : Int), SR s → iR x2 → iR x3 → x2 = 0 → CX t e k true s (pRds t e (pPair t e) (skp t e 0) m) (fun l => sc s 37 9 = (l.length : Int) ∧ (l.length : Int) ≤ 12 ∧ RowsC RowD s l) → Fz (Dk true k) σ s → aX6_readFluency_25 g ad d (Kv fun s => CX t e k true s (pRds t e (pPair t e) (skp t e 0) m) (fun l => sc s 37 9 = (l.length : Int) ∧ (l.length : Int) ≤ 12 ∧ RowsC RowD s l) ∧ Fz (Dk true k) σ s) 0 0 s x2 x3 k := by
    intro s x2 x3 hs i2 i3 hx2 hX hF
    exact bX6_readFluency_25 hk i2 i3 hs ⟨fun _ => re_v ⟨hX, hF⟩, fun _ => ⟨fun _ => re_v ⟨hX, hF⟩, fun z => absurd hx2 z⟩⟩
  have key : ∀ (n : Nat) (τ : SG) (l : List RowP) (p' : Int) (m' : Int → Int), l.length + n = 13 → l.length ≤ 11 → SR τ → CP t e k true τ p' m' → sc τ 37 9 = (l.length : Int) → RowsC RowD τ l → Fz (Dk true k) σ τ → pRd t e (pPair t e) n l p' m' = pRds t e (pPair t e) (skp t e 0) m → aX6_readFluency_25 g ad d (Kv fun s => CX t e k true s (pRds t e (pPair t e) (skp t e 0) m) (fun l => sc s 37 9 = (l.length : Int) ∧ (l.length : Int) ≤ 12 ∧ RowsC RowD s l) ∧ Fz (Dk true k) σ s) 0 0 τ 1 l.length k := by
    intro n
    induction n with
    | zero => intro τ l p' m' h1 h2; omega
    | succ n ih =>
      intro τ l p' m' hln hl11 hSt hCPt h9t hRo hFt hv
      have il : iR (l.length : Int) := iR_of (by omega) (by omega)
      have il1 : iR ((l.length : Int) + 1) := iR_of (by omega) (by omega)
      rw [pRd, if_neg (by omega)] at hv
      refine bX6_readFluency_25 hk (iR_lit rfl) il hSt ⟨fun z => absurd z (by omega), fun _ => ⟨fun z => absurd z (by decide), fun _ => ?_⟩⟩
      refine Cl.vo (c_readPair (d := d - 1) hCPt (by omega) hSt (by omega)) (by omega) (fun s2 hS2 h2 => ?_)
      obtain ⟨hX2, h92, hF2, hSm2⟩ := h2
      have hFz2 : Fz (Dk true k) σ s2 := hFt.y hF2 hk rfl rfl
      cases hpe : pPair t e p' m' with
      | error f1 =>
        rw [hpe] at hX2 hv
        obtain ⟨⟨m2, hC2⟩, hf1⟩ := hX2
        refine EI.k (c_goesOn_bad (d := d - 1) hC2 hf1 il hS2 (by omega)) (by omega) (fun _ _ => ⟨il1, fun _ _ _ => ?_⟩)
        refine stop s2 0 _ hS2 (iR_lit rfl) il1 rfl ?_ hFz2
        have hv' : pRds t e (pPair t e) (skp t e 0) m = .bad f1 := hv.symm
        rw [hv']
        exact ⟨⟨m2, hC2⟩, hf1⟩
      | ok rr_ =>
        obtain ⟨x, p1, m1⟩ := rr_
        rw [hpe] at hX2 hv
        obtain ⟨hCP2, hRx⟩ := hX2
        have hv' : (if e ≤ p1 then PR.ok (l ++ [x]) p1 m1 else (pSign t e 59 p1 m1).bind fun _ p2 m2 => pRd t e (pPair t e) n (l ++ [x]) p2 m2) = pRds t e (pPair t e) (skp t e 0) m := hv
        have elen : (l ++ [x]).length = l.length + 1 := by rw [List.length_append, List.length_singleton]
        have hRo2 : RowsC RowD s2 (l ++ [x]) := by
          intro i y hy
          by_cases ci : i < l.length
          · rw [List.getElem?_append_left ci] at hy
            exact RowD_keep (hRo i y hy) hSm2 (by omega) (by omega)
          · rw [List.getElem?_append_right (by omega)] at hy
            have hi1 : i - l.length < 1 := (List.getElem?_eq_some_iff.mp hy).1
            have hi2 : i = l.length := by omega
            subst hi2
            rw [Nat.sub_self] at hy
            have := Option.some.inj hy
            subst this
            exact hRx
        refine Cl.i (c_goesOn (d := d - 1) (D := Dk true k) hCP2 (i := (l.length : Int)) (by omega) hS2 (by omega)) (by omega) (fun r3 s3 hr3 hS3 h3 => ⟨il1, fun ir3 _ _ => ?_⟩)
        obtain ⟨hA, hB, hF3⟩ := h3
        have hFz3 : Fz (Dk true k) σ s3 := hFz2.y hF3 hk rfl rfl
        have hik := hk
        have q3 : ∀ c, 37 ≤ c → ia s3 c = ia s2 c := fun c hc => hF3.a hk c hc (fun z => by cases z)
        have hRo3 : RowsC RowD s3 (l ++ [x]) := by
          intro i y hy
          have := hRo2 i y hy
          unfold RowD at this ⊢
          rw [q3 39 (by omega), q3 40 (by omega), q3 42 (by omega), q3 44 (by omega)]
          exact this
        have h93 : sc s3 37 9 = (l.length : Int) + 1 := by rw [hF3.s hk 9 (by decide)]; exact h92
        by_cases c1 : e ≤ p1
        · rw [if_pos c1] at hv'
          obtain ⟨rfl, rfl⟩ := hA c1
          refine stop _ 0 _ hS3 (iR_lit rfl) il1 rfl ?_ hFz3
          rw [← hv']
          exact ⟨hCP2, by rw [h92, elen]; omega, by rw [elen]; omega, hRo2⟩
        · rw [if_neg c1] at hv'
          have hB' := hB c1
          cases hps : pSign t e 59 p1 m1 with
          | error f1 =>
            rw [hps] at hB' hv'
            obtain ⟨r0, hf1, hC3⟩ := hB'
            refine stop s3 r3 _ hS3 ir3 il1 r0 ?_ hFz3
            have hv'' : pRds t e (pPair t e) (skp t e 0) m = .bad f1 := hv'.symm
            rw [hv'']
            exact ⟨⟨m1, hC3⟩, hf1⟩
          | ok rr_ =>
            obtain ⟨u, p2, m2⟩ := rr_
            rw [hps] at hB' hv'
            obtain ⟨em2, hB1, hB2⟩ := hB'
            have hv'' : pRd t e (pPair t e) n (l ++ [x]) p2 m1 = pRds t e (pPair t e) (skp t e 0) m := by rw [← hv', em2]; rfl
            by_cases c2 : (l.length : Int) + 1 < 12
            · obtain ⟨r1, hCP3⟩ := hB1 c2
              rw [r1]
              have := ih s3 (l ++ [x]) p2 m1 (by omega) (by omega) hS3 hCP3 (by rw [h93, elen]; omega) hRo3 hFz3 hv''
              rw [elen] at this
              exact this
            · obtain ⟨r0, hp2, hC3⟩ := hB2 c2
              refine stop s3 r3 _ hS3 ir3 il1 r0 ?_ hFz3
              have en : n = 1 := by omega
              subst en
              rw [pRd, if_pos (by rw [elen]; omega)] at hv''
              rw [← hv'']
              exact ⟨⟨m1, hC3⟩, hp2⟩
  refine ⟨fun c _ _ _ => ?_, fun c _ _ _ => ?_⟩
  · refine stop s1 0 0 hS1 (iR_lit rfl) (iR_lit rfl) rfl ?_ hFz
    have hv : pRds t e (pPair t e) (skp t e 0) m = .ok [] (skp t e 0) m := by unfold pRds; rw [if_neg (by omega)]
    rw [hv]
    exact ⟨hCP, h9, by show ((0 : Nat) : Int) ≤ 12; omega, fun i x hx => by cases hx⟩
  · refine key 13 s1 [] (skp t e 0) m rfl (Nat.zero_le _) hS1 hCP h9 (fun i x hx => by cases hx) hFz ?_
    unfold pRds
    rw [if_pos (by omega)]
end RDR4

section RDR3
variable {g : AG} {ad : Nat → Nat} {d : Nat} {σ : SG} {m t : Int → Int} {k : Nat} {e f : Int} {new : Bool} {D : Nat → Prop}
theorem pl_J6 : plainName RJ6 = true := by decide +kernel
theorem pl_J7 : plainName RJ7 = true := by decide +kernel
theorem j_min {x0 x1 : Int} (h0 : iR x0) (h1 : iR x1) (hS : SR σ) : EI g ad d mJ9_min_7cf53 [vi x0, vi x1] σ (min x0 x1) σ :=
  EbF rfl pf_min rfl rfl (bJ9_min_7cf53_0 h0 h1 hS ⟨fun c => re_i ⟨by omega, rfl⟩, fun c => re_i ⟨by omega, rfl⟩⟩)
theorem j_max {x0 x1 : Int} (h0 : iR x0) (h1 : iR x1) (hS : SR σ) : EI g ad d mJ9_max_7cf53 [vi x0, vi x1] σ (max x0 x1) σ :=
  EbF rfl pf_max rfl rfl (bJ9_max_7cf53_0 h0 h1 hS ⟨fun c => re_i ⟨by omega, rfl⟩, fun c => re_i ⟨by omega, rfl⟩⟩)
theorem j_abs {a b : Int} (ha : 0 ≤ a ∧ a ≤ 100) (hb : 0 ≤ b ∧ b ≤ 100) (hS : SR σ) : EI g ad d mJ9_abs_0f7a4 [vi (a - b)] σ (apB a b) σ := by
  unfold apB
  refine EbF rfl pf_abs rfl rfl (bJ9_abs_0f7a4_0 (iR_of (by omega) (by omega)) hS ⟨fun c => re_i ⟨by rw [if_neg (by omega)], rfl⟩, fun c => ⟨iR_of (by omega) (by omega), re_i ⟨by rw [if_pos (by omega)]; omega, rfl⟩⟩⟩)
def bcF (x0 : Int) : Int := bAnd (((bAnd (((bAnd (x0 - (bAnd (bUshr x0 1) 1431655765)) 858993459) + (bAnd (bUshr (x0 - (bAnd (bUshr x0 1) 1431655765)) 2) 858993459)) + (bUshr ((bAnd (x0 - (bAnd (bUshr x0 1) 1431655765)) 858993459) + (bAnd (bUshr (x0 - (bAnd (bUshr x0 1) 1431655765)) 2) 858993459)) 4)) 252645135) + (bUshr (bAnd (((bAnd (x0 - (bAnd (bUshr x0 1) 1431655765)) 858993459) + (bAnd (bUshr (x0 - (bAnd (bUshr x0 1) 1431655765)) 2) 858993459)) + (bUshr ((bAnd (x0 - (bAnd (bUshr x0 1) 1431655765)) 858993459) + (bAnd (bUshr (x0 - (bAnd (bUshr x0 1) 1431655765)) 2) 858993459)) 4)) 252645135) 8)) + (bUshr ((bAnd (((bAnd (x0 - (bAnd (bUshr x0 1) 1431655765)) 858993459) + (bAnd (bUshr (x0 - (bAnd (bUshr x0 1) 1431655765)) 2) 858993459)) + (bUshr ((bAnd (x0 - (bAnd (bUshr x0 1) 1431655765)) 858993459) + (bAnd (bUshr (x0 - (bAnd (bUshr x0 1) 1431655765)) 2) 858993459)) 4)) 252645135) + (bUshr (bAnd (((bAnd (x0 - (bAnd (bUshr x0 1) 1431655765)) 858993459) + (bAnd (bUshr (x0 - (bAnd (bUshr x0 1) 1431655765)) 2) 858993459)) + (bUshr ((bAnd (x0 - (bAnd (bUshr x0 1) 1431655765)) 858993459) + (bAnd (bUshr (x0 - (bAnd (bUshr x0 1) 1431655765)) 2) 858993459)) 4)) 252645135) 8)) 16)) 63
theorem bcF_all : ∀ a : Fin 64, bcF (a.val : Int) = (pc (a.val : Int) : Int) := by decide +kernel
theorem j_bitCount {x0 : Int} (h : 0 ≤ x0 ∧ x0 ≤ 63) (hS : SR σ) : EI g ad d mJ6_bitCount_0f7a4 [vi x0] σ (pc x0) σ := by
  have e : bcF x0 = (pc x0 : Int) := st64 (P := fun a _ => bcF a = (pc a : Int)) (fun a _ => bcF_all a) h h
  refine EbS rfl pl_J6 rfl rfl (bJ6_bitCount_0f7a4_0 (iR_of (by omega) (by omega)) hS ?_)
  exact re_i ⟨e, rfl⟩
/-- a row filled with a number -/
def fil (f : Int → Int) (n : Nat) (v : Int) : Int → Int := fun j => if 0 ≤ j ∧ j < n then v else f j
theorem j_fill {x1 : Int} {c0 n0 : Nat} (hc : aI c0 n0) (h1 : iR x1) (hn : n0 < 100000) (hS : SR σ) : EV g ad d mJ7_fill_53178 [.ref (ad c0), vi x1] σ (setA σ c0 (fil (ia σ c0) n0 x1)) := by
  refine EbS rfl pl_J7 rfl rfl (bJ7_fill_53178_0 hc h1 hS ⟨iR_of (by omega) (by omega), fun _ _ _ _ => ?_⟩)
  refine up_loop (P := fun j => ∀ τ, SR τ → τ = setA σ c0 (fun i => if 0 ≤ i ∧ i < j then x1 else ia σ c0 i) → Wb g ad d mJ7_fill_53178 (Kv fun s => s = setA σ c0 (fil (ia σ c0) n0 x1)) 5 [some (.ref (ad c0)), some (vi x1), some (vi j), some (vi (n0 : Int))] [] τ 0 0) (hi := (n0 : Int)) 0 (by omega) ?_ ?_ σ hS ?_
  · intro τ hSt hτ
    exact bJ7_fill_53178_5 hc h1 (iR_of (by omega) (by omega)) (iR_of (by omega) (by omega)) hSt ⟨fun _ => re_v hτ, fun z => absurd (Int.le_refl _) z⟩
  · intro j hj0 hj1 ih τ hSt hτ
    refine bJ7_fill_53178_5 hc h1 (iR_of (by omega) (by omega)) (iR_of (by omega) (by omega)) hSt ⟨fun z => absurd z (by omega), fun _ => ⟨⟨hj0, hj1⟩, iR_of (by omega) (by omega), fun _ _ _ hS' => ih _ hS' ?_⟩⟩
    rw [hτ]
    unfold setI
    rw [ia_setA]
    refine Prod.ext rfl (Prod.ext rfl (Prod.ext ?_ rfl))
    funext c i
    show u1 (u1 σ.2.2.1 c0 _) c0 _ c i = u1 σ.2.2.1 c0 _ c i
    unfold u1
    by_cases cc : c = c0
    · rw [if_pos cc, if_pos cc]
      by_cases ci : i = j
      · rw [ci, up_at, if_pos ⟨by omega, by omega⟩]
      · rw [up_ne ci]
        by_cases c3 : 0 ≤ i ∧ i < j
        · rw [if_pos c3, if_pos ⟨c3.1, by omega⟩]
        · rw [if_neg c3, if_neg (by omega)]
    · rw [if_neg cc, if_neg cc, if_neg cc]
  · refine Prod.ext rfl (Prod.ext rfl (Prod.ext ?_ rfl))
    funext c i
    show σ.2.2.1 c i = u1 σ.2.2.1 c0 _ c i
    unfold u1
    by_cases cc : c = c0
    · rw [if_pos cc, if_neg (by omega), cc]
    · rw [if_neg cc]
/-! behind a fault -/
theorem fst1_bad {f v : Int} (h : 0 ≤ f) : fst1 f v = f := if_neg (by omega)
theorem c_expect_bad {x1 : Int} (h : CB t e k new σ f m) (hf : 0 ≤ f) (hS : SR σ) (h1 : iR x1) (hd : 2 ≤ d) : Eb g ad d mX6_expect 0 0 [.ref (ad 37), vi x1] σ (Kv fun s => CB t e k new s f m ∧ Fy [] [2, 15] D σ s) := by
  refine Eb.mono (c_expect (D := D) h hS h1 hd) ?_
  rintro o s ⟨e1, hs, hh, hF⟩
  refine ⟨e1, hs, ?_, hF⟩
  cases hp : pSign t e x1 (sc σ 37 15) m with
  | error f1 =>
    rw [hp] at hh
    have hh' : CB t e k new s (fst1 f f1) m := hh
    rw [fst1_bad hf] at hh'
    exact hh'
  | ok rr_ =>
    obtain ⟨u, p, m'⟩ := rr_
    rw [hp] at hh
    obtain ⟨a, b, c⟩ := hh
    rw [b] at a
    exact a
theorem c_readNumber_bad {most : Int} (h : CB t e k new σ f m) (hf : 0 ≤ f) (hS : SR σ) (h1 : iR most) (hd : 1 ≤ d) : Eb g ad d mX6_readNumber 0 0 [.ref (ad 37), vi most] σ (Ki fun r s => CB t e k new s f m ∧ Fy [] [2, 15] D σ s) := by
  refine Eb.mono (c_readNumber (D := D) h hS h1 hd) ?_
  rintro o s ⟨r, e1, hr, hs, hh, hF⟩
  refine ⟨r, e1, hr, hs, ?_, hF⟩
  cases hp : pNum t e most (sc σ 37 15) m with
  | error f1 => rw [hp] at hh; obtain ⟨-, hh⟩ := hh; rw [fst1_bad hf] at hh; exact hh
  | ok rr_ =>
    obtain ⟨u, p, m'⟩ := rr_
    rw [hp] at hh
    obtain ⟨-, -, a, b, -⟩ := hh
    rw [b] at a
    exact a
theorem c_readWord_bad (h : CB t e k new σ f m) (hf : 0 ≤ f) (hS : SR σ) (hd : 3 ≤ d) : Eb g ad d mX6_readWord 0 0 [.ref (ad 37)] σ (Ki fun r s => (∃ m', CB t e k new s f m') ∧ Fy [] [2, 15] (Dk new k) σ s) := by
  refine Eb.mono (c_readWord h hS hd) ?_
  rintro o s ⟨r, e1, hr, hs, hh, hF⟩
  refine ⟨r, e1, hr, hs, ?_, hF⟩
  cases hp : pWord t e new (sc σ 37 15) m with
  | error f1 => rw [hp] at hh; obtain ⟨-, hh⟩ := hh; rw [fst1_bad hf] at hh; exact ⟨m, hh⟩
  | ok rr_ =>
    obtain ⟨u, p, m'⟩ := rr_
    rw [hp] at hh
    exact ⟨m', hh.2.1⟩
theorem map_cw {l : List Int} (h : ∀ w ∈ l, ¬ w = -2) : l.map cw = l := by
  conv => rhs; rw [← List.map_id l]
  refine List.map_congr_left (fun w hw => ?_)
  unfold cw
  rw [if_neg (h w hw)]
  rfl
/-- an entry as the class holds it -/
def RowC (s : SG) (i : Int) (x : Row) : Prop := ia s 39 i = x.1 ∧ ia s 41 i = x.2.1.length ∧ hl (ia s 40) (i * 3) x.2.1 ∧ ia s 43 i = x.2.2.1.length ∧ hl (ia s 42) (i * 3) x.2.2.1 ∧ ia s 44 i = x.2.2.2 ∧ (1 ≤ x.2.1.length ∧ x.2.1.length ≤ 3) ∧ x.2.2.1.length ≤ 3 ∧ (0 ≤ x.2.2.2 ∧ x.2.2.2 ≤ 99) ∧ 0 ≤ x.1
/-- only the i-th entry's places change -/
def SmE (σ s : SG) (i : Int) : Prop := Sm (ia σ 39) (ia s 39) i (i + 1) ∧ Sm (ia σ 40) (ia s 40) (i * 3) (i * 3 + 3) ∧ Sm (ia σ 41) (ia s 41) i (i + 1) ∧ Sm (ia σ 42) (ia s 42) (i * 3) (i * 3 + 3) ∧ Sm (ia σ 43) (ia s 43) i (i + 1) ∧ Sm (ia σ 44) (ia s 44) i (i + 1)
theorem RowC_keep {s : SG} {i j : Int} {x : Row} (h : RowC σ i x) (hs : SmE σ s j) (h0 : 0 ≤ i) (hij : ¬ i = j) : RowC s i x := by
  obtain ⟨h1, h2, h3, h4, h5, h6, h7, h8, h9, h10⟩ := h
  obtain ⟨a, b, c, e, f, gg⟩ := hs
  exact ⟨by rw [a _ (by omega)]; exact h1, by rw [c _ (by omega)]; exact h2, b.hl h3 (by omega), by rw [f _ (by omega)]; exact h4, e.hl h5 (by omega), by rw [gg _ (by omega)]; exact h6, h7, h8, h9, h10⟩
/-- but for the reader and a Knowledge -/
abbrev Ye (D : Nat → Prop) (σ s : SG) : Prop := Fy [39, 40, 41, 42, 43, 44] [2, 9, 15] D σ s
theorem c_readEntry {p i : Int} (h : CP t e k true σ p m) (hi : 0 ≤ i ∧ i < 12) (hS : SR σ) (hd : 5 ≤ d) : Eb g ad d mX6_readEntry 0 0 [.ref (ad 37), vi i] σ (Kv fun s => CX t e k true s (pEntry t e p m) (fun x => RowC s i x) ∧ sc s 37 9 = i + 1 ∧ Ye (Dk true k) σ s ∧ SmE σ s i) := by
  have hik := h.1.ik
  obtain ⟨hC, e15⟩ := h
  have hp0 : 0 ≤ p := by rw [← e15]; exact hC.a0
  have hpe : p ≤ e := by rw [← e15]; exact hC.a1
  have ii : iR i := iR_of (by omega) (by omega)
  refine EbS rfl pl_X6 rfl rfl (bX6_readEntry_0 ii hS ⟨hi, ?_⟩)
  rw [e15]
  have hC1 : CB t e k true (setI σ 39 i p) (-1) m := hC.I (Nat.le_refl _)
  have hS1 : SR (setI σ 39 i p) := SR_setI hS (iR_of (by omega) (by have := hC.eb; omega))
  have hF1 : Ye (Dk true k) σ (setI σ 39 i p) := (Fy.refl σ).setI (by decide)
  -- the state, arrays by arrays
  have e39 : ia (setI σ 39 i p) 39 = up (ia σ 39) i p := by simp (config := {decide := true}) only [sc_S, ia_S, la_S, rv_S, sc_I, rv_I, la_I, ia_I, sc_L, rv_L, ia_L, la_L, sc_A, rv_A, la_A, ia_A, sc_B, rv_B, ia_B, la_B, sc_R, ia_R, la_R, rv_R, ia_w, la_w, rv_w, sc_w, if_true, if_false]
  refine Cl.i (c_readWords (d := d - 1) (x2 := i * 3) (most := 3) aI_40 ⟨by decide, by decide⟩ ⟨hC1, e15⟩ (by omega) (by decide) (by omega) hS1 (by omega)) (by omega) (fun r2 s2 hr2 hS2 h2 => ?_)
  obtain ⟨hX2, hF2, hSm2, hrb2⟩ := h2
  have hF2' : Ye (Dk true k) σ (setI s2 41 i r2) := (hF1.trans (hF2.mono (by decide) (by decide))).setI (by decide)
  have hS2' : SR (setI s2 41 i r2) := SR_setI hS2 hr2
  have a2 : ∀ c, (c = 39 ∨ c = 42 ∨ c = 43 ∨ c = 44) → ia (setI s2 41 i r2) c = ia (setI σ 39 i p) c := fun c hc => by
    rw [ia_I, if_neg (by omega)]
    exact hF2.a hik c (by omega) (fun z => by have := List.mem_singleton.mp z; omega)
  have a41 : ia (setI s2 41 i r2) 41 = up (ia σ 41) i r2 := by
    rw [ia_I, if_pos rfl, hF2.a hik 41 (by decide) (by decide)]
    simp (config := {decide := true}) only [sc_S, ia_S, la_S, rv_S, sc_I, rv_I, la_I, ia_I, sc_L, rv_L, ia_L, la_L, sc_A, rv_A, la_A, ia_A, sc_B, rv_B, ia_B, la_B, sc_R, ia_R, la_R, rv_R, ia_w, la_w, rv_w, sc_w, if_true, if_false]
  have a40 : ia (setI s2 41 i r2) 40 = ia s2 40 := by simp (config := {decide := true}) only [sc_S, ia_S, la_S, rv_S, sc_I, rv_I, la_I, ia_I, sc_L, rv_L, ia_L, la_L, sc_A, rv_A, la_A, ia_A, sc_B, rv_B, ia_B, la_B, sc_R, ia_R, la_R, rv_R, ia_w, la_w, rv_w, sc_w, if_true, if_false]
  have hSm40 : Sm (ia σ 40) (ia (setI s2 41 i r2) 40) (i * 3) (i * 3 + 3) := by
    rw [a40]
    have : ia (setI σ 39 i p) 40 = ia σ 40 := by simp (config := {decide := true}) only [sc_S, ia_S, la_S, rv_S, sc_I, rv_I, la_I, ia_I, sc_L, rv_L, ia_L, la_L, sc_A, rv_A, la_A, ia_A, sc_B, rv_B, ia_B, la_B, sc_R, ia_R, la_R, rv_R, ia_w, la_w, rv_w, sc_w, if_true, if_false]
    rw [this] at hSm2
    exact hSm2
  -- everything behind the first words, in a state that may be at fault
  have tail5 : ∀ (s4 s5 : SG) (r5 : Int), SR s5 → iR r5 → (0 ≤ r5 ∧ r5 ≤ 3) → Ye (Dk true k) σ s4 → SmE σ s4 i → Fy [42] [2, 15] (Dk true k) s4 s5 → Sm (ia s4 42) (ia s5 42) (i * 3) (i * 3 + 3) → Ye (Dk true k) σ (setI s5 43 i r5) ∧ SmE σ (setI s5 43 i r5) i := by
    intro s4 s5 r5 hS5 hr5 hrb hF4 hSm4 hF5 hSm5
    refine ⟨(hF4.trans (hF5.mono (by decide) (by decide))).setI (by decide), ?_⟩
    obtain ⟨b1, b2, b3, b4, b5, b6⟩ := hSm4
    have q : ∀ c, (c = 39 ∨ c = 40 ∨ c = 41 ∨ c = 44) → ia (setI s5 43 i r5) c = ia s4 c := fun c hc => by
      rw [ia_I, if_neg (by omega)]
      exact hF5.a hik c (by omega) (fun z => by have := List.mem_singleton.mp z; omega)
    refine ⟨by rw [q 39 (by omega)]; exact b1, by rw [q 40 (by omega)]; exact b2, by rw [q 41 (by omega)]; exact b3, ?_, ?_, by rw [q 44 (by omega)]; exact b6⟩
    · simp (config := {decide := true}) only [sc_S, ia_S, la_S, rv_S, sc_I, rv_I, la_I, ia_I, sc_L, rv_L, ia_L, la_L, sc_A, rv_A, la_A, ia_A, sc_B, rv_B, ia_B, la_B, sc_R, ia_R, la_R, rv_R, ia_w, la_w, rv_w, sc_w, if_true, if_false]
      exact b4.trans hSm5
    · simp (config := {decide := true}) only [sc_S, ia_S, la_S, rv_S, sc_I, rv_I, la_I, ia_I, sc_L, rv_L, ia_L, la_L, sc_A, rv_A, la_A, ia_A, sc_B, rv_B, ia_B, la_B, sc_R, ia_R, la_R, rv_R, ia_w, la_w, rv_w, sc_w, if_true, if_false]
      rw [hF5.a hik 43 (by decide) (by decide)]
      exact b5.up (by omega)
  have tail6 : ∀ (s5 s6 : SG) (r6 : Int), Ye (Dk true k) σ s5 → SmE σ s5 i → Fy [] [2, 15] (Dk true k) s5 s6 → Ye (Dk true k) σ (setS (setI s6 44 i r6) 37 9 (i + 1)) ∧ SmE σ (setS (setI s6 44 i r6) 37 9 (i + 1)) i := by
    intro s5 s6 r6 hF5 hSm5 hF6
    refine ⟨((hF5.trans (hF6.mono (by decide) (by decide))).setI (by decide)).setS (by decide), ?_⟩
    obtain ⟨b1, b2, b3, b4, b5, b6⟩ := hSm5
    have q : ∀ c, 39 ≤ c → c ≠ 44 → ia (setS (setI s6 44 i r6) 37 9 (i + 1)) c = ia s5 c := fun c hc hn => by
      rw [ia_S, ia_I, if_neg hn]
      exact hF6.a hik c (by omega) (fun z => by cases z)
    refine ⟨by rw [q 39 (by omega) (by omega)]; exact b1, by rw [q 40 (by omega) (by omega)]; exact b2, by rw [q 41 (by omega) (by omega)]; exact b3, by rw [q 42 (by omega) (by omega)]; exact b4, by rw [q 43 (by omega) (by omega)]; exact b5, ?_⟩
    simp (config := {decide := true}) only [sc_S, ia_S, la_S, rv_S, sc_I, rv_I, la_I, ia_I, sc_L, rv_L, ia_L, la_L, sc_A, rv_A, la_A, ia_A, sc_B, rv_B, ia_B, la_B, sc_R, ia_R, la_R, rv_R, ia_w, la_w, rv_w, sc_w, if_true, if_false]
    rw [hF6.a hik 44 (by decide) (by decide)]
    exact b6.up (by omega)
  have bad4 : ∀ (s4 : SG) (f : Int) (m' : Int → Int), SR s4 → CB t e k true s4 f m' → 0 ≤ f → pEntry t e p m = .bad f → Ye (Dk true k) σ s4 → SmE σ s4 i → Cl g ad d mX6_readWords 0 0 [.ref (ad 37), .ref (ad 42), vi (i * 3), vi 3] s4 (Ki fun r5 s5 => Cl g ad d mX6_readNumber 0 0 [.ref (ad 37), vi 99] (setI s5 43 i r5) (Ki fun r6 s6 => iR (i + 1) ∧ (SR (setS (setI s6 44 i r6) 37 9 (i + 1)) → (Kv fun s => CX t e k true s (pEntry t e p m) (fun x => RowC s i x) ∧ sc s 37 9 = i + 1 ∧ Ye (Dk true k) σ s ∧ SmE σ s i) (.inl none) (setS (setI s6 44 i r6) 37 9 (i + 1))))) := by
    intro s4 f m' hS4 hC4 hf hv hF4 hSm4
    refine EI.k (c_readWords_bad (d := d - 1) aI_42 hC4 hf (iR_of (by omega) (by omega)) (iR_lit rfl) hS4 (by omega)) (by omega) (fun _ _ => ?_)
    obtain ⟨hF5, hSm5⟩ := tail5 s4 s4 0 hS4 (iR_lit rfl) (by omega) hF4 hSm4 (Fy.refl s4) Sm.refl
    refine Cl.i (c_readNumber_bad (d := d - 1) (D := Dk true k) (hC4.I (c := 43) (by decide)) hf (SR_setI hS4 (iR_lit rfl)) (iR_lit rfl) (by omega)) (by omega) (fun r6 s6 hr6 hS6 h6 => ⟨iR_of (by omega) (by omega), re_v ?_⟩)
    obtain ⟨hF7, hSm7⟩ := tail6 _ s6 r6 hF5 hSm5 h6.2
    refine ⟨?_, by simp (config := {decide := true}) only [sc_S, ia_S, la_S, rv_S, sc_I, rv_I, la_I, ia_I, sc_L, rv_L, ia_L, la_L, sc_A, rv_A, la_A, ia_A, sc_B, rv_B, ia_B, la_B, sc_R, ia_R, la_R, rv_R, ia_w, la_w, rv_w, sc_w, if_true, if_false], hF7, hSm7⟩
    rw [hv]
    exact ⟨⟨m', (h6.1.I (c := 44) (by decide)).S rfl⟩, hf⟩
  have hSmA : SmE σ (setI s2 41 i r2) i := by
    refine ⟨?_, hSm40, ?_, ?_, ?_, ?_⟩
    · rw [a2 39 (by omega), e39]; exact Sm.refl.up (by omega)
    · rw [a41]; exact Sm.refl.up (by omega)
    · rw [a2 42 (by omega)]; exact Sm.refl
    · rw [a2 43 (by omega)]; exact Sm.refl
    · rw [a2 44 (by omega)]; exact Sm.refl
  have e41i : ia (setI s2 41 i r2) 41 i = r2 := by rw [a41, up_at]
  rw [e41i]
  have bad3 : ∀ (s3 : SG) (f : Int) (m' : Int → Int), SR s3 → CB t e k true s3 f m' → 0 ≤ f → pEntry t e p m = .bad f → Ye (Dk true k) σ s3 → SmE σ s3 i → Cl g ad d mX6_expect 0 0 [.ref (ad 37), vi 61] s3 (Kv fun s4 => Cl g ad d mX6_readWords 0 0 [.ref (ad 37), .ref (ad 42), vi (i * 3), vi 3] s4 (Ki fun r5 s5 => Cl g ad d mX6_readNumber 0 0 [.ref (ad 37), vi 99] (setI s5 43 i r5) (Ki fun r6 s6 => iR (i + 1) ∧ (SR (setS (setI s6 44 i r6) 37 9 (i + 1)) → (Kv fun s => CX t e k true s (pEntry t e p m) (fun x => RowC s i x) ∧ sc s 37 9 = i + 1 ∧ Ye (Dk true k) σ s ∧ SmE σ s i) (.inl none) (setS (setI s6 44 i r6) 37 9 (i + 1)))))) := by
    intro s3 f m' hS3 hC3 hf hv hF3 hSm3
    refine Cl.vo (c_expect_bad (d := d - 1) (D := Dk true k) hC3 hf hS3 (iR_lit rfl) (by omega)) (by omega) (fun s4 hS4 h4 => ?_)
    refine bad4 s4 f m' hS4 h4.1 hf hv (hF3.trans (h4.2.mono (by decide) (by decide))) ?_
    have q : ∀ c, 37 ≤ c → ia s4 c = ia s3 c := fun c hc => h4.2.a hik c hc (fun z => by cases z)
    unfold SmE
    rw [q 39 (by omega), q 40 (by omega), q 41 (by omega), q 42 (by omega), q 43 (by omega), q 44 (by omega)]
    exact hSm3
  cases hp1 : pWs t e true 3 p m with
  | error f =>
    rw [hp1] at hX2
    obtain ⟨⟨m', hC2⟩, hf⟩ := hX2
    have hv : pEntry t e p m = .bad f := by unfold pEntry; rw [hp1]; rfl
    have hC2' : CB t e k true (setI s2 41 i r2) f m' := hC2.I (by decide)
    refine EV.k (c_needSome (d := d - 1) hC2' hS2' hr2 (by omega)) (by omega) (fun hS3 => ?_)
    have es : (if r2 = 0 then (if sc (setI s2 41 i r2) 37 2 = -1 then setS (setI s2 41 i r2) 37 2 (sc (setI s2 41 i r2) 37 15) else setI s2 41 i r2) else setI s2 41 i r2) = setI s2 41 i r2 := by
      by_cases c0 : r2 = 0
      · rw [if_pos c0, if_neg (by rw [hC2'.fa]; omega)]
      · rw [if_neg c0]
    rw [es] at hS3 ⊢
    exact bad3 _ f m' hS3 hC2' hf hv hF2' hSmA
  | ok rr_ =>
    obtain ⟨src, p1, m1⟩ := rr_
    rw [hp1] at hX2
    obtain ⟨⟨hC2, e152⟩, hl1, hl2, hl3⟩ := hX2
    have hok1 := pWs_ok hC.gm hpe (by omega) hp1
    have hcw : src.map cw = src := map_cw (fun w hw => by
      rcases hok1.2.2.1 w hw with z | z
      · omega
      · exact absurd z.1 (by decide))
    rw [hcw] at hl2
    have hl1' : r2 = (src.length : Int) := hl1
    have hC2' : CB t e k true (setI s2 41 i r2) (-1) m1 := hC2.I (by decide)
    have e152' : sc (setI s2 41 i r2) 37 15 = p1 := e152
    refine EV.k (c_needSome (d := d - 1) hC2' hS2' hr2 (by omega)) (by omega) (fun hS3 => ?_)
    by_cases c0 : r2 = 0
    · have hse : src = [] := List.length_eq_zero_iff.mp (by omega)
      have hv : pEntry t e p m = .bad p1 := by unfold pEntry; rw [hp1]; exact if_pos hse
      rw [if_pos c0, if_pos hC2'.fa, e152'] at hS3 ⊢
      exact bad3 _ p1 m1 hS3 (hC2'.bad (by rw [← e152]; exact hC2.a0)) (by rw [← e152]; exact hC2.a0) hv (hF2'.setS (by decide)) hSmA
    · rw [if_neg c0] at hS3 ⊢
      have hse : ¬ src = [] := fun z => c0 (by rw [hl1', z]; rfl)
      have hsl : 1 ≤ src.length := by
        rcases Nat.eq_zero_or_pos src.length with z | z
        · exact absurd (List.length_eq_zero_iff.mp z) hse
        · exact z
      have hv1 : pEntry t e p m = (pSign t e 61 p1 m1).bind fun _ p2 m2 => (pWs t e true 3 p2 m2).bind fun tgt p3 m3 => (pNum t e 99 p3 m3).bind fun c p4 m4 => .ok (p, src, tgt, c) p4 m4 := by
        unfold pEntry; rw [hp1]; exact if_neg hse
      refine Cl.vo (c_expect (d := d - 1) (D := Dk true k) hC2' hS2' (iR_lit rfl) (by omega)) (by omega) (fun s4 hS4 h4 => ?_)
      obtain ⟨hX4, hF4⟩ := h4
      rw [e152'] at hX4
      have q4 : ∀ c, 37 ≤ c → ia s4 c = ia (setI s2 41 i r2) c := fun c hc => hF4.a hik c hc (fun z => by cases z)
      have hF4' : Ye (Dk true k) σ s4 := hF2'.trans (hF4.mono (by decide) (by decide))
      have hSm4 : SmE σ s4 i := by
        unfold SmE
        rw [q4 39 (by omega), q4 40 (by omega), q4 41 (by omega), q4 42 (by omega), q4 43 (by omega), q4 44 (by omega)]
        exact hSmA
      have hp10 : 0 ≤ p1 := by rw [← e152]; exact hC2.a0
      cases hp2 : pSign t e 61 p1 m1 with
      | error f =>
        rw [hp2] at hX4 hv1
        have hf : 0 ≤ f := pSign_bad hp10 hp2
        exact bad4 s4 f m1 hS4 hX4 hf hv1 hF4' hSm4
      | ok rr_ =>
        obtain ⟨u, p2, m2⟩ := rr_
        rw [hp2] at hX4 hv1
        obtain ⟨hC4, em2, e154⟩ := hX4
        have hv2 : pEntry t e p m = (pWs t e true 3 p2 m2).bind fun tgt p3 m3 => (pNum t e 99 p3 m3).bind fun c p4 m4 => .ok (p, src, tgt, c) p4 m4 := hv1
        refine Cl.i (c_readWords (d := d - 1) (x2 := i * 3) (most := 3) aI_42 ⟨by decide, by decide⟩ ⟨hC4, e154⟩ (by omega) (by decide) (by omega) hS4 (by omega)) (by omega) (fun r5 s5 hr5 hS5 h5 => ?_)
        obtain ⟨hX5, hF5, hSm5, hrb5⟩ := h5
        obtain ⟨hF5', hSm5'⟩ := tail5 s4 s5 r5 hS5 hr5 hrb5 hF4' hSm4 hF5 hSm5
        have hS5' : SR (setI s5 43 i r5) := SR_setI hS5 hr5
        cases hp3 : pWs t e true 3 p2 m2 with
        | error f =>
          rw [hp3] at hX5 hv2
          obtain ⟨⟨m', hC5⟩, hf⟩ := hX5
          refine Cl.i (c_readNumber_bad (d := d - 1) (D := Dk true k) (hC5.I (c := 43) (by decide)) hf hS5' (iR_lit rfl) (by omega)) (by omega) (fun r6 s6 hr6 hS6 h6 => ⟨iR_of (by omega) (by omega), re_v ?_⟩)
          obtain ⟨hF7, hSm7⟩ := tail6 _ s6 r6 hF5' hSm5' h6.2
          refine ⟨?_, by simp (config := {decide := true}) only [sc_S, ia_S, la_S, rv_S, sc_I, rv_I, la_I, ia_I, sc_L, rv_L, ia_L, la_L, sc_A, rv_A, la_A, ia_A, sc_B, rv_B, ia_B, la_B, sc_R, ia_R, la_R, rv_R, ia_w, la_w, rv_w, sc_w, if_true, if_false], hF7, hSm7⟩
          have hv' : pEntry t e p m = .bad f := hv2
          rw [hv']
          exact ⟨⟨m', (h6.1.I (c := 44) (by decide)).S rfl⟩, hf⟩
        | ok rr_ =>
          obtain ⟨tgt, p3, m3⟩ := rr_
          rw [hp3] at hX5 hv2
          obtain ⟨⟨hC5, e155⟩, ht1, ht2, ht3⟩ := hX5
          have hok3 := pWs_ok hC4.gm (by rw [← e154]; exact hC4.a1) (by omega) hp3
          have hcw3 : tgt.map cw = tgt := map_cw (fun w hw => by
            rcases hok3.2.2.1 w hw with z | z
            · omega
            · exact absurd z.1 (by decide))
          rw [hcw3] at ht2
          have ht1' : r5 = (tgt.length : Int) := ht1
          have hp30 : 0 ≤ p3 := by rw [← e155]; exact hC5.a0
          have hv3 : pEntry t e p m = (pNum t e 99 p3 m3).bind fun c p4 m4 => .ok (p, src, tgt, c) p4 m4 := hv2
          have e155' : sc (setI s5 43 i r5) 37 15 = p3 := e155
          refine Cl.i (c_readNumber (d := d - 1) (D := Dk true k) (hC5.I (c := 43) (j := i) (v := r5) (by decide)) hS5' (iR_lit rfl) (by omega)) (by omega) (fun r6 s6 hr6 hS6 h6 => ⟨iR_of (by omega) (by omega), re_v ?_⟩)
          obtain ⟨hX6, hF6⟩ := h6
          rw [e155'] at hX6
          obtain ⟨hF7, hSm7⟩ := tail6 _ s6 r6 hF5' hSm5' hF6
          refine ⟨?_, by simp (config := {decide := true}) only [sc_S, ia_S, la_S, rv_S, sc_I, rv_I, la_I, ia_I, sc_L, rv_L, ia_L, la_L, sc_A, rv_A, la_A, ia_A, sc_B, rv_B, ia_B, la_B, sc_R, ia_R, la_R, rv_R, ia_w, la_w, rv_w, sc_w, if_true, if_false], hF7, hSm7⟩
          cases hp4 : pNum t e 99 p3 m3 with
          | error f =>
            rw [hp4] at hX6 hv3
            have hv' : pEntry t e p m = .bad f := hv3
            have hf : 0 ≤ f := pNum_bad hp30 hp4
            rw [hv']
            exact ⟨⟨m3, (hX6.2.I (c := 44) (by decide)).S rfl⟩, hf⟩
          | ok rr_ =>
            obtain ⟨c, p4, m4⟩ := rr_
            rw [hp4] at hX6 hv3
            obtain ⟨hr6', hcb, hC6, em4, e156⟩ := hX6
            have hv' : pEntry t e p m = .ok (p, src, tgt, c) p4 m4 := hv3
            rw [hv']
            have q6 : ∀ b, 37 ≤ b → ia s6 b = ia (setI s5 43 i r5) b := fun b hb => hF6.a hik b hb (fun z => by cases z)
            have q5 : ∀ b, 37 ≤ b → b ≠ 42 → ia s5 b = ia s4 b := fun b hb hn => hF5.a hik b hb (fun z => hn (List.mem_singleton.mp z))
            refine ⟨⟨(hC6.I (c := 44) (by decide)).S rfl, by simp (config := {decide := true}) only [sc_S, ia_S, la_S, rv_S, sc_I, rv_I, la_I, ia_I, sc_L, rv_L, ia_L, la_L, sc_A, rv_A, la_A, ia_A, sc_B, rv_B, ia_B, la_B, sc_R, ia_R, la_R, rv_R, ia_w, la_w, rv_w, sc_w, if_true, if_false]; exact e156⟩, ?_, ?_, ?_, ?_, ?_, ?_, ⟨hsl, by show src.length ≤ 3; omega⟩, by show tgt.length ≤ 3; omega, hcb, hp0⟩
            · simp (config := {decide := true}) only [sc_S, ia_S, la_S, rv_S, sc_I, rv_I, la_I, ia_I, sc_L, rv_L, ia_L, la_L, sc_A, rv_A, la_A, ia_A, sc_B, rv_B, ia_B, la_B, sc_R, ia_R, la_R, rv_R, ia_w, la_w, rv_w, sc_w, if_true, if_false]
              rw [q6 39 (by omega)]
              simp (config := {decide := true}) only [sc_S, ia_S, la_S, rv_S, sc_I, rv_I, la_I, ia_I, sc_L, rv_L, ia_L, la_L, sc_A, rv_A, la_A, ia_A, sc_B, rv_B, ia_B, la_B, sc_R, ia_R, la_R, rv_R, ia_w, la_w, rv_w, sc_w, if_true, if_false]
              rw [q5 39 (by omega) (by omega), q4 39 (by omega), a2 39 (by omega), e39, up_at]
            · simp (config := {decide := true}) only [sc_S, ia_S, la_S, rv_S, sc_I, rv_I, la_I, ia_I, sc_L, rv_L, ia_L, la_L, sc_A, rv_A, la_A, ia_A, sc_B, rv_B, ia_B, la_B, sc_R, ia_R, la_R, rv_R, ia_w, la_w, rv_w, sc_w, if_true, if_false]
              rw [q6 41 (by omega)]
              simp (config := {decide := true}) only [sc_S, ia_S, la_S, rv_S, sc_I, rv_I, la_I, ia_I, sc_L, rv_L, ia_L, la_L, sc_A, rv_A, la_A, ia_A, sc_B, rv_B, ia_B, la_B, sc_R, ia_R, la_R, rv_R, ia_w, la_w, rv_w, sc_w, if_true, if_false]
              rw [q5 41 (by omega) (by omega), q4 41 (by omega), a41, up_at]
              exact hl1'
            · simp (config := {decide := true}) only [sc_S, ia_S, la_S, rv_S, sc_I, rv_I, la_I, ia_I, sc_L, rv_L, ia_L, la_L, sc_A, rv_A, la_A, ia_A, sc_B, rv_B, ia_B, la_B, sc_R, ia_R, la_R, rv_R, ia_w, la_w, rv_w, sc_w, if_true, if_false]
              rw [q6 40 (by omega)]
              simp (config := {decide := true}) only [sc_S, ia_S, la_S, rv_S, sc_I, rv_I, la_I, ia_I, sc_L, rv_L, ia_L, la_L, sc_A, rv_A, la_A, ia_A, sc_B, rv_B, ia_B, la_B, sc_R, ia_R, la_R, rv_R, ia_w, la_w, rv_w, sc_w, if_true, if_false]
              rw [q5 40 (by omega) (by omega), q4 40 (by omega), a40]
              exact hl2
            · simp (config := {decide := true}) only [sc_S, ia_S, la_S, rv_S, sc_I, rv_I, la_I, ia_I, sc_L, rv_L, ia_L, la_L, sc_A, rv_A, la_A, ia_A, sc_B, rv_B, ia_B, la_B, sc_R, ia_R, la_R, rv_R, ia_w, la_w, rv_w, sc_w, if_true, if_false]
              rw [q6 43 (by omega)]
              simp (config := {decide := true}) only [sc_S, ia_S, la_S, rv_S, sc_I, rv_I, la_I, ia_I, sc_L, rv_L, ia_L, la_L, sc_A, rv_A, la_A, ia_A, sc_B, rv_B, ia_B, la_B, sc_R, ia_R, la_R, rv_R, ia_w, la_w, rv_w, sc_w, if_true, if_false]
              rw [up_at]
              exact ht1'
            · simp (config := {decide := true}) only [sc_S, ia_S, la_S, rv_S, sc_I, rv_I, la_I, ia_I, sc_L, rv_L, ia_L, la_L, sc_A, rv_A, la_A, ia_A, sc_B, rv_B, ia_B, la_B, sc_R, ia_R, la_R, rv_R, ia_w, la_w, rv_w, sc_w, if_true, if_false]
              rw [q6 42 (by omega)]
              simp (config := {decide := true}) only [sc_S, ia_S, la_S, rv_S, sc_I, rv_I, la_I, ia_I, sc_L, rv_L, ia_L, la_L, sc_A, rv_A, la_A, ia_A, sc_B, rv_B, ia_B, la_B, sc_R, ia_R, la_R, rv_R, ia_w, la_w, rv_w, sc_w, if_true, if_false]
              exact ht2
            · simp (config := {decide := true}) only [sc_S, ia_S, la_S, rv_S, sc_I, rv_I, la_I, ia_I, sc_L, rv_L, ia_L, la_L, sc_A, rv_A, la_A, ia_A, sc_B, rv_B, ia_B, la_B, sc_R, ia_R, la_R, rv_R, ia_w, la_w, rv_w, sc_w, if_true, if_false]
              rw [up_at]
              exact hr6'
end RDR3

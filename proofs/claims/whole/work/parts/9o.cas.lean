section CAS
variable {g : AG} {ad : Nat → Nat} {d : Nat} {Q : AO → SG → Prop} {rc rs : Nat} {σ : SG} {m k tp : Int → Int} {h tn f x4 : Int}
theorem sx_R (i : Int) : iR (sx g i) := ⟨Int32.le_toInt _, Int32.toInt_lt _⟩

theorem cs_495 (hL : ag_L g ≤ 3072) (hJ : LJ σ m k h tp tn f) (hS : SR σ) (h4 : iR x4) (hb : 0 ≤ x4 ∧ x4 + 6 ≤ (ag_L g : Int)) (hd : 60 ≤ d) (hc : ∀ s, SR s → LE s → aL_law_2061 g ad d Q rc rs s x4) : Wb g ad d mL_law Q 495 [some (.ref (ag_b g)), some (.ref (ad 0)), some (.ref (ad 102)), some (.ref (ad 131)), some (vi x4), none, none] [] σ (rc + 1) (rs + 6) := by
  have hW := hJ.ci.gm.wf
  have i1 := sx_R (g := g) (x4 + 1)
  have i2 := sx_R (g := g) (x4 + 2)
  refine bL_law_495 hL h4 hS ⟨⟨by omega, by omega⟩, ⟨by omega, by omega⟩, ?_⟩
  have hw : Eb g ad (d - 1) mL_letter 1 6 [.ref (ad 0), vi (sx g (x4 + 1)), vi (sx g (x4 + 2)), .ref (ad 131)] σ (WP (letterT m (sx g (x4 + 1))) (letterV m (sx g (x4 + 1)) (sx g (x4 + 2))) (fun s => LJ s m k h tp tn f)) := EbH (List.cons_ne_nil _ _) pl_L rfl rfl (bL_letter_0 i1 i2 hS (wq1 (q_letter (d := d - 2) hJ.ci (fun j => by rw [← hJ.ps.m]; exact hS.1 103 j) i1 i2 hS (by omega)) (by omega) hJ))
  exact law_w hw (by omega) (by omega) (rf_q (fun s hSs em hl => e_letter (d := d - 1) em hW hJ.ci.gm.wl hSs hl i1 i2 (by omega))) (fun s hSs hLE _ _ => hc s hSs hLE)

theorem cs_563 (hL : ag_L g ≤ 3072) (hJ : LJ σ m k h tp tn f) (hS : SR σ) (h4 : iR x4) (hb : 0 ≤ x4 ∧ x4 + 6 ≤ (ag_L g : Int)) (hd : 60 ≤ d) (hc : ∀ s, SR s → LE s → aL_law_2061 g ad d Q rc rs s x4) : Wb g ad d mL_law Q 563 [some (.ref (ag_b g)), some (.ref (ad 0)), some (.ref (ad 102)), some (.ref (ad 131)), some (vi x4), none, none] [] σ (rc + 2) (rs + 12) := by
  have hW := hJ.ci.gm.wf
  have i1 := sx_R (g := g) (x4 + 1)
  have i2 := sx_R (g := g) (x4 + 2)
  refine bL_law_563 hL h4 hS ⟨⟨by omega, by omega⟩, ⟨by omega, by omega⟩, ?_⟩
  have hw : Eb g ad (d - 1) mL_phrase 2 12 [.ref (ad 0), vi (sx g (x4 + 1)), vi (sx g (x4 + 2)), .ref (ad 131)] σ (WP (phraseT m (sx g (x4 + 1)) (sx g (x4 + 2))) (phraseV m (sx g (x4 + 1)) (sx g (x4 + 2))) (fun s => LJ s m k h tp tn f)) := EbH (List.cons_ne_nil _ _) pl_L rfl rfl (bL_phrase_0 i1 i2 hS (wq2 (q_phrase (d := d - 2) hJ.ci i1 i2 hS (by omega)) (by omega) hJ))
  exact law_w hw (by omega) (by omega) (rf_q (fun s hSs em hl => e_phrase (d := d - 1) em hW hSs hl i1 i2 (by omega))) (fun s hSs hLE _ _ => hc s hSs hLE)

theorem cs_727 (hL : ag_L g ≤ 3072) (hJ : LJ σ m k h tp tn f) (hS : SR σ) (h4 : iR x4) (hb : 0 ≤ x4 ∧ x4 + 6 ≤ (ag_L g : Int)) (hd : 60 ≤ d) (hc : ∀ s, SR s → LE s → aL_law_2061 g ad d Q rc rs s x4) : Wb g ad d mL_law Q 727 [some (.ref (ag_b g)), some (.ref (ad 0)), some (.ref (ad 102)), some (.ref (ad 131)), some (vi x4), none, none] [] σ (rc + 2) (rs + 12) := by
  have hW := hJ.ci.gm.wf
  have i1 := sx_R (g := g) (x4 + 1)
  have i2 := sx_R (g := g) (x4 + 2)
  refine bL_law_727 hL h4 hS ⟨⟨by omega, by omega⟩, ⟨by omega, by omega⟩, ?_⟩
  have hw : Eb g ad (d - 1) mL_after 2 12 [.ref (ad 0), vi (sx g (x4 + 1)), vi (sx g (x4 + 2)), .ref (ad 131)] σ (WP (afterT m (sx g (x4 + 1)) (sx g (x4 + 2))) (afterV m (sx g (x4 + 1)) (sx g (x4 + 2))) (fun s => LJ s m k h tp tn f)) := EbH (List.cons_ne_nil _ _) pl_L rfl rfl (bL_after_0 i1 i2 hS (wq1 (q_after (d := d - 2) hJ.ci i1 i2 hS (by omega)) (by omega) hJ))
  exact law_w hw (by omega) (by omega) (rf_q (fun s hSs em hl => e_after (d := d - 1) em hW hSs hl i1 i2 (by omega))) (fun s hSs hLE _ _ => hc s hSs hLE)

theorem cs_795 (hL : ag_L g ≤ 3072) (hJ : LJ σ m k h tp tn f) (hS : SR σ) (h4 : iR x4) (hb : 0 ≤ x4 ∧ x4 + 6 ≤ (ag_L g : Int)) (hd : 60 ≤ d) (hc : ∀ s, SR s → LE s → aL_law_2061 g ad d Q rc rs s x4) : Wb g ad d mL_law Q 795 [some (.ref (ag_b g)), some (.ref (ad 0)), some (.ref (ad 102)), some (.ref (ad 131)), some (vi x4), none, none] [] σ (rc + 1) (rs + 6) := by
  have hW := hJ.ci.gm.wf
  have i1 := sx_R (g := g) (x4 + 1)
  refine bL_law_795 hL h4 hS ⟨⟨by omega, by omega⟩, ?_⟩
  have hw : Eb g ad (d - 1) mL_place 1 6 [.ref (ad 0), vi (sx g (x4 + 1)), .ref (ad 131)] σ (WP (placeT m (sx g (x4 + 1))) (placeV m (sx g (x4 + 1))) (fun s => LJ s m k h tp tn f)) := EbH (List.cons_ne_nil _ _) pl_L rfl rfl (bL_place_0 i1 hS (wq1 (q_place (d := d - 2) hJ.ci i1 hS (by omega)) (by omega) hJ))
  exact law_w hw (by omega) (by omega) (rf_q (fun s hSs em hl => e_place (d := d - 1) em hW hSs hl i1 (by omega))) (fun s hSs hLE _ _ => hc s hSs hLE)

theorem cs_1146 (hL : ag_L g ≤ 3072) (hJ : LJ σ m k h tp tn f) (hS : SR σ) (h4 : iR x4) (hb : 0 ≤ x4 ∧ x4 + 6 ≤ (ag_L g : Int)) (hd : 60 ≤ d) (hc : ∀ s, SR s → LE s → aL_law_2061 g ad d Q rc rs s x4) : Wb g ad d mL_law Q 1146 [some (.ref (ag_b g)), some (.ref (ad 0)), some (.ref (ad 102)), some (.ref (ad 131)), some (vi x4), none, none] [] σ (rc + 1) (rs + 6) := by
  have hW := hJ.ci.gm.wf
  have i1 := sx_R (g := g) (x4 + 1)
  have i2 := sx_R (g := g) (x4 + 2)
  refine bL_law_1146 hL h4 hS ⟨⟨by omega, by omega⟩, ⟨by omega, by omega⟩, ?_⟩
  have hw : Eb g ad (d - 1) mL_option 1 6 [.ref (ad 0), vi (sx g (x4 + 1)), vi (sx g (x4 + 2)), .ref (ad 131)] σ (WP (placeT m (sx g (x4 + 1))) (optionV m (sx g (x4 + 1)) (sx g (x4 + 2))) (fun s => LJ s m k h tp tn f)) := EbH (List.cons_ne_nil _ _) pl_L rfl rfl (bL_option_0 i1 i2 hS (wq1 (q_option (d := d - 2) hJ.ci i1 i2 hS (by omega)) (by omega) hJ))
  exact law_w hw (by omega) (by omega) (rf_q (fun s hSs em hl => e_option (d := d - 1) em hW hSs hl i1 i2 (by omega))) (fun s hSs hLE _ _ => hc s hSs hLE)

theorem cs_1214 (hL : ag_L g ≤ 3072) (hJ : LJ σ m k h tp tn f) (hS : SR σ) (h4 : iR x4) (hb : 0 ≤ x4 ∧ x4 + 6 ≤ (ag_L g : Int)) (hd : 60 ≤ d) (hc : ∀ s, SR s → LE s → aL_law_2061 g ad d Q rc rs s x4) : Wb g ad d mL_law Q 1214 [some (.ref (ag_b g)), some (.ref (ad 0)), some (.ref (ad 102)), some (.ref (ad 131)), some (vi x4), none, none] [] σ (rc + 3) (rs + 18) := by
  have hW := hJ.ci.gm.wf
  have i1 := sx_R (g := g) (x4 + 1)
  have i2 := sx_R (g := g) (x4 + 2)
  refine bL_law_1214 hL h4 hS ⟨⟨by omega, by omega⟩, ⟨by omega, by omega⟩, ?_⟩
  have hw : Eb g ad (d - 1) mL_stretch 3 18 [.ref (ad 0), vi (sx g (x4 + 1)), vi (sx g (x4 + 2)), .ref (ad 131)] σ (WP (stretchT m (sx g (x4 + 1)) (sx g (x4 + 2))) (stretchV m (sx g (x4 + 1)) (sx g (x4 + 2))) (fun s => LJ s m k h tp tn f)) := EbH (List.cons_ne_nil _ _) pl_L rfl rfl (bL_stretch_0 i1 i2 hS (wq2 (q_stretch (d := d - 2) hJ.ci i1 i2 hS (by omega)) (by omega) hJ))
  exact law_w hw (by omega) (by omega) (rf_q (fun s hSs em hl => e_stretch (d := d - 1) em hW hSs hl i1 i2 (by omega))) (fun s hSs hLE _ _ => hc s hSs hLE)

theorem cs_1308 (hL : ag_L g ≤ 3072) (hJ : LJ σ m k h tp tn f) (hS : SR σ) (h4 : iR x4) (hb : 0 ≤ x4 ∧ x4 + 6 ≤ (ag_L g : Int)) (hd : 60 ≤ d) (hc : ∀ s, SR s → LE s → aL_law_2061 g ad d Q rc rs s x4) : Wb g ad d mL_law Q 1308 [some (.ref (ag_b g)), some (.ref (ad 0)), some (.ref (ad 102)), some (.ref (ad 131)), some (vi x4), none, none] [] σ (rc + 1) (rs + 6) := by
  have hW := hJ.ci.gm.wf
  have i1 := sx_R (g := g) (x4 + 1)
  have i2 := sx_R (g := g) (x4 + 2)
  refine bL_law_1308 hL h4 hS ⟨⟨by omega, by omega⟩, ⟨by omega, by omega⟩, ?_⟩
  have hw : Eb g ad (d - 1) mL_way 1 6 [.ref (ad 0), vi (sx g (x4 + 1)), vi (sx g (x4 + 2)), .ref (ad 131)] σ (WP (wayT (sx g (x4 + 1)) (sx g (x4 + 2))) (wayV m (sx g (x4 + 1)) (sx g (x4 + 2))) (fun s => LJ s m k h tp tn f)) := EbH (List.cons_ne_nil _ _) pl_L rfl rfl (bL_way_0 i1 i2 hS (wq2 (q_way (d := d - 2) hJ.ci i1 i2 hS (by omega)) (by omega) hJ))
  exact law_w hw (by omega) (by omega) (rf_q (fun s hSs em hl => e_way (d := d - 1) em hW hSs hl i1 i2 (by omega))) (fun s hSs hLE _ _ => hc s hSs hLE)

theorem cs_1376 (hL : ag_L g ≤ 3072) (hJ : LJ σ m k h tp tn f) (hS : SR σ) (h4 : iR x4) (hb : 0 ≤ x4 ∧ x4 + 6 ≤ (ag_L g : Int)) (hd : 60 ≤ d) (hc : ∀ s, SR s → LE s → aL_law_2061 g ad d Q rc rs s x4) : Wb g ad d mL_law Q 1376 [some (.ref (ag_b g)), some (.ref (ad 0)), some (.ref (ad 102)), some (.ref (ad 131)), some (vi x4), none, none] [] σ (rc + 1) (rs + 6) := by
  have hW := hJ.ci.gm.wf
  have i1 := sx_R (g := g) (x4 + 1)
  have i2 := sx_R (g := g) (x4 + 2)
  have i3 := sx_R (g := g) (x4 + 3)
  refine bL_law_1376 hL h4 hS ⟨⟨by omega, by omega⟩, ⟨by omega, by omega⟩, ⟨by omega, by omega⟩, ?_⟩
  have hw : Eb g ad (d - 1) mL_step 1 6 [.ref (ad 0), vi (sx g (x4 + 1)), vi (sx g (x4 + 2)), vi (sx g (x4 + 3)), .ref (ad 131)] σ (WP (wayT (sx g (x4 + 1)) (sx g (x4 + 3))) (stepV m (sx g (x4 + 1)) (sx g (x4 + 2)) (sx g (x4 + 3))) (fun s => LJ s m k h tp tn f)) := EbH (List.cons_ne_nil _ _) pl_L rfl rfl (bL_step_0 i1 i2 i3 hS (wq2 (q_step (d := d - 2) hJ.ci i1 i2 i3 hS (by omega)) (by omega) hJ))
  exact law_w hw (by omega) (by omega) (rf_q (fun s hSs em hl => e_step (d := d - 1) em hW hSs hl i1 i2 i3 (by omega))) (fun s hSs hLE _ _ => hc s hSs hLE)

theorem cs_1456 (hL : ag_L g ≤ 3072) (hJ : LJ σ m k h tp tn f) (hS : SR σ) (h4 : iR x4) (hb : 0 ≤ x4 ∧ x4 + 6 ≤ (ag_L g : Int)) (hd : 60 ≤ d) (hc : ∀ s, SR s → LE s → aL_law_2061 g ad d Q rc rs s x4) : Wb g ad d mL_law Q 1456 [some (.ref (ag_b g)), some (.ref (ad 0)), some (.ref (ad 102)), some (.ref (ad 131)), some (vi x4), none, none] [] σ (rc + 1) (rs + 6) := by
  have hW := hJ.ci.gm.wf
  have i1 := sx_R (g := g) (x4 + 1)
  have i2 := sx_R (g := g) (x4 + 2)
  refine bL_law_1456 hL h4 hS ⟨⟨by omega, by omega⟩, ⟨by omega, by omega⟩, ?_⟩
  have hw : Eb g ad (d - 1) mL_word 1 6 [.ref (ad 0), vi (sx g (x4 + 1)), vi (sx g (x4 + 2)), .ref (ad 131)] σ (WP (wordT (sx g (x4 + 1))) (wordV m (sx g (x4 + 1)) (sx g (x4 + 2))) (fun s => LJ s m k h tp tn f)) := EbH (List.cons_ne_nil _ _) pl_L rfl rfl (bL_word_0 i1 i2 hS (wq1 (q_word (d := d - 2) hJ.ci i1 i2 hS (by omega)) (by omega) hJ))
  exact law_w hw (by omega) (by omega) (rf_q (fun s hSs em hl => e_word_ (d := d - 1) em hW hSs hl i1 i2 (by omega))) (fun s hSs hLE _ _ => hc s hSs hLE)

theorem cs_1524 (hL : ag_L g ≤ 3072) (hJ : LJ σ m k h tp tn f) (hS : SR σ) (h4 : iR x4) (hb : 0 ≤ x4 ∧ x4 + 6 ≤ (ag_L g : Int)) (hd : 60 ≤ d) (hc : ∀ s, SR s → LE s → aL_law_2061 g ad d Q rc rs s x4) : Wb g ad d mL_law Q 1524 [some (.ref (ag_b g)), some (.ref (ad 0)), some (.ref (ad 102)), some (.ref (ad 131)), some (vi x4), none, none] [] σ (rc + 1) (rs + 6) := by
  have hW := hJ.ci.gm.wf
  have i1 := sx_R (g := g) (x4 + 1)
  refine bL_law_1524 hL h4 hS ⟨⟨by omega, by omega⟩, ?_⟩
  have hw : Eb g ad (d - 1) mL_found 1 6 [.ref (ad 0), vi (sx g (x4 + 1)), .ref (ad 131)] σ (WP (foundT (sx g (x4 + 1))) (foundV m (sx g (x4 + 1))) (fun s => LJ s m k h tp tn f)) := EbH (List.cons_ne_nil _ _) pl_L rfl rfl (bL_found_0 i1 hS (wq1 (q_found (d := d - 2) hJ.ci i1 hS (by omega)) (by omega) hJ))
  exact law_w hw (by omega) (by omega) (rf_q (fun s hSs em hl => e_found (d := d - 1) em hW hSs hl i1 (by omega))) (fun s hSs hLE _ _ => hc s hSs hLE)

theorem cs_1580 (hL : ag_L g ≤ 3072) (hJ : LJ σ m k h tp tn f) (hS : SR σ) (h4 : iR x4) (hb : 0 ≤ x4 ∧ x4 + 6 ≤ (ag_L g : Int)) (hd : 60 ≤ d) (hc : ∀ s, SR s → LE s → aL_law_2061 g ad d Q rc rs s x4) : Wb g ad d mL_law Q 1580 [some (.ref (ag_b g)), some (.ref (ad 0)), some (.ref (ad 102)), some (.ref (ad 131)), some (vi x4), none, none] [] σ (rc + 1) (rs + 6) := by
  have hW := hJ.ci.gm.wf
  have i1 := sx_R (g := g) (x4 + 1)
  have i2 := sx_R (g := g) (x4 + 2)
  refine bL_law_1580 hL h4 hS ⟨⟨by omega, by omega⟩, ⟨by omega, by omega⟩, ?_⟩
  have hw : Eb g ad (d - 1) mL_halves 1 6 [.ref (ad 0), vi (sx g (x4 + 1)), vi (sx g (x4 + 2)), .ref (ad 131)] σ (WP (halvesT (sx g (x4 + 2))) (halvesV m (sx g (x4 + 1)) (sx g (x4 + 2))) (fun s => LJ s m k h tp tn f)) := EbH (List.cons_ne_nil _ _) pl_L rfl rfl (bL_halves_0 i1 i2 hS (wq1 (q_halves (d := d - 2) hJ.ci i1 i2 hS (by omega)) (by omega) hJ))
  exact law_w hw (by omega) (by omega) (rf_q (fun s hSs em hl => e_halves (d := d - 1) em hW hSs hl i1 i2 (by omega))) (fun s hSs hLE _ _ => hc s hSs hLE)

theorem cs_1648 (hL : ag_L g ≤ 3072) (hJ : LJ σ m k h tp tn f) (hS : SR σ) (h4 : iR x4) (hb : 0 ≤ x4 ∧ x4 + 6 ≤ (ag_L g : Int)) (hd : 60 ≤ d) (hc : ∀ s, SR s → LE s → aL_law_2061 g ad d Q rc rs s x4) : Wb g ad d mL_law Q 1648 [some (.ref (ag_b g)), some (.ref (ad 0)), some (.ref (ad 102)), some (.ref (ad 131)), some (vi x4), none, none] [] σ (rc + 1) (rs + 6) := by
  have hW := hJ.ci.gm.wf
  have i1 := sx_R (g := g) (x4 + 1)
  have i2 := sx_R (g := g) (x4 + 2)
  refine bL_law_1648 hL h4 hS ⟨⟨by omega, by omega⟩, ⟨by omega, by omega⟩, ?_⟩
  have hw : Eb g ad (d - 1) mL_stack 1 6 [.ref (ad 0), vi (sx g (x4 + 1)), vi (sx g (x4 + 2)), .ref (ad 131)] σ (WP (stackT m (sx g (x4 + 1)) (sx g (x4 + 2))) (stackV m (sx g (x4 + 1)) (sx g (x4 + 2))) (fun s => LJ s m k h tp tn f)) := EbH (List.cons_ne_nil _ _) pl_L rfl rfl (bL_stack_0 i1 i2 hS (wq2 (q_stack (d := d - 2) hJ.ci i1 i2 hS (by omega)) (by omega) hJ))
  exact law_w hw (by omega) (by omega) (rf_q (fun s hSs em hl => e_stack (d := d - 1) em hW hSs hl i1 i2 (by omega))) (fun s hSs hLE _ _ => hc s hSs hLE)

theorem cs_1860 (hL : ag_L g ≤ 3072) (hJ : LJ σ m k h tp tn f) (hS : SR σ) (h4 : iR x4) (hb : 0 ≤ x4 ∧ x4 + 6 ≤ (ag_L g : Int)) (hd : 60 ≤ d) (hc : ∀ s, SR s → LE s → aL_law_2061 g ad d Q rc rs s x4) : Wb g ad d mL_law Q 1860 [some (.ref (ag_b g)), some (.ref (ad 0)), some (.ref (ad 102)), some (.ref (ad 131)), some (vi x4), none, none] [] σ (rc + 1) (rs + 6) := by
  have hW := hJ.ci.gm.wf
  have i1 := sx_R (g := g) (x4 + 1)
  refine bL_law_1860 hL h4 hS ⟨⟨by omega, by omega⟩, ?_⟩
  have hw : Eb g ad (d - 1) mL_agreed 1 6 [.ref (ad 0), vi (sx g (x4 + 1)), .ref (ad 131)] σ (WP (agreedT (sx g (x4 + 1))) (if agreedT (sx g (x4 + 1)) = 0 then agV m (sx g (x4 + 1)) else 0) (fun s => LJ s m k h tp tn f)) := EbH (List.cons_ne_nil _ _) pl_L rfl rfl (bL_agreed_0 i1 hS (wq1 (q_agreed (d := d - 2) hJ.ci i1 hS (by omega)) (by omega) hJ))
  exact law_w hw (by omega) (by omega) (rf_q (fun s hSs em hl => e_agreed (d := d - 1) em hW hSs hl i1 (by omega))) (fun s hSs hLE _ _ => hc s hSs hLE)

theorem cs_631 (hL : ag_L g ≤ 3072) (hJ : LJ σ m k h tp tn f) (hS : SR σ) (h4 : iR x4) (hb : 0 ≤ x4 ∧ x4 + 6 ≤ (ag_L g : Int)) (hd : 60 ≤ d) (hc : ∀ s, SR s → LE s → aL_law_2061 g ad d Q rc rs s x4) : Wb g ad d mL_law Q 631 [some (.ref (ag_b g)), some (.ref (ad 0)), some (.ref (ad 102)), some (.ref (ad 131)), some (vi x4), none, none] [] σ (rc + 1) (rs + 6) := by
  have hW := hJ.ci.gm.wf
  have i1 := sx_R (g := g) (x4 + 1)
  have i3 := sx_R (g := g) (x4 + 3)
  have key : ∀ b, (b = 0 ∨ b = 1) → ∀ {X : String → SG → Prop}, Cl g ad d mL_part 1 6 [.ref (ad 0), vi (sx g (x4 + 1)), vi b, vi (sx g (x4 + 3)), .ref (ad 131)] σ (Kx (Ki fun r1 s1 => Cl g ad d mX11_part 0 0 [.ref (ad 102), vi (sx g (x4 + 1)), vi b, vi (sx g (x4 + 3))] s1 (Ki fun r2 s2 => Cl g ad d mX11_thrown 0 0 [.ref (ad 102)] s2 (Ki fun r3 s3 => ((r3 = r1 → ((¬ r1 = 0 → (iR x4 → SR s3 → aL_law_2061 g ad d Q rc rs s3 x4)) ∧ (r1 = 0 → (((lCmp (la s3 131 0) r2) = 0 → (iR x4 → SR s3 → aL_law_2061 g ad d Q rc rs s3 x4)) ∧ (¬ (lCmp (la s3 131 0) r2) = 0 → (iR 0 → SR s3 → Q (.inl (some (vi 0))) s3)))))) ∧ (¬ r3 = r1 → (iR 0 → SR s3 → Q (.inl (some (vi 0))) s3)))))) X) := fun b hb2 X => by
    have ib : iR b := by rcases hb2 with z | z <;> rw [z] <;> exact iR_lit rfl
    have hw : Eb g ad (d - 1) mL_part 1 6 [.ref (ad 0), vi (sx g (x4 + 1)), vi b, vi (sx g (x4 + 3)), .ref (ad 131)] σ (WP (partT m (sx g (x4 + 1))) (partV m (sx g (x4 + 1)) b (sx g (x4 + 3))) (fun s => LJ s m k h tp tn f)) := EbH (List.cons_ne_nil _ _) pl_L rfl rfl (bL_part_0 i1 ib i3 hS (wq1 (q_part (d := d - 2) hJ.ci i1 ib i3 hS (by omega)) (by omega) hJ))
    exact law_w hw (by omega) (by omega) (rf_q (fun s hSs em hl => e_part (d := d - 1) em hW hSs hl i1 ib i3 (by omega))) (fun s hSs hLE _ _ => hc s hSs hLE)
  have mono : ∀ b, (b = 0 ∨ b = 1) → (b = 0 ↔ (sx g (x4 + 2)) = 0) → Cl g ad d mL_part 1 6 [.ref (ad 0), vi (sx g (x4 + 1)), vi b, vi (sx g (x4 + 3)), .ref (ad 131)] σ (Kx (Ki fun r4 s4 => ((((sx g (x4 + 2)) = 0 → Cl g ad d mX11_part 0 0 [.ref (ad 102), vi (sx g (x4 + 1)), vi 0, vi (sx g (x4 + 3))] s4 (Ki fun r5 s5 => Cl g ad d mX11_thrown 0 0 [.ref (ad 102)] s5 (Ki fun r6 s6 => ((r6 = r4 → ((¬ r4 = 0 → (iR x4 → SR s6 → aL_law_2061 g ad d Q rc rs s6 x4)) ∧ (r4 = 0 → (((lCmp (la s6 131 0) r5) = 0 → (iR x4 → SR s6 → aL_law_2061 g ad d Q rc rs s6 x4)) ∧ (¬ (lCmp (la s6 131 0) r5) = 0 → (iR 0 → SR s6 → Q (.inl (some (vi 0))) s6)))))) ∧ (¬ r6 = r4 → (iR 0 → SR s6 → Q (.inl (some (vi 0))) s6)))))) ∧ (¬ (sx g (x4 + 2)) = 0 → Cl g ad d mX11_part 0 0 [.ref (ad 102), vi (sx g (x4 + 1)), vi 1, vi (sx g (x4 + 3))] s4 (Ki fun r7 s7 => Cl g ad d mX11_thrown 0 0 [.ref (ad 102)] s7 (Ki fun r8 s8 => ((r8 = r4 → ((¬ r4 = 0 → (iR x4 → SR s8 → aL_law_2061 g ad d Q rc rs s8 x4)) ∧ (r4 = 0 → (((lCmp (la s8 131 0) r7) = 0 → (iR x4 → SR s8 → aL_law_2061 g ad d Q rc rs s8 x4)) ∧ (¬ (lCmp (la s8 131 0) r7) = 0 → (iR 0 → SR s8 → Q (.inl (some (vi 0))) s8)))))) ∧ (¬ r8 = r4 → (iR 0 → SR s8 → Q (.inl (some (vi 0))) s8))))))))) (fun E s4 => SR s4 → Q (.inr E) s4)) := fun b hb2 hbz => by
    obtain ⟨d1, hd1, hE⟩ := key b hb2 (X := fun _ _ => False)
    refine ⟨d1, hd1, Eb.mono hE ?_⟩
    rintro o s (⟨r, e, a1, a2, a3⟩ | ⟨E, e, a2, a3⟩)
    · refine Or.inl ⟨r, e, a1, a2, fun c => ?_, fun c => ?_⟩
      · have : b = 0 := hbz.mpr c
        rw [this] at a3
        exact a3
      · have : b = 1 := hb2.elim (fun z => absurd (hbz.mp z) c) id
        rw [this] at a3
        exact a3
    · exact absurd a3 id
  exact bL_law_631 hL h4 hS ⟨⟨by omega, by omega⟩, ⟨by omega, by omega⟩, fun c => ⟨⟨by omega, by omega⟩, mono 0 (Or.inl rfl) ⟨fun _ => c, fun _ => rfl⟩⟩, fun c => ⟨⟨by omega, by omega⟩, mono 1 (Or.inr rfl) ⟨fun z => absurd z (by decide), fun z => absurd z c⟩⟩⟩

theorem cs_1282 (hL : ag_L g ≤ 3072) (hJ : LJ σ m k h tp tn f) (hS : SR σ) (h4 : iR x4) (hb : 0 ≤ x4 ∧ x4 + 6 ≤ (ag_L g : Int)) (hd : 60 ≤ d) (hc : ∀ s, SR s → LE s → aL_law_2061 g ad d Q rc rs s x4) : Wb g ad d mL_law Q 1282 [some (.ref (ag_b g)), some (.ref (ad 0)), some (.ref (ad 102)), some (.ref (ad 131)), some (vi x4), none, none] [] σ rc rs := by
  have hW := hJ.ci.gm.wf
  refine bL_law_1282 hL h4 hS ?_
  refine Cl.i (q_exact (d := d - 1) hJ.ci hS (by omega)) (by omega) (fun r1 s1 _ hS1 a1 => ?_)
  have b1 : LJ s1 m k h tp tn f := ⟨hJ.ps.cf a1.2.2.c, a1.2.1, hJ.tp_.tf a1.2.2.tf, hJ.tb, hJ.te, hJ.zk⟩
  refine Cl.i ((e_exact (d := d - 1) b1.ps.m hW hS1 b1.ps.li (by omega)).p b1.ps) (by omega) (fun r2 s2 _ hS2 a2 => ⟨fun _ _ _ => hc s2 hS2 ⟨_, _, _, _, _, _, a2.2.2.2, b1.ci.fc a2.2.2.1, b1.tp_.fc a2.2.2.1, b1.tb, b1.te, b1.zk⟩, fun z => absurd (a1.1.trans a2.1.symm) z⟩)

theorem cs_1295 (hL : ag_L g ≤ 3072) (hJ : LJ σ m k h tp tn f) (hS : SR σ) (h4 : iR x4) (hb : 0 ≤ x4 ∧ x4 + 6 ≤ (ag_L g : Int)) (hd : 60 ≤ d) (hc : ∀ s, SR s → LE s → aL_law_2061 g ad d Q rc rs s x4) : Wb g ad d mL_law Q 1295 [some (.ref (ag_b g)), some (.ref (ad 0)), some (.ref (ad 102)), some (.ref (ad 131)), some (vi x4), none, none] [] σ rc rs := by
  have hW := hJ.ci.gm.wf
  refine bL_law_1295 hL h4 hS ?_
  refine Cl.i (q_many (d := d - 1) hJ.ci hS (by omega)) (by omega) (fun r1 s1 _ hS1 a1 => ?_)
  have b1 : LJ s1 m k h tp tn f := ⟨hJ.ps.cf a1.2.2.c, a1.2.1, hJ.tp_.tf a1.2.2.tf, hJ.tb, hJ.te, hJ.zk⟩
  refine Cl.i ((e_many (d := d - 1) b1.ps.m hW hS1 b1.ps.li (by omega)).p b1.ps) (by omega) (fun r2 s2 _ hS2 a2 => ⟨fun _ _ _ => hc s2 hS2 ⟨_, _, _, _, _, _, a2.2.2.2, b1.ci.fc a2.2.2.1, b1.tp_.fc a2.2.2.1, b1.tb, b1.te, b1.zk⟩, fun z => absurd (a1.1.trans a2.1.symm) z⟩)

theorem cs_1916 (hL : ag_L g ≤ 3072) (hJ : LJ σ m k h tp tn f) (hS : SR σ) (h4 : iR x4) (hb : 0 ≤ x4 ∧ x4 + 6 ≤ (ag_L g : Int)) (hd : 60 ≤ d) (hc : ∀ s, SR s → LE s → aL_law_2061 g ad d Q rc rs s x4) : Wb g ad d mL_law Q 1916 [some (.ref (ag_b g)), some (.ref (ad 0)), some (.ref (ad 102)), some (.ref (ad 131)), some (vi x4), none, none] [] σ rc rs := by
  have hW := hJ.ci.gm.wf
  refine bL_law_1916 hL h4 hS ?_
  refine Cl.i (q_needed (d := d - 1) hJ.ci hS (by omega)) (by omega) (fun r1 s1 _ hS1 a1 => ?_)
  have b1 : LJ s1 m k h tp tn f := ⟨hJ.ps.cf a1.2.2.c, a1.2.1, hJ.tp_.tf a1.2.2.tf, hJ.tb, hJ.te, hJ.zk⟩
  refine Cl.i ((e_needed (d := d - 1) b1.ps.m hW hS1 b1.ps.li (by omega)).p b1.ps) (by omega) (fun r2 s2 _ hS2 a2 => ⟨fun _ _ _ => hc s2 hS2 ⟨_, _, _, _, _, _, a2.2.2.2, b1.ci.fc a2.2.2.1, b1.tp_.fc a2.2.2.1, b1.tb, b1.te, b1.zk⟩, fun z => absurd (a1.1.trans a2.1.symm) z⟩)

theorem cs_1929 (hL : ag_L g ≤ 3072) (hJ : LJ σ m k h tp tn f) (hS : SR σ) (h4 : iR x4) (hb : 0 ≤ x4 ∧ x4 + 6 ≤ (ag_L g : Int)) (hd : 60 ≤ d) (hc : ∀ s, SR s → LE s → aL_law_2061 g ad d Q rc rs s x4) : Wb g ad d mL_law Q 1929 [some (.ref (ag_b g)), some (.ref (ad 0)), some (.ref (ad 102)), some (.ref (ad 131)), some (vi x4), none, none] [] σ rc rs := by
  have hW := hJ.ci.gm.wf
  refine bL_law_1929 hL h4 hS ?_
  refine Cl.i (q_idle (d := d - 1) hJ.ci hS (by omega)) (by omega) (fun r1 s1 _ hS1 a1 => ?_)
  have b1 : LJ s1 m k h tp tn f := ⟨hJ.ps.cf a1.2.2.c, a1.2.1, hJ.tp_.tf a1.2.2.tf, hJ.tb, hJ.te, hJ.zk⟩
  refine Cl.i ((e_idle (d := d - 1) b1.ps.m hW hS1 b1.ps.li (by omega)).p b1.ps) (by omega) (fun r2 s2 _ hS2 a2 => ⟨fun _ _ _ => hc s2 hS2 ⟨_, _, _, _, _, _, a2.2.2.2, b1.ci.fc a2.2.2.1, b1.tp_.fc a2.2.2.1, b1.tb, b1.te, b1.zk⟩, fun z => absurd (a1.1.trans a2.1.symm) z⟩)

theorem cs_1942 (hL : ag_L g ≤ 3072) (hJ : LJ σ m k h tp tn f) (hS : SR σ) (h4 : iR x4) (hb : 0 ≤ x4 ∧ x4 + 6 ≤ (ag_L g : Int)) (hd : 60 ≤ d) (hc : ∀ s, SR s → LE s → aL_law_2061 g ad d Q rc rs s x4) : Wb g ad d mL_law Q 1942 [some (.ref (ag_b g)), some (.ref (ad 0)), some (.ref (ad 102)), some (.ref (ad 131)), some (vi x4), none, none] [] σ rc rs := by
  have hW := hJ.ci.gm.wf
  refine bL_law_1942 hL h4 hS ?_
  refine Cl.i (q_reach (d := d - 1) hJ.ci hS (by omega)) (by omega) (fun r1 s1 _ hS1 a1 => ?_)
  have b1 : LJ s1 m k h tp tn f := ⟨hJ.ps.cf a1.2.2.c, a1.2.1, hJ.tp_.tf a1.2.2.tf, hJ.tb, hJ.te, hJ.zk⟩
  refine Cl.i ((e_reach (d := d - 1) b1.ps.m hW hS1 (by omega)).p b1.ps) (by omega) (fun r2 s2 _ hS2 a2 => ⟨fun _ _ _ => hc s2 hS2 ⟨_, _, _, _, _, _, a2.2.2.2, b1.ci.fc a2.2.2.1, b1.tp_.fc a2.2.2.1, b1.tb, b1.te, b1.zk⟩, fun z => absurd (a1.1.trans a2.1.symm) z⟩)

theorem cs_1955 (hL : ag_L g ≤ 3072) (hJ : LJ σ m k h tp tn f) (hS : SR σ) (h4 : iR x4) (hb : 0 ≤ x4 ∧ x4 + 6 ≤ (ag_L g : Int)) (hd : 60 ≤ d) (hc : ∀ s, SR s → LE s → aL_law_2061 g ad d Q rc rs s x4) : Wb g ad d mL_law Q 1955 [some (.ref (ag_b g)), some (.ref (ad 0)), some (.ref (ad 102)), some (.ref (ad 131)), some (vi x4), none, none] [] σ rc rs := by
  have hW := hJ.ci.gm.wf
  refine bL_law_1955 hL h4 hS ?_
  refine Cl.i (q_width (d := d - 1) hJ.ci hS (by omega)) (by omega) (fun r1 s1 _ hS1 a1 => ?_)
  have b1 : LJ s1 m k h tp tn f := ⟨hJ.ps.cf a1.2.2.c, a1.2.1, hJ.tp_.tf a1.2.2.tf, hJ.tb, hJ.te, hJ.zk⟩
  refine Cl.i ((e_width (d := d - 1) b1.ps.m hW hS1 b1.ps.li (by omega)).p b1.ps) (by omega) (fun r2 s2 _ hS2 a2 => ⟨fun _ _ _ => hc s2 hS2 ⟨_, _, _, _, _, _, a2.2.2.2, b1.ci.fc a2.2.2.1, b1.tp_.fc a2.2.2.1, b1.tb, b1.te, b1.zk⟩, fun z => absurd (a1.1.trans a2.1.symm) z⟩)

theorem cs_2036 (hL : ag_L g ≤ 3072) (hJ : LJ σ m k h tp tn f) (hS : SR σ) (h4 : iR x4) (hb : 0 ≤ x4 ∧ x4 + 6 ≤ (ag_L g : Int)) (hd : 60 ≤ d) (hc : ∀ s, SR s → LE s → aL_law_2061 g ad d Q rc rs s x4) : Wb g ad d mL_law Q 2036 [some (.ref (ag_b g)), some (.ref (ad 0)), some (.ref (ad 102)), some (.ref (ad 131)), some (vi x4), none, none] [] σ rc rs := by
  have hW := hJ.ci.gm.wf
  have i1 := sx_R (g := g) (x4 + 1)
  refine bL_law_2036 hL h4 hS ⟨⟨by omega, by omega⟩, ?_⟩
  refine Cl.i (q_count (d := d - 1) hJ.ci i1 hS (by omega)) (by omega) (fun r1 s1 _ hS1 a1 => ?_)
  have b1 : LJ s1 m k h tp tn f := ⟨hJ.ps.cf a1.2.2.c, a1.2.1, hJ.tp_.tf a1.2.2.tf, hJ.tb, hJ.te, hJ.zk⟩
  refine Cl.i ((e_count (d := d - 1) b1.ps.m hW hS1 b1.ps.li i1 (by omega)).p b1.ps) (by omega) (fun r2 s2 _ hS2 a2 => ⟨fun _ _ _ => hc s2 hS2 ⟨_, _, _, _, _, _, a2.2.2.2, b1.ci.fc a2.2.2.1, b1.tp_.fc a2.2.2.1, b1.tb, b1.te, b1.zk⟩, fun z => absurd (a1.1.trans a2.1.symm) z⟩)

end CAS

section CA2
variable {g : AG} {ad : Nat → Nat} {d : Nat} {Q : AO → SG → Prop} {rc rs : Nat} {σ : SG} {m m1 k tp : Int → Int} {h tn f x4 : Int}
/-- the class went on to m', the reference not yet -/
def LKm (s : SG) (m m' k : Int → Int) (h : Int) (tp : Int → Int) (tn f : Int) : Prop := PS s m k h tp tn f ∧ CI s m' k h ∧ TP s tp tn f ∧ (∀ j, 0 ≤ tp j ∧ tp j ≤ 255) ∧ (0 ≤ tn ∧ tn ≤ 400) ∧ ZR 855 k
theorem wm1 {M : AM} {mc ms d' : Nat} {as : List Value} {v t : Int} {a : String} (hE : Eb g ad d' M mc ms as σ (XM σ m (if t = 0 then m1 else m) k h v t (X1 a))) (hd : d' + 1 ≤ d) (hJ : LJ σ m k h tp tn f) : Cl g ad d M mc ms as σ (Kx (Ki fun r1 s1 => (iR 0 → SR (setL s1 131 0 r1) → WP t v (fun s => LKm s m (if t = 0 then m1 else m) k h tp tn f) (.inl (some (vi 0))) (setL s1 131 0 r1))) (fun E s1 => (E = a ∧ (iR 1 → SR s1 → WP t v (fun s => LKm s m (if t = 0 then m1 else m) k h tp tn f) (.inl (some (vi 1))) s1)))) := by
  refine ⟨d', hd, Eb.mono hE ?_⟩
  rintro o s (⟨r, e, h1, h2, ht, hr, hc, hcf, htf⟩ | ⟨E, e, h2, ht, hx, hc, hcf, htf⟩)
  · exact Or.inl ⟨r, e, h1, h2, wp0 ht hr ⟨(hJ.ps.cf hcf).L, hc.L, (hJ.tp_.tf htf).L, hJ.tb, hJ.te, hJ.zk⟩⟩
  · exact Or.inr ⟨E, e, h2, hx.1, wpx hx.2.symm (by decide) ⟨hJ.ps.cf hcf, by rw [if_neg ht]; exact hc, hJ.tp_.tf htf, hJ.tb, hJ.te, hJ.zk⟩⟩
theorem wm2 {M : AM} {mc ms d' : Nat} {as : List Value} {v t : Int} {a b : String} (hE : Eb g ad d' M mc ms as σ (XM σ m (if t = 0 then m1 else m) k h v t (X2 a b))) (hd : d' + 1 ≤ d) (hJ : LJ σ m k h tp tn f) : Cl g ad d M mc ms as σ (Kx (Ki fun r1 s1 => (iR 0 → SR (setL s1 131 0 r1) → WP t v (fun s => LKm s m (if t = 0 then m1 else m) k h tp tn f) (.inl (some (vi 0))) (setL s1 131 0 r1))) (fun E s1 => (E = a ∧ (iR 1 → SR s1 → WP t v (fun s => LKm s m (if t = 0 then m1 else m) k h tp tn f) (.inl (some (vi 1))) s1)) ∨ (E = b ∧ (iR 2 → SR s1 → WP t v (fun s => LKm s m (if t = 0 then m1 else m) k h tp tn f) (.inl (some (vi 2))) s1)))) := by
  refine ⟨d', hd, Eb.mono hE ?_⟩
  rintro o s (⟨r, e, h1, h2, ht, hr, hc, hcf, htf⟩ | ⟨E, e, h2, ht, hx, hc, hcf, htf⟩)
  · exact Or.inl ⟨r, e, h1, h2, wp0 ht hr ⟨(hJ.ps.cf hcf).L, hc.L, (hJ.tp_.tf htf).L, hJ.tb, hJ.te, hJ.zk⟩⟩
  · refine Or.inr ⟨E, e, h2, ?_⟩
    have hK : LKm s m (if t = 0 then m1 else m) k h tp tn f := ⟨hJ.ps.cf hcf, by rw [if_neg ht]; exact hc, hJ.tp_.tf htf, hJ.tb, hJ.te, hJ.zk⟩
    rcases hx with hx | hx
    · exact Or.inl ⟨hx.1, wpx hx.2.symm (by decide) hK⟩
    · exact Or.inr ⟨hx.1, wpx hx.2.symm (by decide) hK⟩
theorem rf_m {MX : AM} {bs : List Value} {v t : Int} {d2 : Nat} {m' : Int → Int} (hE : ∀ s, SR s → PS s m k h tp tn f → EP g ad d2 MX bs s v t m' k h tp tn f) : ∀ r s, SR s → (r = t ∧ (t = 0 → la s 131 0 = v) ∧ LKm s m m' k h tp tn f) → Eb g ad d2 MX 0 0 bs s (Ki fun w u => sc u 102 0 = r ∧ (r = 0 → la u 131 0 = w) ∧ LE u) := by
  rintro r s hSs ⟨hr, hv, b1, b2, b3, b4, b5, b6⟩
  refine Eb.mono (hE s hSs b1) ?_
  rintro o u ⟨w, e, a1, a2, a3, a4, a5, a6⟩
  refine ⟨w, e, a1, a2, by rw [hr]; exact a4, fun z => ?_, _, _, _, _, _, _, a6, b2.fc a5, b3.fc a5, b4, b5, b6⟩
  rw [a3, a5.2.1 131 (by omega)]
  exact hv (hr.symm.trans z)
theorem cs_851 (hL : ag_L g ≤ 3072) (hJ : LJ σ m k h tp tn f) (hS : SR σ) (h4 : iR x4) (hb : 0 ≤ x4 ∧ x4 + 6 ≤ (ag_L g : Int)) (hd : 60 ≤ d) (hc : ∀ s, SR s → LE s → aL_law_2061 g ad d Q rc rs s x4) : Wb g ad d mL_law Q 851 [some (.ref (ag_b g)), some (.ref (ad 0)), some (.ref (ad 102)), some (.ref (ad 131)), some (vi x4), none, none] [] σ (rc + 2) (rs + 12) := by
  have hW := hJ.ci.gm.wf
  have i1 := sx_R (g := g) (x4 + 1)
  have i2 := sx_R (g := g) (x4 + 2)
  refine bL_law_851 hL h4 hS ⟨⟨by omega, by omega⟩, ⟨by omega, by omega⟩, ?_⟩
  have hw := EbH (g := g) (ad := ad) (d := d - 1) (M := mL_put) (as := [.ref (ad 0), vi (sx g (x4 + 1)), vi (sx g (x4 + 2)), .ref (ad 131)]) (List.cons_ne_nil _ _) pl_L rfl rfl (bL_put_0 (rc := 0) (rs := 0) i1 i2 hS (wm1 (m_put (d := d - 2) hJ.ci i1 i2 hS (by omega)) (by omega) hJ))
  exact law_w hw (by omega) (by omega) (rf_m (fun s hSs p => e_put (d := d - 1) p hW hSs i1 i2 (by omega))) (fun s hSs hLE _ _ => hc s hSs hLE)
theorem cs_919 (hL : ag_L g ≤ 3072) (hJ : LJ σ m k h tp tn f) (hS : SR σ) (h4 : iR x4) (hb : 0 ≤ x4 ∧ x4 + 6 ≤ (ag_L g : Int)) (hd : 60 ≤ d) (hc : ∀ s, SR s → LE s → aL_law_2061 g ad d Q rc rs s x4) : Wb g ad d mL_law Q 919 [some (.ref (ag_b g)), some (.ref (ad 0)), some (.ref (ad 102)), some (.ref (ad 131)), some (vi x4), none, none] [] σ (rc + 2) (rs + 12) := by
  have hW := hJ.ci.gm.wf
  have i1 := sx_R (g := g) (x4 + 1)
  have i2 := sx_R (g := g) (x4 + 2)
  refine bL_law_919 hL h4 hS ⟨⟨by omega, by omega⟩, ⟨by omega, by omega⟩, ?_⟩
  have hw := EbH (g := g) (ad := ad) (d := d - 1) (M := mL_price) (as := [.ref (ad 0), vi (sx g (x4 + 1)), vi (sx g (x4 + 2)), .ref (ad 131)]) (List.cons_ne_nil _ _) pl_L rfl rfl (bL_price_0 (rc := 0) (rs := 0) i1 i2 hS (wm2 (m_price (d := d - 2) hJ.ci i1 i2 hS (by omega)) (by omega) hJ))
  exact law_w hw (by omega) (by omega) (rf_m (fun s hSs p => e_price (d := d - 1) p hW hSs i1 i2 (by omega))) (fun s hSs hLE _ _ => hc s hSs hLE)
theorem cs_1078 (hL : ag_L g ≤ 3072) (hJ : LJ σ m k h tp tn f) (hS : SR σ) (h4 : iR x4) (hb : 0 ≤ x4 ∧ x4 + 6 ≤ (ag_L g : Int)) (hd : 60 ≤ d) (hc : ∀ s, SR s → LE s → aL_law_2061 g ad d Q rc rs s x4) : Wb g ad d mL_law Q 1078 [some (.ref (ag_b g)), some (.ref (ad 0)), some (.ref (ad 102)), some (.ref (ad 131)), some (vi x4), none, none] [] σ (rc + 1) (rs + 6) := by
  have hW := hJ.ci.gm.wf
  have i1 := sx_R (g := g) (x4 + 1)
  have i2 := sx_R (g := g) (x4 + 2)
  refine bL_law_1078 hL h4 hS ⟨⟨by omega, by omega⟩, ⟨by omega, by omega⟩, ?_⟩
  have hw := EbH (g := g) (ad := ad) (d := d - 1) (M := mL_tune) (as := [.ref (ad 0), vi (sx g (x4 + 1)), vi (sx g (x4 + 2)), .ref (ad 131)]) (List.cons_ne_nil _ _) pl_L rfl rfl (bL_tune_0 (rc := 0) (rs := 0) i1 i2 hS (wm2 (m_tune (d := d - 2) hJ.ci i1 i2 hS (by omega)) (by omega) hJ))
  exact law_w hw (by omega) (by omega) (rf_m (fun s hSs p => e_tune (d := d - 1) p hW hSs i1 i2 (by omega))) (fun s hSs hLE _ _ => hc s hSs hLE)
/-! texts -/
def RP (O : Int → Int → (Int → Int) → Prop) (m k : Int → Int) (h : Int) (tp : Int → Int) (tn f r : Int) (s : SG) : Prop := PS s m k h tp tn f ∧ ((r = 0 ∧ (∀ f' v m', O f' v m' → f' = -1 ∧ v = la s 131 0 ∧ CI s m' k h) ∧ TP s tp 0 (-1)) ∨ (r = 1 ∧ (∀ f' v m', O f' v m' → ¬ f' = -1 ∧ TP s tp 0 f') ∧ CI s m k h))
theorem wr1 {M : AM} {mc ms d' : Nat} {as : List Value} {O : Int → Int → (Int → Int) → Prop} (hE : Eb g ad d' M mc ms as σ (XR σ m k tp h O)) (hd : d' + 1 ≤ d) (hJ : LJ σ m k h tp tn f) : Cl g ad d M mc ms as σ (Kx (Ki fun r1 s1 => (iR 0 → SR (setL s1 131 0 r1) → (Kx (Ki fun r s => RP O m k h tp tn f r s) (fun _ _ => False)) (.inl (some (vi 0))) (setL s1 131 0 r1))) (fun E s1 => (E = "java/lang/IllegalArgumentException" ∧ (iR 1 → SR s1 → (Kx (Ki fun r s => RP O m k h tp tn f r s) (fun _ _ => False)) (.inl (some (vi 1))) s1)))) := by
  refine ⟨d', hd, Eb.mono hE ?_⟩
  rintro o s (⟨r, e, h1, h2, hO, hT, hcf⟩ | ⟨E, e, h2, he, hO, hc, hcf⟩)
  · refine Or.inl ⟨r, e, h1, h2, fun i1 i2 => Or.inl ⟨0, rfl, i1, i2, (hJ.ps.cf hcf).L, Or.inl ⟨rfl, fun f' v m' ho => ?_, hT.L⟩⟩⟩
    have := hO f' v m' ho
    exact ⟨this.1, by rw [la131]; exact this.2.1, this.2.2.L⟩
  · exact Or.inr ⟨E, e, h2, he, fun i1 i2 => Or.inl ⟨1, rfl, i1, i2, hJ.ps.cf hcf, Or.inr ⟨rfl, hO, hc⟩⟩⟩
theorem rf_r {MX : AM} {bs : List Value} {d2 : Nat} {O : Int → Int → (Int → Int) → Prop} (htb : ∀ j, 0 ≤ tp j ∧ tp j ≤ 255) (hzk : ZR 855 k) (hE : ∀ s, SR s → PS s m k h tp tn f → Eb g ad d2 MX 0 0 bs s (Ki fun r u => ∃ f' v m', O f' v m' ∧ RD s u m k h tp r f' v m')) : ∀ r s, SR s → RP O m k h tp tn f r s → Eb g ad d2 MX 0 0 bs s (Ki fun w u => sc u 102 0 = r ∧ (r = 0 → la u 131 0 = w) ∧ LE u) := by
  rintro r s hSs ⟨hp, hb⟩
  refine Eb.mono (hE s hSs hp) ?_
  rintro o u ⟨w, e, a1, a2, f', v, m', ho, hfc, hy, hn⟩
  refine ⟨w, e, a1, a2, ?_⟩
  rcases hb with ⟨hr, hO, hT⟩ | ⟨hr, hO, hC⟩
  · have b := hO f' v m' ho
    have c := hy b.1
    refine ⟨by rw [hr]; exact c.2.1, fun _ => ?_, _, _, _, _, _, _, c.2.2.1, b.2.2.fc hfc, hT.fc hfc, htb, by omega, hzk⟩
    rw [hfc.2.1 131 (by omega), c.1]
    exact b.2.1.symm
  · have b := hO f' v m' ho
    have c := hn b.1
    exact ⟨by rw [hr]; exact c.2.1, fun z => by omega, _, _, _, _, _, _, c.2.2, hC.fc hfc, b.2.fc hfc, htb, by omega, hzk⟩
theorem cs_306 (hL : ag_L g ≤ 3072) (hJ : LJ σ m k h tp tn f) (hS : SR σ) (h4 : iR x4) (hd : 60 ≤ d) (hc : ∀ s, SR s → LE s → aL_law_2061 g ad d Q rc rs s x4) : Wb g ad d mL_law Q 306 [some (.ref (ag_b g)), some (.ref (ad 0)), some (.ref (ad 102)), some (.ref (ad 131)), some (vi x4), none, none] [] σ (rc + 1) (rs + 6) := by
  refine bL_law_306 hL h4 hS ?_
  have hw := EbH (g := g) (ad := ad) (d := d - 1) (M := mL_book) (as := [.ref (ad 0), .ref (ad 131)]) (List.cons_ne_nil _ _) pl_L rfl rfl (bL_book_0 (rc := 0) (rs := 0) hS (wr1 (r_book (d := d - 2) hJ.ci hJ.tp_ hJ.tb hJ.te hS (by omega)) (by omega) hJ))
  exact law_w hw (by omega) (by omega) (rf_r hJ.tb hJ.zk (fun s hSs p => e_book (d := d - 1) p hJ.ci.gm hJ.tb hJ.te hSs (by omega))) (fun s hSs hLE _ _ => hc s hSs hLE)
theorem cs_350 (hL : ag_L g ≤ 3072) (hJ : LJ σ m k h tp tn f) (hS : SR σ) (h4 : iR x4) (hd : 60 ≤ d) (hc : ∀ s, SR s → LE s → aL_law_2061 g ad d Q rc rs s x4) : Wb g ad d mL_law Q 350 [some (.ref (ag_b g)), some (.ref (ad 0)), some (.ref (ad 102)), some (.ref (ad 131)), some (vi x4), none, none] [] σ (rc + 1) (rs + 6) := by
  refine bL_law_350 hL h4 hS ?_
  have hw := EbH (g := g) (ad := ad) (d := d - 1) (M := mL_fluency) (as := [.ref (ad 0), .ref (ad 131)]) (List.cons_ne_nil _ _) pl_L rfl rfl (bL_fluency_0 (rc := 0) (rs := 0) hS (wr1 (r_fluency (d := d - 2) hJ.ci hJ.tp_ hJ.tb hJ.te hS (by omega)) (by omega) hJ))
  exact law_w hw (by omega) (by omega) (rf_r hJ.tb hJ.zk (fun s hSs p => e_fluency (d := d - 1) p hJ.ci.gm hJ.tb hJ.te hSs (by omega))) (fun s hSs hLE _ _ => hc s hSs hLE)
theorem cs_394 (hL : ag_L g ≤ 3072) (hJ : LJ σ m k h tp tn f) (hS : SR σ) (h4 : iR x4) (hd : 60 ≤ d) (hc : ∀ s, SR s → LE s → aL_law_2061 g ad d Q rc rs s x4) : Wb g ad d mL_law Q 394 [some (.ref (ag_b g)), some (.ref (ad 0)), some (.ref (ad 102)), some (.ref (ad 131)), some (vi x4), none, none] [] σ (rc + 1) (rs + 6) := by
  refine bL_law_394 hL h4 hS ?_
  have hw := EbH (g := g) (ad := ad) (d := d - 1) (M := mL_sentence) (as := [.ref (ad 0), .ref (ad 131)]) (List.cons_ne_nil _ _) pl_L rfl rfl (bL_sentence_0 (rc := 0) (rs := 0) hS (wr1 (r_sentence (d := d - 2) hJ.ci hJ.tp_ hJ.tb hJ.te hS (by omega)) (by omega) hJ))
  exact law_w hw (by omega) (by omega) (rf_r hJ.tb hJ.zk (fun s hSs p => e_sentence (d := d - 1) p hJ.ci.gm hJ.tb hJ.te hSs (by omega))) (fun s hSs hLE _ _ => hc s hSs hLE)
def RPl (m k : Int → Int) (h : Int) (tp : Int → Int) (tn f r : Int) (s : SG) : Prop := PS s m k h tp tn f ∧ ((r = 0 ∧ (∀ f' u v m', lrnR tp tn m f' u v m' → f' = -1 ∧ u = 0 ∧ v = la s 131 0 ∧ CI s m' k h) ∧ TP s tp 0 (-1)) ∨ (r = 1 ∧ (∀ f' u v m', lrnR tp tn m f' u v m' → ¬ f' = -1 ∧ TP s tp 0 f') ∧ CI s m k h) ∨ (r = 2 ∧ (∀ f' u v m', lrnR tp tn m f' u v m' → f' = -1 ∧ ¬ u = 0) ∧ TP s tp 0 (-1) ∧ CI s m k h))
theorem cs_438 (hL : ag_L g ≤ 3072) (hJ : LJ σ m k h tp tn f) (hS : SR σ) (h4 : iR x4) (hd : 60 ≤ d) (hc : ∀ s, SR s → LE s → aL_law_2061 g ad d Q rc rs s x4) : Wb g ad d mL_law Q 438 [some (.ref (ag_b g)), some (.ref (ad 0)), some (.ref (ad 102)), some (.ref (ad 131)), some (vi x4), none, none] [] σ (rc + 2) (rs + 12) := by
  refine bL_law_438 hL h4 hS ?_
  have hcl : Cl g ad (d - 1) mX10_learn 2 12 [.ref (ad 0)] σ (Kx (Ki fun r1 s1 => (iR 0 → SR (setL s1 131 0 r1) → (Kx (Ki fun r s => RPl m k h tp tn f r s) (fun _ _ => False)) (.inl (some (vi 0))) (setL s1 131 0 r1))) (fun E s1 => (E = "java/lang/IllegalArgumentException" ∧ (iR 1 → SR s1 → (Kx (Ki fun r s => RPl m k h tp tn f r s) (fun _ _ => False)) (.inl (some (vi 1))) s1)) ∨ (E = "java/lang/UnsupportedOperationException" ∧ (iR 2 → SR s1 → (Kx (Ki fun r s => RPl m k h tp tn f r s) (fun _ _ => False)) (.inl (some (vi 2))) s1)))) := by
    refine ⟨d - 2, by omega, Eb.mono (r_learn (d := d - 2) hJ.ci hJ.tp_ hJ.tb hJ.te hS (by omega)) ?_⟩
    rintro o s (⟨r, e, h1, h2, hO, hT, hcf⟩ | ⟨E, e, h2, ⟨he, hO, hci, hcf⟩ | ⟨he, hO, hT, hci, hcf⟩⟩)
    · refine Or.inl ⟨r, e, h1, h2, fun i1 i2 => Or.inl ⟨0, rfl, i1, i2, (hJ.ps.cf hcf).L, Or.inl ⟨rfl, fun f' u v m' ho => ?_, hT.L⟩⟩⟩
      have := hO f' u v m' ho
      exact ⟨this.1, this.2.1, by rw [la131]; exact this.2.2.1, this.2.2.2.L⟩
    · exact Or.inr ⟨E, e, h2, Or.inl ⟨he, fun i1 i2 => Or.inl ⟨1, rfl, i1, i2, hJ.ps.cf hcf, Or.inr (Or.inl ⟨rfl, hO, hci⟩)⟩⟩⟩
    · exact Or.inr ⟨E, e, h2, Or.inr ⟨he, fun i1 i2 => Or.inl ⟨2, rfl, i1, i2, hJ.ps.cf hcf, Or.inr (Or.inr ⟨rfl, hO, hT, hci⟩)⟩⟩⟩
  have hw := EbH (g := g) (ad := ad) (d := d - 1) (M := mL_learn) (as := [.ref (ad 0), .ref (ad 131)]) (List.cons_ne_nil _ _) pl_L rfl rfl (bL_learn_0 (rc := 0) (rs := 0) hS hcl)
  refine law_w hw (by omega) (by omega) ?_ (fun s hSs hLE _ _ => hc s hSs hLE)
  rintro r s hSs ⟨hp, hb⟩
  refine Eb.mono (e_learn (d := d - 1) hp hJ.ci.gm hJ.tb hJ.te hSs (by omega)) ?_
  rintro o u ⟨w, e, a1, a2, f', uu, v, m', ho, hfc, hn, hy⟩
  refine ⟨w, e, a1, a2, ?_⟩
  rcases hb with ⟨hr, hO, hT⟩ | ⟨hr, hO, hC⟩ | ⟨hr, hO, hT, hC⟩
  · have b := hO f' uu v m' ho
    have c := (hy b.1).1 b.2.1
    refine ⟨by rw [hr]; exact c.2.1, fun _ => ?_, _, _, _, _, _, _, c.2.2.1, b.2.2.2.fc hfc, hT.fc hfc, hJ.tb, by omega, hJ.zk⟩
    rw [hfc.2.1 131 (by omega), c.1]
    exact b.2.2.1.symm
  · have b := hO f' uu v m' ho
    have c := hn b.1
    exact ⟨by rw [hr]; exact c.2.1, fun z => by omega, _, _, _, _, _, _, c.2.2, hC.fc hfc, b.2.fc hfc, hJ.tb, by omega, hJ.zk⟩
  · have b := hO f' uu v m' ho
    have c := (hy b.1).2 b.2
    exact ⟨by rw [hr]; exact c.2.1, fun z => by omega, _, _, _, _, _, _, c.2.2, hC.fc hfc, hT.fc hfc, hJ.tb, by omega, hJ.zk⟩
/-! told texts -/
def QP (V : List Int → Int) (m k : Int → Int) (h : Int) (tp : Int → Int) (tn f r : Int) (s : SG) : Prop := PS s m k h tp tn f ∧ CI s m k h ∧ ((r = 0 ∧ ∃ l, toldP tp tn m = .ok l ∧ la s 131 0 = V l ∧ TP s tp 0 (-1)) ∨ (r = 1 ∧ ∃ f', toldP tp tn m = .error f' ∧ TP s tp 0 f'))
theorem wt1 {M : AM} {mc ms d' : Nat} {as : List Value} {V : List Int → Int} (hE : Eb g ad d' M mc ms as σ (XT σ m k tp h tn V)) (hd : d' + 1 ≤ d) (hJ : LJ σ m k h tp tn f) : Cl g ad d M mc ms as σ (Kx (Ki fun r1 s1 => (iR 0 → SR (setL s1 131 0 r1) → (Kx (Ki fun r s => QP V m k h tp tn f r s) (fun _ _ => False)) (.inl (some (vi 0))) (setL s1 131 0 r1))) (fun E s1 => (E = "java/lang/IllegalArgumentException" ∧ (iR 1 → SR s1 → (Kx (Ki fun r s => QP V m k h tp tn f r s) (fun _ _ => False)) (.inl (some (vi 1))) s1)))) := by
  refine ⟨d', hd, Eb.mono hE ?_⟩
  rintro o s (⟨r, e, h1, h2, l, hl, hr, hc, hT, hcf⟩ | ⟨E, e, h2, he, f', hf, _, hc, hT, hcf⟩)
  · exact Or.inl ⟨r, e, h1, h2, fun i1 i2 => Or.inl ⟨0, rfl, i1, i2, (hJ.ps.cf hcf).L, hc.L, Or.inl ⟨rfl, l, hl, by rw [la131]; exact hr, hT.L⟩⟩⟩
  · exact Or.inr ⟨E, e, h2, he, fun i1 i2 => Or.inl ⟨1, rfl, i1, i2, hJ.ps.cf hcf, hc, Or.inr ⟨rfl, f', hf, hT⟩⟩⟩
theorem rf_t {MX : AM} {bs : List Value} {d2 : Nat} {V : List Int → Int} (htb : ∀ j, 0 ≤ tp j ∧ tp j ≤ 255) (hzk : ZR 855 k) (hE : ∀ s, SR s → PS s m k h tp tn f → Eb g ad d2 MX 0 0 bs s (Ki fun r u => TQ s u m k h tp r (toldP tp tn m) V)) : ∀ r s, SR s → QP V m k h tp tn f r s → Eb g ad d2 MX 0 0 bs s (Ki fun w u => sc u 102 0 = r ∧ (r = 0 → la u 131 0 = w) ∧ LE u) := by
  rintro r s hSs ⟨hp, hci, hb⟩
  refine Eb.mono (hE s hSs hp) ?_
  rintro o u ⟨w, e, a1, a2, hq⟩
  refine ⟨w, e, a1, a2, ?_⟩
  rcases hb with ⟨hr, l, hl, hv, hT⟩ | ⟨hr, f', hf, hT⟩
  · rw [hl] at hq
    obtain ⟨b1, b2, b3, b4⟩ := hq
    refine ⟨by rw [hr]; exact b2, fun _ => ?_, _, _, _, _, _, _, b4, hci.fc b3, hT.fc b3, htb, by omega, hzk⟩
    rw [b3.2.1 131 (by omega), b1]
    exact hv
  · rw [hf] at hq
    obtain ⟨_, b1, b2, b3, b4⟩ := hq
    exact ⟨by rw [hr]; exact b2, fun z => by omega, _, _, _, _, _, _, b4, hci.fc b3, hT.fc b3, htb, by omega, hzk⟩
theorem cs_1716 (hL : ag_L g ≤ 3072) (hJ : LJ σ m k h tp tn f) (hS : SR σ) (h4 : iR x4) (hd : 60 ≤ d) (hc : ∀ s, SR s → LE s → aL_law_2061 g ad d Q rc rs s x4) : Wb g ad d mL_law Q 1716 [some (.ref (ag_b g)), some (.ref (ad 0)), some (.ref (ad 102)), some (.ref (ad 131)), some (vi x4), none, none] [] σ (rc + 1) (rs + 6) := by
  refine bL_law_1716 hL h4 hS ?_
  have hw := EbH (g := g) (ad := ad) (d := d - 1) (M := mL_forced) (as := [.ref (ad 0), .ref (ad 131)]) (List.cons_ne_nil _ _) pl_L rfl rfl (bL_forced_0 (rc := 0) (rs := 0) hS (wt1 (t_forced (d := d - 2) hJ.ci hJ.tp_ hJ.tb hJ.te hS (by omega)) (by omega) hJ))
  exact law_w hw (by omega) (by omega) (rf_t hJ.tb hJ.zk (fun s hSs p => e_forced (d := d - 1) p hJ.ci.gm hJ.tb hJ.te hSs (by omega))) (fun s hSs hLE _ _ => hc s hSs hLE)
theorem cs_1760 (hL : ag_L g ≤ 3072) (hJ : LJ σ m k h tp tn f) (hS : SR σ) (h4 : iR x4) (hd : 60 ≤ d) (hc : ∀ s, SR s → LE s → aL_law_2061 g ad d Q rc rs s x4) : Wb g ad d mL_law Q 1760 [some (.ref (ag_b g)), some (.ref (ad 0)), some (.ref (ad 102)), some (.ref (ad 131)), some (vi x4), none, none] [] σ (rc + 1) (rs + 6) := by
  refine bL_law_1760 hL h4 hS ?_
  have hw := EbH (g := g) (ad := ad) (d := d - 1) (M := mL_near) (as := [.ref (ad 0), .ref (ad 131)]) (List.cons_ne_nil _ _) pl_L rfl rfl (bL_near_0 (rc := 0) (rs := 0) hS (wt1 (t_near (d := d - 2) hJ.ci hJ.tp_ hJ.tb hJ.te hS (by omega)) (by omega) hJ))
  exact law_w hw (by omega) (by omega) (rf_t hJ.tb hJ.zk (fun s hSs p => e_near (d := d - 1) p hJ.ci.gm hJ.tb hJ.te hSs (by omega))) (fun s hSs hLE _ _ => hc s hSs hLE)
theorem cs_1968 (hL : ag_L g ≤ 3072) (hJ : LJ σ m k h tp tn f) (hS : SR σ) (h4 : iR x4) (hd : 60 ≤ d) (hc : ∀ s, SR s → LE s → aL_law_2061 g ad d Q rc rs s x4) : Wb g ad d mL_law Q 1968 [some (.ref (ag_b g)), some (.ref (ad 0)), some (.ref (ad 102)), some (.ref (ad 131)), some (vi x4), none, none] [] σ (rc + 1) (rs + 6) := by
  refine bL_law_1968 hL h4 hS ?_
  have hw := EbH (g := g) (ad := ad) (d := d - 1) (M := mL_tuned) (as := [.ref (ad 0), .ref (ad 131)]) (List.cons_ne_nil _ _) pl_L rfl rfl (bL_tuned_0 (rc := 0) (rs := 0) hS (wt1 (t_tuned (d := d - 2) hJ.ci hJ.tp_ hJ.tb hJ.te hS (by omega)) (by omega) hJ))
  exact law_w hw (by omega) (by omega) (rf_t hJ.tb hJ.zk (fun s hSs p => e_tuned (d := d - 1) p hJ.ci.gm hJ.tb hJ.te hSs (by omega))) (fun s hSs hLE _ _ => hc s hSs hLE)
theorem cs_1804 (hL : ag_L g ≤ 3072) (hJ : LJ σ m k h tp tn f) (hS : SR σ) (h4 : iR x4) (hb : 0 ≤ x4 ∧ x4 + 6 ≤ (ag_L g : Int)) (hd : 60 ≤ d) (hc : ∀ s, SR s → LE s → aL_law_2061 g ad d Q rc rs s x4) : Wb g ad d mL_law Q 1804 [some (.ref (ag_b g)), some (.ref (ad 0)), some (.ref (ad 102)), some (.ref (ad 131)), some (vi x4), none, none] [] σ (rc + 1) (rs + 6) := by
  have i1 := sx_R (g := g) (x4 + 1)
  refine bL_law_1804 hL h4 hS ⟨⟨by omega, by omega⟩, ?_⟩
  generalize sx g (x4 + 1) = x1 at i1 ⊢
  have hcl : Cl g ad (d - 1) mX10_match 1 6 [.ref (ad 0), vi x1] σ (Kx (Ki fun r1 s1 => (iR 0 → SR (setL s1 131 0 r1) → (Kx (Ki fun r s => ((1 ≤ x1 ∧ x1 ≤ 3) ∧ QP (matchV m x1) m k h tp tn f r s) ∨ (¬ (1 ≤ x1 ∧ x1 ≤ 3) ∧ r = 1 ∧ PS s m k h tp tn f ∧ CI s m k h ∧ TP s tp 0 f)) (fun _ _ => False)) (.inl (some (vi 0))) (setL s1 131 0 r1))) (fun E s1 => (E = "java/lang/IllegalArgumentException" ∧ (iR 1 → SR s1 → (Kx (Ki fun r s => ((1 ≤ x1 ∧ x1 ≤ 3) ∧ QP (matchV m x1) m k h tp tn f r s) ∨ (¬ (1 ≤ x1 ∧ x1 ≤ 3) ∧ r = 1 ∧ PS s m k h tp tn f ∧ CI s m k h ∧ TP s tp 0 f)) (fun _ _ => False)) (.inl (some (vi 1))) s1)))) := by
    refine ⟨d - 2, by omega, Eb.mono (t_match (d := d - 2) hJ.ci hJ.tp_ hJ.tb hJ.te i1 hS (by omega)) ?_⟩
    rintro o s (⟨r, e, h1, h2, hx, l, hl, hr, hci, hT, hcf⟩ | ⟨E, e, h2, he, ⟨hx, f', hf, _, hci, hT, hcf⟩ | ⟨hx, hci, hT, hcf⟩⟩)
    · exact Or.inl ⟨r, e, h1, h2, fun j1 j2 => Or.inl ⟨0, rfl, j1, j2, Or.inl ⟨hx, (hJ.ps.cf hcf).L, hci.L, Or.inl ⟨rfl, l, hl, by rw [la131]; exact hr, hT.L⟩⟩⟩⟩
    · exact Or.inr ⟨E, e, h2, he, fun j1 j2 => Or.inl ⟨1, rfl, j1, j2, Or.inl ⟨hx, hJ.ps.cf hcf, hci, Or.inr ⟨rfl, f', hf, hT⟩⟩⟩⟩
    · exact Or.inr ⟨E, e, h2, he, fun j1 j2 => Or.inl ⟨1, rfl, j1, j2, Or.inr ⟨hx, rfl, hJ.ps.cf hcf, hci, hT⟩⟩⟩
  have hw := EbH (g := g) (ad := ad) (d := d - 1) (M := mL_match) (as := [.ref (ad 0), vi x1, .ref (ad 131)]) (List.cons_ne_nil _ _) pl_L rfl rfl (bL_match_0 (rc := 0) (rs := 0) i1 hS hcl)
  refine law_w hw (by omega) (by omega) ?_ (fun s hSs hLE _ _ => hc s hSs hLE)
  rintro r s hSs (⟨hx, hq⟩ | ⟨hx, hr, hp, hci, hT⟩)
  · refine rf_t hJ.tb hJ.zk (fun s hSs p => ?_) r s hSs hq
    refine Eb.mono (e_match (d := d - 1) p hJ.ci.gm hJ.tb hJ.te hSs i1 (by omega)) ?_
    rintro o u ⟨w, e, a1, a2, a3, _⟩
    exact ⟨w, e, a1, a2, a3 hx⟩
  · refine Eb.mono (e_match (d := d - 1) hp hJ.ci.gm hJ.tb hJ.te hSs i1 (by omega)) ?_
    rintro o u ⟨w, e, a1, a2, _, a4⟩
    obtain ⟨b1, b2, b3, b4⟩ := a4 hx
    exact ⟨w, e, a1, a2, by rw [hr]; exact b2, fun z => by omega, _, _, _, _, _, _, b4, hci.fc b3, hT.fc b3, hJ.tb, by omega, hJ.zk⟩
/-! feeding, the image -/
theorem cs_208 (hL : ag_L g ≤ 3072) (hJ : LJ σ m k h tp tn f) (hS : SR σ) (h4 : iR x4) (hb : 0 ≤ x4 ∧ x4 + 6 ≤ (ag_L g : Int)) (hd : 60 ≤ d) (hc : ∀ s, SR s → LE s → aL_law_2061 g ad d Q rc rs s x4) : Wb g ad d mL_law Q 208 [some (.ref (ag_b g)), some (.ref (ad 0)), some (.ref (ad 102)), some (.ref (ad 131)), some (vi x4), none, none] [] σ rc rs := by
  have i1 := sx_R (g := g) (x4 + 1)
  have i2 := sx_R (g := g) (x4 + 2)
  have i3 := sx_R (g := g) (x4 + 3)
  have i4 := sx_R (g := g) (x4 + 4)
  have i5 := sx_R (g := g) (x4 + 5)
  refine bL_law_208 hL h4 hS ⟨⟨by omega, by omega⟩, ⟨by omega, by omega⟩, ⟨by omega, by omega⟩, ⟨by omega, by omega⟩, ⟨by omega, by omega⟩, ?_⟩
  refine Cl.i (i_feed (d := d - 1) hJ.ci hJ.tp_ hJ.te i1 i2 i3 i4 i5 hS (by omega)) (by omega) (fun r1 s1 _ hS1 a1 => ?_)
  have p1 := hJ.ps.cf a1.2.2.2
  refine Cl.i (e_feed (d := d - 1) p1 hJ.te hS1 i1 i2 i3 i4 i5) (by omega) (fun r2 s2 _ hS2 a2 => ⟨fun _ _ _ => hc s2 hS2 ⟨_, _, _, _, _, _, a2.2.2.2, a1.2.1.fc a2.2.2.1, a1.2.2.1.fc a2.2.2.1, ?_, ?_, hJ.zk⟩, fun z => absurd (a1.1.trans a2.1.symm) z⟩)
  · by_cases c : tn ≤ 380
    · rw [if_pos c]
      exact feed_b hJ.tb tn
    · rw [if_neg c]
      exact hJ.tb
  · have := hJ.te
    split <;> omega
theorem cs_281 (hL : ag_L g ≤ 3072) (hJ : LJ σ m k h tp tn f) (hS : SR σ) (h4 : iR x4) (hb : 0 ≤ x4 ∧ x4 + 6 ≤ (ag_L g : Int)) (hd : 60 ≤ d) (hc : ∀ s, SR s → LE s → aL_law_2061 g ad d Q rc rs s x4) : Wb g ad d mL_law Q 281 [some (.ref (ag_b g)), some (.ref (ad 0)), some (.ref (ad 102)), some (.ref (ad 131)), some (vi x4), none, none] [] σ rc rs := by
  have i1 := sx_R (g := g) (x4 + 1)
  refine bL_law_281 hL h4 hS ⟨⟨by omega, by omega⟩, ?_⟩
  refine Cl.i (i_end (d := d - 1) hJ.ci hJ.tp_ i1 hS) (by omega) (fun r1 s1 _ hS1 a1 => ?_)
  have p1 := hJ.ps.cf a1.2.2.2
  refine Cl.i (e_end (d := d - 1) p1 hS1 i1 (by omega)) (by omega) (fun r2 s2 _ hS2 a2 => ⟨fun _ _ _ => hc s2 hS2 ⟨_, _, _, _, _, _, a2.2.2.2, a1.2.1.fc a2.2.2.1, a1.2.2.1.fc a2.2.2.1, hJ.tb, ?_, hJ.zk⟩, fun z => absurd (a1.1.trans a2.1.symm) z⟩)
  have := hJ.te
  split <;> omega
theorem cs_482 (hL : ag_L g ≤ 3072) (hJ : LJ σ m k h tp tn f) (hS : SR σ) (h4 : iR x4) (hd : 60 ≤ d) (hc : ∀ s, SR s → LE s → aL_law_2061 g ad d Q rc rs s x4) : Wb g ad d mL_law Q 482 [some (.ref (ag_b g)), some (.ref (ad 0)), some (.ref (ad 102)), some (.ref (ad 131)), some (vi x4), none, none] [] σ rc rs := by
  refine bL_law_482 hL h4 hS ?_
  refine EI.k (i_fault (d := d - 1) hJ.tp_ hS) (by omega) (fun _ _ => ?_)
  have he := (e_fault (g := g) (ad := ad) (d := d - 1) hS hJ.ps.li).p hJ.ps
  rw [hJ.ps.f] at he
  exact Cl.i he (by omega) (fun r2 s2 _ hS2 a2 => ⟨fun _ _ _ => hc s2 hS2 ⟨_, _, _, _, _, _, a2.2.2.2, hJ.ci.fc a2.2.2.1, hJ.tp_.fc a2.2.2.1, hJ.tb, hJ.te, hJ.zk⟩, fun z => absurd a2.1.symm z⟩)
theorem cs_2012 (hL : ag_L g ≤ 3072) (hJ : LJ σ m k h tp tn f) (hS : SR σ) (h4 : iR x4) (hd : 60 ≤ d) (hc : ∀ s, SR s → LE s → aL_law_2061 g ad d Q rc rs s x4) : Wb g ad d mL_law Q 2012 [some (.ref (ag_b g)), some (.ref (ad 0)), some (.ref (ad 102)), some (.ref (ad 131)), some (vi x4), none, none] [] σ rc rs := by
  refine bL_law_2012 hL h4 hS ?_
  refine Cl.vo (i_image (d := d - 1) hJ.ci hS (by omega)) (by omega) (fun s1 hS1 a1 => ?_)
  have p1 := hJ.ps.cf a1.2.1
  exact Cl.vo (e_image (d := d - 1) p1 hJ.ci.gm.zr hJ.zk hS1) (by omega) (fun s2 hS2 a2 _ _ => hc s2 hS2 ⟨_, _, _, _, _, _, a2.2, a1.1.fc a2.1, (hJ.tp_.tf a1.2.2).fc a2.1, hJ.tb, hJ.te, hJ.ci.gm.zr⟩)
theorem cs_2023 (hL : ag_L g ≤ 3072) (hJ : LJ σ m k h tp tn f) (hS : SR σ) (h4 : iR x4) (hd : 60 ≤ d) (hc : ∀ s, SR s → LE s → aL_law_2061 g ad d Q rc rs s x4) : Wb g ad d mL_law Q 2023 [some (.ref (ag_b g)), some (.ref (ad 0)), some (.ref (ad 102)), some (.ref (ad 131)), some (vi x4), none, none] [] σ rc rs := by
  refine bL_law_2023 hL h4 hS ?_
  refine Cl.i (i_back (d := d - 1) hJ.ci hS (by omega)) (by omega) (fun r1 s1 _ hS1 a1 => ?_)
  have p1 := hJ.ps.cf a1.2.2.1
  exact Cl.i (e_back (d := d - 1) p1 hJ.ci.gm.zr hJ.zk hS1) (by omega) (fun r2 s2 _ hS2 a2 => ⟨fun _ _ _ => hc s2 hS2 ⟨_, _, _, _, _, _, a2.2.2.2, a1.2.1.fc a2.2.2.1, (hJ.tp_.tf a1.2.2.2).fc a2.2.2.1, hJ.tb, hJ.te, hJ.zk⟩, fun z => absurd (a1.1.trans a2.1.symm) z⟩)
end CA2

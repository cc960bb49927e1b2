section QRY
variable {g : AG} {ad : Nat → Nat} {d : Nat} {σ : SG} {m mi t : Int → Int} {k : Nat} {hi : Int}
abbrev xIO : String := "java/lang/IndexOutOfBoundsException"
abbrev xIA : String := "java/lang/IllegalArgumentException"
abbrev xNS : String := "java/util/NoSuchElementException"
abbrev xUO : String := "java/lang/UnsupportedOperationException"
def X1 (a : String) : String → Int → Prop := fun E t => E = a ∧ t = 1
def X2 (a b : String) : String → Int → Prop := fun E t => (E = a ∧ t = 1) ∨ (E = b ∧ t = 2)
/-- how a question of the class ends -/
def XC (σ : SG) (m mi : Int → Int) (hi v t : Int) (X : String → Int → Prop) : AO → SG → Prop := Kx (Ki fun r s => t = 0 ∧ r = v ∧ CI s m mi hi ∧ Qf σ s) (fun E s => ¬ t = 0 ∧ X E t ∧ CI s m mi hi ∧ Qf σ s)
theorem xr {s : SG} {r v t : Int} {X : String → Int → Prop} (ht : t = 0) (hr : r = v) (hc : CI s m mi hi) (hq : Qf σ s) : iR r → SR s → XC σ m mi hi v t X (.inl (some (vi r))) s := fun h1 h2 => Or.inl ⟨r, rfl, h1, h2, ht, hr, hc, hq⟩
theorem xe {s : SG} {v t : Int} {E : String} {X : String → Int → Prop} (ht : ¬ t = 0) (hx : X E t) (hc : CI s m mi hi) (hq : Qf σ s) : SR s → XC σ m mi hi v t X (.inr E) s := fun h2 => Or.inr ⟨E, rfl, h2, ht, hx, hc, hq⟩
theorem Cl.xv {M : AM} {mc ms d' : Nat} {as : List Value} {P K : SG → Prop} {X X' : String → SG → Prop} (h : Eb g ad d' M mc ms as σ (Kx (Kv P) X)) (hd : d' + 1 ≤ d) (k : ∀ s, SR s → P s → K s) (x : ∀ E s, SR s → X E s → X' E s) : Cl g ad d M mc ms as σ (Kx (Kv K) X') := by
  refine ⟨d', hd, Eb.mono h ?_⟩
  rintro o s (⟨e, h1, h3⟩ | ⟨E, e, h1, h3⟩)
  · exact Or.inl ⟨e, h1, k s h1 h3⟩
  · exact Or.inr ⟨E, e, h1, x E s h1 h3⟩
theorem p_checkWord {x : Int} (h : CI σ m mi hi) (hx : iR x) (hS : SR σ) (hd : 8 ≤ d) : Eb g ad d mX10_checkWord 1 6 [.ref (ad 0), vi x] σ (Kx (Kv fun s => s = σ ∧ (0 ≤ x ∧ x < m 0)) (fun E s => s = σ ∧ E = xIO ∧ ¬ (0 ≤ x ∧ x < m 0))) := by
  refine EbS rfl pl_X10 rfl rfl (bX10_checkWord_0 hx hS ⟨fun c => ⟨hd, fun h2 => Or.inr ⟨_, rfl, h2, rfl, rfl, by omega⟩⟩, fun c => ⟨h.isk, ?_⟩⟩)
  rw [h.rk.w]
  exact ⟨fun c2 h2 => Or.inl ⟨rfl, h2, rfl, by omega⟩, fun c2 => ⟨hd, fun h2 => Or.inr ⟨_, rfl, h2, rfl, rfl, by omega⟩⟩⟩
theorem p_checkPhrase {x : Int} (h : CI σ m mi hi) (hx : iR x) (hS : SR σ) (hd : 8 ≤ d) : Eb g ad d mX10_checkPhrase 1 6 [.ref (ad 0), vi x] σ (Kx (Kv fun s => s = σ ∧ (0 ≤ x ∧ x < m 1)) (fun E s => s = σ ∧ E = xIO ∧ ¬ (0 ≤ x ∧ x < m 1))) := by
  refine EbS rfl pl_X10 rfl rfl (bX10_checkPhrase_0 hx hS ⟨fun c => ⟨hd, fun h2 => Or.inr ⟨_, rfl, h2, rfl, rfl, by omega⟩⟩, fun c => ⟨h.isk, ?_⟩⟩)
  rw [h.rk.p]
  exact ⟨fun c2 h2 => Or.inl ⟨rfl, h2, rfl, by omega⟩, fun c2 => ⟨hd, fun h2 => Or.inr ⟨_, rfl, h2, rfl, rfl, by omega⟩⟩⟩
theorem p_checkPlace {x : Int} (h : CI σ m mi hi) (hx : iR x) (hS : SR σ) (hd : 8 ≤ d) : Eb g ad d mX10_checkPlace 1 6 [.ref (ad 0), vi x] σ (Kx (Kv fun s => s = σ ∧ (0 ≤ x ∧ x < m 3)) (fun E s => s = σ ∧ E = xIO ∧ ¬ (0 ≤ x ∧ x < m 3))) := by
  refine EbS rfl pl_X10 rfl rfl (bX10_checkPlace_0 hx hS ⟨fun c => ⟨hd, fun h2 => Or.inr ⟨_, rfl, h2, rfl, rfl, by omega⟩⟩, fun c => ⟨h.isk, ?_⟩⟩)
  rw [h.rk.n]
  exact ⟨fun c2 h2 => Or.inl ⟨rfl, h2, rfl, by omega⟩, fun c2 => ⟨hd, fun h2 => Or.inr ⟨_, rfl, h2, rfl, rfl, by omega⟩⟩⟩
theorem p_checkWay {x : Int} (hx : iR x) (hS : SR σ) (hd : 8 ≤ d) : Eb g ad d mX10_checkWay 1 6 [.ref (ad 0), vi x] σ (Kx (Kv fun s => s = σ ∧ (0 ≤ x ∧ x ≤ 29)) (fun E s => s = σ ∧ E = xIA ∧ ¬ (0 ≤ x ∧ x ≤ 29))) := by
  refine EbS rfl pl_X10 rfl rfl (bX10_checkWay_0 hx hS ⟨fun c => ⟨hd, fun h2 => Or.inr ⟨_, rfl, h2, rfl, rfl, by omega⟩⟩, fun c => ?_⟩)
  exact ⟨fun c2 h2 => Or.inl ⟨rfl, h2, rfl, by omega⟩, fun c2 => ⟨hd, fun h2 => Or.inr ⟨_, rfl, h2, rfl, rfl, by omega⟩⟩⟩
theorem q_letter {x1 x2 : Int} (h : CI σ m mi hi) (hm : ∀ j, iR (m j)) (h1 : iR x1) (h2 : iR x2) (hS : SR σ) (hd : 9 ≤ d) : Eb g ad d mX10_letter 1 6 [.ref (ad 0), vi x1, vi x2] σ (XC σ m mi hi (letterV m x1 x2) (letterT m x1) (X1 xIO)) := by
  have hm0 := h.gm.wf.1.1
  refine EbS rfl pl_X10 rfl rfl (bX10_letter_0 h1 h2 hS ?_)
  refine Cl.xv (p_checkWord (d := d - 1) h h1 hS (by omega)) (by omega) (fun s _ hs => ?_) (fun E s _ hs => ?_)
  · obtain ⟨rfl, hx⟩ := hs
    have eT : letterT m x1 = 0 := by unfold letterT; rw [if_pos hx]
    have eV : letterV m x1 x2 = if 0 ≤ x2 ∧ x2 < m (9 + 9 * x1) then m (9 + 9 * x1 + 1 + x2) else -1 := by unfold letterV; rw [if_pos eT]
    refine ⟨fun c => xr eT (by rw [eV, if_neg (by omega)]) h Qf.refl, fun c => ⟨h.isk, ⟨by omega, by omega⟩, ?_⟩⟩
    have e2 := h.rk.ln x1 hx.1 hx.2
    have hl8 := h.gm.wl x1 hx.1 hx.2
    rw [e2]
    refine ⟨fun c2 => ⟨⟨by omega, by omega⟩, ?_⟩, fun c2 => xr eT (by rw [eV, if_neg (by omega)]) h Qf.refl⟩
    have e3 := h.rk.lt x1 x2 hx.1 hx.2 (by omega) c2
    rw [e3, show m (9 + 9 * x1 + 1 + x2) + 97 - 97 = m (9 + 9 * x1 + 1 + x2) by omega]
    exact ⟨hm _, xr eT (by rw [eV, if_pos ⟨by omega, c2⟩]) h Qf.refl⟩
  · obtain ⟨rfl, rfl, hx⟩ := hs
    have eT : letterT m x1 = 1 := by unfold letterT; rw [if_neg hx]
    exact xe (by rw [eT]; decide) ⟨rfl, eT⟩ h Qf.refl
theorem q_place {x1 : Int} (h : CI σ m mi hi) (h1 : iR x1) (hS : SR σ) (hd : 9 ≤ d) : Eb g ad d mX10_place 1 6 [.ref (ad 0), vi x1] σ (XC σ m mi hi (placeV m x1) (placeT m x1) (X1 xIO)) := by
  have h3 := h.gm.wf.1.2.2.2.1
  refine EbS rfl pl_X10 rfl rfl (bX10_place_0 h1 hS ?_)
  refine Cl.xv (p_checkPlace (d := d - 1) h h1 hS (by omega)) (by omega) (fun s _ hs => ?_) (fun E s _ hs => ?_)
  · obtain ⟨rfl, hx⟩ := hs
    have eT : placeT m x1 = 0 := by unfold placeT; rw [if_pos hx]
    refine ⟨h.isk, ⟨by omega, by omega⟩, ?_⟩
    rw [h.rk.pl x1 hx.1 hx.2]
    exact xr eT (by unfold placeV; rw [if_pos eT]) h Qf.refl
  · obtain ⟨rfl, rfl, hx⟩ := hs
    have eT : placeT m x1 = 1 := by unfold placeT; rw [if_neg hx]
    exact xe (by rw [eT]; decide) ⟨rfl, eT⟩ h Qf.refl
theorem q_part {x1 x2 x3 : Int} (h : CI σ m mi hi) (h1 : iR x1) (h2 : iR x2) (h3 : iR x3) (hS : SR σ) (hd : 9 ≤ d) : Eb g ad d mX10_part 1 6 [.ref (ad 0), vi x1, vi x2, vi x3] σ (XC σ m mi hi (partV m x1 x2 x3) (partT m x1) (X1 xIO)) := by
  have hm1 := h.gm.wf.1.2.1
  refine EbS rfl pl_X10 rfl rfl (bX10_part_0 h1 h2 h3 hS ?_)
  refine Cl.xv (p_checkPhrase (d := d - 1) h h1 hS (by omega)) (by omega) (fun s _ hs => ?_) (fun E s _ hs => ?_)
  · obtain ⟨rfl, hx⟩ := hs
    have eT : partT m x1 = 0 := by unfold partT; rw [if_pos hx]
    have eV : partV m x1 x2 x3 = if x2 = 0 then (if 0 ≤ x3 ∧ x3 < of_ m x1 0 then of_ m x1 (1 + x3) else -1) else (if 0 ≤ x3 ∧ x3 < of_ m x1 4 then of_ m x1 (5 + x3) else -1) := by unfold partV; rw [if_pos eT]
    have hw := h.gm.wf.2.1 x1 hx.1 hx.2
    have hw0 := hw.1
    have hw4 := hw.2.1
    rw [h.rk.ss x1 hx.1 hx.2, h.rk.ts x1 hx.1 hx.2]
    refine ⟨fun c => ⟨h.isk, ⟨by omega, by omega⟩, fun c1 => xr eT (by rw [eV, if_pos c, if_neg (by omega)]) h Qf.refl, fun c1 => ⟨fun c2 => ⟨fun _ => ⟨⟨by omega, by omega⟩, ?_⟩, fun z => absurd c z⟩, fun c2 => xr eT (by rw [eV, if_pos c, if_neg (by omega)]) h Qf.refl⟩⟩, fun c => ⟨h.isk, ⟨by omega, by omega⟩, fun c1 => xr eT (by rw [eV, if_neg c, if_neg (by omega)]) h Qf.refl, fun c1 => ⟨fun c2 => ⟨fun z => absurd z c, fun _ => ⟨⟨by omega, by omega⟩, ?_⟩⟩, fun c2 => xr eT (by rw [eV, if_neg c, if_neg (by omega)]) h Qf.refl⟩⟩⟩
    · rw [h.rk.so x1 x3 hx.1 hx.2 (by omega) c2]
      exact xr eT (by rw [eV, if_pos c, if_pos ⟨by omega, c2⟩]) h Qf.refl
    · rw [h.rk.tt x1 x3 hx.1 hx.2 (by omega) c2]
      exact xr eT (by rw [eV, if_neg c, if_pos ⟨by omega, c2⟩]) h Qf.refl
  · obtain ⟨rfl, rfl, hx⟩ := hs
    have eT : partT m x1 = 1 := by unfold partT; rw [if_neg hx]
    exact xe (by rw [eT]; decide) ⟨rfl, eT⟩ h Qf.refl
theorem q_after {x1 x2 : Int} (h : CI σ m mi hi) (h1 : iR x1) (h2 : iR x2) (hS : SR σ) (hd : 9 ≤ d) : Eb g ad d mX10_after 2 12 [.ref (ad 0), vi x1, vi x2] σ (XC σ m mi hi (afterV m x1 x2) (afterT m x1 x2) (X1 xIO)) := by
  have hW := h.gm.wf
  have hm0 := hW.1.1
  have hbad : ¬ ((x1 = -1 ∨ 0 ≤ x1 ∧ x1 < m 0) ∧ (x2 = -1 ∨ 0 ≤ x2 ∧ x2 < m 0)) → SR σ → XC σ m mi hi (afterV m x1 x2) (afterT m x1 x2) (X1 xIO) (.inr xIO) σ := fun z => by
    have eT : afterT m x1 x2 = 1 := by unfold afterT; rw [if_neg z]
    exact xe (by rw [eT]; decide) ⟨rfl, eT⟩ h Qf.refl
  -- both are words or edges
  have last : ∀ (rc rs : Nat), SR σ → ((x1 = -1 ∨ 0 ≤ x1 ∧ x1 < m 0) ∧ (x2 = -1 ∨ 0 ≤ x2 ∧ x2 < m 0)) → aX10_after_20 g ad d (XC σ m mi hi (afterV m x1 x2) (afterT m x1 x2) (X1 xIO)) rc rs σ x1 x2 := fun rc rs hS' hx => by
    have eT : afterT m x1 x2 = 0 := by unfold afterT; rw [if_pos hx]
    have eV : afterV m x1 x2 = aft m x1 x2 := by unfold afterV; rw [if_pos eT]
    have fl : ∀ a b, (0 ≤ a ∧ a ≤ 40) → (0 ≤ b ∧ b ≤ 40) → wx a = x1 → wx b = x2 → Cl g ad d mX2_flow 0 0 [.ref (ad (rv σ 0 1)), vi a, vi b] σ (Ki fun r2 s2 => (iR r2 → SR s2 → XC σ m mi hi (afterV m x1 x2) (afterT m x1 x2) (X1 xIO) (.inl (some (vi r2))) s2)) := fun a b ha hb ea eb => by
      refine EI.k (k_flow (d := d - 1) h.isk h.rk hW ha hb hS') (by omega) (fun _ _ => ?_)
      rw [ea, eb]
      exact xr eT eV.symm h Qf.refl
    have w40 : wx 40 = -1 := rfl
    have wid : ∀ a, 0 ≤ a ∧ a < m 0 → wx a = a := fun a ha => wx_id ha hm0.2
    refine bX10_after_20 h1 h2 hS' ⟨h.isk, fun c1 => ⟨fun c2 => ?_, fun c2 => ?_⟩, fun c1 => ⟨fun c2 => ?_, fun c2 => ?_⟩⟩
    · exact fl x1 x2 (by omega) (by omega) (wid x1 (by omega)) (wid x2 (by omega))
    · exact fl x1 40 (by omega) (by omega) (wid x1 (by omega)) (by rw [w40, c2])
    · exact fl 40 x2 (by omega) (by omega) (by rw [w40, c1]) (wid x2 (by omega))
    · exact fl 40 40 (by omega) (by omega) (by rw [w40, c1]) (by rw [w40, c2])
  have mid : ∀ (rc rs : Nat), SR σ → (x1 = -1 ∨ 0 ≤ x1 ∧ x1 < m 0) → Wb g ad d mX10_after (XC σ m mi hi (afterV m x1 x2) (afterT m x1 x2) (X1 xIO)) 10 [some (.ref (ad 0)), some (vi x1), some (vi x2)] [] σ (rc + 1) (rs + 6) := fun rc rs hS' hx1 => by
    refine bX10_after_10 h1 h2 hS' ⟨fun c _ _ hS'' => last _ _ hS'' ⟨hx1, Or.inl c⟩, fun c => ?_⟩
    refine Cl.xv (p_checkWord (d := d - 1) h h2 hS' (by omega)) (by omega) (fun s _ hs => ?_) (fun E s _ hs => ?_)
    · obtain ⟨rfl, hx⟩ := hs
      exact fun _ _ hS'' => last _ _ hS'' ⟨hx1, Or.inr hx⟩
    · obtain ⟨rfl, rfl, hx⟩ := hs
      exact hbad (fun z => z.2.elim c hx)
  refine EbS rfl pl_X10 rfl rfl (bX10_after_0 h1 h2 hS ⟨fun c _ _ hS' => mid 1 6 hS' (Or.inl c), fun c => ?_⟩)
  refine Cl.xv (p_checkWord (d := d - 1) h h1 hS (by omega)) (by omega) (fun s _ hs => ?_) (fun E s _ hs => ?_)
  · obtain ⟨rfl, hx⟩ := hs
    exact fun _ _ hS' => mid 0 0 hS' (Or.inr hx)
  · obtain ⟨rfl, rfl, hx⟩ := hs
    exact hbad (fun z => z.1.elim c hx)
theorem q_option {x1 x2 : Int} (h : CI σ m mi hi) (h1 : iR x1) (h2 : iR x2) (hS : SR σ) (hd : 9 ≤ d) : Eb g ad d mX10_option 1 6 [.ref (ad 0), vi x1, vi x2] σ (XC σ m mi hi (optionV m x1 x2) (placeT m x1) (X1 xIO)) := by
  have hW := h.gm.wf
  refine EbS rfl pl_X10 rfl rfl (bX10_option_0 h1 h2 hS ?_)
  refine Cl.xv (p_checkPlace (d := d - 1) h h1 hS (by omega)) (by omega) (fun s _ hs => ?_) (fun E s _ hs => ?_)
  · obtain ⟨rfl, hx⟩ := hs
    have eT : placeT m x1 = 0 := by unfold placeT; rw [if_pos hx]
    refine Cl.vo (p_options (d := d - 1) h hS (by omega)) (by omega) (fun s1 hS1 hs1 => ?_)
    refine EI.k (o_numberAt (d := d - 1) (hs1.1.op hs1.2.1).1 hW hx h2 hS1) (by omega) (fun _ _ => ?_)
    exact xr eT (by unfold optionV; rw [if_pos eT]) hs1.1 hs1.2.2.1
  · obtain ⟨rfl, rfl, hx⟩ := hs
    have eT : placeT m x1 = 1 := by unfold placeT; rw [if_neg hx]
    exact xe (by rw [eT]; decide) ⟨rfl, eT⟩ h Qf.refl
theorem q_stretch {x1 x2 : Int} (h : CI σ m mi hi) (h1 : iR x1) (h2 : iR x2) (hS : SR σ) (hd : 9 ≤ d) : Eb g ad d mX10_stretch 3 18 [.ref (ad 0), vi x1, vi x2] σ (XC σ m mi hi (stretchV m x1 x2) (stretchT m x1 x2) (X2 xIO xIA)) := by
  have hW := h.gm.wf
  have h3 := hW.1.2.2.2.1
  refine EbS rfl pl_X10 rfl rfl (bX10_stretch_0 h1 h2 hS ?_)
  refine Cl.xv (p_checkPlace (d := d - 1) h h1 hS (by omega)) (by omega) (fun s _ hs => ?_) (fun E s _ hs => ?_)
  · obtain ⟨rfl, hx⟩ := hs
    refine Cl.xv (p_checkPlace (d := d - 1) h h2 hS (by omega)) (by omega) (fun s _ hs => ?_) (fun E s _ hs => ?_)
    · obtain ⟨rfl, hx2⟩ := hs
      refine ⟨fun c => ?_, fun c => ⟨by omega, ?_⟩⟩
      · have eT : stretchT m x1 x2 = 0 := by unfold stretchT; rw [if_pos hx, if_pos hx2, if_pos c]
        refine Cl.vo (p_options (d := d - 1) h hS (by omega)) (by omega) (fun s1 hS1 hs1 => ⟨⟨by omega, by omega⟩, ?_⟩)
        rw [(hs1.1.op hs1.2.1).2.2.1 x1 x2 hx.1 c hx2.2]
        exact xr eT (by unfold stretchV; rw [if_pos eT]) hs1.1 hs1.2.2.1
      · have eT : stretchT m x1 x2 = 2 := by unfold stretchT; rw [if_pos hx, if_pos hx2, if_neg c]
        exact xe (by rw [eT]; decide) (Or.inr ⟨rfl, eT⟩) h Qf.refl
    · obtain ⟨rfl, rfl, hx2⟩ := hs
      have eT : stretchT m x1 x2 = 1 := by unfold stretchT; rw [if_pos hx, if_neg hx2]
      exact xe (by rw [eT]; decide) (Or.inl ⟨rfl, eT⟩) h Qf.refl
  · obtain ⟨rfl, rfl, hx⟩ := hs
    have eT : stretchT m x1 x2 = 1 := by unfold stretchT; rw [if_neg hx]
    exact xe (by rw [eT]; decide) (Or.inl ⟨rfl, eT⟩) h Qf.refl
theorem q_many (h : CI σ m mi hi) (hS : SR σ) (hd : 9 ≤ d) : Eb g ad d mX10_many 0 0 [.ref (ad 0)] σ (Ki fun r s => r = manyV m ∧ CI s m mi hi ∧ Qf σ s) := by
  have hW := h.gm.wf
  refine EbS rfl pl_X10 rfl rfl (bX10_many_0 hS ?_)
  refine Cl.vo (p_options (d := d - 1) h hS (by omega)) (by omega) (fun s1 hS1 hs1 => ⟨hs1.1.isk, ?_⟩)
  have e7 : ia s1 (rv s1 0 1 + 11) 3 = m 7 := hs1.1.rk.st 3 (by omega) (by omega)
  rw [e7]
  refine Cl.i (u_countWays (d := d - 1) (hs1.1.op hs1.2.1).1 hW hS1 (by omega)) (by omega) (fun r s3 hr3 hS3 h3 => ?_)
  have hk := hs1.1.keep h3.2 (fun c hc => by unfold CnC at hc; omega)
  exact re_i ⟨h3.1, hk.1, hs1.2.2.1.trans hk.2⟩
theorem n_cheapest (h : CI σ m mi hi) (h13 : ¬ sc σ 0 13 = 0) (hS : SR σ) : EI g ad d mX1_cheapest [.ref (ad 58)] σ (exM m) σ := by
  have hW := h.gm.wf
  have hB := h.wb h13
  have hst := (Ws.st hW).2
  refine EbS rfl pl_X1 rfl rfl (bX1_cheapest_0 hS ?_)
  have h1 := hB.rs 0 (Int.le_refl _) (by have := hB.kn.nb; omega)
  rw [hB.kn.c0] at h1
  have h2 := (hst.rs hW).1
  have h4 := pc6 stE.x
  have h5 : mu stE.x = 6 - pc stE.x.1 := rfl
  have e3 : rsM m (ndC 40) = min (exM m) 1000000 := rfl
  have e4 : rsN m stE.x = exM m := rfl
  have e5 : ia σ 61 0 = exM m := by rw [h1, e3]; omega
  rw [e5]
  exact re_i ⟨rfl, rfl⟩
theorem q_exact (h : CI σ m mi hi) (hS : SR σ) (hd : 9 ≤ d) : Eb g ad d mX10_exact 0 0 [.ref (ad 0)] σ (Ki fun r s => r = exM m ∧ CI s m mi hi ∧ Qf σ s) := by
  refine EbS rfl pl_X10 rfl rfl (bX10_exact_0 hS ?_)
  refine Cl.vo (p_options (d := d - 1) h hS (by omega)) (by omega) (fun s1 hS1 h1 => ?_)
  refine Cl.vo (p_ways (d := d - 1) h1.1 h1.2.1 hS1 (by omega)) (by omega) (fun s2 hS2 h2 => ?_)
  refine EI.k (n_cheapest (d := d - 1) h2.1 h2.2.2.1 hS2) (by omega) (fun _ _ => re_i ⟨rfl, h2.1, h1.2.2.1.trans h2.2.2.2.1⟩)
theorem q_way {x1 x2 : Int} (h : CI σ m mi hi) (h1 : iR x1) (h2 : iR x2) (hS : SR σ) (hd : 9 ≤ d) : Eb g ad d mX10_way 1 6 [.ref (ad 0), vi x1, vi x2] σ (XC σ m mi hi (wayV m x1 x2) (wayT x1 x2) (X2 xNS xIA)) := by
  have hW := h.gm.wf
  have hns : ¬ (0 ≤ x2 ∧ x2 ≤ 2) → SR σ → XC σ m mi hi (wayV m x1 x2) (wayT x1 x2) (X2 xNS xIA) (.inr xNS) σ := fun z => by
    have eT : wayT x1 x2 = 1 := by unfold wayT; rw [if_neg z]
    exact xe (by rw [eT]; decide) (Or.inl ⟨rfl, eT⟩) h Qf.refl
  refine EbS rfl pl_X10 rfl rfl (bX10_way_0 h1 h2 hS ⟨fun c => ⟨by omega, hns (by omega)⟩, fun c => ⟨fun c2 => ?_, fun c2 => ⟨by omega, hns (by omega)⟩⟩⟩)
  refine Cl.xv (p_checkWay (d := d - 1) h1 hS (by omega)) (by omega) (fun s _ hs => ?_) (fun E s _ hs => ?_)
  · obtain ⟨rfl, hx⟩ := hs
    have eT : wayT x1 x2 = 0 := by unfold wayT; rw [if_pos ⟨by omega, c2⟩, if_pos hx]
    have eV : wayV m x1 x2 = match wayK m x1 with
      | none => -1
      | some w => if x2 = 0 then w.1 else if x2 = 1 then w.2.length else (txt m w.2).length := by unfold wayV; rw [if_pos eT]; rfl
    refine Cl.i (p_unfold (d := d - 1) h hx hS (by omega)) (by omega) (fun r s3 hr3 hS3 h3 => ?_)
    rcases h3.1 with ⟨w, hw, er, hu, hL, R, hR, hget⟩ | ⟨hw, er, _, _⟩
    · rw [hw] at eV
      refine ⟨fun _ => ⟨fun c3 => ⟨fun c4 => ?_, fun c4 => ?_⟩, fun c3 => ?_⟩, fun z => absurd z (by omega)⟩
      · rw [hu.ts]
        exact xr eT (by rw [eV]; show _ = if x2 = 0 then w.1 else if x2 = 1 then (w.2.length : Int) else _; rw [if_neg c3, if_neg c4]) h3.2.1 h3.2.2.2.2
      · rw [hu.sz]
        exact xr eT (by rw [eV]; show _ = if x2 = 0 then w.1 else if x2 = 1 then (w.2.length : Int) else _; rw [if_neg c3, if_pos c4]) h3.2.1 h3.2.2.2.2
      · refine EI.k (w_costOf (d := d - 1) hW hR hget hL ⟨hx.1, by omega⟩ hS3) (by omega) (fun _ _ => ?_)
        exact xr eT (by rw [eV]; show _ = if x2 = 0 then w.1 else if x2 = 1 then (w.2.length : Int) else _; rw [if_pos c3]) h3.2.1 h3.2.2.2.2
    · rw [hw] at eV
      exact ⟨fun z => absurd er z, fun _ => xr eT eV.symm h3.2.1 h3.2.2.2.2⟩
  · obtain ⟨rfl, rfl, hx⟩ := hs
    have eT : wayT x1 x2 = 2 := by unfold wayT; rw [if_pos ⟨by omega, c2⟩, if_neg hx]
    exact xe (by rw [eT]; decide) (Or.inr ⟨rfl, eT⟩) h Qf.refl
theorem q_word {x1 x2 : Int} (h : CI σ m mi hi) (h1 : iR x1) (h2 : iR x2) (hS : SR σ) (hd : 9 ≤ d) : Eb g ad d mX10_word 1 6 [.ref (ad 0), vi x1, vi x2] σ (XC σ m mi hi (wordV m x1 x2) (wordT x1) (X1 xIA)) := by
  have hW := h.gm.wf
  refine EbS rfl pl_X10 rfl rfl (bX10_word_0 h1 h2 hS ?_)
  refine Cl.xv (p_checkWay (d := d - 1) h1 hS (by omega)) (by omega) (fun s _ hs => ?_) (fun E s _ hs => ?_)
  · obtain ⟨rfl, hx⟩ := hs
    have eT : wordT x1 = 0 := by unfold wordT; rw [if_pos hx]
    have eV : wordV m x1 x2 = match wayK m x1 with
      | none => -1
      | some w => if 0 ≤ x2 ∧ x2 < (txt m w.2).length then (txt m w.2).getD x2.toNat 0 else -1 := by unfold wordV; rw [if_pos eT]; rfl
    refine Cl.i (p_unfold (d := d - 1) h hx hS (by omega)) (by omega) (fun r s3 hr3 hS3 h3 => ?_)
    rcases h3.1 with ⟨w, hw, er, hu, hL, _⟩ | ⟨hw, er, _, _⟩
    · rw [hw] at eV
      have eV' : wordV m x1 x2 = if 0 ≤ x2 ∧ x2 < (txt m w.2).length then (txt m w.2).getD x2.toNat 0 else -1 := eV
      have hlen := txt_len hW w.2 (fun q hq => (ops_mem (LW_opA hW hL q hq)).2.1)
      have hwl := (keyW_b hW hL).2.1
      rw [hu.ts]
      refine ⟨fun z => absurd z (by omega), fun _ => ⟨fun c3 => xr eT (by rw [eV', if_neg (by omega)]) h3.2.1 h3.2.2.2.2, fun c3 => ⟨fun c4 => ⟨⟨by omega, by omega⟩, ?_⟩, fun c4 => xr eT (by rw [eV', if_neg (by omega)]) h3.2.1 h3.2.2.2.2⟩⟩⟩
      have hg := hl_getD hu.tx (i := x2.toNat) (by omega)
      rw [show (0 : Int) + ((x2.toNat : Nat) : Int) = x2 by omega] at hg
      rw [hg]
      exact xr eT (by rw [eV', if_pos ⟨by omega, c4⟩]) h3.2.1 h3.2.2.2.2
    · rw [hw] at eV
      exact ⟨fun _ => xr eT eV.symm h3.2.1 h3.2.2.2.2, fun z => absurd er z⟩
  · obtain ⟨rfl, rfl, hx⟩ := hs
    have eT : wordT x1 = 1 := by unfold wordT; rw [if_neg hx]
    exact xe (by rw [eT]; decide) ⟨rfl, eT⟩ h Qf.refl
theorem opt_row (h : OPT σ m k) (h0 : W0 m) {i : Int} {q : Op} (hi' : 0 ≤ i) (hq : (ops m)[i.toNat]? = some q) : (i < 186) ∧ ia σ 49 i = q.1 ∧ ia σ 52 i = q.2 := by
  have h1 := (List.getElem?_eq_some_iff.mp hq).1
  have h2 := ops_len h0
  have hE := h.l.2 _ q hq
  rw [show ((i.toNat : Nat) : Int) = i by omega] at hE
  exact ⟨by omega, hE.st, hE.nu⟩
theorem q_step {x1 x2 x3 : Int} (h : CI σ m mi hi) (h1 : iR x1) (h2 : iR x2) (h3' : iR x3) (hS : SR σ) (hd : 9 ≤ d) : Eb g ad d mX10_step 1 6 [.ref (ad 0), vi x1, vi x2, vi x3] σ (XC σ m mi hi (stepV m x1 x2 x3) (wayT x1 x3) (X2 xNS xIA)) := by
  have hW := h.gm.wf
  have hns : ¬ (0 ≤ x3 ∧ x3 ≤ 2) → SR σ → XC σ m mi hi (stepV m x1 x2 x3) (wayT x1 x3) (X2 xNS xIA) (.inr xNS) σ := fun z => by
    have eT : wayT x1 x3 = 1 := by unfold wayT; rw [if_neg z]
    exact xe (by rw [eT]; decide) (Or.inl ⟨rfl, eT⟩) h Qf.refl
  refine EbS rfl pl_X10 rfl rfl (bX10_step_0 h1 h2 h3' hS ⟨fun c => ⟨by omega, hns (by omega)⟩, fun c => ⟨fun c2 => ?_, fun c2 => ⟨by omega, hns (by omega)⟩⟩⟩)
  refine Cl.xv (p_checkWay (d := d - 1) h1 hS (by omega)) (by omega) (fun s _ hs => ?_) (fun E s _ hs => ?_)
  · obtain ⟨rfl, hx⟩ := hs
    have eT : wayT x1 x3 = 0 := by unfold wayT; rw [if_pos ⟨by omega, c2⟩, if_pos hx]
    have eV : stepV m x1 x2 x3 = match wayK m x1 with
      | none => -1
      | some w => if 0 ≤ x2 ∧ x2 < w.2.length then (if x3 = 0 then (w.2.getD x2.toNat (0, 0)).1 else if x3 = 1 then (w.2.getD x2.toNat (0, 0)).2 else stC m 0 (-1) w.2 x2.toNat) else -1 := by unfold stepV; rw [if_pos eT]; rfl
    refine Cl.i (p_unfold (d := d - 1) h hx hS (by omega)) (by omega) (fun r s3 hr3 hS3 h3 => ?_)
    rcases h3.1 with ⟨w, hw, er, hu, hL, _⟩ | ⟨hw, er, _, _⟩
    · rw [hw] at eV
      have eV' : stepV m x1 x2 x3 = if 0 ≤ x2 ∧ x2 < w.2.length then (if x3 = 0 then (w.2.getD x2.toNat (0, 0)).1 else if x3 = 1 then (w.2.getD x2.toNat (0, 0)).2 else stC m 0 (-1) w.2 x2.toNat) else -1 := eV
      have hwl := (keyW_b hW hL).2.1
      rw [hu.sz]
      refine ⟨fun z => absurd z (by omega), fun _ => ⟨fun c3 => xr eT (by rw [eV', if_neg (by omega)]) h3.2.1 h3.2.2.2.2, fun c3 => ⟨fun c4 => ?_, fun c4 => xr eT (by rw [eV', if_neg (by omega)]) h3.2.1 h3.2.2.2.2⟩⟩⟩
      obtain ⟨q, hq⟩ : ∃ q, w.2[x2.toNat]? = some q := ⟨_, List.getElem?_eq_getElem (by omega)⟩
      have hst := hu.st x2.toNat q hq
      rw [show ((x2.toNat : Nat) : Int) = x2 by omega] at hst
      have hix := ix_b hW.1 (LW_opA hW hL q (List.mem_of_getElem? hq))
      have hrow := opt_row (h3.2.1.op h3.2.2.1).1 hW.1 hix.1.1 hix.2
      have hgd : w.2.getD x2.toNat (0, 0) = q := by rw [List.getD_eq_getElem?_getD, hq]; rfl
      rw [hgd, if_pos ⟨by omega, c4⟩] at eV'
      refine ⟨fun c5 => ⟨⟨by omega, by omega⟩, ?_⟩, fun c5 => ⟨⟨by omega, by omega⟩, ?_⟩⟩
      · rw [hst.1]
        refine ⟨fun c6 => ⟨⟨hix.1.1, hrow.1⟩, ?_⟩, fun c6 => ⟨⟨hix.1.1, hrow.1⟩, ?_⟩⟩
        · rw [hrow.2.2]
          exact xr eT (by rw [eV', if_neg c6, if_pos (by omega)]) h3.2.1 h3.2.2.2.2
        · rw [hrow.2.1]
          exact xr eT (by rw [eV', if_pos c6]) h3.2.1 h3.2.2.2.2
      · rw [hst.2]
        exact xr eT (by rw [eV', if_neg (by omega), if_neg (by omega)]) h3.2.1 h3.2.2.2.2
    · rw [hw] at eV
      exact ⟨fun _ => xr eT eV.symm h3.2.1 h3.2.2.2.2, fun z => absurd er z⟩
  · obtain ⟨rfl, rfl, hx⟩ := hs
    have eT : wayT x1 x3 = 2 := by unfold wayT; rw [if_pos ⟨by omega, c2⟩, if_neg hx]
    exact xe (by rw [eT]; decide) (Or.inr ⟨rfl, eT⟩) h Qf.refl
end QRY

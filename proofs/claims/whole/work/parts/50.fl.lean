section FLs
variable {g : AG} {ad : Nat → Nat} {d : Nat} {σ : SG} {m k tp t : Int → Int} {h tn f e : Int}
theorem flQ_b (h0 : W0 m) (a b : Int) (h60 : pairOf m a b = -1 → m 2 < 60) : 0 ≤ flQ m a b ∧ flQ m a b < 60 := by
  have h2 := h0.2.2.1
  have hp := pairOf_b h0 a b
  unfold flQ
  by_cases c : pairOf m a b = -1
  · rw [if_pos c]; have := h60 c; omega
  · rw [if_neg c]; omega
theorem flSet_at {a b c j : Int} (hq : 0 ≤ flQ m a b) : flSet m a b c j = if j = 2 then m 2 + (if pairOf m a b = -1 then 1 else 0) else if j = 669 + 3 * flQ m a b then a else if j = 669 + 3 * flQ m a b + 1 then b else if j = 669 + 3 * flQ m a b + 2 then c else m j := by
  unfold flSet
  by_cases c1 : j = 2
  · rw [if_pos c1, c1, up_at]
  · rw [if_neg c1, up_ne c1]
    by_cases c2 : j = 669 + 3 * flQ m a b
    · rw [if_pos c2, up_ne (by omega), up_ne (by omega), show 669 + 3 * flQ m a b + 0 = j by omega, up_at]
    · rw [if_neg c2]
      by_cases c3 : j = 669 + 3 * flQ m a b + 1
      · rw [if_pos c3, up_ne (by omega), c3, up_at]
      · rw [if_neg c3]
        by_cases c4 : j = 669 + 3 * flQ m a b + 2
        · rw [if_pos c4, c4, up_at]
        · rw [if_neg c4, up_ne c4, up_ne c3, up_ne (by omega)]
theorem GM.fl {a b c : Int} (h : GM m) (hx : (-1 ≤ a ∧ a < m 0) ∧ (-1 ≤ b ∧ b < m 0)) (hc : 0 ≤ c ∧ c ≤ 99) (h60 : pairOf m a b = -1 → m 2 < 60) : GM (flSet m a b c) := by
  have hq := flQ_b h.wf.1 a b h60
  have hat := fun j => flSet_at (m := m) (a := a) (b := b) (c := c) (j := j) hq.1
  have h2 := h.wf.1.2.2.1
  have hp := pairOf_b h.wf.1 a b
  have hlt : ∀ j, ¬ j = 2 → j < 669 → flSet m a b c j = m j := fun j hj1 hj => by rw [hat, if_neg hj1, if_neg (by omega), if_neg (by omega), if_neg (by omega)]
  have hgt : ∀ j, 849 ≤ j → flSet m a b c j = m j := fun j hj => by rw [hat, if_neg (by omega), if_neg (by omega), if_neg (by omega), if_neg (by omega)]
  have e2 : flSet m a b c 2 = m 2 + (if pairOf m a b = -1 then 1 else 0) := by rw [hat, if_pos rfl]
  have e2b : 0 ≤ flSet m a b c 2 ∧ flSet m a b c 2 ≤ 60 ∧ (flSet m a b c 2 = m 2 ∧ flQ m a b < m 2 ∨ flSet m a b c 2 = m 2 + 1 ∧ flQ m a b = m 2) := by
    rw [e2]
    by_cases c1 : pairOf m a b = -1
    · have := h60 c1
      rw [if_pos c1]
      exact ⟨by omega, by omega, Or.inr ⟨rfl, if_pos c1⟩⟩
    · rw [if_neg c1]
      have : flQ m a b = pairOf m a b := if_neg c1
      exact ⟨by omega, by omega, Or.inl ⟨by omega, by omega⟩⟩
  obtain ⟨⟨w0, w1, w2, w3⟩, hwl, hzr⟩ := h
  have ho : ∀ p w, 0 ≤ p → p < m 1 → 0 ≤ w → w ≤ 9 → of_ (flSet m a b c) p w = of_ m p w := fun p w hp0 hp1 hw0 hw1 => by
    have := w0.2.1
    unfold of_
    exact hlt _ (by omega) (by omega)
  refine ⟨⟨?_, ?_, ?_, ?_⟩, ?_, ?_⟩
  · unfold W0
    rw [hlt 0 (by omega) (by omega), hlt 1 (by omega) (by omega), hlt 3 (by omega) (by omega), hlt 4 (by omega) (by omega), hlt 5 (by omega) (by omega), hlt 6 (by omega) (by omega), hlt 7 (by omega) (by omega), hlt 8 (by omega) (by omega)]
    exact ⟨w0.1, w0.2.1, ⟨e2b.1, e2b.2.1⟩, w0.2.2.2⟩
  · intro p hp0 hp1
    rw [hlt 1 (by omega) (by omega)] at hp1
    have := w1 p hp0 hp1
    rw [hlt 0 (by omega) (by omega), ho p 0 hp0 hp1 (by omega) (by omega), ho p 4 hp0 hp1 (by omega) (by omega), ho p 8 hp0 hp1 (by omega) (by omega), ho p 9 hp0 hp1 (by omega) (by omega)]
    refine ⟨this.1, this.2.1, this.2.2.1, this.2.2.2.1, fun k hk0 hk1 => ?_, fun k hk0 hk1 => ?_⟩
    · rw [ho p _ hp0 hp1 (by omega) (by omega)]; exact this.2.2.2.2.1 k hk0 hk1
    · rw [ho p _ hp0 hp1 (by omega) (by omega)]; exact this.2.2.2.2.2 k hk0 hk1
  · intro k hk0 hk1
    rw [hlt 0 (by omega) (by omega)]
    by_cases ck : k = flQ m a b
    · rw [ck, hat, if_neg (by omega), if_pos rfl, hat, if_neg (by omega), if_neg (by omega), if_pos rfl, hat, if_neg (by omega), if_neg (by omega), if_neg (by omega), if_pos rfl]
      exact ⟨hx.1, hx.2, hc⟩
    · have := w2 k hk0 (by omega)
      rw [hat, if_neg (by omega), if_neg (by omega), if_neg (by omega), if_neg (by omega), hat, if_neg (by omega), if_neg (by omega), if_neg (by omega), if_neg (by omega), hat, if_neg (by omega), if_neg (by omega), if_neg (by omega), if_neg (by omega)]
      exact this
  · intro k hk0 hk1
    rw [hlt 3 (by omega) (by omega)] at hk1
    rw [hlt 0 (by omega) (by omega), hgt _ (by omega)]
    exact w3 k hk0 hk1
  · intro w hw0 hw1
    have h0 := w0.1
    rw [hlt 0 (by omega) (by omega)] at hw1
    rw [hlt _ (by omega) (by omega)]
    exact hwl w hw0 hw1
  · intro j hj
    rw [hat, if_neg (by omega), if_neg (by omega), if_neg (by omega), if_neg (by omega)]
    exact hzr j hj
theorem e_fluency (p : PS σ m k h tp tn f) (hG : GM m) (htb : ∀ j, 0 ≤ tp j ∧ tp j ≤ 255) (htn : 0 ≤ tn ∧ tn ≤ 400) (hS : SR σ) (hd : 7 ≤ d) : Eb g ad d mX11_fluency 0 0 [.ref (ad 102)] σ (Ki fun r s => ∃ f v m', fluR tp tn m f v m' ∧ RD σ s m k h tp r f v m') := by
  refine EbS rfl pl_X11 rfl rfl (bX11_fluency_0 hS ?_)
  refine Cl.vo (e_begins (d := d - 1) hS) (by omega) (fun s1 hS1 b1 => ?_)
  have hSP := b1.sp p hG htb htn
  have q1 := b1.af p
  have hFc1 : Fc σ s1 := b1.fm.c rfl
  refine Cl.vo (e_reads (d := d - 1) (x1 := 0) (pPair tp tn) RowF RowF_keep (fun τ p' m' hSP' hSt h12 K hK => ⟨fun _ => Cl.vo (e_pair (d := d - 1 - 1) hSP' hSt h12 (by omega)) (by omega) (fun s hs hh => hK s hs hh.1 hh.2.1 hh.2.2.1 hh.2.2.2), fun q => absurd rfl q⟩) hSP hS1 (iR_lit rfl) b1.f12 (by omega)) (by omega) (fun s2 hS2 h2 => ?_)
  obtain ⟨hX, hF2, h12⟩ := h2
  have q2 := q1.fm hF2 rfl rfl
  have hFc2 : Fc σ s2 := hFc1.trans (hF2.c rfl)
  intro _ _
  have badEnd : ∀ (τ : SG) (i f : Int), SR τ → AF τ m k h tp → sc τ 102 9 = f → 0 ≤ f → ZR 855 (ia τ 103) → Fc σ τ → (∀ v m', fluR tp tn m f v m') → iR i → aX11_fluency_11 g ad d (Ki fun r s => ∃ f v m', fluR tp tn m f v m' ∧ RD σ s m k h tp r f v m') 0 0 τ i := by
    intro τ i f hSt q h9 hf hz hFc hR ii
    have fin : ∀ K : Int → SG → Prop, (∀ (r : Int) (s : SG), r = 0 → SR s → sc s 102 0 = 1 → PS s m k h tp 0 f → Fc σ s → K r s) → Cl g ad d mX11_isRight 0 0 [.ref (ad 102)] τ (Ki K) := by
      intro K hK
      exact Cl.i (e_isRight_bad (d := d - 1) q h9 hf hz hG.zr hSt) (by omega) (fun r s hr hs hh => hK r s hh.1 hs hh.2.1 hh.2.2.1 (hFc.trans (hh.2.2.2.c rfl)))
    have done : ∀ (r : Int) (s : SG), r = 0 → SR s → sc s 102 0 = 1 → PS s m k h tp 0 f → Fc σ s → ((r = 0 → (iR 0 → SR s → Ki (fun r s => ∃ f v m', fluR tp tn m f v m' ∧ RD σ s m k h tp r f v m') (.inl (some (vi 0))) s)) ∧ (¬ r = 0 → (iR (ia s 103 2) → SR s → Ki (fun r s => ∃ f v m', fluR tp tn m f v m' ∧ RD σ s m k h tp r f v m') (.inl (some (vi (ia s 103 2)))) s))) := by
      intro r s hr hs h1 h2 h3
      exact ⟨fun _ => re_i ⟨f, 0, m, hR 0 m, RD.bad h3 rfl h1 h2 hf⟩, fun q => absurd hr q⟩
    exact bX11_fluency_11 ii hSt ⟨fun _ => fin _ done, fun _ => ⟨fun _ => fin _ done, fun z => absurd z (by omega)⟩⟩
  cases hrd : pRds tp tn (pPair tp tn) (skp tp tn 0) m with
  | error f0 =>
    rw [hrd] at hX
    refine badEnd s2 0 f0 hS2 q2 hX.2.1 hX.2.2 hX.1.zr hFc2 (fun v m' => ?_) (iR_lit rfl)
    unfold fluR
    rw [hrd]
  | ok rr_ =>
    obtain ⟨l, p1, m1⟩ := rr_
    rw [hrd] at hX
    obtain ⟨hP, h9, h8, h3, h0, hl12, hlle, hRows⟩ := hX
    have hp0 : skp tp tn 0 ≤ tn := (scn_le htn.1).2
    have hok := pRds_ok (V := RowX) RowX_mo (fun p m x p' m' hg hp hq => pPair_ok hg hp hq) hG hp0 hrd
    have hfl : ∀ f v m', (match flEnt l m1 with
      | Except.error f1 => f = f1
      | Except.ok m2 => f = -1 ∧ v = m2 2 ∧ m' = m2) → fluR tp tn m f v m' := by
      intro f v m' hb
      unfold fluR
      rw [hrd]
      exact hb
    have key : ∀ (n i : Nat) (τ : SG) (mi : Int → Int), i + n = l.length → SR τ → AF τ m k h tp → sc τ 102 9 = -1 → ia τ 103 = mi → GM mi → sc τ 102 12 = (l.length : Int) → Rows RowF (ia τ 107) (ia τ 108) l → Fc σ τ → (∀ x ∈ l, RowX mi x) → flEnt (l.drop i) mi = flEnt l m1 → aX11_fluency_11 g ad d (Ki fun r s => ∃ f v m', fluR tp tn m f v m' ∧ RD σ s m k h tp r f v m') 0 0 τ i := by
      intro n
      induction n with
      | zero =>
        intro i τ mi hin hSt q h9 h3 hGi h12 hRo hFc hRW hv
        refine bX11_fluency_11 (iR_of (by omega) (by omega)) hSt ⟨fun _ => ?_, fun z => absurd (by rw [h12]; omega) z⟩
        refine Cl.i (e_isRight_ok (d := d - 1) q h9 h3 hSt) (by omega) (fun r s hr hs hh => ?_)
        obtain ⟨hr1, hth, hps, rfl⟩ := hh
        rw [List.drop_of_length_le (by omega)] at hv
        refine ⟨fun z => absurd z (by omega), fun _ => re_i ⟨-1, mi 2, mi, hfl _ _ _ ?_, hFc.S, fun _ => ⟨by simp (config := {decide := true}) only [sc_S, ia_S, la_S, rv_S, sc_I, rv_I, la_I, ia_I, sc_L, rv_L, ia_L, la_L, sc_A, rv_A, la_A, ia_A, sc_B, rv_B, ia_B, la_B, sc_R, ia_R, la_R, rv_R, ia_w, la_w, rv_w, sc_w, if_true, if_false]; rw [h3], hth, hps, hGi⟩, fun z => absurd rfl z⟩⟩
        rw [← hv]
        exact ⟨rfl, rfl, rfl⟩
      | succ n ih =>
        intro i τ mi hin hSt q h9 h3 hGi h12 hRo hFc hRW hv
        have hil : i < l.length := by omega
        rw [drop_cons hil] at hv
        have hB := hRo i _ (List.getElem?_eq_getElem hil)
        have hWx := hRW _ (List.getElem_mem hil)
        generalize l[i] = x at hB hWx hv
        obtain ⟨b1', b2, b3, b4, b5, b6⟩ := hB
        rw [flEnt] at hv
        have hm2 := hGi.wf.1.2.2.1
        have hpb := pairOf_b hGi.wf.1 x.2.1 x.2.2.1
        have ii0 : iR (i : Int) := iR_of (by omega) (by omega)
        have ii : iR ((i : Int) + 1) := iR_of (by omega) (by omega)
        have ec : ((i + 1 : Nat) : Int) = (i : Int) + 1 := by omega
        -- the pair is told
        have go : ¬ (pairOf mi x.2.1 x.2.2.1 = -1 ∧ mi 2 = 60) → iR (669 + 3 * flQ mi x.2.1 x.2.2.1) ∧ (iR (i : Int) → iR (pairOf mi x.2.1 x.2.2.1) → iR (669 + 3 * flQ mi x.2.1 x.2.2.1) → iR 0 → SR τ → aX11_fluency_106 g ad d (Ki fun r s => ∃ f v m', fluR tp tn m f v m' ∧ RD σ s m k h tp r f v m') 0 0 τ i (pairOf mi x.2.1 x.2.2.1) (669 + 3 * flQ mi x.2.1 x.2.2.1) 0) := by
          intro hno
          rw [if_neg hno] at hv
          have h60 : pairOf mi x.2.1 x.2.2.1 = -1 → mi 2 < 60 := fun z => by
            have : ¬ mi 2 = 60 := fun z2 => hno ⟨z, z2⟩
            omega
          have hq := flQ_b hGi.wf.1 x.2.1 x.2.2.1 h60
          have i3 : iR (669 + 3 * flQ mi x.2.1 x.2.2.1) := iR_of (by omega) (by omega)
          refine ⟨i3, fun _ ip _ _ _ => ?_⟩
          refine up_loop (P := fun j => ∀ s, SR s → Fm [103] [] τ s → ia s 103 = (ir 0 j).foldl (fun f k => up f (669 + 3 * flQ mi x.2.1 x.2.2.1 + k) (ia τ 107 (10 * i + k))) mi → aX11_fluency_106 g ad d (Ki fun r s => ∃ f v m', fluR tp tn m f v m' ∧ RD σ s m k h tp r f v m') 0 0 s i (pairOf mi x.2.1 x.2.2.1) (669 + 3 * flQ mi x.2.1 x.2.2.1) j) (hi := 3) 0 (by omega) ?_ ?_ τ hSt (Fm.refl τ) h3
          · intro s hSs hFs e3
            have e3' : ia s 103 = up (up (up mi (669 + 3 * flQ mi x.2.1 x.2.2.1 + 0) x.2.1) (669 + 3 * flQ mi x.2.1 x.2.2.1 + 1) x.2.2.1) (669 + 3 * flQ mi x.2.1 x.2.2.1 + 2) x.2.2.2 := by
              rw [e3, show ir 0 3 = [0, 1, 2] from rfl]
              show up (up (up mi (669 + 3 * flQ mi x.2.1 x.2.2.1 + 0) (ia τ 107 (10 * i + 0))) (669 + 3 * flQ mi x.2.1 x.2.2.1 + 1) (ia τ 107 (10 * i + 1))) (669 + 3 * flQ mi x.2.1 x.2.2.1 + 2) (ia τ 107 (10 * i + 2)) = _
              rw [Int.add_zero (10 * (i : Int)), b2, b3, b4]
            have e32 : ia s 103 2 = mi 2 := by rw [e3', up_ne (by omega), up_ne (by omega), up_ne (by omega)]
            have step : ∀ v, v = mi 2 + (if pairOf mi x.2.1 x.2.2.1 = -1 then 1 else 0) → SR (setI s 103 2 v) → aX11_fluency_11 g ad d (Ki fun r s => ∃ f v m', fluR tp tn m f v m' ∧ RD σ s m k h tp r f v m') 0 0 (setI s 103 2 v) ((i : Int) + 1) := by
              intro v hv2 hSv
              have hFv : Fm [103] [] τ (setI s 103 2 v) := hFs.setI (by decide)
              have e4 : ia (setI s 103 2 v) 103 = flSet mi x.2.1 x.2.2.1 x.2.2.2 := by
                rw [ia_setI, e3', hv2]
                rfl
              have e40 : flSet mi x.2.1 x.2.2.1 x.2.2.2 0 = mi 0 := by rw [flSet_at hq.1, if_neg (by omega), if_neg (by omega), if_neg (by omega), if_neg (by omega)]
              have := ih (i + 1) _ (flSet mi x.2.1 x.2.2.1 x.2.2.2) (by omega) hSv (q.fm hFv rfl rfl) (by rw [hFv.s 9 rfl]; exact h9) e4 (hGi.fl hWx b5 h60) (by rw [hFv.s 12 rfl]; exact h12) (by rw [hFv.a 107 rfl, hFv.a 108 rfl]; exact hRo) (hFc.trans (hFv.c rfl)) (fun y hy => by have := hRW y hy; unfold RowX; rw [e40]; exact this) hv
              rw [ec] at this
              exact this
            refine bX11_fluency_106 ii0 ip i3 (iR_lit rfl) hSs ⟨fun _ => ⟨fun c1 => ?_, fun c1 => ?_⟩, fun z => absurd (by decide) z⟩
            · rw [e32]
              exact ⟨iR_of (by omega) (by omega), ii, fun _ hSv => step _ (by rw [if_neg c1]) hSv⟩
            · rw [e32]
              exact ⟨iR_of (by omega) (by omega), ii, fun _ hSv => step _ (by rw [if_pos c1]) hSv⟩
          · intro j hj0 hj1 ihj s hSs hFs e3
            refine bX11_fluency_106 ii0 ip i3 (iR_of (by omega) (by omega)) hSs ⟨fun z => absurd z (by omega), fun _ => ⟨⟨by omega, by omega⟩, ⟨by omega, by omega⟩, iR_of (by omega) (by omega), fun _ _ _ _ hS' => ?_⟩⟩
            refine ihj _ hS' (hFs.setI (by decide)) ?_
            rw [ia_setI, e3, ir_snoc hj0, List.foldl_append, hFs.a 107 rfl]
            rfl
        refine bX11_fluency_11 ii0 hSt ⟨fun z => absurd z (by rw [h12]; omega), fun _ => ⟨fun z => absurd h9 z, fun _ => ⟨⟨by omega, by omega⟩, ⟨by omega, by omega⟩, ?_⟩⟩⟩
        rw [b2, b3]
        refine EI.k (w_pairOf (d := d - 1) h3 (by rw [← b2]; exact hSt.1 107 _) (by rw [← b3]; exact hSt.1 107 _) hGi.wf.1 hSt) (by omega) (fun hr _ => ?_)
        rw [h3]
        refine ⟨fun c1 => ⟨fun _ => ?_, fun z => absurd z c1⟩, fun c1 => ⟨fun c2 => ⟨fun z => absurd c1 z, fun _ => ?_⟩, fun c2 => ⟨⟨by omega, by omega⟩, ?_⟩⟩⟩
        · have := go (fun z => c1 z.1)
          rw [show flQ mi x.2.1 x.2.2.1 = pairOf mi x.2.1 x.2.2.1 from if_neg c1] at this
          exact this
        · have := go (fun z => c2 z.2)
          rw [show flQ mi x.2.1 x.2.2.1 = mi 2 from if_pos c1] at this
          exact this
        · rw [b1']
          refine EV.k (e_wrong (d := d - 1) (by rw [← b1']; exact hSt.1 108 _) hSt) (by omega) (fun hS5 => ⟨ii, fun _ _ => ?_⟩)
          rw [if_pos h9] at hS5 ⊢
          rw [if_pos ⟨c1, c2⟩] at hv
          have hFS : Fm [] [9] τ (setS τ 102 9 x.1) := (Fm.refl τ).setS (by decide)
          exact badEnd _ _ x.1 hS5 (q.fm hFS rfl rfl) (by simp (config := {decide := true}) only [sc_S, ia_S, la_S, rv_S, sc_I, rv_I, la_I, ia_I, sc_L, rv_L, ia_L, la_L, sc_A, rv_A, la_A, ia_A, sc_B, rv_B, ia_B, la_B, sc_R, ia_R, la_R, rv_R, ia_w, la_w, rv_w, sc_w, if_true, if_false]) b6 (by simp (config := {decide := true}) only [sc_S, ia_S, la_S, rv_S, sc_I, rv_I, la_I, ia_I, sc_L, rv_L, ia_L, la_L, sc_A, rv_A, la_A, ia_A, sc_B, rv_B, ia_B, la_B, sc_R, ia_R, la_R, rv_R, ia_w, la_w, rv_w, sc_w, if_true, if_false]; rw [h3]; exact hGi.zr) hFc.S (fun v m' => hfl _ _ _ (by rw [← hv])) ii
    exact key l.length 0 s2 m1 (by omega) hS2 q2 h9 h3 hok.1 hl12 hRows hFc2 hok.2.2 rfl
/-! THE SENTENCE -/
def sentM (m : Int → Int) (l : List Int) : Int → Int := fun j => if j = 3 then (l.length : Int) else if 849 ≤ j ∧ j < 855 then l.getD (j - 849).toNat 0 else m j
def senR (t : Int → Int) (e : Int) (m : Int → Int) (f v : Int) (m' : Int → Int) : Prop := match pWs t e true 6 (skp t e 0) m with
  | Except.error f0 => f = f0
  | Except.ok (l, p, m1) => (p < e → f = p) ∧ (¬ p < e → f = -1 ∧ v = l.length ∧ m' = sentM m1 l)
theorem GM.sent {l : List Int} (h : GM m) (hl : (l.length : Int) ≤ 6) (hw : ∀ w ∈ l, 0 ≤ w ∧ w < m 0) : GM (sentM m l) := by
  have hlt : ∀ j, ¬ j = 3 → j < 849 → sentM m l j = m j := fun j hj1 hj => by unfold sentM; rw [if_neg hj1, if_neg (by omega)]
  obtain ⟨⟨w0, w1, w2, w3⟩, hwl, hzr⟩ := h
  have ho : ∀ p w, 0 ≤ p → p < m 1 → 0 ≤ w → w ≤ 9 → of_ (sentM m l) p w = of_ m p w := fun p w hp0 hp1 hw0 hw1 => by
    have := w0.2.1
    unfold of_
    exact hlt _ (by omega) (by omega)
  refine ⟨⟨?_, ?_, ?_, ?_⟩, ?_, ?_⟩
  · unfold W0
    rw [hlt 0 (by omega) (by omega), hlt 1 (by omega) (by omega), hlt 2 (by omega) (by omega), hlt 4 (by omega) (by omega), hlt 5 (by omega) (by omega), hlt 6 (by omega) (by omega), hlt 7 (by omega) (by omega), hlt 8 (by omega) (by omega), show sentM m l 3 = (l.length : Int) from if_pos rfl]
    exact ⟨w0.1, w0.2.1, w0.2.2.1, ⟨by omega, hl⟩, w0.2.2.2.2⟩
  · intro p hp0 hp1
    rw [hlt 1 (by omega) (by omega)] at hp1
    have := w1 p hp0 hp1
    rw [hlt 0 (by omega) (by omega), ho p 0 hp0 hp1 (by omega) (by omega), ho p 4 hp0 hp1 (by omega) (by omega), ho p 8 hp0 hp1 (by omega) (by omega), ho p 9 hp0 hp1 (by omega) (by omega)]
    refine ⟨this.1, this.2.1, this.2.2.1, this.2.2.2.1, fun k hk0 hk1 => ?_, fun k hk0 hk1 => ?_⟩
    · rw [ho p _ hp0 hp1 (by omega) (by omega)]; exact this.2.2.2.2.1 k hk0 hk1
    · rw [ho p _ hp0 hp1 (by omega) (by omega)]; exact this.2.2.2.2.2 k hk0 hk1
  · intro k hk0 hk1
    have h2 := w0.2.2.1
    rw [hlt 2 (by omega) (by omega)] at hk1
    rw [hlt 0 (by omega) (by omega), hlt _ (by omega) (by omega), hlt _ (by omega) (by omega), hlt _ (by omega) (by omega)]
    exact w2 k hk0 hk1
  · intro k hk0 hk1
    rw [show sentM m l 3 = (l.length : Int) from if_pos rfl] at hk1
    rw [hlt 0 (by omega) (by omega)]
    have e : sentM m l (849 + k) = l.getD k.toNat 0 := by
      unfold sentM
      rw [if_neg (by omega), if_pos ⟨by omega, by omega⟩, show 849 + k - 849 = k by omega]
    rw [e]
    have hk : k.toNat < l.length := by omega
    rw [List.getD_eq_getElem?_getD, List.getElem?_eq_getElem hk]
    exact hw _ (List.getElem_mem hk)
  · intro w hw0 hw1
    have h0 := w0.1
    rw [hlt 0 (by omega) (by omega)] at hw1
    rw [hlt _ (by omega) (by omega)]
    exact hwl w hw0 hw1
  · intro j hj
    unfold sentM
    rw [if_neg (by omega), if_neg (by omega)]
    exact hzr j hj
theorem e_sentence (p : PS σ m k h tp tn f) (hG : GM m) (htb : ∀ j, 0 ≤ tp j ∧ tp j ≤ 255) (htn : 0 ≤ tn ∧ tn ≤ 400) (hS : SR σ) (hd : 7 ≤ d) : Eb g ad d mX11_sentence 0 0 [.ref (ad 102)] σ (Ki fun r s => ∃ f v m', senR tp tn m f v m' ∧ RD σ s m k h tp r f v m') := by
  refine EbS rfl pl_X11 rfl rfl (bX11_sentence_0 hS ?_)
  refine Cl.vo (e_begins (d := d - 1) hS) (by omega) (fun s1 hS1 b1 => ?_)
  have hSP := b1.sp p hG htb htn
  have q1 := b1.af p
  have hFc1 : Fc σ s1 := b1.fm.c rfl
  refine Cl.i (e_wordsInto (d := d - 1) (new := 1) (most := 6) (x2 := 0) aI109 (Or.inr rfl) hSP (by omega) (by decide) (by omega) (Or.inr rfl) hS1 (by omega)) (by omega) (fun r2 s2 hr2 hS2 h2 => ?_)
  obtain ⟨hX, hF2, -, hrb⟩ := h2
  have q2 := q1.fm hF2 rfl rfl
  have hFc2 : Fc σ s2 := hFc1.trans (hF2.c rfl)
  -- a fault
  have badEnd : ∀ (τ : SG) (f : Int), SR τ → AF τ m k h tp → sc τ 102 9 = f → 0 ≤ f → ZR 855 (ia τ 103) → Fc σ τ → (∀ v m', senR tp tn m f v m') → ∀ K : Int → SG → Prop, (∀ (r : Int) (s : SG), r = 0 → SR s → (iR 0 → SR s → Ki (fun r s => ∃ f v m', senR tp tn m f v m' ∧ RD σ s m k h tp r f v m') (.inl (some (vi 0))) s) → K r s) → Cl g ad d mX11_isRight 0 0 [.ref (ad 102)] τ (Ki K) := by
    intro τ f hSt q h9 hf hz hFc hR K hK
    exact Cl.i (e_isRight_bad (d := d - 1) q h9 hf hz hG.zr hSt) (by omega) (fun r s hr hs hh => hK r s hh.1 hs (re_i ⟨f, 0, m, hR 0 m, RD.bad (hFc.trans (hh.2.2.2.c rfl)) rfl hh.2.1 hh.2.2.1 hf⟩))
  have hde : decide ((1 : Int) = 1) = true := rfl
  rw [hde] at hX
  cases hrd : pWs tp tn true 6 (skp tp tn 0) m with
  | error f0 =>
    rw [hrd] at hX
    have h9 : sc s2 102 9 = f0 := hX.2.1
    have hf0 : 0 ≤ f0 := hX.2.2
    refine ⟨fun _ => badEnd s2 f0 hS2 q2 h9 hf0 hX.1.zr hFc2 (fun v m' => by unfold senR; rw [hrd]) _ (fun r s hr hs hk => ⟨fun z => absurd hr z, fun _ => hk⟩), fun z => absurd z (by omega)⟩
  | ok rr_ =>
    obtain ⟨l, p1, m1⟩ := rr_
    rw [hrd] at hX
    obtain ⟨hP, h9, h8, h3, h0, hl1, hl2, hl3⟩ := hX
    have hSP2 : SP tp tn s2 p1 m1 := ⟨hP, h9, h8, h3, h0, trivial⟩
    have hb2 := hSP2.b
    have hp0 : skp tp tn 0 ≤ tn := (scn_le htn.1).2
    have hok := pWs_ok hG hp0 (by omega) hrd
    have hG1 : GM m1 := hok.1
    have hwl : ∀ w ∈ l, 0 ≤ w ∧ w < m1 0 := fun w hw => by
      rcases hok.2.2.1 w hw with z | z
      · exact z
      · exact absurd z.1 (by decide)
    refine ⟨fun z => absurd h9 z, fun _ => ?_⟩
    refine EI.k (w_here (d := d - 1) hSP2 hS2) (by omega) (fun _ hS4 => ?_)
    have hSP4 := hSP2.at
    have hF4 : Fm [] [8] s2 (setS s2 102 8 p1) := (Fm.refl s2).setS (by decide)
    have q4 := q2.fm hF4 rfl rfl
    rw [hSP4.1.en]
    refine ⟨fun c => ?_, fun c => ?_⟩
    · refine Cl.i (e_isRight_ok (d := d - 1) q4 hSP4.2.1 hSP4.2.2.2.1 hS4) (by omega) (fun r s hr hs hh => ?_)
      obtain ⟨hr1, hth, hps, es⟩ := hh
      refine ⟨fun _ _ _ hS6 => ?_, fun z => absurd z (by omega)⟩
      have hl1' : r2 = (l.length : Int) := hl1
      have es3 : ia s 103 = m1 := hps.m
      have es9 : ia s 109 = ia s2 109 := by rw [es]; rfl
      have hFs : Fc σ s := by rw [es]; exact (hFc2.S).S
      have eQ : s = setS (setS s2 102 8 p1) 102 0 0 := es
      refine up_loop (P := fun j => ∀ τ, SR τ → Fm [103] [] s τ → (∀ i, ia τ 103 i = if i = 3 then (l.length : Int) else if 849 ≤ i ∧ i < 849 + j then l.getD (i - 849).toNat 0 else m1 i) → aX11_sentence_62 g ad d (Ki fun r s => ∃ f v m', senR tp tn m f v m' ∧ RD σ s m k h tp r f v m') 0 0 τ r2 j) (hi := 6) 0 (by omega) ?_ ?_ _ hS6 ((Fm.refl s).setI (by decide)) ?_
      · intro τ hSt hFt hall
        have e3 : ia τ 103 = sentM m1 l := by
          funext i
          rw [hall i]
          unfold sentM
          rfl
        refine bX11_sentence_62 hr2 (iR_lit rfl) hSt ⟨fun _ => re_i ⟨-1, l.length, sentM m1 l, ?_, hFs.trans (hFt.c rfl), fun _ => ⟨hl1', ?_, ⟨e3, ?_, ?_, ?_, ?_, ?_, LI_0 ?_⟩, hG1.sent hl3 hwl⟩, fun z => absurd rfl z⟩, fun z => absurd (by decide) z⟩
        · unfold senR
          rw [hrd]
          exact ⟨fun z => absurd z (by omega), fun _ => ⟨rfl, rfl, rfl⟩⟩
        · rw [hFt.s 0 rfl]; exact hth
        · rw [hFt.a 105 rfl]; exact hps.k
        · rw [hFt.s 4 rfl]; exact hps.h
        · rw [hFt.a 106 rfl]; exact hps.tp
        · rw [hFt.s 6 rfl]; exact hps.tn
        · rw [hFt.s 9 rfl]; exact hps.f
        · rw [hFt.s 20 rfl, es]; simp (config := {decide := true}) only [sc_S, ia_S, la_S, rv_S, sc_I, rv_I, la_I, ia_I, sc_L, rv_L, ia_L, la_L, sc_A, rv_A, la_A, ia_A, sc_B, rv_B, ia_B, la_B, sc_R, ia_R, la_R, rv_R, ia_w, la_w, rv_w, sc_w, if_true, if_false]; exact q2.li
      · intro j hj0 hj1 ih τ hSt hFt hall
        have e9t : ia τ 109 = ia s2 109 := by rw [hFt.a 109 rfl]; exact es9
        have step : ∀ v, v = l.getD j.toNat 0 → SR (setI τ 103 (849 + j) v) → aX11_sentence_62 g ad d (Ki fun r s => ∃ f v m', senR tp tn m f v m' ∧ RD σ s m k h tp r f v m') 0 0 (setI τ 103 (849 + j) v) r2 (j + 1) := by
          intro v hv hS5
          refine ih _ hS5 (hFt.setI (by decide)) (fun i => ?_)
          rw [ia_setI]
          by_cases ci : i = 849 + j
          · rw [ci, up_at, if_neg (by omega), if_pos ⟨by omega, by omega⟩, show 849 + j - 849 = j by omega, hv]
          · rw [up_ne ci, hall i]
            by_cases c3 : i = 3
            · rw [if_pos c3, if_pos c3]
            · rw [if_neg c3, if_neg c3]
              by_cases c4 : 849 ≤ i ∧ i < 849 + j
              · rw [if_pos c4, if_pos ⟨c4.1, by omega⟩]
              · rw [if_neg c4, if_neg (by omega)]
        refine bX11_sentence_62 hr2 (iR_of (by omega) (by omega)) hSt ⟨fun z => absurd z (by omega), fun _ => ⟨fun c1 => ⟨⟨by omega, by omega⟩, iR_of (by omega) (by omega), fun _ _ hS5 => step 0 ?_ hS5⟩, fun c1 => ⟨⟨by omega, by omega⟩, ⟨by omega, by omega⟩, iR_of (by omega) (by omega), fun _ _ hS5 => step _ ?_ hS5⟩⟩⟩
        · rw [List.getD_eq_getElem?_getD, List.getElem?_eq_none (by omega)]
          rfl
        · have := hl_getD hl2 (i := j.toNat) (by omega)
          rw [e9t, ← this]
          congr 1
          omega
      · intro i
        rw [ia_setI]
        by_cases c3 : i = 3
        · rw [if_pos c3, c3, up_at]; exact hl1'
        · rw [if_neg c3, up_ne c3, if_neg (by omega), es3]
    · simp (config := {decide := true}) only [sc_S, ia_S, la_S, rv_S, sc_I, rv_I, la_I, ia_I, sc_L, rv_L, ia_L, la_L, sc_A, rv_A, la_A, ia_A, sc_B, rv_B, ia_B, la_B, sc_R, ia_R, la_R, rv_R, ia_w, la_w, rv_w, sc_w, if_true, if_false]
      refine EV.k (e_wrong (d := d - 1) (iR_of (by omega) (by omega)) hS4) (by omega) (fun hS5 => ?_)
      have h94 : sc (setS s2 102 8 p1) 102 9 = -1 := hSP4.2.1
      rw [if_pos h94] at hS5 ⊢
      have hF5 : Fm [] [8, 9] s2 (setS (setS s2 102 8 p1) 102 9 p1) := ((Fm.refl s2).setS (by decide)).setS (by decide)
      refine badEnd _ p1 hS5 (q2.fm hF5 rfl rfl) (by simp (config := {decide := true}) only [sc_S, ia_S, la_S, rv_S, sc_I, rv_I, la_I, ia_I, sc_L, rv_L, ia_L, la_L, sc_A, rv_A, la_A, ia_A, sc_B, rv_B, ia_B, la_B, sc_R, ia_R, la_R, rv_R, ia_w, la_w, rv_w, sc_w, if_true, if_false]) hb2.1 (by simp (config := {decide := true}) only [sc_S, ia_S, la_S, rv_S, sc_I, rv_I, la_I, ia_I, sc_L, rv_L, ia_L, la_L, sc_A, rv_A, la_A, ia_A, sc_B, rv_B, ia_B, la_B, sc_R, ia_R, la_R, rv_R, ia_w, la_w, rv_w, sc_w, if_true, if_false]; rw [h3]; exact hG1.zr) (hFc2.S.S) (fun v m' => ?_) _ (fun r s hr hs hk => ⟨fun z => absurd hr z, fun _ => hk⟩)
      unfold senR
      rw [hrd]
      exact ⟨fun _ => rfl, fun z => absurd (by omega) z⟩
end FLs

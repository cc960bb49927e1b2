section BKs
variable {g : AG} {ad : Nat → Nat} {d : Nat} {σ : SG} {m k tp t : Int → Int} {h tn f e : Int}
theorem RowB_keep : ∀ (R B R' B' : Int → Int) (i j : Int) (x : Row), RowB R B i x → Sm R R' (10 * j) (10 * j + 10) → Sm B B' j (j + 1) → 0 ≤ i → ¬ i = j → RowB R' B' i x := by
  rintro R B R' B' i j x ⟨h1, h2, h3, h4, h5, h6, h7, h8, h9, h10⟩ hR hB hi hij
  refine ⟨by rw [hB i (by omega)]; exact h1, by rw [hR _ (by omega)]; exact h2, hR.hl h3 (by omega), by rw [hR _ (by omega)]; exact h4, hR.hl h5 (by omega), by rw [hR _ (by omega)]; exact h6, h7, h8, h9, h10⟩
theorem RowF_keep : ∀ (R B R' B' : Int → Int) (i j : Int) (x : RowP), RowF R B i x → Sm R R' (10 * j) (10 * j + 10) → Sm B B' j (j + 1) → 0 ≤ i → ¬ i = j → RowF R' B' i x := by
  rintro R B R' B' i j x ⟨h1, h2, h3, h4, h5, h6⟩ hR hB hi hij
  exact ⟨by rw [hB i (by omega)]; exact h1, by rw [hR _ (by omega)]; exact h2, by rw [hR _ (by omega)]; exact h3, by rw [hR _ (by omega)]; exact h4, h5, h6⟩
theorem RowW_mo : ∀ (m m' : Int → Int) (x : Row), RowW m x → Mo m m' → RowW m' x := fun m m' x hx hM => ⟨fun w hw => ⟨(hx.1 w hw).1, Int.lt_of_lt_of_le (hx.1 w hw).2 hM.le⟩, fun w hw => ⟨(hx.2 w hw).1, Int.lt_of_lt_of_le (hx.2 w hw).2 hM.le⟩⟩
theorem RowX_mo : ∀ (m m' : Int → Int) (x : RowP), RowX m x → Mo m m' → RowX m' x := fun m m' x hx hM => ⟨⟨hx.1.1, Int.lt_of_lt_of_le hx.1.2 hM.le⟩, ⟨hx.2.1, Int.lt_of_lt_of_le hx.2.2 hM.le⟩⟩
theorem hl_mem {R : Int → Int} {b : Int} {l : List Int} (hh : hl R b l) {k : Int} (h0 : 0 ≤ k) (h1 : k < l.length) : R (b + k) ∈ l := by
  have hk : k.toNat < l.length := by omega
  have := hh k.toNat _ (List.getElem?_eq_getElem hk)
  rw [show b + (k.toNat : Int) = b + k by omega] at this
  rw [this]
  exact List.getElem_mem hk
theorem RowB_G {R B : Int → Int} {i : Int} {x : Row} (hB : RowB R B i x) (hw : RowW m x) : RowG m R (10 * i) := by
  obtain ⟨h1, h2, h3, h4, h5, h6, h7, h8, h9, h10⟩ := hB
  refine ⟨by omega, by omega, fun k hk0 hk1 => ?_, fun k hk0 hk1 => ?_⟩
  · rw [show 10 * i + (1 + k) = 10 * i + 1 + k by omega]
    exact hw.1 _ (hl_mem h3 hk0 (by omega))
  · rw [show 10 * i + (5 + k) = 10 * i + 5 + k by omega]
    exact hw.2 _ (hl_mem h5 hk0 (by omega))
/-- a row of numbers holds a source and a target -/
def RowR (R : Int → Int) (a b : List Int) : Prop := R 0 = a.length ∧ hl R 1 a ∧ R 4 = b.length ∧ hl R 5 b
/-- entries are entered: faults, the book, how many came -/
def bkRel : List Row → Int → (Int → Int) → Int → (Int → Int) → Int → Prop
  | [], c, m, f, m', c' => f = -1 ∧ m' = m ∧ c' = c
  | x :: l, c, m, f, m', c' => (¬ alkL m x.2.1 x.2.2.1 = -1 → bkRel l c (up m (369 + 10 * alkL m x.2.1 x.2.2.1 + 8) x.2.2.2) f m' c') ∧ (alkL m x.2.1 x.2.2.1 = -1 → (m 1 = 30 → f = x.1) ∧ (¬ m 1 = 30 → ∃ R, RowR R x.2.1 x.2.2.1 ∧ bkRel l (c + 1) (comesS m R 0 x.2.2.2) f m' c'))
/-- BOOK: fault, answer, the row behind it -/
def bookR (t : Int → Int) (e : Int) (m : Int → Int) (f v : Int) (m' : Int → Int) : Prop := match pRds t e (pEntry t e) (skp t e 0) m with
  | Except.error f0 => f = f0
  | Except.ok (l, _, m1) => bkRel l 0 m1 f m' v
/-- how a call that reads ends -/
def RD (σ s : SG) (m k : Int → Int) (h : Int) (tp : Int → Int) (r f v : Int) (m' : Int → Int) : Prop := Fc σ s ∧ (f = -1 → r = v ∧ sc s 102 0 = 0 ∧ PS s m' k h tp 0 (-1) ∧ GM m') ∧ (¬ f = -1 → r = 0 ∧ sc s 102 0 = 1 ∧ PS s m k h tp 0 f)
theorem RD.bad {s : SG} {r v : Int} {m' : Int → Int} (h1 : Fc σ s) (h2 : r = 0) (h3 : sc s 102 0 = 1) (h4 : PS s m k h tp 0 f) (hf : 0 ≤ f) : RD σ s m k h tp r f v m' := ⟨h1, fun q => by omega, fun _ => ⟨h2, h3, h4⟩⟩
theorem comesS_sh {R : Int → Int} {r c : Int} : comesS m R r c = comesS m (fun j => R (r + j)) 0 c := by
  unfold comesS
  have : (fun (f : Int → Int) (k : Int) => up f (369 + 10 * m 1 + k) (R (r + k))) = (fun (f : Int → Int) (k : Int) => up f (369 + 10 * m 1 + k) ((fun j => R (r + j)) (0 + k))) := by
    funext f k
    rw [Int.zero_add]
  rw [this]
theorem drop_cons {α : Type} {l : List α} {i : Nat} (hi : i < l.length) : l.drop i = l[i] :: l.drop (i + 1) := List.drop_eq_getElem_cons hi
theorem e_book (p : PS σ m k h tp tn f) (hG : GM m) (htb : ∀ j, 0 ≤ tp j ∧ tp j ≤ 255) (htn : 0 ≤ tn ∧ tn ≤ 400) (hS : SR σ) (hd : 7 ≤ d) : Eb g ad d mX11_book 0 0 [.ref (ad 102)] σ (Ki fun r s => ∃ f v m', bookR tp tn m f v m' ∧ RD σ s m k h tp r f v m') := by
  refine EbS rfl pl_X11 rfl rfl (bX11_book_0 hS ?_)
  refine Cl.vo (e_begins (d := d - 1) hS) (by omega) (fun s1 hS1 b1 => ?_)
  have hSP := b1.sp p hG htb htn
  have q1 := b1.af p
  have hFc1 : Fc σ s1 := b1.fm.c rfl
  refine Cl.vo (e_reads (d := d - 1) (x1 := 1) (pEntry tp tn) RowB RowB_keep (fun τ p' m' hSP' hSt h12 K hK => ⟨fun q => absurd q (by decide), fun _ => Cl.vo (e_entry (d := d - 1 - 1) hSP' hSt h12 (by omega)) (by omega) (fun s hs hh => hK s hs hh.1 hh.2.1 hh.2.2.1 hh.2.2.2)⟩) hSP hS1 (iR_lit rfl) b1.f12 (by omega)) (by omega) (fun s2 hS2 h2 => ?_)
  obtain ⟨hX, hF2, h12⟩ := h2
  have q2 := q1.fm hF2 rfl rfl
  have hFc2 : Fc σ s2 := hFc1.trans (hF2.c rfl)
  intro _ _ _
  -- a fault
  have badEnd : ∀ (τ : SG) (c i f : Int), SR τ → AF τ m k h tp → sc τ 102 9 = f → 0 ≤ f → ZR 855 (ia τ 103) → Fc σ τ → (∀ v m', bookR tp tn m f v m') → iR c → iR i → aX11_book_13 g ad d (Ki fun r s => ∃ f v m', bookR tp tn m f v m' ∧ RD σ s m k h tp r f v m') 0 0 τ c i := by
    intro τ c i f hSt q h9 hf hz hFc hR ic ii
    have fin : ∀ K : Int → SG → Prop, (∀ (r : Int) (s : SG), r = 0 → SR s → sc s 102 0 = 1 → PS s m k h tp 0 f → Fc σ s → K r s) → Cl g ad d mX11_isRight 0 0 [.ref (ad 102)] τ (Ki K) := by
      intro K hK
      exact Cl.i (e_isRight_bad (d := d - 1) q h9 hf hz hG.zr hSt) (by omega) (fun r s hr hs hh => hK r s hh.1 hs hh.2.1 hh.2.2.1 (hFc.trans (hh.2.2.2.c rfl)))
    have done : ∀ (r : Int) (s : SG), r = 0 → SR s → sc s 102 0 = 1 → PS s m k h tp 0 f → Fc σ s → ((r = 0 → (iR 0 → SR s → Ki (fun r s => ∃ f v m', bookR tp tn m f v m' ∧ RD σ s m k h tp r f v m') (.inl (some (vi 0))) s)) ∧ (¬ r = 0 → (iR c → SR s → Ki (fun r s => ∃ f v m', bookR tp tn m f v m' ∧ RD σ s m k h tp r f v m') (.inl (some (vi c))) s))) := by
      intro r s hr hs h1 h2 h3
      exact ⟨fun _ => re_i ⟨f, 0, m, hR 0 m, RD.bad h3 rfl h1 h2 hf⟩, fun q => absurd hr q⟩
    exact bX11_book_13 ic ii hSt ⟨fun _ => fin _ done, fun _ => ⟨fun _ => fin _ done, fun z => absurd z (by omega)⟩⟩
  cases hrd : pRds tp tn (pEntry tp tn) (skp tp tn 0) m with
  | error f0 =>
    rw [hrd] at hX
    refine badEnd s2 0 0 f0 hS2 q2 hX.2.1 hX.2.2 hX.1.zr hFc2 (fun v m' => ?_) (iR_lit rfl) (iR_lit rfl)
    unfold bookR
    rw [hrd]
  | ok rr_ =>
    obtain ⟨l, p1, m1⟩ := rr_
    rw [hrd] at hX
    obtain ⟨hP, h9, h8, h3, h0, hl12, hlle, hRows⟩ := hX
    have hp0 : skp tp tn 0 ≤ tn := (scn_le htn.1).2
    have hok := pRds_ok (V := RowW) RowW_mo (fun p m x p' m' hg hp hq => pEntry_ok hg hp hq) hG hp0 hrd
    have key : ∀ (n i : Nat) (τ : SG) (c : Int) (mi : Int → Int), i + n = l.length → SR τ → AF τ m k h tp → sc τ 102 9 = -1 → ia τ 103 = mi → GM mi → sc τ 102 12 = (l.length : Int) → Rows RowB (ia τ 107) (ia τ 108) l → (0 ≤ c ∧ c ≤ (i : Int)) → Fc σ τ → (∀ x ∈ l, RowW mi x) → (∀ f v m', bkRel (l.drop i) c mi f m' v → bookR tp tn m f v m') → aX11_book_13 g ad d (Ki fun r s => ∃ f v m', bookR tp tn m f v m' ∧ RD σ s m k h tp r f v m') 0 0 τ c i := by
      intro n
      induction n with
      | zero =>
        intro i τ c mi hin hSt q h9 h3 hGi h12 hRo hc hFc hRW hv
        refine bX11_book_13 (iR_of (by omega) (by omega)) (iR_of (by omega) (by omega)) hSt ⟨fun _ => ?_, fun z => absurd (by rw [h12]; omega) z⟩
        refine Cl.i (e_isRight_ok (d := d - 1) q h9 h3 hSt) (by omega) (fun r s hr hs hh => ?_)
        obtain ⟨hr1, hth, hps, rfl⟩ := hh
        refine ⟨fun z => absurd z (by omega), fun _ => re_i ⟨-1, c, mi, hv _ _ _ ?_, hFc.S, fun _ => ⟨rfl, hth, hps, hGi⟩, fun z => absurd rfl z⟩⟩
        rw [List.drop_of_length_le (by omega)]
        exact ⟨rfl, rfl, rfl⟩
      | succ n ih =>
        intro i τ c mi hin hSt q h9 h3 hGi h12 hRo hc hFc hRW hv
        have hil : i < l.length := by omega
        rw [drop_cons hil] at hv
        have hB := hRo i _ (List.getElem?_eq_getElem hil)
        have hWx := hRW _ (List.getElem_mem hil)
        generalize l[i] = x at hB hWx hv
        have hGr := RowB_G hB hWx
        obtain ⟨b1', b2, b3, b4, b5, b6, b7, b8, b9, b10⟩ := hB
        have hal : alk mi (ia τ 107) (10 * i) (-1) = alkL mi x.2.1 x.2.2.1 := alk_L hGi.wf.2.1 b2 b3 b4 b5 b7.2 b8
        have hab := alkL_b hGi.wf.1 x.2.1 x.2.2.1
        have hm1 := hGi.wf.1.2.1
        have ii : iR ((i : Int) + 1) := iR_of (by omega) (by omega)
        have ec : ((i + 1 : Nat) : Int) = (i : Int) + 1 := by omega
        refine bX11_book_13 (iR_of (by omega) (by omega)) (iR_of (by omega) (by omega)) hSt ⟨fun z => absurd z (by rw [h12]; omega), fun _ => ⟨fun z => absurd h9 z, fun _ => ?_⟩⟩
        refine EI.k (e_alike (d := d - 1) h3 rfl aI107 hGi.wf hSt ⟨by omega, by omega⟩ (iR_lit rfl) (by decide) ⟨by omega, by omega⟩ (by omega)) (by omega) (fun hr _ => ?_)
        rw [hal, h3]
        refine ⟨fun c1 => ⟨fun c2 => ⟨⟨by omega, by omega⟩, ?_⟩, fun c2 => ⟨⟨by omega, by omega⟩, ?_⟩⟩, fun c1 => ⟨⟨by omega, by omega⟩, ⟨by omega, by omega⟩, ii, fun _ _ hS4 => ?_⟩⟩
        · rw [b6]
          refine Cl.vo (e_comes (d := d - 1) h3 ⟨hm1.1, by omega⟩ ⟨by omega, by omega⟩ (iR_of (by omega) (by omega)) hSt) (by omega) (fun s5 hS5 h5 => ⟨iR_of (by omega) (by omega), ii, fun _ _ _ => ?_⟩)
          obtain ⟨e5, hF5⟩ := h5
          have e50 : comesS mi (ia τ 107) (10 * i) x.2.2.2 0 = mi 0 := by rw [comesS_at hm1.1, if_neg (by omega), if_neg (by omega), if_neg (by omega), if_neg (by omega)]
          have := ih (i + 1) s5 (c + 1) (comesS mi (ia τ 107) (10 * i) x.2.2.2) (by omega) hS5 (q.fm hF5 rfl rfl) (by rw [hF5.s 9 rfl]; exact h9) e5 (hGi.comes (by omega) hGr b9) (by rw [hF5.s 12 rfl]; exact h12) (by rw [hF5.a 107 rfl, hF5.a 108 rfl]; exact hRo) (by omega) (hFc.trans (hF5.c rfl)) (fun y hy => by have := hRW y hy; unfold RowW; rw [e50]; exact this) (fun f v m' hb => hv f v m' ⟨fun z => absurd c1 z, fun _ => ⟨fun z => absurd z c2, fun _ => ⟨fun j => ia τ 107 (10 * i + j), ⟨by show ia τ 107 (10 * i + 0) = _; rw [Int.add_zero]; exact b2, fun a v hv => b3 a v hv ▸ by show ia τ 107 (10 * i + (1 + a)) = ia τ 107 (10 * i + 1 + a); rw [Int.add_assoc], by show ia τ 107 (10 * i + 4) = _; exact b4, fun a v hv => b5 a v hv ▸ by show ia τ 107 (10 * i + (5 + a)) = ia τ 107 (10 * i + 5 + a); rw [Int.add_assoc]⟩, by rw [← comesS_sh]; exact hb⟩⟩⟩)
          rw [ec] at this
          exact this
        · rw [b1']
          refine EV.k (e_wrong (d := d - 1) (by rw [← b1']; exact hSt.1 108 _) hSt) (by omega) (fun hS5 => ⟨ii, fun _ _ _ => ?_⟩)
          rw [if_pos h9] at hS5 ⊢
          have hFS : Fm [] [9] τ (setS τ 102 9 x.1) := (Fm.refl τ).setS (by decide)
          exact badEnd _ c _ x.1 hS5 (q.fm hFS rfl rfl) (by simp (config := {decide := true}) only [sc_S, ia_S, la_S, rv_S, sc_I, rv_I, la_I, ia_I, sc_L, rv_L, ia_L, la_L, sc_A, rv_A, la_A, ia_A, sc_B, rv_B, ia_B, la_B, sc_R, ia_R, la_R, rv_R, ia_w, la_w, rv_w, sc_w, if_true, if_false]) b10 (by simp (config := {decide := true}) only [sc_S, ia_S, la_S, rv_S, sc_I, rv_I, la_I, ia_I, sc_L, rv_L, ia_L, la_L, sc_A, rv_A, la_A, ia_A, sc_B, rv_B, ia_B, la_B, sc_R, ia_R, la_R, rv_R, ia_w, la_w, rv_w, sc_w, if_true, if_false]; rw [h3]; exact hGi.zr) hFc.S (fun v m' => hv x.1 v m' ⟨fun z => absurd c1 z, fun _ => ⟨fun _ => rfl, fun z => absurd c2 z⟩⟩) (iR_of (by omega) (by omega)) ii
        · rw [b6] at hS4 ⊢
          have hFI : Fm [103] [] τ (setI τ 103 (369 + 10 * alkL mi x.2.1 x.2.2.1 + 8) x.2.2.2) := (Fm.refl τ).setI (by decide)
          have := ih (i + 1) _ c (up mi (369 + 10 * alkL mi x.2.1 x.2.2.1 + 8) x.2.2.2) (by omega) hS4 (q.fm hFI rfl rfl) (by simp (config := {decide := true}) only [sc_S, ia_S, la_S, rv_S, sc_I, rv_I, la_I, ia_I, sc_L, rv_L, ia_L, la_L, sc_A, rv_A, la_A, ia_A, sc_B, rv_B, ia_B, la_B, sc_R, ia_R, la_R, rv_R, ia_w, la_w, rv_w, sc_w, if_true, if_false]; exact h9) (by simp (config := {decide := true}) only [sc_S, ia_S, la_S, rv_S, sc_I, rv_I, la_I, ia_I, sc_L, rv_L, ia_L, la_L, sc_A, rv_A, la_A, ia_A, sc_B, rv_B, ia_B, la_B, sc_R, ia_R, la_R, rv_R, ia_w, la_w, rv_w, sc_w, if_true, if_false]; rw [h3]) (hGi.upP ⟨by omega, by omega⟩ (Or.inl ⟨rfl, b9⟩)) (by simp (config := {decide := true}) only [sc_S, ia_S, la_S, rv_S, sc_I, rv_I, la_I, ia_I, sc_L, rv_L, ia_L, la_L, sc_A, rv_A, la_A, ia_A, sc_B, rv_B, ia_B, la_B, sc_R, ia_R, la_R, rv_R, ia_w, la_w, rv_w, sc_w, if_true, if_false]; exact h12) (by simp (config := {decide := true}) only [sc_S, ia_S, la_S, rv_S, sc_I, rv_I, la_I, ia_I, sc_L, rv_L, ia_L, la_L, sc_A, rv_A, la_A, ia_A, sc_B, rv_B, ia_B, la_B, sc_R, ia_R, la_R, rv_R, ia_w, la_w, rv_w, sc_w, if_true, if_false]; exact hRo) (by omega) (hFc.I rfl) (fun y hy => by have := hRW y hy; unfold RowW; rw [up_ne (by omega)]; exact this) (fun f v m' hb => hv f v m' ⟨fun _ => hb, fun z => absurd z c1⟩)
          rw [ec] at this
          exact this
    exact key l.length 0 s2 0 m1 (by omega) hS2 q2 h9 h3 hok.1 hl12 hRows ⟨Int.le_refl _, Int.le_refl _⟩ hFc2 hok.2.2 (fun f v m' hb => by unfold bookR; rw [hrd]; exact hb)
/-! FLUENCY -/
/-- the place of a pair -/
def flQ (m : Int → Int) (a b : Int) : Int := if pairOf m a b = -1 then m 2 else pairOf m a b
def flSet (m : Int → Int) (a b c : Int) : Int → Int := up (up (up (up m (669 + 3 * flQ m a b + 0) a) (669 + 3 * flQ m a b + 1) b) (669 + 3 * flQ m a b + 2) c) 2 (m 2 + if pairOf m a b = -1 then 1 else 0)
def flEnt : List RowP → (Int → Int) → Except Int (Int → Int)
  | [], m => Except.ok m
  | x :: l, m => if pairOf m x.2.1 x.2.2.1 = -1 ∧ m 2 = 60 then Except.error x.1 else flEnt l (flSet m x.2.1 x.2.2.1 x.2.2.2)
def fluR (t : Int → Int) (e : Int) (m : Int → Int) (f v : Int) (m' : Int → Int) : Prop := match pRds t e (pPair t e) (skp t e 0) m with
  | Except.error f0 => f = f0
  | Except.ok (l, _, m1) => match flEnt l m1 with
    | Except.error f1 => f = f1
    | Except.ok m2 => f = -1 ∧ v = m2 2 ∧ m' = m2
end BKs

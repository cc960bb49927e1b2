section ENT
variable {g : AG} {ad : Nat → Nat} {d : Nat} {σ : SG} {m t : Int → Int} {k : Nat} {e f : Int}
/-- entering changes the Knowledge, and the fault -/
def FrE (k : Nat) (σ s : SG) : Prop := Fr (fun c => Kcl k c ∨ c = 37) σ s ∧ ∀ j, ¬ j = 2 → sc s 37 j = sc σ 37 j
theorem FrE.refl : FrE k σ σ := ⟨Fr.refl σ, fun _ _ => rfl⟩
theorem FrE.trans {s u : SG} (h1 : FrE k σ s) (h2 : FrE k s u) : FrE k σ u := ⟨h1.1.trans h2.1, fun j hj => (h2.2 j hj).trans (h1.2 j hj)⟩
theorem FrE.ofK {s : SG} (hk : isK k) (h : Fr (Kcl k) σ s) : FrE k σ s := ⟨h.mono (fun c q => Or.inl q), fun j _ => h.sc 37 j (Kcl_no hk (Nat.le_refl _))⟩
theorem FrE.ofF {v : Int} : FrE k σ (setS σ 37 2 v) := ⟨(Fr.refl σ).S (Or.inr rfl), fun j hj => by rw [sc_S, if_neg (fun q => hj q.2)]⟩
theorem FrE.a {s : SG} (h : FrE k σ s) (hk : isK k) (c : Nat) (hc : 38 ≤ c) : ia s c = ia σ c := h.1.ia c (fun q => by
  rcases q with q | q
  · exact Kcl_no hk (by omega) q
  · omega)
theorem RowC.ent {s : SG} {i : Int} {x : Row} (h : RowC σ i x) (hF : FrE k σ s) (hk : isK k) : RowC s i x := by
  unfold RowC at h ⊢
  rw [hF.a hk 39 (by decide), hF.a hk 40 (by decide), hF.a hk 41 (by decide), hF.a hk 42 (by decide), hF.a hk 43 (by decide), hF.a hk 44 (by decide)]
  exact h
theorem RowD.ent {s : SG} {i : Int} {x : RowP} (h : RowD σ i x) (hF : FrE k σ s) (hk : isK k) : RowD s i x := by
  unfold RowD at h ⊢
  rw [hF.a hk 39 (by decide), hF.a hk 40 (by decide), hF.a hk 42 (by decide), hF.a hk 44 (by decide)]
  exact h
theorem RowW.z {m' : Int → Int} {x : Row} (h : RowW m x) (e0 : m' 0 = m 0) : RowW m' x := by unfold RowW; rw [e0]; exact h
theorem c_enterBook_bad (hk : isK k) (h2 : ¬ sc σ 37 2 = -1) (hS : SR σ) (hd : 1 ≤ d) : EI g ad d mX2_enterBook [.ref (ad k), .ref (ad 37)] σ 0 σ := by
  refine EbS rfl pl_X2 rfl rfl (bX2_enterBook_0 hk hS ?_)
  intro _ _ _
  refine bX2_enterBook_4 hk (iR_lit rfl) (iR_lit rfl) hS ⟨fun _ => re_i ⟨rfl, rfl⟩, fun _ => ?_⟩
  refine EI.k (c_isRight (d := d - 1) hS) (by omega) (fun _ _ => bi_zn (fun c => absurd c h2) (fun c => re_i ⟨rfl, rfl⟩))
/-- how entries come out -/
def EBk (σ s : SG) (k : Nat) (l : List Row) (m : Int → Int) (r : Int) : Prop := (∀ f v m', bkRel l 0 m f m' v → f = sc s 37 2 ∧ (f = -1 → v = r ∧ RK s k m' ∧ GM m')) ∧ (sc s 37 2 = -1 ∨ 0 ≤ sc s 37 2) ∧ (∃ mc, RK s k mc ∧ GM mc) ∧ FrE k σ s
theorem c_enterBook {l : List Row} (hk : isK k) (hR : RK σ k m) (hG : GM m) (hW : ∀ x ∈ l, RowW m x) (h2 : sc σ 37 2 = -1) (h9 : sc σ 37 9 = (l.length : Int)) (hl12 : (l.length : Int) ≤ 12) (hRo : RowsC RowC σ l) (hS : SR σ) (hd : 3 ≤ d) : Eb g ad d mX2_enterBook 0 0 [.ref (ad k), .ref (ad 37)] σ (Ki fun r s => EBk σ s k l m r) := by
  refine EbS rfl pl_X2 rfl rfl (bX2_enterBook_0 hk hS ?_)
  intro _ _ _
  -- behind a fault
  have stop : ∀ (s : SG) (c i : Int), SR s → iR c → iR i → ¬ sc s 37 2 = -1 → EBk σ s k l m c → aX2_enterBook_4 g ad d (Ki fun r s => EBk σ s k l m r) 0 0 s c i k := by
    intro s c i hs ic ii hf hE
    refine bX2_enterBook_4 hk ic ii hs ⟨fun _ => re_i hE, fun _ => ?_⟩
    refine EI.k (c_isRight (d := d - 1) hs) (by omega) (fun _ _ => bi_zn (fun c => absurd c hf) (fun _ => re_i hE))
  have key : ∀ (n i : Nat) (τ : SG) (c : Int) (mc : Int → Int), i + n = l.length → SR τ → FrE k σ τ → sc τ 37 2 = -1 → RK τ k mc → GM mc → mc 0 = m 0 → (0 ≤ c ∧ c ≤ (i : Int)) → (∀ f v m', bkRel l 0 m f m' v → ∃ mi, bkRel (l.drop i) c mi f m' v ∧ RK τ k mi ∧ GM mi ∧ mi 0 = m 0) → aX2_enterBook_4 g ad d (Ki fun r s => EBk σ s k l m r) 0 0 τ c i k := by
    intro n
    induction n with
    | zero =>
      intro i τ c mc hin hSt hF h2t hRc hGc e0 hc hv
      have h9t : sc τ 37 9 = (l.length : Int) := by rw [hF.2 9 (by decide)]; exact h9
      refine bX2_enterBook_4 hk (iR_of (by omega) (by omega)) (iR_of (by omega) (by omega)) hSt ⟨fun _ => re_i ⟨fun f v m' hb => ?_, Or.inl h2t, ⟨mc, hRc, hGc⟩, hF⟩, fun z => absurd (by rw [h9t]; omega) z⟩
      obtain ⟨mi, hb', hRi, hGi, -⟩ := hv f v m' hb
      rw [List.drop_of_length_le (by omega)] at hb'
      obtain ⟨z1, z2, z3⟩ := hb'
      rw [z2]
      exact ⟨by rw [z1, h2t], fun _ => ⟨z3, hRi, hGi⟩⟩
    | succ n ih =>
      intro i τ c mc hin hSt hF h2t hRc hGc e0 hc hv
      have hil : i < l.length := by omega
      have h9t : sc τ 37 9 = (l.length : Int) := by rw [hF.2 9 (by decide)]; exact h9
      rw [drop_cons hil] at hv
      have hB := (hRo i _ (List.getElem?_eq_getElem hil)).ent hF hk
      have hWx := hW _ (List.getElem_mem hil)
      generalize l[i] = x at hB hWx hv
      obtain ⟨b1, b2, b3, b4, b5, b6, b7, b8, b9, b10⟩ := hB
      have hm1 := hGc.wf.1.2.1
      have hab := alkL_b hGc.wf.1 x.2.1 x.2.2.1
      have ii : iR ((i : Int) + 1) := iR_of (by omega) (by omega)
      have ic : iR c := iR_of (by omega) (by omega)
      have ec : ((i + 1 : Nat) : Int) = (i : Int) + 1 := by omega
      refine bX2_enterBook_4 hk ic (iR_of (by omega) (by omega)) hSt ⟨fun z => absurd z (by rw [h9t]; omega), fun _ => ?_⟩
      refine EI.k (c_isRight (d := d - 1) hSt) (by omega) (fun _ _ => ?_)
      rw [show bi (sc τ 37 2 = -1) = 1 from bi_t h2t]
      refine ⟨fun z => absurd z (by decide), fun _ => ⟨⟨by omega, by omega⟩, ?_⟩⟩
      rw [b2, b4]
      refine EI.k (k_findPhrase (d := d - 1) hk hRc hGc.wf aI_40 aI_42 b3 rfl b5 rfl b7.2 b8 ⟨by omega, by omega⟩ ⟨by omega, by omega⟩ ⟨by decide, by decide⟩ hSt (by omega)) (by omega) (fun hr3 _ => ?_)
      rw [hRc.p, b2, b4, b6, b1]
      refine ⟨fun c1 => ⟨fun c2 => ?_, fun c2 => ?_⟩, fun c1 => ⟨⟨by omega, by omega⟩, ii, fun _ _ hS4 => ?_⟩⟩
      · refine Cl.vo (k_addPhrase (d := d - 1) hk hRc.p ⟨hm1.1, by omega⟩ aI_40 aI_42 ⟨by decide, by decide⟩ b3 rfl b5 rfl b7.2 b8 ⟨by omega, by omega⟩ ⟨by omega, by omega⟩ ⟨by decide, by decide⟩ (iR_of (by omega) (by omega)) hSt (by omega)) (by omega) (fun s4 hS4 h4 => ⟨iR_of (by omega) (by omega), ii, fun _ _ _ => ?_⟩)
        obtain ⟨hadd, hF4⟩ := h4
        have hc0 : ∀ mi R, 0 ≤ mi 1 → comesS mi R 0 x.2.2.2 0 = mi 0 := fun mi R hz => by rw [comesS_at hz, if_neg (by omega), if_neg (by omega), if_neg (by omega), if_neg (by omega)]
        obtain ⟨R, hRR⟩ := RowR_ex (a := x.2.1) (b := x.2.2.1) b7.2
        have := ih (i + 1) s4 (c + 1) (comesS mc R 0 x.2.2.2) (by omega) hS4 (hF.trans (FrE.ofK hk hF4)) (by rw [hF4.sc 37 2 (Kcl_no hk (Nat.le_refl _))]; exact h2t) (hadd mc R hRc hGc hRR) (hGc.comes (by omega) (RowR_G hRR b7 b8 (hWx.z e0).1 (hWx.z e0).2) b9) (by rw [hc0 mc R hm1.1]; exact e0) (by omega) (fun f v m' hb => ?_)
        · rw [ec] at this
          exact this
        · obtain ⟨mi, hb', hRi, hGi, ei⟩ := hv f v m' hb
          have eal := hRc.alk hRi hGc.wf hGi.wf x.2.1 x.2.2.1
          have em1 : mi 1 = mc 1 := by rw [← hRi.p, hRc.p]
          obtain ⟨R', hRR', hb''⟩ := (hb'.2 (by rw [← eal]; exact c1)).2 (by rw [em1]; exact c2)
          exact ⟨_, hb'', hadd mi R' hRi hGi hRR', hGi.comes (by omega) (RowR_G hRR' b7 b8 (hWx.z ei).1 (hWx.z ei).2) b9, by rw [hc0 mi R' hGi.wf.1.2.1.1]; exact ei⟩
      · refine EV.k (c_fail (d := d - 1) (by rw [← b1]; exact hSt.1 39 _) hSt) (by omega) (fun hS5 => ⟨ii, fun _ _ _ => ?_⟩)
        rw [if_pos h2t] at hS5 ⊢
        have e2 : sc (setS τ 37 2 x.1) 37 2 = x.1 := by simp (config := {decide := true}) only [sc_S, ia_S, la_S, rv_S, sc_I, rv_I, la_I, ia_I, sc_L, rv_L, ia_L, la_L, sc_A, rv_A, la_A, ia_A, sc_B, rv_B, ia_B, la_B, sc_R, ia_R, la_R, rv_R, ia_w, la_w, rv_w, sc_w, if_true, if_false]
        refine stop _ c _ hS5 ic ii (by rw [e2]; omega) ⟨fun f v m' hb => ?_, Or.inr (by rw [e2]; exact b10), ⟨mc, hRc.S hk (Nat.le_refl _), hGc⟩, hF.trans FrE.ofF⟩
        obtain ⟨mi, hb', hRi, hGi, ei⟩ := hv f v m' hb
        have eal := hRc.alk hRi hGc.wf hGi.wf x.2.1 x.2.2.1
        have em1 : mi 1 = mc 1 := by rw [← hRi.p, hRc.p]
        have hfx := (hb'.2 (by rw [← eal]; exact c1)).1 (by rw [em1]; exact c2)
        exact ⟨by rw [e2]; exact hfx, fun z => absurd z (by rw [hfx]; omega)⟩
      · have hFk : Fr (Kcl k) τ (setI τ (k + 7) (alkL mc x.2.1 x.2.2.1) x.2.2.2) := (Fr.refl τ).I ⟨by omega, by omega⟩
        have := ih (i + 1) _ c (up mc (369 + 10 * alkL mc x.2.1 x.2.2.1 + 8) x.2.2.2) (by omega) hS4 (hF.trans (FrE.ofK hk hFk)) h2t (hRc.upP hGc ⟨by omega, hab.2⟩ (Or.inl ⟨rfl, rfl⟩)) (hGc.upP ⟨by omega, hab.2⟩ (Or.inl ⟨rfl, b9⟩)) (by rw [up_ne (by omega)]; exact e0) (by omega) (fun f v m' hb => ?_)
        · rw [ec] at this
          exact this
        · obtain ⟨mi, hb', hRi, hGi, ei⟩ := hv f v m' hb
          have eal := hRc.alk hRi hGc.wf hGi.wf x.2.1 x.2.2.1
          have em1 : mi 1 = mc 1 := by rw [← hRi.p, hRc.p]
          have hb'' := hb'.1 (by rw [← eal]; exact c1)
          rw [← eal] at hb''
          exact ⟨_, hb'', hRi.upP hGi ⟨by omega, by omega⟩ (Or.inl ⟨rfl, rfl⟩), hGi.upP ⟨by omega, by omega⟩ (Or.inl ⟨rfl, b9⟩), by rw [up_ne (by omega)]; exact ei⟩
  exact key l.length 0 σ 0 m (by omega) hS FrE.refl h2 hR hG rfl ⟨Int.le_refl _, Int.le_refl _⟩ (fun f v m' hb => ⟨m, hb, hR, hG, rfl⟩)
/-! FLUENCY -/
theorem sea_snoc {p : Int → Bool} : ∀ (n : Nat) (k : Int), 0 ≤ k → sea p (n + 1) k = if sea p n k = -1 then (if p (k + n) = true then k + n else -1) else sea p n k
  | 0, k, _ => by
    rw [sea, sea, if_pos rfl, show k + ((0 : Nat) : Int) = k by omega]
    rfl
  | n + 1, k, h => by
    rw [sea]
    by_cases c : p k = true
    · rw [if_pos c, sea, if_pos c, if_neg (by omega)]
    · rw [if_neg c, sea_snoc n (k + 1) (by omega), sea, if_neg c, show k + 1 + (n : Int) = k + ((n + 1 : Nat) : Int) by omega]
theorem pairOf_key {a b : Int} (hp : ¬ pairOf m a b = -1) : m (669 + 3 * pairOf m a b) = a ∧ m (669 + 3 * pairOf m a b + 1) = b := by
  unfold pairOf at hp ⊢
  rcases sea_spec (pairP m a b) (m 2).toNat 0 with q | ⟨-, -, q⟩
  · exact absurd q hp
  · unfold pairP at q
    rw [Bool.and_eq_true, decide_eq_true_eq, decide_eq_true_eq] at q
    exact q
theorem pairOf_fl {a b c a' b' : Int} (hG : GM m) (h60 : pairOf m a b = -1 → m 2 < 60) : pairOf (flSet m a b c) a' b' = if a' = a ∧ b' = b then flQ m a b else pairOf m a' b' := by
  have h2 := hG.wf.1.2.2.1
  have hq := flQ_b hG.wf.1 a b h60
  have hat := fun j => flSet_at (m := m) (a := a) (b := b) (c := c) (j := j) hq.1
  have hpb := pairOf_b hG.wf.1 a b
  by_cases cp : pairOf m a b = -1
  · have eq : flQ m a b = m 2 := if_pos cp
    have e2 : flSet m a b c 2 = m 2 + 1 := by rw [hat, if_pos rfl, if_pos cp]
    have hP : ∀ j, 0 ≤ j → j < m 2 → pairP (flSet m a b c) a' b' j = pairP m a' b' j := by
      intro j h0 h1
      unfold pairP
      rw [hat (669 + 3 * j), if_neg (by omega), if_neg (by omega), if_neg (by omega), if_neg (by omega), hat (669 + 3 * j + 1), if_neg (by omega), if_neg (by omega), if_neg (by omega), if_neg (by omega)]
    have eL : pairP (flSet m a b c) a' b' (m 2) = true ↔ a' = a ∧ b' = b := by
      unfold pairP
      rw [hat (669 + 3 * m 2), if_neg (by omega), if_pos (by rw [eq]), hat (669 + 3 * m 2 + 1), if_neg (by omega), if_neg (by omega), if_pos (by rw [eq]), Bool.and_eq_true, decide_eq_true_eq, decide_eq_true_eq]
      constructor
      · rintro ⟨z1, z2⟩; exact ⟨z1.symm, z2.symm⟩
      · rintro ⟨z1, z2⟩; exact ⟨z1.symm, z2.symm⟩
    unfold pairOf
    rw [e2, show (m 2 + 1).toNat = (m 2).toNat + 1 by omega, sea_snoc _ _ (Int.le_refl _), sea_cong (q := pairP m a' b') _ _ (fun j h0 h1 => hP j h0 (by omega)), show (0 : Int) + ((m 2).toNat : Int) = m 2 by omega]
    by_cases cc : a' = a ∧ b' = b
    · rw [if_pos cc, if_pos (eL.mpr cc), eq]
      obtain ⟨rfl, rfl⟩ := cc
      exact if_pos cp
    · rw [if_neg cc, if_neg (fun z => cc (eL.mp z))]
      by_cases c3 : sea (pairP m a' b') (m 2).toNat 0 = -1
      · rw [if_pos c3, c3]
      · rw [if_neg c3]
  · have eq : flQ m a b = pairOf m a b := if_neg cp
    have hk := pairOf_key cp
    have e2 : flSet m a b c 2 = m 2 := by rw [hat, if_pos rfl, if_neg cp, Int.add_zero]
    have hP : ∀ j, 0 ≤ j → j < m 2 → pairP (flSet m a b c) a' b' j = pairP m a' b' j := by
      intro j h0 h1
      unfold pairP
      by_cases cj : j = flQ m a b
      · rw [cj, hat (669 + 3 * flQ m a b), if_neg (by omega), if_pos rfl, hat (669 + 3 * flQ m a b + 1), if_neg (by omega), if_neg (by omega), if_pos rfl, eq, hk.1, hk.2]
      · rw [hat (669 + 3 * j), if_neg (by omega), if_neg (by omega), if_neg (by omega), if_neg (by omega), hat (669 + 3 * j + 1), if_neg (by omega), if_neg (by omega), if_neg (by omega), if_neg (by omega)]
    have eP : pairOf (flSet m a b c) a' b' = pairOf m a' b' := by
      unfold pairOf
      rw [e2]
      exact sea_cong _ _ (fun j h0 h1 => hP j h0 (by omega))
    rw [eP]
    by_cases cc : a' = a ∧ b' = b
    · rw [if_pos cc, eq, cc.1, cc.2]
    · rw [if_neg cc]
theorem xw_b {a : Int} (h : -1 ≤ a ∧ a < m 0) (h0 : m 0 ≤ 40) : 0 ≤ xw a ∧ xw a ≤ 40 ∧ wx (xw a) = a := by
  unfold xw wx
  by_cases c : a = -1
  · rw [if_pos c, if_pos rfl]; omega
  · rw [if_neg c, if_neg (by omega)]; omega
theorem wx_inj {a b : Int} (ha : 0 ≤ a ∧ a ≤ 40) (hb : 0 ≤ b ∧ b ≤ 40) (h : wx a = wx b) : a = b := by
  unfold wx at h
  split at h <;> split at h <;> omega
/-- a pair is told -/
theorem RK.fluent {a b c P : Int} {s : SG} (h : RK σ k m) (hG : GM m) (ha : -1 ≤ a ∧ a < m 0) (hb : -1 ≤ b ∧ b < m 0) (h60 : pairOf m a b = -1 → m 2 < 60) (hP : P = m 2 + (if pairOf m a b = -1 then 1 else 0)) (hs : s = setI (setS σ k 11 P) (k + 9) (xw a * 41 + xw b) (c + 1)) : RK s k (flSet m a b c) := by
  have h0 := hG.wf.1.1
  have h2 := hG.wf.1.2.2.1
  have hq := flQ_b hG.wf.1 a b h60
  have hat := fun j => flSet_at (m := m) (a := a) (b := b) (c := c) (j := j) hq.1
  have hu : ∀ j, ¬ j = 2 → (j < 669 ∨ 849 ≤ j) → flSet m a b c j = m j := fun j hj1 hj => by rw [hat, if_neg hj1, if_neg (by omega), if_neg (by omega), if_neg (by omega)]
  have hi : ∀ i, ¬ i = 9 → ia s (k + i) = ia σ (k + i) := fun i hi => by rw [hs, ia_I, if_neg (by omega)]; rfl
  have hsc : ∀ j, ¬ j = 11 → sc s k j = sc σ k j := fun j hj => by rw [hs]; show sc (setS σ k 11 P) k j = _; rw [sc_S, if_neg (fun z => hj z.2)]
  refine RK.of5 (h.gw.c hG (hsc 2 (by omega)) (hi 2 (by omega)) (hi 1 (by omega)) (hu 0 (by omega) (by omega)) (fun j a b => hu j (by omega) (by omega))) (h.gp.c hG (hsc 9 (by omega)) (fun i z1 z2 => hi i (by omega)) (hu 1 (by omega) (by omega)) (fun j a b => hu j (by omega) (by omega))) ?_ (h.gn.c hG (hsc 13 (by omega)) (hi 10 (by omega)) (hu 3 (by omega) (by omega)) (fun j a b => hu j (by omega) (by omega))) (RKs.c h.st (hi 11 (by omega)) (fun j a b => hu j (by omega) (by omega)))
  have xa := xw_b ha h0.2
  have xb := xw_b hb h0.2
  refine ⟨?_, fun A B a0 a1 b0 b1 => ?_⟩
  · rw [hs]
    show sc (setS σ k 11 P) k 11 = _
    rw [sc_S, if_pos ⟨rfl, rfl⟩, hat, if_pos rfl, hP]
  · have e9 : ia s (k + 9) = up (ia σ (k + 9)) (xw a * 41 + xw b) (c + 1) := by rw [hs, ia_I, if_pos rfl]; rfl
    rw [e9, pairOf_fl hG h60]
    by_cases cc : wx A = a ∧ wx B = b
    · have eA : A = xw a := wx_inj ⟨a0, a1⟩ ⟨xa.1, xa.2.1⟩ (by rw [xa.2.2]; exact cc.1)
      have eB : B = xw b := wx_inj ⟨b0, b1⟩ ⟨xb.1, xb.2.1⟩ (by rw [xb.2.2]; exact cc.2)
      rw [if_pos cc, if_neg (by omega), eA, eB, up_at, hat, if_neg (by omega), if_neg (by omega), if_neg (by omega), if_pos rfl]
    · have hne : ¬ A * 41 + B = xw a * 41 + xw b := by
        intro z
        have z1 : A = xw a := by omega
        have z2 : B = xw b := by omega
        exact cc ⟨by rw [z1]; exact xa.2.2, by rw [z2]; exact xb.2.2⟩
      rw [if_neg cc, up_ne hne, h.fl A B a0 a1 b0 b1]
      have hp := pairOf_b hG.wf.1 (wx A) (wx B)
      by_cases c3 : pairOf m (wx A) (wx B) = -1
      · rw [if_pos c3, if_pos c3]
      · have hk1 := pairOf_key c3
        have hpq : ¬ pairOf m (wx A) (wx B) = flQ m a b := by
          intro z
          unfold flQ at z
          by_cases c4 : pairOf m a b = -1
          · rw [if_pos c4] at z; omega
          · rw [if_neg c4] at z
            have hk2 := pairOf_key c4
            rw [z, hk2.1, hk2.2] at hk1
            exact cc ⟨hk1.1.symm, hk1.2.symm⟩
        rw [if_neg c3, if_neg c3, hat, if_neg (by omega), if_neg (by omega), if_neg (by omega), if_neg (by omega)]
theorem c_enterFluency_bad (hk : isK k) (h2 : ¬ sc σ 37 2 = -1) (hS : SR σ) (hd : 1 ≤ d) : EV g ad d mX2_enterFluency [.ref (ad k), .ref (ad 37)] σ σ := by
  refine EbS rfl pl_X2 rfl rfl (bX2_enterFluency_0 hk hS ?_)
  intro _ _
  refine bX2_enterFluency_2 hk (iR_lit rfl) hS ⟨fun _ _ _ => bX2_enterFluency_112 hk (iR_lit rfl) hS (re_v rfl), fun _ => ?_⟩
  refine EI.k (c_isRight (d := d - 1) hS) (by omega) (fun _ _ => bi_zn (fun c => absurd c h2) (fun c _ _ => bX2_enterFluency_112 hk (iR_lit rfl) hS (re_v rfl)))
/-- how pairs come out -/
def EFl (σ s : SG) (k : Nat) (l : List RowP) (m : Int → Int) : Prop := (match flEnt l m with
  | Except.error f1 => sc s 37 2 = f1 ∧ 0 ≤ f1 ∧ ∃ mc, RK s k mc ∧ GM mc
  | Except.ok m2 => sc s 37 2 = -1 ∧ RK s k m2 ∧ GM m2) ∧ FrE k σ s
theorem c_enterFluency {l : List RowP} (hk : isK k) (hR : RK σ k m) (hG : GM m) (hW : ∀ x ∈ l, RowX m x) (h2 : sc σ 37 2 = -1) (h9 : sc σ 37 9 = (l.length : Int)) (hl12 : (l.length : Int) ≤ 12) (hRo : RowsC RowD σ l) (hS : SR σ) (hd : 3 ≤ d) : Eb g ad d mX2_enterFluency 0 0 [.ref (ad k), .ref (ad 37)] σ (Kv fun s => EFl σ s k l m) := by
  have hkb := isK_b hk
  refine EbS rfl pl_X2 rfl rfl (bX2_enterFluency_0 hk hS ?_)
  intro _ _
  have key : ∀ (n i : Nat) (τ : SG) (mi : Int → Int), i + n = l.length → SR τ → FrE k σ τ → sc τ 37 2 = -1 → RK τ k mi → GM mi → mi 0 = m 0 → flEnt (l.drop i) mi = flEnt l m → aX2_enterFluency_2 g ad d (Kv fun s => EFl σ s k l m) 0 0 τ i k := by
    intro n
    induction n with
    | zero =>
      intro i τ mi hin hSt hF h2t hRi hGi e0 hv
      have h9t : sc τ 37 9 = (l.length : Int) := by rw [hF.2 9 (by decide)]; exact h9
      have ii : iR (i : Int) := iR_of (by omega) (by omega)
      rw [List.drop_of_length_le (by omega)] at hv
      have hv' : flEnt l m = Except.ok mi := hv.symm
      refine bX2_enterFluency_2 hk ii hSt ⟨fun _ _ _ => bX2_enterFluency_112 hk ii hSt (re_v ⟨?_, hF⟩), fun z => absurd (by rw [h9t]; omega) z⟩
      rw [hv']
      exact ⟨h2t, hRi, hGi⟩
    | succ n ih =>
      intro i τ mi hin hSt hF h2t hRi hGi e0 hv
      have hil : i < l.length := by omega
      have h9t : sc τ 37 9 = (l.length : Int) := by rw [hF.2 9 (by decide)]; exact h9
      rw [drop_cons hil] at hv
      have hB := (hRo i _ (List.getElem?_eq_getElem hil)).ent hF hk
      have hWx := hW _ (List.getElem_mem hil)
      generalize l[i] = x at hB hWx hv
      obtain ⟨b1, b2, b3, b4, b5, b6⟩ := hB
      rw [flEnt] at hv
      have hm0 := hGi.wf.1.1
      have hm2 := hGi.wf.1.2.2.1
      have wa : -1 ≤ x.2.1 ∧ x.2.1 < mi 0 := by rw [e0]; exact hWx.1
      have wb : -1 ≤ x.2.2.1 ∧ x.2.2.1 < mi 0 := by rw [e0]; exact hWx.2
      have xa := xw_b wa hm0.2
      have xb := xw_b wb hm0.2
      have ii : iR (i : Int) := iR_of (by omega) (by omega)
      have ii1 : iR ((i : Int) + 1) := iR_of (by omega) (by omega)
      have ix : iR (xw x.2.1 * 41 + xw x.2.2.1) := iR_of (by omega) (by omega)
      have ec : ((i + 1 : Nat) : Int) = (i : Int) + 1 := by omega
      have hfl := hRi.fl (xw x.2.1) (xw x.2.2.1) xa.1 xa.2.1 xb.1 xb.2.1
      rw [xa.2.2, xb.2.2] at hfl
      have hz : ia τ (k + 9) (xw x.2.1 * 41 + xw x.2.2.1) = 0 ↔ pairOf mi x.2.1 x.2.2.1 = -1 := by
        rw [hfl]
        have hp := pairOf_b hGi.wf.1 x.2.1 x.2.2.1
        by_cases c : pairOf mi x.2.1 x.2.2.1 = -1
        · rw [if_pos c]; exact ⟨fun _ => c, fun _ => rfl⟩
        · rw [if_neg c]
          have := hGi.wf.2.2.1 (pairOf mi x.2.1 x.2.2.1) (by omega) hp.2
          exact ⟨fun z => by omega, fun z => absurd z c⟩
      have go : ¬ (pairOf mi x.2.1 x.2.2.1 = -1 ∧ mi 2 = 60) → aX2_enterFluency_69 g ad d (Kv fun s => EFl σ s k l m) 0 0 τ i (xw x.2.1 * 41 + xw x.2.2.1) k := by
        intro hno
        rw [if_neg hno] at hv
        have h60 : pairOf mi x.2.1 x.2.2.1 = -1 → mi 2 < 60 := fun z => by
          have : ¬ mi 2 = 60 := fun z2 => hno ⟨z, z2⟩
          omega
        have fin : ∀ P s, P = mi 2 + (if pairOf mi x.2.1 x.2.2.1 = -1 then 1 else 0) → s = setI (setS τ k 11 P) (k + 9) (xw x.2.1 * 41 + xw x.2.2.1) (x.2.2.2 + 1) → SR s → aX2_enterFluency_106 g ad d (Kv fun s => EFl σ s k l m) 0 0 s i (xw x.2.1 * 41 + xw x.2.2.1) k := by
          intro P s hP hs hSs
          have hRs := hRi.fluent hGi wa wb h60 hP hs
          have hFk : Fr (Kcl k) τ s := by rw [hs]; exact ((Fr.refl τ).S ⟨by omega, by omega⟩).I ⟨by omega, by omega⟩
          have hq := flQ_b hGi.wf.1 x.2.1 x.2.2.1 h60
          refine bX2_enterFluency_106 hk ii ix hSs ⟨ii1, fun _ _ => ?_⟩
          have := ih (i + 1) s (flSet mi x.2.1 x.2.2.1 x.2.2.2) (by omega) hSs (hF.trans (FrE.ofK hk hFk)) (by rw [hFk.sc 37 2 (Kcl_no hk (Nat.le_refl _))]; exact h2t) hRs (hGi.fl ⟨wa, wb⟩ b5 h60) (by rw [flSet_at hq.1, if_neg (by omega), if_neg (by omega), if_neg (by omega), if_neg (by omega)]; exact e0) hv
          rw [ec] at this
          exact this
        refine bX2_enterFluency_69 hk ii ix hSt ⟨⟨by omega, by omega⟩, fun c => ?_, fun c => ?_⟩
        · have cp : ¬ pairOf mi x.2.1 x.2.2.1 = -1 := fun z => c (hz.mpr z)
          have e44 : ia (setS τ k 11 (sc τ k 11 + 0)) 44 i = x.2.2.2 := b4
          rw [e44, hRi.f]
          exact ⟨iR_of (by omega) (by omega), ⟨by omega, by omega⟩, iR_of (by omega) (by omega), fun _ _ hSs => fin (mi 2 + 0) _ (by rw [if_neg cp]) rfl hSs⟩
        · have cp := hz.mp c
          have h60' := h60 cp
          have e44 : ia (setS τ k 11 (sc τ k 11 + 1)) 44 i = x.2.2.2 := b4
          rw [e44, hRi.f]
          exact ⟨iR_of (by omega) (by omega), ⟨by omega, by omega⟩, iR_of (by omega) (by omega), fun _ _ hSs => fin (mi 2 + 1) _ (by rw [if_pos cp]) rfl hSs⟩
      refine bX2_enterFluency_2 hk ii hSt ⟨fun z => absurd z (by rw [h9t]; omega), fun _ => ?_⟩
      refine EI.k (c_isRight (d := d - 1) hSt) (by omega) (fun _ _ => ?_)
      rw [show bi (sc τ 37 2 = -1) = 1 from bi_t h2t]
      refine ⟨fun z => absurd z (by decide), fun _ => ⟨⟨by omega, by omega⟩, ?_⟩⟩
      rw [b2, b3, hRi.f, b1]
      refine ⟨⟨by omega, by omega⟩, fun c => ⟨ix, fun _ _ _ => go (fun z => c (hz.mpr z.1))⟩, fun c => ⟨fun c2 => ⟨ix, fun _ _ _ => go (fun z => c2 z.2)⟩, fun c2 => ⟨⟨by omega, by omega⟩, ?_⟩⟩⟩
      refine EV.k (c_fail (d := d - 1) (by rw [← b1]; exact hSt.1 39 _) hSt) (by omega) (fun hS5 => ⟨ix, fun _ _ _ => ?_⟩)
      rw [if_pos h2t] at hS5 ⊢
      rw [if_pos ⟨hz.mp c, c2⟩] at hv
      have hv' : flEnt l m = Except.error x.1 := hv.symm
      have e2 : sc (setS τ 37 2 x.1) 37 2 = x.1 := by simp (config := {decide := true}) only [sc_S, ia_S, la_S, rv_S, sc_I, rv_I, la_I, ia_I, sc_L, rv_L, ia_L, la_L, sc_A, rv_A, la_A, ia_A, sc_B, rv_B, ia_B, la_B, sc_R, ia_R, la_R, rv_R, ia_w, la_w, rv_w, sc_w, if_true, if_false]
      have fin : EFl σ (setS τ 37 2 x.1) k l m := by
        refine ⟨?_, hF.trans FrE.ofF⟩
        rw [hv']
        exact ⟨e2, b6, mi, hRi.S hk (Nat.le_refl _), hGi⟩
      refine bX2_enterFluency_106 hk ii ix hS5 ⟨ii1, fun _ _ => ?_⟩
      refine bX2_enterFluency_2 hk ii1 hS5 ⟨fun _ _ _ => bX2_enterFluency_112 hk ii1 hS5 (re_v fin), fun _ => ?_⟩
      refine EI.k (c_isRight (d := d - 1) hS5) (by omega) (fun _ _ => bi_zn (fun z => absurd z (by rw [e2]; omega)) (fun _ _ _ => bX2_enterFluency_112 hk ii1 hS5 (re_v fin)))
  exact key l.length 0 σ m (by omega) hS FrE.refl h2 hR hG rfl rfl
theorem c_enterSentence_bad (hk : isK k) (h2 : ¬ sc σ 37 2 = -1) (hS : SR σ) (hd : 1 ≤ d) : EV g ad d mX2_enterSentence [.ref (ad k), .ref (ad 37)] σ σ := by
  refine EbS rfl pl_X2 rfl rfl (bX2_enterSentence_0 hk hS ?_)
  refine EI.k (c_isRight (d := d - 1) hS) (by omega) (fun _ _ => bi_zn (fun c => absurd c h2) (fun c => re_v rfl))
theorem c_enterSentence {l : List Int} (hk : isK k) (hR : RK σ k m) (hG : GM m) (h2 : sc σ 37 2 = -1) (h11 : sc σ 37 11 = (l.length : Int)) (hl6 : (l.length : Int) ≤ 6) (hh : hl (ia σ 45) 0 l) (hS : SR σ) (hd : 2 ≤ d) : Eb g ad d mX2_enterSentence 0 0 [.ref (ad k), .ref (ad 37)] σ (Kv fun s => RK s k (sentM m l) ∧ Fr (Kcl k) σ s) := by
  have hkb := isK_b hk
  refine EbS rfl pl_X2 rfl rfl (bX2_enterSentence_0 hk hS ?_)
  refine EI.k (c_isRight (d := d - 1) hS) (by omega) (fun _ _ => ?_)
  rw [show bi (sc σ 37 2 = -1) = 1 from bi_t h2]
  refine ⟨fun z => absurd z (by decide), fun _ => ?_⟩
  rw [show sc (setS σ k 13 (sc σ 37 11)) k 13 = sc σ 37 11 from by rw [sc_S, if_pos ⟨rfl, rfl⟩], h11]
  refine ⟨⟨by omega, by omega, by omega, by omega, by omega⟩, hd, re_v ?_⟩
  have hFk : Fr (Kcl k) σ (setA (setS σ k 13 (l.length : Int)) (k + 10) (cpy (ia (setS σ k 13 (l.length : Int)) 45) (ia (setS σ k 13 (l.length : Int)) (k + 10)) 0 0 (l.length : Int))) := ((Fr.refl σ).S ⟨by omega, by omega⟩).A ⟨by omega, by omega⟩
  refine ⟨?_, hFk⟩
  have hu : ∀ j, ¬ j = 3 → j < 849 → sentM m l j = m j := fun j z1 z2 => by unfold sentM; rw [if_neg z1, if_neg (by omega)]
  have hi : ∀ i, ¬ i = 10 → ia (setA (setS σ k 13 (l.length : Int)) (k + 10) (cpy (ia (setS σ k 13 (l.length : Int)) 45) (ia (setS σ k 13 (l.length : Int)) (k + 10)) 0 0 (l.length : Int))) (k + i) = ia σ (k + i) := fun i hi => by rw [ia_A, if_neg (by omega)]; rfl
  have hsc : ∀ j, ¬ j = 13 → sc (setA (setS σ k 13 (l.length : Int)) (k + 10) (cpy (ia (setS σ k 13 (l.length : Int)) 45) (ia (setS σ k 13 (l.length : Int)) (k + 10)) 0 0 (l.length : Int))) k j = sc σ k j := fun j hj => by
    show sc (setS σ k 13 (l.length : Int)) k j = _
    rw [sc_S, if_neg (fun z => hj z.2)]
  refine RK.of5 (hR.gw.c hG (hsc 2 (by omega)) (hi 2 (by omega)) (hi 1 (by omega)) (hu 0 (by omega) (by omega)) (fun j a b => hu j (by omega) (by omega))) (hR.gp.c hG (hsc 9 (by omega)) (fun i z1 z2 => hi i (by omega)) (hu 1 (by omega) (by omega)) (fun j a b => hu j (by omega) (by omega))) (hR.gf.c hG (hsc 11 (by omega)) (hi 9 (by omega)) (hu 2 (by omega) (by omega)) (fun j a b => hu j (by omega) (by omega))) ?_ (RKs.c hR.st (hi 11 (by omega)) (fun j a b => hu j (by omega) (by omega)))
  have e3 : sentM m l 3 = (l.length : Int) := if_pos rfl
  refine ⟨?_, fun j a b => ?_⟩
  · rw [e3]
    show sc (setS σ k 13 (l.length : Int)) k 13 = _
    rw [sc_S, if_pos ⟨rfl, rfl⟩]
  · rw [e3] at b
    rw [ia_A, if_pos rfl]
    unfold cpy sentM
    rw [if_pos ⟨a, by omega⟩, if_neg (by omega), if_pos ⟨by omega, by omega⟩, show (0 : Int) + (j - 0) = j by omega, show 849 + j - 849 = j by omega]
    have := hl_getD hh (i := j.toNat) (by omega)
    rw [show (0 : Int) + ((j.toNat : Nat) : Int) = j by omega] at this
    exact this
end ENT

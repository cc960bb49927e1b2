section WTH
variable {g : AG} {ad : Nat → Nat} {d : Nat} {σ : SG} {m m1 m2 mi t : Int → Int} {k : Nat} {hi W W1 W2 : Int}
/-- ways of one row are ways of another -/
theorem wy_in (h1 : WF m1) (h2 : WF m2) (P : Op → Prop) (h0 : m2 0 = m1 0) (hf : fullM m2 = fullM m1) (ha : ∀ a, aft m2 a (-1) = aft m1 a (-1)) (hs : ∀ x q, P q → q ∈ sr m1 0 → myB m1 x q = true → q ∈ sr m2 0 ∧ myB m2 x q = true ∧ stp m2 x q = stp m1 x q ∧ wgt m2 x q = wgt m1 x q) : ∀ (n : Nat) (x : Nd), nd m1 x → mu x < n → ∀ w ∈ wy m1 x, (∀ q ∈ w.2, P q) → w ∈ wy m2 x := by
  intro n
  induction n with
  | zero => intro x _ h; omega
  | succ n ih =>
    intro x hx hn w hw hP
    have hx2 : nd m2 x := ⟨hx.1, hx.2.1, by rw [h0]; exact hx.2.2⟩
    rw [wy_eq h1 hx] at hw
    rw [wy_eq h2 hx2]
    unfold wyG at hw ⊢
    rw [hf]
    by_cases c : x.1 = fullM m1
    · rw [if_pos c] at hw ⊢
      rw [ha]
      exact hw
    · rw [if_neg c] at hw ⊢
      obtain ⟨p, hp, hw⟩ := List.mem_flatMap.mp hw
      by_cases c2 : myB m1 x p = true
      · rw [if_pos c2] at hw
        obtain ⟨v, hv, rfl⟩ := List.mem_map.mp hw
        have hPp : P p := hP p (List.mem_cons_self ..)
        have h3 := hs x p hPp hp c2
        refine List.mem_flatMap.mpr ⟨p, h3.1, ?_⟩
        rw [if_pos h3.2.1]
        have hst := stp_nd h1 hx hp c2
        have hv2 := ih (stp m1 x p) hst.1 (by omega) v hv (fun q hq => hP q (List.mem_cons_of_mem _ hq))
        refine List.mem_map.mpr ⟨v, by rw [h3.2.2.1]; exact hv2, ?_⟩
        rw [h3.2.2.2]
      · rw [if_neg c2] at hw
        cases hw
theorem va_step (v1 : VA m m1 W1) (v2 : VA m m2 W2) (hW : WF m) (h6 : m2 6 = m1 6) (h7 : m1 7 ≤ m2 7) {x : Nd} {q : Op} (hq2 : ¬ q.2 = W2) (hq : q ∈ sr m1 0) (hm : myB m1 x q = true) : q ∈ sr m2 0 ∧ myB m2 x q = true ∧ stp m2 x q = stp m1 x q ∧ wgt m2 x q = wgt m1 x q := by
  have hqs : q ∈ sr m 0 := by rw [← va_sr v1]; exact hq
  have hm_ := mem_sr.mp hqs
  have h1 := mayB_s hm
  rw [v1.op q.1 q.2 hm_.2 hm_.1.1 hm_.1.2, Bool.and_eq_true] at h1
  have ho2 : isOpt m2 q.2 q.1 = true := by
    rw [v2.op q.1 q.2 hm_.2 hm_.1.1 hm_.1.2, h1.2.1.1, decide_eq_true hq2]
    rfl
  have s1 := va_stp v1 hW (x := x) hm_.2 hm_.1.1
  have s2 := va_stp v2 hW (x := x) hm_.2 hm_.1.1
  refine ⟨by rw [va_sr v2]; exact hqs, ?_, s2.1.trans s1.1.symm, by rw [s2.2, s1.2, h6]⟩
  rw [mayB_opt ho2]
  have e1 : bAnd x.1 (msk m2 q.2 q.1) = 0 := by
    rw [va_msk v2 hm_.2, ← va_msk v1 hm_.2]
    exact h1.2.2
  rw [decide_eq_true (p := apB q.1 x.2.1 ≤ m2 7) (Int.le_trans h1.1 h7), decide_eq_true e1]
  rfl
theorem LW_in (v1 : VA m m1 W1) (v2 : VA m m2 W2) (hW : WF m) (h6 : m2 6 = m1 6) (h7 : m1 7 ≤ m2 7) {w : Wy} (hw : w ∈ LW m1) (hP : ∀ q ∈ w.2, ¬ q.2 = W2) : w ∈ LW m2 := by
  have e1 := va_3 v1
  have e2 := va_3 v2
  exact wy_in v1.wf v2.wf (fun q => ¬ q.2 = W2) (by rw [e1.1, e2.1]) (by rw [va_full v1, va_full v2]) (fun a => by rw [va_aft v1 hW.1, va_aft v2 hW.1]) (fun x q hq2 hq hm => va_step v1 v2 hW h6 h7 hq2 hq hm) 7 _ (nd0 v1.wf) (by decide) w hw hP
theorem ex_s (hW : WF m) : (∀ w ∈ LW m, exM m ≤ w.1) ∧ (∃ w ∈ LW m, w.1 = exM m) ∧ (0 ≤ exM m ∧ exM m ≤ 3195) := by
  have h := (Ws.st hW).2
  have h1 := h.rs hW
  have h2 := (h.kb hW).1
  have e : rsN m stE.x = exM m := rfl
  have e0 : stE.c = 0 := rfl
  rw [e, e0] at h2
  exact ⟨h1.2.1, h1.2.2, by omega, by omega⟩
theorem way0e (hW : WF m) : ∃ w, wayK m 0 = some w ∧ w ∈ LW m ∧ w.1 = exM m := by
  obtain ⟨v, hv, ev⟩ := (ex_s hW).2.1
  obtain ⟨w, hw, _, hrk, hle⟩ := Rdy.next (R := []) hW (fun i w h => by simp at h) hv (fun h => by cases h)
  have hw0 : wayK m 0 = some w := way_rk hW hw (by rw [hrk]; rfl)
  refine ⟨w, hw0, hw, ?_⟩
  have h1 := (ex_s hW).1 w hw
  have h2 := hle v hv (fun h => by cases h)
  have d1 := LW_dgP hW hw
  have d2 := LW_dgP hW hv
  unfold keyW at h2
  omega
theorem isOpt_eq {o s : Int} (hW : WF m) (h3 : m1 3 = m 3) (hof : ∀ w, 0 ≤ w → w ≤ 9 → of_ m1 o w = of_ m o w) (hpl : ∀ j, 849 ≤ j → m1 j = m j) (ho : isO m o) (hs : 0 ≤ s) : isOpt m1 o s = isOpt m o s := by
  unfold isOpt
  by_cases c : o = 99
  · rw [if_pos c, if_pos c, h3]
  · have hcv := cov_b hW.2.1 ho
    have ecv : cov m1 o = cov m o := by
      unfold cov
      rw [if_neg c, if_neg c, hof 0 (by omega) (by omega)]
    rw [if_neg c, if_neg c, hof 9 (by omega) (by omega), h3, ecv, allN_cong (p := optP m1 o s) (q := optP m o s) (cov m o).toNat 0 (fun i h0 h1 => ?_)]
    unfold optP
    rw [hof (1 + i) (by omega) (by omega), hpl (849 + s + i) (by omega)]
theorem va_upj {j v : Int} (hW : WF m) (hj : 6 ≤ j ∧ j ≤ 8) (hwf : WF (up m j v)) : VA m (up m j v) (-1) := by
  refine ⟨hwf, fun i h6 h7 h8 _ => up_ne (by omega), fun s o ho h0 h1 => ?_⟩
  have hne : ¬ o = -1 := fun z => by
    rcases ho with y | y
    · omega
    · omega
  have hoo : 0 ≤ o := by
    rcases ho with y | y
    · omega
    · omega
  rw [decide_eq_true hne, Bool.and_true]
  refine isOpt_eq hW (up_ne (by omega)) (fun w hw0 hw1 => ?_) (fun i hi' => up_ne (by omega)) ho h0
  unfold of_
  exact up_ne (by omega)
theorem va_up6 (hW : WF m) {n : Int} (hn : 0 ≤ n ∧ n ≤ 20) : VA m (up m 6 n) (-1) := va_upj hW (by omega) (WF_up hW (by omega) ⟨fun z => by omega, fun z => by omega, fun _ => hn, fun z => by omega⟩)
theorem va_up7 (hW : WF m) {n : Int} (hn : 0 ≤ n ∧ n ≤ 6) : VA m (up m 7 n) (-1) := va_upj hW (by omega) (WF_up hW (by omega) ⟨fun z => by omega, fun z => by omega, fun z => by omega, fun _ => hn⟩)
/-- without a phrase -/
theorem va_wo (hW : WF m) {p : Int} (hp : 0 ≤ p ∧ p < m 1) : VA m (up m (369 + 10 * p + 9) 1) p := by
  have hwf := WF_upP (w := 9) (v := 1) hW hp (Or.inr ⟨rfl, Or.inr rfl⟩)
  have hm1 := hW.1.2.1
  refine ⟨hwf, fun i _ _ _ h9 => up_ne (by omega), fun s o ho h0 h1 => ?_⟩
  have hoo : 0 ≤ o := by
    rcases ho with y | y
    · omega
    · omega
  by_cases c : o = p
  · have h99 : ¬ o = 99 := by omega
    have hg : of_ (up m (369 + 10 * p + 9) 1) o 9 = 1 := by
      unfold of_
      rw [c, up_at]
    rw [decide_eq_false (fun z => z c), Bool.and_false]
    unfold isOpt
    rw [if_neg h99, if_pos hg]
  · rw [decide_eq_true c, Bool.and_true]
    refine isOpt_eq hW (up_ne (by omega)) (fun w hw0 hw1 => ?_) (fun i hi' => up_ne (by omega)) ho h0
    unfold of_
    exact up_ne (by omega)
/-- a phrase that the first way does not use is worth nothing -/
theorem wo_same (hW : WF m) {p : Int} (hp : 0 ≤ p ∧ p < m 1) {w : Wy} (hw : w ∈ LW m) (he : w.1 = exM m) (hn : ∀ q ∈ w.2, ¬ q.2 = p) : exM (up m (369 + 10 * p + 9) 1) = exM m := by
  have v2 := va_wo hW hp
  have v1 := VA_id hW
  have e6 : (up m (369 + 10 * p + 9) 1) 6 = m 6 := up_ne (by omega)
  have e7 : (up m (369 + 10 * p + 9) 1) 7 = m 7 := up_ne (by omega)
  have h1 := LW_in v1 v2 hW e6 (by rw [e7]; exact Int.le_refl _) hw hn
  have h2 := (ex_s v2.wf).1 w h1
  obtain ⟨u, hu, eu⟩ := (ex_s v2.wf).2.1
  have hu2 := LW_in v2 v1 hW e6.symm (by rw [e7]; exact Int.le_refl _) hu (fun q hq z => by
    rcases (ops_mem (LW_opA v2.wf hu q hq)).2.1 with y | y
    · omega
    · omega)
  have h3 := (ex_s hW).1 u hu2
  omega
theorem wo_ge (hW : WF m) {p : Int} (hp : 0 ≤ p ∧ p < m 1) : exM m ≤ exM (up m (369 + 10 * p + 9) 1) := by
  have v2 := va_wo hW hp
  have v1 := VA_id hW
  have e6 : (up m (369 + 10 * p + 9) 1) 6 = m 6 := up_ne (by omega)
  have e7 : (up m (369 + 10 * p + 9) 1) 7 = m 7 := up_ne (by omega)
  obtain ⟨u, hu, eu⟩ := (ex_s v2.wf).2.1
  have hu2 := LW_in v2 v1 hW e6.symm (by rw [e7]; exact Int.le_refl _) hu (fun q hq z => by
    rcases (ops_mem (LW_opA v2.wf hu q hq)).2.1 with y | y
    · omega
    · omega)
  have h3 := (ex_s hW).1 u hu2
  omega
theorem far_ge (hW : WF m) {n : Int} (hn : 0 ≤ n ∧ n ≤ 6) : exM (up m 7 6) ≤ exM (up m 7 n) := by
  have v1 := va_up7 hW hn
  have v2 := va_up7 hW (n := 6) (by omega)
  have e6 : (up m 7 6) 6 = (up m 7 n) 6 := by rw [up_ne (by omega), up_ne (by omega)]
  have e7 : (up m 7 n) 7 ≤ (up m 7 6) 7 := by rw [up_at, up_at]; omega
  obtain ⟨u, hu, eu⟩ := (ex_s v1.wf).2.1
  have hu2 := LW_in v1 v2 hW e6 e7 hu (fun q hq z => by
    rcases (ops_mem (LW_opA v1.wf hu q hq)).2.1 with y | y
    · omega
    · omega)
  have h3 := (ex_s v2.wf).1 u hu2
  omega
/-! the class -/
theorem CI.noways {s : SG} (h : CI σ m mi hi) (hF : Fr (fun c => Kno c ∨ c = 0 ∨ Wcl c) σ s) (hk : KNT s m) (h0 : ∀ j, ¬ j = 13 → sc s 0 j = sc σ 0 j) (h13 : sc s 0 13 = 0) (h12 : ¬ sc σ 0 12 = 0) : CI s m mi hi ∧ Qf σ s := by
  have hq : Qf σ s := ⟨fun c j _ => by rw [hF.1], fun c hc0 hc => hF.2 c (fun z => by
    rcases z with z | z | z
    · unfold Kno at z; omega
    · exact hc0 z
    · unfold Wcl at z; omega), fun j _ hj _ => h0 j hj⟩
  have hop := h.op h12
  refine ⟨h.q hq hk.clear (fun _ => ⟨?_, hk, hop.2.2.fr hF (fun c hc z => by
    rcases hc with y | y | y
    · unfold Kno at y; omega
    · omega
    · unfold Wcl at y; omega)⟩) (fun z => absurd h13 z) (fun z => ?_), hq⟩
  · rw [hq.rv01.1]
    exact hop.1.fr hF (fun c hc z => by
      unfold Ocl at z
      rcases hc with y | y | y
      · unfold Kno at y; omega
      · omega
      · unfold Wcl at y; omega)
  · rw [h0 14 (by decide)] at z
    have hs := h.st z
    exact ⟨by rw [h0 12 (by decide)]; exact hs.1, hs.2.fr hF (fun c hc y => by
      unfold Fcl at y
      rcases hc with y' | y' | y'
      · unfold Kno at y'; omega
      · omega
      · unfold Wcl at y'; omega)⟩
theorem p_otherwise (h : CI σ m mi hi) (h12 : ¬ sc σ 0 12 = 0) (hV : VA m m1 W) (hw : iR W) (hS : SR σ) (hd : 6 ≤ d) : Eb g ad d mX10_reckonOtherwise 0 0 [.ref (ad 0), vi (m1 6), vi (m1 7), vi W] σ (Ki fun r s => r = exM m1 ∧ (KRk s m m1 (rv σ 0 1) W ∧ RST s m1) ∧ CI s m mi hi ∧ ¬ sc s 0 12 = 0 ∧ Qf σ s ∧ Fr (fun c => Kno c ∨ c = 0) σ s ∧ sc s 0 13 = 0) := by
  have hW := h.gm.wf
  have hop := h.op h12
  have h06 := hV.wf.1.2.2.2.2.2.2.1
  have h07 := hV.wf.1.2.2.2.2.2.2.2.1
  have hS1 : SR (setS σ 0 13 0) := SR_setS hS (iR_lit rfl)
  have hF1 : Fr (fun c => c = 0) σ (setS σ 0 13 0) := Fr0
  have r1 : RK (setS σ 0 13 0) (rv σ 0 1) m := h.rk.fr hF1 (fun c hc z => by
    have := isK_b h.isk
    unfold Kcl at hc
    omega)
  have o1 : OPT (setS σ 0 13 0) m (rv σ 0 1) := hop.1.fr hF1 (fun c hc z => by unfold Ocl at z; omega)
  have k1 : KNT (setS σ 0 13 0) m := hop.2.1.fr hF1 (fun c hc z => by unfold Kno at z; omega)
  refine EbS rfl pl_X10 rfl rfl (bX10_reckonOtherwise_0 (iR_of (by omega) (by omega)) (iR_of (by omega) (by omega)) hw hS ?_)
  refine Cl.vo (n_reckon (d := d - 1) h.isk hV hW r1 o1 k1 hw hS1 (by omega)) (by omega) (fun s1 hS1' hs1 => ?_)
  have hFF : Fr (fun c => Kno c ∨ c = 0) σ s1 := (hF1.mono (fun c hc => Or.inr hc)).trans (hs1.2.2.mono (fun c hc => Or.inl hc))
  have h0 : ∀ j, ¬ j = 13 → sc s1 0 j = sc σ 0 j := fun j hj => by
    rw [hs1.2.2.sc 0 j (fun z => by unfold Kno at z; omega), sc_S, if_neg (fun z => hj z.2)]
  have h13 : sc s1 0 13 = 0 := by
    rw [hs1.2.2.sc 0 13 (fun z => by unfold Kno at z; omega)]
    simp (config := {decide := true}) only [sc_S, ia_S, la_S, rv_S, sc_I, rv_I, la_I, ia_I, sc_L, rv_L, ia_L, la_L, sc_A, rv_A, la_A, ia_A, sc_B, rv_B, ia_B, la_B, sc_R, ia_R, la_R, rv_R, ia_w, la_w, rv_w, sc_w, if_true, if_false]
  have hno := h.noways (hFF.mono (fun c hc => hc.imp id Or.inl)) hs1.1.kn h0 h13 h12
  have hex : ia s1 61 0 = exM m1 := by
    have h1 := hs1.2.1 0 (Int.le_refl _) (by have := hs1.1.kn.nb; omega)
    rw [hs1.1.kn.c0] at h1
    have e3 : rsM m1 (ndC 40) = min (exM m1) 1000000 := rfl
    have := (ex_s hV.wf).2.2
    rw [h1, e3]
    omega
  have hch : EI g ad (d - 1) mX1_cheapest [.ref (ad 58)] s1 (exM m1) s1 := EbS rfl pl_X1 rfl rfl (bX1_cheapest_0 hS1' (by rw [hex]; exact re_i ⟨rfl, rfl⟩))
  refine EI.k hch (by omega) (fun _ _ => re_i ⟨rfl, ⟨hs1.1, hs1.2.1⟩, hno.1, ?_, hno.2, hFF, h13⟩)
  rw [h0 12 (by decide)]
  exact h12
/-- the phrases of a way -/
def UsB (w : Wy) (b : Int) : Prop := (0 ≤ b ∧ b < 1073741824) ∧ ∀ p, 0 ≤ p → p < 30 → (bAnd (bShr b p) 1 = 0 ↔ ∀ q ∈ w.2, ¬ q.2 = p)
theorem p_unfolded {w : Wy} (hO : OPT σ m k) (hW : WF m) (hu : UNF σ m w) (hL : w ∈ LW m) (hS : SR σ) : Eb g ad d mX10_phrasesUnfolded 0 0 [.ref (ad 0)] σ (Ki fun r s => s = σ ∧ UsB w r) := by
  have hm1 := hW.1.2.1
  have hwl := (keyW_b hW hL).2.1
  have hop := LW_opA hW hL
  refine EbS rfl pl_X10 rfl rfl (bX10_phrasesUnfolded_0 hS (fun _ _ hS' => ?_))
  refine up_loop (P := fun x => 0 ≤ x → ∀ b, (0 ≤ b ∧ b < 1073741824) → (∀ p, 0 ≤ p → p < 30 → (b.toNat.testBit p.toNat = true ↔ ∃ q ∈ w.2.take x.toNat, q.2 = p)) → aX10_phrasesUnfolded_4 g ad d (Ki fun r s => s = σ ∧ UsB w r) 0 0 σ b x) (hi := (w.2.length : Int)) 0 (by omega) ?_ ?_ (Int.le_refl _) 0 (by omega) (fun p _ _ => ⟨fun z => by simp at z, fun ⟨q, hq, _⟩ => by simp at hq⟩)
  · intro _ b hb hbit
    rw [Int.toNat_natCast, List.take_length] at hbit
    refine bX10_phrasesUnfolded_4 (iR_of (by omega) (by omega)) (iR_of (by omega) (by omega)) hS' ⟨fun _ => re_i ⟨rfl, hb, fun p h0 h1 => ?_⟩, fun z => absurd (by rw [hu.sz]; exact Int.le_refl _) z⟩
    rw [bit_n ⟨hb.1, by omega⟩ ⟨h0, by omega⟩]
    have := hbit p h0 h1
    constructor
    · intro z q hq e
      have h2 := this.mpr ⟨q, hq, e⟩
      rw [z] at h2
      cases h2
    · intro z
      cases hc : b.toNat.testBit p.toNat with
      | false => rfl
      | true =>
        obtain ⟨q, hq, e⟩ := this.mp hc
        exact absurd e (z q hq)
  · intro x hx0 hx1 ih hxx b hb hbit
    obtain ⟨q, hq⟩ : ∃ q, w.2[x.toNat]? = some q := ⟨_, List.getElem?_eq_getElem (by omega)⟩
    have hst := hu.st x.toNat q hq
    rw [show ((x.toNat : Nat) : Int) = x by omega] at hst
    have hqm := hop q (List.mem_of_getElem? hq)
    have hix := ix_b hW.1 hqm
    have hrow := opt_row hO hW.1 hix.1.1 hix.2
    have hqo := (ops_mem hqm).2.1
    have etk : w.2.take (x + 1).toNat = w.2.take x.toNat ++ [q] := by
      rw [show (x + 1).toNat = x.toNat + 1 by omega, List.take_add_one, hq]
      rfl
    refine bX10_phrasesUnfolded_4 (iR_of (by omega) (by omega)) (iR_of (by omega) (by omega)) hS' ⟨fun z => absurd z (by rw [hu.sz]; omega), fun _ => ⟨⟨hx0, by omega⟩, ?_⟩⟩
    rw [hst.1, hrow.2.2]
    refine ⟨⟨hix.1.1, hrow.1⟩, fun c => ⟨iR_of (by omega) (by omega), fun _ _ _ => ih (by omega) b hb (fun p h0 h1 => ?_)⟩, fun c => ⟨iR_of (by omega) (by omega), fun _ _ _ => ?_⟩⟩
    · rw [hbit p h0 h1, etk]
      constructor
      · rintro ⟨r, hr, e⟩
        exact ⟨r, List.mem_append_left _ hr, e⟩
      · rintro ⟨r, hr, e⟩
        rcases List.mem_append.mp hr with z | z
        · exact ⟨r, z, e⟩
        · rw [List.mem_singleton.mp z] at e
          omega
    · have hq2 : 0 ≤ q.2 ∧ q.2 < 30 := by
        rcases hqo with y | y
        · exact absurd y c
        · omega
      refine ih (by omega) _ (bit_set hb hq2 hq2).1 (fun p h0 h1 => ?_)
      rw [(bit_set hb hq2 ⟨h0, h1⟩).2, hbit p h0 h1, etk]
      constructor
      · rintro (⟨r, hr, e⟩ | e)
        · exact ⟨r, List.mem_append_left _ hr, e⟩
        · exact ⟨q, List.mem_append_right _ (List.mem_cons_self ..), e⟩
      · rintro ⟨r, hr, e⟩
        rcases List.mem_append.mp hr with z | z
        · exact Or.inl ⟨r, z, e⟩
        · rw [List.mem_singleton.mp z] at e
          exact Or.inr e
/-- the first way's phrases are options -/
theorem used_opt (hW : WF m) {w : Wy} (hL : w ∈ LW m) {p : Int} (hp : 0 ≤ p ∧ p < m 1) (hq : ∃ q ∈ w.2, q.2 = p) : of_ m p 9 = 0 ∧ 0 < placesOf m p := by
  obtain ⟨q, hq, e⟩ := hq
  have hqm := LW_opA hW hL q hq
  have hm := ops_mem hqm
  have hm1 := hW.1.2.1
  refine ⟨?_, ?_⟩
  · have h1 := (hW.2.1 p hp.1 hp.2).2.2.2.1
    rcases h1 with z | z
    · exact z
    · have := hm.2.2
      unfold isOpt at this
      rw [e, if_neg (by omega), if_pos z] at this
      cases this
  · rw [← ops_often hm1 hW.1.2.2.2.1.1 hp]
    have : q ∈ (ops m).filter (fun q => decide (q.2 = p)) := List.mem_filter.mpr ⟨hqm, decide_eq_true e⟩
    have := List.length_pos_of_mem this
    omega
theorem q_worth {p : Int} {w : Wy} (h : CI σ m mi hi) (h12 : ¬ sc σ 0 12 = 0) (h13 : ¬ sc σ 0 13 = 0) (hu : UNF σ m w) (hL : w ∈ LW m) (he : w.1 = exM m) (hp : 0 ≤ p ∧ p < m 1) (hS : SR σ) (hd : 7 ≤ d) : Eb g ad d mX10_worthOf 0 0 [.ref (ad 0), vi p] σ (Ki fun r s => r = worthV m p ∧ CI s m mi hi ∧ Qf σ s) := by
  have hW := h.gm.wf
  have hm1 := hW.1.2.1
  have hop := h.op h12
  refine EbS rfl pl_X10 rfl rfl (bX10_worthOf_0 (iR_of (by omega) (by omega)) hS ?_)
  refine Cl.i (p_unfolded (d := d - 1) hop.1 hW hu hL hS) (by omega) (fun b s1 hb1 hS1 h1 => ?_)
  obtain ⟨rfl, hUB⟩ := h1
  have hbit := hUB.2 p hp.1 (by omega)
  refine ⟨fun c => ?_, fun c => re_i ⟨?_, h, Qf.refl⟩⟩
  · have hus : ∃ q ∈ w.2, q.2 = p := Classical.byContradiction (fun z => c (hbit.mpr (fun q hq e => z ⟨q, hq, e⟩)))
    have hg := used_opt hW hL hp hus
    have e6 : ia s1 (rv s1 0 1 + 11) 2 = m 6 := h.rk.st 2 (by omega) (by omega)
    have e7 : ia s1 (rv s1 0 1 + 11) 3 = m 7 := h.rk.st 3 (by omega) (by omega)
    refine EI.k (n_cheapest (d := d - 1) h h13 hS) (by omega) (fun _ _ => ⟨h.isk, ?_⟩)
    rw [e6, e7]
    have hV := va_wo hW hp
    have f6 : (up m (369 + 10 * p + 9) 1) 6 = m 6 := up_ne (by omega)
    have f7 : (up m (369 + 10 * p + 9) 1) 7 = m 7 := up_ne (by omega)
    have hot := p_otherwise (g := g) (ad := ad) (d := d - 1) h h12 hV (iR_of (by omega) (by omega)) hS (by omega)
    rw [f6, f7] at hot
    refine Cl.i hot (by omega) (fun r s4 hr4 hS4 h4 => ?_)
    have b1 := (ex_s hW).2.2
    have b2 := (ex_s hV.wf).2.2
    rw [h4.1]
    refine ⟨iR_of (by omega) (by omega), re_i ⟨?_, h4.2.2.1, h4.2.2.2.2.1⟩⟩
    unfold worthV
    rw [if_neg (by omega)]
  · unfold worthV
    have hno := hbit.mp c
    by_cases cg : of_ m p 9 = 1
    · rw [if_pos cg]
    · rw [if_neg cg, wo_same hW hp hL he hno]
      omega
theorem q_phrase {x1 x2 : Int} (h : CI σ m mi hi) (h1 : iR x1) (h2 : iR x2) (hS : SR σ) (hd : 9 ≤ d) : Eb g ad d mX10_phrase 2 12 [.ref (ad 0), vi x1, vi x2] σ (XC σ m mi hi (phraseV m x1 x2) (phraseT m x1 x2) (X2 xIO xNS)) := by
  have hW := h.gm.wf
  have hm1 := hW.1.2.1
  refine EbS rfl pl_X10 rfl rfl (bX10_phrase_0 h1 h2 hS ?_)
  refine Cl.xv (p_checkPhrase (d := d - 1) h h1 hS (by omega)) (by omega) (fun s _ hs => ?_) (fun E s _ hs => ?_)
  · obtain ⟨rfl, hx⟩ := hs
    have eT : (0 ≤ x2 ∧ x2 ≤ 5) → phraseT m x1 x2 = 0 := fun z => by unfold phraseT; rw [if_pos hx, if_pos z]
    have eV : (0 ≤ x2 ∧ x2 ≤ 5) → phraseV m x1 x2 = if x2 = 0 then of_ m x1 0 else if x2 = 1 then of_ m x1 4 else if x2 = 2 then of_ m x1 8 else if x2 = 3 then of_ m x1 9 else if x2 = 4 then placesOf m x1 else worthV m x1 := fun z => by unfold phraseV; rw [if_pos (eT z)]
    refine ⟨fun c => ⟨by omega, ?_⟩, fun c => ⟨h.isk, ⟨by omega, by omega⟩, ?_⟩, fun c => ⟨h.isk, ⟨by omega, by omega⟩, ?_⟩, fun c => ⟨h.isk, ⟨by omega, by omega⟩, ?_⟩, fun c => ⟨h.isk, ⟨by omega, by omega⟩, ?_⟩, fun c => ?_, fun c => ?_⟩
    · have eT2 : phraseT m x1 x2 = 2 := by unfold phraseT; rw [if_pos hx, if_neg (by omega)]
      exact xe (by rw [eT2]; decide) (Or.inr ⟨rfl, eT2⟩) h Qf.refl
    · rw [h.rk.ss x1 hx.1 hx.2]
      exact xr (eT (by omega)) (by rw [eV (by omega), if_pos c]) h Qf.refl
    · rw [h.rk.ts x1 hx.1 hx.2]
      exact xr (eT (by omega)) (by rw [eV (by omega), if_neg (by omega), if_pos c]) h Qf.refl
    · rw [h.rk.co x1 hx.1 hx.2]
      exact xr (eT (by omega)) (by rw [eV (by omega), if_neg (by omega), if_neg (by omega), if_pos c]) h Qf.refl
    · rw [h.rk.go x1 hx.1 hx.2]
      have hg := (hW.2.1 x1 hx.1 hx.2).2.2.2.1
      have ev : phraseV m x1 x2 = of_ m x1 9 := by rw [eV (by omega), if_neg (by omega), if_neg (by omega), if_neg (by omega), if_pos c]
      exact ⟨fun c2 => xr (eT (by omega)) (by rw [ev, c2]) h Qf.refl, fun c2 => xr (eT (by omega)) (by rw [ev]; omega) h Qf.refl⟩
    · refine Cl.vo (p_options (d := d - 1) h hS (by omega)) (by omega) (fun s1 hS1 hs1 => ?_)
      refine EI.k (o_howOften (d := d - 1) (hs1.1.op hs1.2.1).1 hW h1 hS1) (by omega) (fun _ _ => ?_)
      rw [ops_often hm1 hW.1.2.2.2.1.1 hx]
      exact xr (eT (by omega)) (by rw [eV (by omega), if_neg (by omega), if_neg (by omega), if_neg (by omega), if_neg (by omega), if_pos c]) hs1.1 hs1.2.2.1
    · refine Cl.i (p_unfold (d := d - 1) (x := 0) h (by omega) hS (by omega)) (by omega) (fun r s3 hr3 hS3 h3 => ?_)
      obtain ⟨w0, hw0, hL0, he0⟩ := way0e hW
      rcases h3.1 with ⟨w, hw, _, hu, hL, _⟩ | ⟨hw, _⟩
      · rw [hw0] at hw
        have ew := Option.some.inj hw
        subst ew
        refine Cl.i (q_worth (d := d - 1) h3.2.1 h3.2.2.1 h3.2.2.2.1.1 hu hL he0 hx hS3 (by omega)) (by omega) (fun r4 s4 hr4 hS4 h4 => ?_)
        exact xr (eT (by omega)) (by rw [eV (by omega), if_neg (by omega), if_neg (by omega), if_neg (by omega), if_neg (by omega), if_neg (by omega)]; exact h4.1) h4.2.1 (h3.2.2.2.2.trans h4.2.2)
      · rw [hw0] at hw
        cases hw
  · obtain ⟨rfl, rfl, hx⟩ := hs
    have eT : phraseT m x1 x2 = 1 := by unfold phraseT; rw [if_neg hx]
    exact xe (by rw [eT]; decide) (Or.inl ⟨rfl, eT⟩) h Qf.refl
end WTH

/-- the told row in the class -/
def TLC (s : SG) (m : Int → Int) (c1 : Nat) (tl : Int → Int) (tn : Int) : Prop := ∀ j, 0 ≤ j → j < tn → ((0 ≤ tl j ∧ tl j < m 0) ∧ ia s c1 j = tl j) ∨ (tl j < 0 ∧ ia s c1 j < 0)
def ndF (x : Int) : Nd := (x / 133, x / 19 % 7, x % 19)
/-- a row of costs that is right so far -/
def TJ (m tl : Int → Int) (tn : Int) (c : Int → Int) : Prop := (∀ x, 0 ≤ x → x < 8512 → 0 ≤ c x ∧ c x ≤ 1000000) ∧ (∀ x, 0 ≤ x → x < 8512 → c x < 1000000 → x % 19 ≤ tn ∧ x / 133 ≤ fullM m ∧ (x % 19 = 0 ∨ 0 ≤ tl (x % 19 - 1) ∧ tl (x % 19 - 1) < m 0) ∧ c x ≤ 516 * pc (x / 133))
theorem TJ.a {m tl : Int → Int} {tn : Int} {c : Int → Int} (h_ : TJ m tl tn c) : ∀ x, 0 ≤ x → x < 8512 → 0 ≤ c x ∧ c x ≤ 1000000 := h_.1
theorem TJ.b {m tl : Int → Int} {tn : Int} {c : Int → Int} (h_ : TJ m tl tn c) : ∀ x, 0 ≤ x → x < 8512 → c x < 1000000 → x % 19 ≤ tn ∧ x / 133 ≤ fullM m ∧ (x % 19 = 0 ∨ 0 ≤ tl (x % 19 - 1) ∧ tl (x % 19 - 1) < m 0) ∧ c x ≤ 516 * pc (x / 133) := h_.2
section TEL
variable {g : AG} {ad : Nat → Nat} {d : Nat} {σ : SG} {m tl : Int → Int} {k : Nat} {tn : Int}
theorem v_wordAhead {c1 n1 : Nat} {n : Int} (hc : aI c1 n1) (hn : 0 ≤ n ∧ n ≤ n1) (hn1 : n1 ≤ 2000) (hT : TLC σ m c1 tl tn) (hnt : n ≤ tn) (hk : n = 0 ∨ 0 ≤ tl (n - 1) ∧ tl (n - 1) < m 0) (hS : SR σ) : EI g ad d mX0_wordAhead [.ref (ad c1), vi n] σ (if n = 0 then 40 else tl (n - 1)) σ := by
  refine EbS rfl pl_X0 rfl rfl (bX0_wordAhead_0 hc (iR_of (by omega) (by omega)) hS ⟨fun c => ⟨⟨by omega, by omega⟩, re_i ⟨?_, rfl⟩⟩, fun c => re_i ⟨by rw [if_pos c], rfl⟩⟩)
  rw [if_neg c]
  rcases hT (n - 1) (by omega) (by omega) with z | z
  · exact z.2
  · omega
theorem v_tells {c1 n1 : Nat} {i n : Int} {q : Op} (hW : WF m) (hc : aI c1 n1) (hn1 : n1 ≤ 2000) (hE : OpE σ m i q) (hi : 0 ≤ i ∧ i < 186) (hq : (0 ≤ q.1 ∧ q.1 < m 3) ∧ isO m q.2) (hn : 0 ≤ n ∧ n ≤ tn) (htn : tn ≤ n1) (hT : TLC σ m c1 tl tn) (hS : SR σ) (hd : 1 ≤ d) : EI g ad d mX0_tells [.ref (ad 85), vi i, .ref (ad c1), vi n, vi tn] σ (bi (spk m tl tn n q = true)) σ := by
  have ht := tgN_b hW.2.1 hq.2
  refine EbS rfl pl_X0 rfl rfl (bX0_tells_0 hc (iR_of (by omega) (by omega)) (iR_of (by omega) (by omega)) (iR_of (by omega) (by omega)) hS ⟨hi, ?_⟩)
  rw [hE.tn]
  refine ⟨iR_of (by omega) (by omega), fun c => re_i ⟨(bi_f ?_).symm, rfl⟩, fun c => ?_⟩
  · unfold spk
    rw [decide_eq_false (by omega)]
    simp
  · refine EI.k (k_sameRow (d := d - 1) rfl rfl aI_53 hc ⟨by omega, by omega⟩ ⟨by omega, by omega⟩ ht.1 ⟨by decide, hn1⟩ hS) hd (fun _ _ => ?_)
    have e : (alR (ia σ 53) (i * 3) (ia σ c1) n (tgN m q.2) = true) ↔ spk m tl tn n q = true := by
      unfold spk
      rw [alR_iff, decide_eq_true (show n + tgN m q.2 ≤ tn by omega), Bool.true_and, allN_iff]
      constructor
      · intro h j h0 h1
        have h2 := h j h0 (by omega)
        rw [hE.tg j h0 (by omega)] at h2
        have h3 := tgt_b hW hq.2 hq.1 (k := j) ⟨h0, by omega⟩
        refine decide_eq_true ?_
        rcases hT (n + j) (by omega) (by omega) with z | z
        · rw [← z.2, ← h2]
        · omega
      · intro h j h0 h1
        have h2 := of_decide_eq_true (h j h0 (by omega))
        rw [hE.tg j h0 h1]
        have h3 := tgt_b hW hq.2 hq.1 (k := j) ⟨h0, h1⟩
        rcases hT (n + j) (by omega) (by omega) with z | z
        · rw [z.2, h2]
        · omega
    refine bi_zn (fun c2 => re_i ⟨(bi_t (e.mp c2)).symm, rfl⟩) (fun c2 => re_i ⟨(bi_f (fun z => c2 (e.mpr z))).symm, rfl⟩)
theorem frM_ops (hW : WF m) {x : Nd} (hx : fd tn x) (hne : ¬ x.1 = fullM m) {z : Int} (hz : z ≤ 1000000000) : z ≤ frM m tl tn x ↔ ∀ q ∈ ops m, apB q.1 x.2.1 ≤ m 7 → bAnd x.1 (msk m q.2 q.1) = 0 → spk m tl tn x.2.2 q = true → z ≤ stdM m (lastT tl x.2.2) q + m 6 * apB q.1 x.2.1 + frM m tl tn (fcS m x q) := by
  rw [frM_eq hW hx]
  unfold fcG
  rw [if_neg hne, fmin_iff]
  constructor
  · rintro ⟨-, h⟩ q hq c1 c2 c3
    have hm := ops_mem hq
    have := h q (List.mem_filter.mp hq).1 (by unfold fcB; rw [mayB_opt2 hm.2.2, decide_eq_true c1, decide_eq_true c2, c3]; rfl)
    rw [weigh_std hW hm.2.1] at this
    exact this
  · intro h
    refine ⟨hz, fun q hq hc => ?_⟩
    unfold fcB at hc
    rw [Bool.and_eq_true] at hc
    have hmb := mayB_s hc.1
    have hqo : q ∈ ops m := List.mem_filter.mpr ⟨hq, hmb.2.1⟩
    have := h q hqo hmb.1 hmb.2.2 hc.2
    rw [weigh_std hW (ops_mem hqo).2.1]
    exact this
theorem v_tellFrom {c1 n1 : Nat} {at_ F0 : Int} (hk : isK k) (hR : RK σ k m) (hO : OPT σ m k) (hW : WF m) (hc1 : aI c1 n1) (hn1 : n1 ≤ 2000) (hcc : c1 < 85 ∨ 87 < c1) (htn : 0 ≤ tn ∧ tn ≤ n1 ∧ tn ≤ 18) (hT : TLC σ m c1 tl tn) (hat : 0 ≤ at_ ∧ at_ < fullM m * 133) (hJ : TJ m tl tn (ia σ 87)) (hlt : ia σ 87 at_ < 1000000)
    (hI : ∀ z ≤ 1000000, z ≤ F0 ↔ ∀ x, at_ ≤ x → x < 8512 → ia σ 87 x < 1000000 → z ≤ ia σ 87 x + frM m tl tn (ndF x)) (hS : SR σ) (hd : 2 ≤ d) : Eb g ad d mX0_tellFrom 0 0 [.ref (ad 85), vi at_, .ref (ad c1), vi tn, vi (m 6), vi (m 7)] σ (Kv fun s => Fr CnC σ s ∧ TJ m tl tn (ia s 87) ∧ ∀ z ≤ 1000000, z ≤ F0 ↔ ∀ x, at_ + 1 ≤ x → x < 8512 → ia s 87 x < 1000000 → z ≤ ia s 87 x + frM m tl tn (ndF x)) := by
  have hf := fullM_b hW.1
  have h3 := hW.1.2.2.2.1
  have h6 := hW.1.2.2.2.2.2.2.1
  have h7 := hW.1.2.2.2.2.2.2.2.1
  have hm0 := hW.1.1
  have hlen := ops_len hW.1
  have hb := hJ.b at_ hat.1 (by omega) hlt
  have hav := hJ.a at_ hat.1 (by omega)
  have hpc := st_pc6 (a := at_ / 133) (by omega)
  have i1 : iR at_ := iR_of (by omega) (by omega)
  have i3 : iR tn := iR_of (by omega) (by omega)
  have i4 : iR (m 6) := iR_of (by omega) (by omega)
  have i5 : iR (m 7) := iR_of (by omega) (by omega)
  refine EbS rfl pl_X0 rfl rfl (bX0_tellFrom_0 hc1 i1 i3 i4 i5 hS ?_)
  rw [bRem_eq (a := at_) (by omega) (by omega), bDiv_eq (a := at_) (b := 19) (by omega) (by omega), bDiv_eq (a := at_) (b := 133) (by omega) (by omega), bRem_eq (a := at_ / 19) (by omega) (by omega)]
  refine EI.k (v_wordAhead (d := d - 1) hc1 ⟨by omega, by omega⟩ hn1 hT hb.1 hb.2.2.1 hS) (by omega) (fun i9 _ => ?_)
  have hlast : wx (if at_ % 19 = 0 then 40 else tl (at_ % 19 - 1)) = lastT tl (at_ % 19) ∧ (0 ≤ (if at_ % 19 = 0 then 40 else tl (at_ % 19 - 1)) ∧ (if at_ % 19 = 0 then 40 else tl (at_ % 19 - 1)) ≤ 40) := by
    unfold lastT
    by_cases c : at_ % 19 = 0
    · rw [if_pos c, if_pos c]; exact ⟨rfl, by omega⟩
    · rw [if_neg c, if_neg c]
      have := hb.2.2.1.resolve_left c
      exact ⟨wx_id this hm0.2, by omega⟩
  generalize (if at_ % 19 = 0 then 40 else tl (at_ % 19 - 1)) = lw at hlast i9
  intro _ _ _ _ i6 i7 i8 _ _ _
  have hfd : fd tn (ndF at_) := ⟨⟨by show 0 ≤ at_ / 133; omega, by show at_ / 133 ≤ 63; omega⟩, ⟨by show 0 ≤ at_ / 19 % 7; omega, by show at_ / 19 % 7 ≤ 6; omega⟩, ⟨by show 0 ≤ at_ % 19; omega, hb.1⟩⟩
  have hne : ¬ (ndF at_).1 = fullM m := by show ¬ at_ / 133 = fullM m; omega
  refine up_loop (P := fun j => ∀ τ : SG, SR τ → Fr CnC σ τ → TJ m tl tn (ia τ 87) → ia τ 87 at_ = ia σ 87 at_ → (∀ z ≤ 1000000, z ≤ F0 ↔ (∀ x, at_ + 1 ≤ x → x < 8512 → ia τ 87 x < 1000000 → z ≤ ia τ 87 x + frM m tl tn (ndF x)) ∧ ∀ q ∈ (ops m).drop j.toNat, apB q.1 (at_ / 19 % 7) ≤ m 7 → bAnd (at_ / 133) (msk m q.2 q.1) = 0 → spk m tl tn (at_ % 19) q = true → z ≤ ia σ 87 at_ + (stdM m (lastT tl (at_ % 19)) q + m 6 * apB q.1 (at_ / 19 % 7) + frM m tl tn (fcS m (ndF at_) q))) → aX0_tellFrom_33 g ad d (Kv fun s => Fr CnC σ s ∧ TJ m tl tn (ia s 87) ∧ ∀ z ≤ 1000000, z ≤ F0 ↔ ∀ x, at_ + 1 ≤ x → x < 8512 → ia s 87 x < 1000000 → z ≤ ia s 87 x + frM m tl tn (ndF x)) 0 0 τ at_ tn (m 6) (m 7) (at_ % 19) (at_ / 19 % 7) (at_ / 133) lw j c1) (hi := ((ops m).length : Int)) 0 (by omega) ?_ ?_ σ hS (Fr.refl σ) hJ rfl ?_
  · intro τ hSt hFr hJt hat' hv
    have hOt := hO.fr hFr (fun c hc => CnC_O c hc)
    refine bX0_tellFrom_33 hc1 i1 i3 i4 i5 i6 i7 i8 i9 (iR_of (by omega) (by omega)) hSt ⟨fun _ => re_v ⟨hFr, hJt, fun z hz => ?_⟩, fun z => absurd (by rw [hOt.l.1]; omega) z⟩
    rw [hv z hz, List.drop_of_length_le (by omega)]
    exact ⟨fun h => h.1, fun h => ⟨h, fun q hq => by cases hq⟩⟩
  · intro j hj0 hj1 ih τ hSt hFr hJt hat' hv
    have hOt := hO.fr hFr (fun c hc => CnC_O c hc)
    have hRt := hR.fr hFr (fun c hc z => by have := isK_b hk; unfold Kcl at hc; unfold CnC at z; omega)
    have hTt : TLC τ m c1 tl tn := by
      unfold TLC
      rw [hFr.ia c1 (fun z => by unfold CnC at z; omega)]
      exact hT
    obtain ⟨q, hget, hdr, hE, hq⟩ := hOt.at hj0 hj1
    have hqm : q ∈ ops m := List.mem_of_getElem? hget
    have hcv := cov_b hW.2.1 hq.2.1
    have hop := isOpt_b hq.2.2
    have hmk := full_msk hW hq
    have htg := tgN_b hW.2.1 hq.2.1
    have ij : iR (j + 1) := iR_of (by omega) (by omega)
    have ij0 : iR j := iR_of (by omega) (by omega)
    have hgap := apB_b (a := q.1) (b := at_ / 19 % 7) (by omega) (by omega)
    have ig : iR (apB q.1 (at_ / 19 % 7)) := iR_of (by omega) (by omega)
    rw [hdr] at hv
    -- not this one
    have skip : ¬ (apB q.1 (at_ / 19 % 7) ≤ m 7 ∧ bAnd (at_ / 133) (msk m q.2 q.1) = 0 ∧ spk m tl tn (at_ % 19) q = true) → aX0_tellFrom_185 g ad d (Kv fun s => Fr CnC σ s ∧ TJ m tl tn (ia s 87) ∧ ∀ z ≤ 1000000, z ≤ F0 ↔ ∀ x, at_ + 1 ≤ x → x < 8512 → ia s 87 x < 1000000 → z ≤ ia s 87 x + frM m tl tn (ndF x)) 0 0 τ at_ tn (m 6) (m 7) (at_ % 19) (at_ / 19 % 7) (at_ / 133) lw j (apB q.1 (at_ / 19 % 7)) c1 := by
      intro hno
      refine bX0_tellFrom_185 hc1 i1 i3 i4 i5 i6 i7 i8 i9 ij0 ig hSt ⟨ij, fun _ _ _ _ _ _ _ _ _ _ => ih τ hSt hFr hJt hat' (fun z hz => ?_)⟩
      rw [hv z hz]
      constructor
      · rintro ⟨y1, y2⟩
        exact ⟨y1, fun q' hq' => y2 q' (List.mem_cons_of_mem _ hq')⟩
      · rintro ⟨y1, y2⟩
        refine ⟨y1, fun q' hq' e1 e2 e3 => ?_⟩
        rcases List.mem_cons.mp hq' with rfl | hq''
        · exact absurd ⟨e1, e2, e3⟩ hno
        · exact y2 q' hq'' e1 e2 e3
    refine bX0_tellFrom_33 hc1 i1 i3 i4 i5 i6 i7 i8 i9 ij0 hSt ⟨fun z => absurd z (by rw [hOt.l.1]; omega), fun _ => ?_⟩
    refine EI.k (o_gap (d := d - 1) hE ⟨hj0, by omega⟩ (by omega) (by omega) hSt (by omega)) (by omega) (fun _ _ => ⟨⟨hj0, by omega⟩, ?_⟩)
    rw [hE.cv]
    refine ⟨fun c _ _ _ _ _ _ _ _ _ _ _ => skip (fun z => c z.2.1), fun c => ⟨fun c2 _ _ _ _ _ _ _ _ _ _ _ => skip (fun z => by omega), fun c2 => ?_⟩⟩
    refine EI.k (v_tells (d := d - 1) hW hc1 hn1 hE ⟨hj0, by omega⟩ ⟨hq.1, hq.2.1⟩ ⟨by omega, hb.1⟩ htn.2.1 hTt hSt (by omega)) (by omega) (fun _ _ => ?_)
    refine bi_zn (fun c3 => ?_) (fun c3 _ _ _ _ _ _ _ _ _ _ _ => skip (fun z => c3 z.2.2))
    rw [hE.cv, hE.en, hE.tn]
    have hspk : at_ % 19 + tgN m q.2 ≤ tn ∧ ∀ k, 0 ≤ k → k < tgN m q.2 → tl (at_ % 19 + k) = tgt m q.2 q.1 k := by
      have := c3
      unfold spk at this
      rw [Bool.and_eq_true, allN_iff] at this
      exact ⟨of_decide_eq_true this.1, fun k h0 h1 => of_decide_eq_true (this.2 k h0 (by omega))⟩
    have hor := st_or (a := at_ / 133) (b := msk m q.2 q.1) (by omega) (by omega)
    have hgt := or_gt (a := at_ / 133) (b := msk m q.2 q.1) (by omega) (by omega) c
    have hor2 := full_or hW.1 (a := at_ / 133) (b := msk m q.2 q.1) (by omega) (by omega)
    have hpc2 := st_pc (a := at_ / 133) (b := msk m q.2 q.1) (by omega) (by omega) c (by omega)
    have eto : ((bOr (at_ / 133) (msk m q.2 q.1) * 7 + (q.1 + cov m q.2)) * 19 + at_ % 19 + tgN m q.2) / 133 = bOr (at_ / 133) (msk m q.2 q.1) ∧ ((bOr (at_ / 133) (msk m q.2 q.1) * 7 + (q.1 + cov m q.2)) * 19 + at_ % 19 + tgN m q.2) / 19 % 7 = q.1 + cov m q.2 ∧ ((bOr (at_ / 133) (msk m q.2 q.1) * 7 + (q.1 + cov m q.2)) * 19 + at_ % 19 + tgN m q.2) % 19 = at_ % 19 + tgN m q.2 ∧ at_ + 1 ≤ (bOr (at_ / 133) (msk m q.2 q.1) * 7 + (q.1 + cov m q.2)) * 19 + at_ % 19 + tgN m q.2 ∧ (bOr (at_ / 133) (msk m q.2 q.1) * 7 + (q.1 + cov m q.2)) * 19 + at_ % 19 + tgN m q.2 < 8512 := by omega
    generalize (bOr (at_ / 133) (msk m q.2 q.1) * 7 + (q.1 + cov m q.2)) * 19 + at_ % 19 + tgN m q.2 = to_ at eto
    obtain ⟨t1, t2, t3, t4, t5⟩ := eto
    have endF : ndF to_ = fcS m (ndF at_) q := by
      unfold ndF fcS
      rw [t1, t2, t3]
    have hfdt : fd tn (ndF to_) := ⟨⟨by show 0 ≤ to_ / 133; omega, by show to_ / 133 ≤ 63; omega⟩, ⟨by show 0 ≤ to_ / 19 % 7; omega, by show to_ / 19 % 7 ≤ 6; omega⟩, ⟨by show 0 ≤ to_ % 19; omega, by show to_ % 19 ≤ tn; omega⟩⟩
    have hFt := frM_b (tl := tl) hW 8 (ndF to_) hfdt (by unfold mu; omega)
    have hta := hJt.a to_ (by omega) t5
    have hst := stdM_b hW (q := q) (last := lastT tl (at_ % 19)) hq.2.1
    have hmb := mul_b h6 hgap
    have hwl := weigh_c hW (place := at_ / 19 % 7) (last := lastT tl (at_ % 19)) hq.2.1 (by omega) hq.1
    rw [weigh_std hW hq.2.1] at hwl
    have hwl' : 0 ≤ stdM m (lastT tl (at_ % 19)) q + m 6 * apB q.1 (at_ / 19 % 7) ∧ stdM m (lastT tl (at_ % 19)) q + m 6 * apB q.1 (at_ / 19 % 7) ≤ 516 := hwl
    refine ⟨⟨by omega, t5⟩, ⟨by omega, by omega⟩, ?_⟩
    refine EI.k (o_standing (d := d - 1) hk hRt hW hOt.kn hE ⟨hj0, by omega⟩ ⟨hq.1, hq.2.1⟩ hlast.2 hSt (by omega)) (by omega) (fun _ _ => ?_)
    rw [hlast.1, hat']
    have ev : ia σ 87 at_ + stdM m (lastT tl (at_ % 19)) q + m 6 * apB q.1 (at_ / 19 % 7) = ia σ 87 at_ + (stdM m (lastT tl (at_ % 19)) q + m 6 * apB q.1 (at_ / 19 % 7)) := by omega
    rw [ev]
    have hpcn : pc (at_ / 133) + 1 ≤ pc (bOr (at_ / 133) (msk m q.2 q.1)) := hpc2.1
    refine EI.k (j_min (d := d - 1) (hSt.1 87 _) (iR_of (by omega) (by omega)) hSt) (by omega) (fun _ _ _ _ _ _ _ _ _ _ _ _ hS7 => ?_)
    have hmin : min (ia τ 87 to_) (ia σ 87 at_ + (stdM m (lastT tl (at_ % 19)) q + m 6 * apB q.1 (at_ / 19 % 7))) ≤ ia τ 87 to_ ∧ min (ia τ 87 to_) (ia σ 87 at_ + (stdM m (lastT tl (at_ % 19)) q + m 6 * apB q.1 (at_ / 19 % 7))) ≤ ia σ 87 at_ + (stdM m (lastT tl (at_ % 19)) q + m 6 * apB q.1 (at_ / 19 % 7)) ∧ 0 ≤ min (ia τ 87 to_) (ia σ 87 at_ + (stdM m (lastT tl (at_ % 19)) q + m 6 * apB q.1 (at_ / 19 % 7))) ∧ (∀ y, y ≤ ia τ 87 to_ → y ≤ ia σ 87 at_ + (stdM m (lastT tl (at_ % 19)) q + m 6 * apB q.1 (at_ / 19 % 7)) → y ≤ min (ia τ 87 to_) (ia σ 87 at_ + (stdM m (lastT tl (at_ % 19)) q + m 6 * apB q.1 (at_ / 19 % 7)))) := ⟨by omega, by omega, by omega, fun y _ _ => by omega⟩
    generalize min (ia τ 87 to_) (ia σ 87 at_ + (stdM m (lastT tl (at_ % 19)) q + m 6 * apB q.1 (at_ / 19 % 7))) = nv at hmin hS7
    obtain ⟨n1', n2', n3', n4'⟩ := hmin
    refine bX0_tellFrom_185 hc1 i1 i3 i4 i5 i6 i7 i8 i9 ij0 ig hS7 ⟨ij, fun _ _ _ _ _ _ _ _ _ _ => ih _ hS7 (hFr.I ⟨by omega, by omega⟩) ⟨fun x hx0 hx1 => ?_, fun x hx0 hx1 hxl => ?_⟩ ?_ (fun z hz => ?_)⟩
    · rw [ia_I, if_pos rfl]
      by_cases cx : x = to_
      · rw [cx, up_at]; omega
      · rw [up_ne cx]; exact hJt.a x hx0 hx1
    · rw [ia_I, if_pos rfl] at hxl ⊢
      by_cases cx : x = to_
      · subst cx
        rw [up_at] at hxl ⊢
        rw [t1, t3]
        refine ⟨hspk.1, hor2, ?_, by omega⟩
        by_cases ct : tgN m q.2 = 0
        · rw [ct, Int.add_zero]; exact hb.2.2.1
        · right
          rw [show at_ % 19 + tgN m q.2 - 1 = at_ % 19 + (tgN m q.2 - 1) by omega, hspk.2 _ (by omega) (by omega)]
          exact tgt_b hW hq.2.1 hq.1 ⟨by omega, by omega⟩
      · rw [up_ne cx] at hxl ⊢
        exact hJt.b x hx0 hx1 hxl
    · rw [ia_I, if_pos rfl, up_ne (by omega)]
      exact hat'
    · rw [hv z hz, ia_I, if_pos rfl]
      constructor
      · rintro ⟨y1, y2⟩
        refine ⟨fun x hx0 hx1 hxl => ?_, fun q' hq' => y2 q' (List.mem_cons_of_mem _ hq')⟩
        by_cases cx : x = to_
        · subst cx
          rw [up_at]
          have h1 := y2 q (List.mem_cons_self ..) (by omega) c c3
          rw [← endF] at h1
          have h2 : z ≤ ia τ 87 x + frM m tl tn (ndF x) := by
            by_cases cl : ia τ 87 x < 1000000
            · exact y1 x hx0 hx1 cl
            · omega
          have := n4' (z - frM m tl tn (ndF x)) (by omega) (by omega)
          omega
        · rw [up_ne cx] at hxl ⊢
          exact y1 x hx0 hx1 hxl
      · rintro ⟨y1, y2⟩
        have hto := y1 to_ t4 t5
        rw [up_at] at hto
        refine ⟨fun x hx0 hx1 hxl => ?_, fun q' hq' e1 e2 e3 => ?_⟩
        · by_cases cx : x = to_
          · subst cx
            have := hto (by omega)
            omega
          · have := y1 x hx0 hx1
            rw [up_ne cx] at this
            exact this hxl
        · rcases List.mem_cons.mp hq' with rfl | hq''
          · have := hto (by omega)
            rw [← endF]
            omega
          · exact y2 q' hq'' e1 e2 e3
  · intro z hz
    rw [hI z hz, show (0 : Int).toNat = 0 from rfl, List.drop_zero]
    have hops := frM_ops (tl := tl) hW hfd hne (z := z - ia σ 87 at_) (by omega)
    constructor
    · intro h
      refine ⟨fun x hx0 hx1 => h x (by omega) hx1, fun q hq e1 e2 e3 => ?_⟩
      have h1 := h at_ (Int.le_refl _) (by omega) hlt
      have := hops.mp (by omega) q hq e1 e2 e3
      have h2 : z - ia σ 87 at_ ≤ stdM m (lastT tl (at_ % 19)) q + m 6 * apB q.1 (at_ / 19 % 7) + frM m tl tn (fcS m (ndF at_) q) := this
      omega
    · rintro ⟨h1, h2⟩ x hx0 hx1 hxl
      by_cases cx : x = at_
      · subst cx
        have := hops.mpr (fun q hq e1 e2 e3 => by
          have := h2 q hq e1 e2 e3
          show z - ia σ 87 x ≤ stdM m (lastT tl (x % 19)) q + m 6 * apB q.1 (x / 19 % 7) + frM m tl tn (fcS m (ndF x) q)
          omega)
        omega
      · exact h1 x (by omega) hx1 hxl
theorem frM_fin (hW : WF m) : ∀ (n : Nat) (x : Nd), fd tn x → mu x < n → frM m tl tn x = 1000000000 ∨ frM m tl tn x ≤ 516 * n := by
  intro n
  induction n with
  | zero => intro x _ h; omega
  | succ n ih =>
    intro x hx hn
    rw [frM_eq hW hx]
    unfold fcG
    by_cases c : x.1 = fullM m
    · rw [if_pos c]
      by_cases c2 : x.2.2 = tn
      · rw [if_pos c2]
        have := aft_b hW.1 hW.2.2.1 (lastT tl x.2.2) (-1)
        right
        omega
      · rw [if_neg c2]; exact Or.inl rfl
    · rw [if_neg c]
      rcases fmin_is (c := fcB m tl tn x) (v := fun p : Op => (weigh m x.2.1 (lastT tl x.2.2) p.1 p.2).1 + frM m tl tn (fcS m x p)) (sr m 0) 1000000000 with e | ⟨p, hp, hc, e⟩
      · exact Or.inl e
      · have hs := fc_stp hW hx hp hc
        have hps := mem_sr.mp hp
        have hw := weigh_c hW (place := x.2.1) (last := lastT tl x.2.2) hps.2 hx.2.1 hps.1
        have hle := (fmin_le (c := fcB m tl tn x) (v := fun p : Op => (weigh m x.2.1 (lastT tl x.2.2) p.1 p.2).1 + frM m tl tn (fcS m x p)) (sr m 0) 1000000000).1
        rw [e] at hle ⊢
        have hle' : (weigh m x.2.1 (lastT tl x.2.2) p.1 p.2).1 + frM m tl tn (fcS m x p) ≤ 1000000000 := hle
        show (weigh m x.2.1 (lastT tl x.2.2) p.1 p.2).1 + frM m tl tn (fcS m x p) = 1000000000 ∨ (weigh m x.2.1 (lastT tl x.2.2) p.1 p.2).1 + frM m tl tn (fcS m x p) ≤ 516 * ((n + 1 : Nat) : Int)
        rcases ih (fcS m x p) hs.1 (by omega) with z | z
        · left; omega
        · right; omega
theorem v_cheapestTelling {c1 n1 : Nat} (hk : isK k) (hR : RK σ k m) (hO : OPT σ m k) (hW : WF m) (hc1 : aI c1 n1) (hn1 : n1 ≤ 2000) (hcc : c1 < 85 ∨ 87 < c1) (htn : 0 ≤ tn ∧ tn ≤ n1 ∧ tn ≤ 18) (hT : TLC σ m c1 tl tn) (hS : SR σ) (hd : 3 ≤ d) : Eb g ad d mX0_cheapestTelling 0 0 [.ref (ad 85), .ref (ad c1), vi tn, vi (m 6), vi (m 7)] σ (Ki fun r s => r = forcedV m tl tn ∧ Fr CnC σ s) := by
  have hf := fullM_b hW.1
  have h3 := hW.1.2.2.2.1
  have h6 := hW.1.2.2.2.2.2.2.1
  have h7 := hW.1.2.2.2.2.2.2.2.1
  have hm0 := hW.1.1
  have i2 : iR tn := iR_of (by omega) (by omega)
  have i3 : iR (m 6) := iR_of (by omega) (by omega)
  have i4 : iR (m 7) := iR_of (by omega) (by omega)
  have hfd0 : fd tn (0, 0, 0) := ⟨⟨Int.le_refl _, by decide⟩, ⟨Int.le_refl _, by decide⟩, ⟨Int.le_refl _, htn.1⟩⟩
  have hF0b := frM_b (tl := tl) hW 8 (0, 0, 0) hfd0 (by unfold mu; omega)
  have hF0f := frM_fin (tl := tl) hW 8 (0, 0, 0) hfd0 (by unfold mu; omega)
  have hFn : ∀ x, 0 ≤ x → x < 8512 → x % 19 ≤ tn → 0 ≤ frM m tl tn (ndF x) := fun x h0 h1 h2 => (frM_b (tl := tl) hW 8 (ndF x) ⟨⟨by show 0 ≤ x / 133; omega, by show x / 133 ≤ 63; omega⟩, ⟨by show 0 ≤ x / 19 % 7; omega, by show x / 19 % 7 ≤ 6; omega⟩, ⟨by show 0 ≤ x % 19; omega, h2⟩⟩ (by unfold mu; omega)).1
  refine EbS rfl pl_X0 rfl rfl (bX0_cheapestTelling_0 hc1 i2 i3 i4 hS ?_)
  refine EI.k (o_full (d := d - 1) hO hW hS) (by omega) (fun i5 _ => ?_)
  refine EV.k (j_fill (d := d - 1) aI_87 (iR_lit rfl) (by decide) hS) (by omega) (fun hS2 => ?_)
  intro _ _ _ _ _ hS3
  have hFr0 : Fr CnC σ (setI (setA σ 87 (fil (ia σ 87) 8512 1000000)) 87 0 0) := ((Fr.refl σ).A ⟨by omega, by omega⟩).I ⟨by omega, by omega⟩
  have e87 : ∀ x, 0 ≤ x → x < 8512 → ia (setI (setA σ 87 (fil (ia σ 87) 8512 1000000)) 87 0 0) 87 x = if x = 0 then 0 else 1000000 := fun x h0 h1 => by
    rw [ia_I, if_pos rfl, ia_A, if_pos rfl]
    by_cases cx : x = 0
    · rw [cx, up_at, if_pos rfl]
    · rw [up_ne cx, if_neg cx]
      exact if_pos ⟨h0, by omega⟩
  generalize setI (setA σ 87 (fil (ia σ 87) 8512 1000000)) 87 0 0 = s1 at hS3 hFr0 e87
  refine up_loop (P := fun a => ∀ τ : SG, SR τ → Fr CnC σ τ → TJ m tl tn (ia τ 87) → (∀ z ≤ 1000000, z ≤ frM m tl tn (0, 0, 0) ↔ ∀ x, a ≤ x → x < 8512 → ia τ 87 x < 1000000 → z ≤ ia τ 87 x + frM m tl tn (ndF x)) → aX0_cheapestTelling_28 g ad d (Ki fun r s => r = forcedV m tl tn ∧ Fr CnC σ s) 0 0 τ tn (m 6) (m 7) (fullM m) a c1) (hi := fullM m * 7 * 19) 0 (by omega) ?_ ?_ s1 hS3 hFr0 ⟨fun x h0 h1 => ?_, fun x h0 h1 hl => ?_⟩ (fun z hz => ?_)
  · intro τ hSt hFr hJ hv
    have hOt := hO.fr hFr (fun c hc => CnC_O c hc)
    have hRt := hR.fr hFr (fun c hc z => by have := isK_b hk; unfold Kcl at hc; unfold CnC at z; omega)
    have hTt : TLC τ m c1 tl tn := by
      unfold TLC
      rw [hFr.ia c1 (fun z => by unfold CnC at z; omega)]
      exact hT
    refine bX0_cheapestTelling_28 hc1 i2 i3 i4 i5 (iR_of (by omega) (by omega)) hSt ⟨iR_of (by omega) (by omega), fun _ _ _ _ _ _ _ _ => ?_, fun z => absurd (Int.le_refl _) z⟩
    -- the least of those that are whole
    refine up_loop (P := fun b => ∀ least : Int, (0 ≤ least ∧ least ≤ 1000000) → (∀ b', 0 ≤ b' → b' < b → least ≤ ia τ 87 ((fullM m * 7 + b') * 19 + tn)) → (least = 1000000 ∨ ∃ b', (0 ≤ b' ∧ b' < b) ∧ least = ia τ 87 ((fullM m * 7 + b') * 19 + tn)) → aX0_cheapestTelling_77 g ad d (Ki fun r s => r = forcedV m tl tn ∧ Fr CnC σ s) 0 0 τ tn (m 6) (m 7) (fullM m) least b c1) (hi := 7) 0 (by omega) ?_ ?_ 1000000 (by omega) (fun b' a b => by omega) (Or.inl rfl)
    · intro least hlb hle his
      have hwhole : ∀ x, fullM m * 7 * 19 ≤ x → x < 8512 → ia τ 87 x < 1000000 → x % 19 = tn → frM m tl tn (ndF x) = aft m (lastT tl tn) (-1) ∧ ∃ b', (0 ≤ b' ∧ b' < 7) ∧ x = (fullM m * 7 + b') * 19 + tn := fun x h0 h1 hl ht => by
        have hb := hJ.b x (by omega) h1 hl
        have e1 : x / 133 = fullM m := by omega
        refine ⟨?_, x / 19 % 7, by omega, by omega⟩
        rw [frM_eq hW ⟨⟨by show 0 ≤ x / 133; omega, by show x / 133 ≤ 63; omega⟩, ⟨by show 0 ≤ x / 19 % 7; omega, by show x / 19 % 7 ≤ 6; omega⟩, ⟨by show 0 ≤ x % 19; omega, by show x % 19 ≤ tn; omega⟩⟩]
        unfold fcG
        rw [if_pos (show (ndF x).1 = fullM m from e1), if_pos (show (ndF x).2.2 = tn from ht)]
        show aft m (lastT tl (x % 19)) (-1) = _
        rw [ht]
      have hpart : ∀ x, fullM m * 7 * 19 ≤ x → x < 8512 → ia τ 87 x < 1000000 → ¬ x % 19 = tn → frM m tl tn (ndF x) = 1000000000 := fun x h0 h1 hl ht => by
        have hb := hJ.b x (by omega) h1 hl
        have e1 : x / 133 = fullM m := by omega
        rw [frM_eq hW ⟨⟨by show 0 ≤ x / 133; omega, by show x / 133 ≤ 63; omega⟩, ⟨by show 0 ≤ x / 19 % 7; omega, by show x / 19 % 7 ≤ 6; omega⟩, ⟨by show 0 ≤ x % 19; omega, by show x % 19 ≤ tn; omega⟩⟩]
        unfold fcG
        rw [if_pos (show (ndF x).1 = fullM m from e1), if_neg (show ¬ (ndF x).2.2 = tn from ht)]
      have hA := aft_b hW.1 hW.2.2.1 (lastT tl tn) (-1)
      refine bX0_cheapestTelling_77 hc1 i2 i3 i4 i5 (iR_of (by omega) (by omega)) (iR_lit rfl) hSt ⟨fun _ => ⟨fun c => ?_, fun c => re_i ⟨?_, hFr⟩⟩, fun z => absurd (Int.le_refl _) z⟩
      · rcases his with z | ⟨b', hb', z⟩
        · exact absurd z c
        have hx1 : (fullM m * 7 + b') * 19 + tn < 8512 := by omega
        have hbx := hJ.b _ (by omega) hx1 (by omega)
        have ex : ((fullM m * 7 + b') * 19 + tn) % 19 = tn ∧ ((fullM m * 7 + b') * 19 + tn) / 133 = fullM m := by omega
        rw [ex.1, ex.2] at hbx
        have hpc := st_pc6 hf
        refine EI.k (v_wordAhead (d := d - 1) hc1 ⟨htn.1, htn.2.1⟩ hn1 hTt (Int.le_refl _) hbx.2.2.1 hSt) (by omega) (fun _ _ => ?_)
        have hlast : wx (if tn = 0 then 40 else tl (tn - 1)) = lastT tl tn ∧ (0 ≤ (if tn = 0 then 40 else tl (tn - 1)) ∧ (if tn = 0 then 40 else tl (tn - 1)) ≤ 40) := by
          unfold lastT
          by_cases c : tn = 0
          · rw [if_pos c, if_pos c]; exact ⟨rfl, by omega⟩
          · rw [if_neg c, if_neg c]
            have := hbx.2.2.1.resolve_left c
            exact ⟨wx_id this hm0.2, by omega⟩
        refine EI.k (o_ending (d := d - 1) hk hRt hW hOt.kn hlast.2 hSt (by omega)) (by omega) (fun _ _ => ?_)
        rw [hlast.1]
        refine ⟨iR_of (by omega) (by omega), re_i ⟨?_, hFr⟩⟩
        have h1 := (hv (least + aft m (lastT tl tn) (-1)) (by omega)).mpr (fun x h0 h1 hl => by
          by_cases ct : x % 19 = tn
          · obtain ⟨e1, b2, hb2, e2⟩ := hwhole x h0 h1 hl ct
            have := hle b2 hb2.1 hb2.2
            rw [← e2] at this
            rw [e1]
            omega
          · rw [hpart x h0 h1 hl ct]
            have := (hJ.a x (by omega) h1).1
            omega)
        have h2 : frM m tl tn (0, 0, 0) ≤ least + aft m (lastT tl tn) (-1) := by
          rcases Classical.em (frM m tl tn (0, 0, 0) ≤ least + aft m (lastT tl tn) (-1)) with y | y
          · exact y
          · exfalso
            have h4 := (hv (least + aft m (lastT tl tn) (-1) + 1) (by omega)).mp (by omega) _ (show fullM m * 7 * 19 ≤ (fullM m * 7 + b') * 19 + tn by omega) hx1 (by omega)
            rw [(hwhole _ (by omega) hx1 (by omega) ex.1).1] at h4
            omega
        unfold forcedV
        rw [if_neg (by omega)]
        omega
      · have h1 := (hv 1000000 (Int.le_refl _)).mpr (fun x h0 h1 hl => by
          by_cases ct : x % 19 = tn
          · obtain ⟨e1, b2, hb2, e2⟩ := hwhole x h0 h1 hl ct
            have := hle b2 hb2.1 hb2.2
            rw [← e2] at this
            omega
          · rw [hpart x h0 h1 hl ct]
            have := (hJ.a x (by omega) h1).1
            omega)
        unfold forcedV
        rw [if_pos (by omega)]
    · intro b hb0 hb1 ih least hlb hle his
      have ha := hJ.a ((fullM m * 7 + b) * 19 + tn) (by omega) (by omega)
      refine bX0_cheapestTelling_77 hc1 i2 i3 i4 i5 (iR_of (by omega) (by omega)) (iR_of (by omega) (by omega)) hSt ⟨fun z => absurd z (by omega), fun _ => ⟨⟨by omega, by omega⟩, ?_⟩⟩
      refine EI.k (j_min (d := d - 1) (iR_of (by omega) (by omega)) (iR_of (by omega) (by omega)) hSt) (by omega) (fun _ _ => ⟨iR_of (by omega) (by omega), fun _ _ _ _ _ _ _ => ih _ (by omega) (fun b' h0 h1 => ?_) ?_⟩)
      · by_cases cb : b' = b
        · rw [cb]; omega
        · have := hle b' h0 (by omega); omega
      · by_cases cm : ia τ 87 ((fullM m * 7 + b) * 19 + tn) ≤ least
        · exact Or.inr ⟨b, ⟨hb0, by omega⟩, by omega⟩
        · rcases his with y | ⟨b', hb', y⟩
          · left; omega
          · exact Or.inr ⟨b', ⟨hb'.1, by omega⟩, by omega⟩
  · intro a ha0 ha1 ih τ hSt hFr hJ hv
    have hOt := hO.fr hFr (fun c hc => CnC_O c hc)
    have hRt := hR.fr hFr (fun c hc z => by have := isK_b hk; unfold Kcl at hc; unfold CnC at z; omega)
    have hTt : TLC τ m c1 tl tn := by
      unfold TLC
      rw [hFr.ia c1 (fun z => by unfold CnC at z; omega)]
      exact hT
    refine bX0_cheapestTelling_28 hc1 i2 i3 i4 i5 (iR_of (by omega) (by omega)) hSt ⟨iR_of (by omega) (by omega), fun z => absurd z (by omega), fun _ => ⟨⟨ha0, by omega⟩, fun c => ⟨iR_of (by omega) (by omega), fun _ _ _ _ _ _ => ih τ hSt hFr hJ (fun z hz => ?_)⟩, fun c => ?_⟩⟩
    · rw [hv z hz]
      constructor
      · intro h x h0 h1 hl
        exact h x (by omega) h1 hl
      · intro h x h0 h1 hl
        by_cases cx : x = a
        · rw [cx] at hl; omega
        · exact h x (by omega) h1 hl
    · refine Cl.vo (v_tellFrom (d := d - 1) hk hRt hOt hW hc1 hn1 hcc htn hTt ⟨ha0, by omega⟩ hJ (by omega) hv hSt (by omega)) (by omega) (fun s4 hS4 h4 => ⟨iR_of (by omega) (by omega), fun _ _ _ _ _ _ => ih s4 hS4 (hFr.trans h4.1) h4.2.1 h4.2.2⟩)
  · rw [e87 x h0 h1]
    split <;> omega
  · rw [e87 x h0 h1] at hl
    by_cases cx : x = 0
    · subst cx
      rw [e87 0 (by omega) (by omega), if_pos rfl]
      exact ⟨htn.1, by show (0 : Int) / 133 ≤ fullM m; omega, Or.inl rfl, by omega⟩
    · rw [if_neg cx] at hl
      omega
  · constructor
    · intro h x h0 h1 hl
      by_cases cx : x = 0
      · subst cx
        rw [e87 0 (by omega) (by omega), if_pos rfl, Int.zero_add]
        exact h
      · rw [e87 x h0 h1, if_neg cx] at hl
        omega
    · intro h
      have := h 0 (Int.le_refl _) (by omega) (by rw [e87 0 (by omega) (by omega), if_pos rfl]; omega)
      rw [e87 0 (by omega) (by omega), if_pos rfl, Int.zero_add] at this
      exact this
end TEL

def RST (s : SG) (m' : Int → Int) : Prop := ∀ i, 0 ≤ i → i < kN s → ia s 61 i = rsM m' (ndC (ia s 60 i))
section RE2
variable {g : AG} {ad : Nat → Nat} {d : Nat} {σ : SG} {m m' t : Int → Int} {k : Nat} {W : Int}
theorem KNT.eq {s : SG} (h : KNT σ m) (e59 : ia s 59 = ia σ 59) (e60 : ia s 60 = ia σ 60) (e62 : ia s 62 = ia σ 62) (e5 : sc s 58 5 = sc σ 58 5) : KNT s m := by
  refine ⟨?_, ?_, ?_, ?_, ?_, ?_, ?_⟩ <;> simp only [kN, kM, e59, e60, e62, e5]
  · exact h.nb
  · exact h.c0
  · exact h.vd
  · exact h.se
  · exact h.cl
  · exact h.mo
  · exact h.fi
theorem KNT.fr {C : Nat → Prop} {s : SG} (h : KNT σ m) (hF : Fr C σ s) (hC : ∀ c, C c → ¬ Kno c) : KNT s m := h.eq (hF.ia 59 (fun z => hC 59 z ⟨by omega, by omega⟩)) (hF.ia 60 (fun z => hC 60 z ⟨by omega, by omega⟩)) (hF.ia 62 (fun z => hC 62 z ⟨by omega, by omega⟩)) (hF.sc 58 5 (fun z => hC 58 z ⟨by omega, by omega⟩))
theorem RST.fr {C : Nat → Prop} {s : SG} (h : RST σ m) (hF : Fr C σ s) (hC : ∀ c, C c → ¬ Kno c) : RST s m := by
  intro i a b
  rw [hF.ia 61 (fun z => hC 61 z ⟨by omega, by omega⟩), hF.ia 60 (fun z => hC 60 z ⟨by omega, by omega⟩)]
  refine h i a ?_
  have e : sc s 58 5 = sc σ 58 5 := hF.sc 58 5 (fun z => hC 58 z ⟨by omega, by omega⟩)
  show i < sc σ 58 5
  rw [← e]
  exact b
/-- knots, and how they are reckoned -/
def KRk (s : SG) (m m' : Int → Int) (k : Nat) (W : Int) : Prop := (RK s k m) ∧ (OPT s m k) ∧ (KNT s m) ∧ (sc s 58 6 = m' 6) ∧ (sc s 58 7 = m' 7) ∧ (sc s 58 8 = W)
theorem KRk.rk {s : SG} {m m' : Int → Int} {k : Nat} {W : Int} (h_ : KRk s m m' k W) : RK s k m := h_.1
theorem KRk.op {s : SG} {m m' : Int → Int} {k : Nat} {W : Int} (h_ : KRk s m m' k W) : OPT s m k := h_.2.1
theorem KRk.kn {s : SG} {m m' : Int → Int} {k : Nat} {W : Int} (h_ : KRk s m m' k W) : KNT s m := h_.2.2.1
theorem KRk.j6 {s : SG} {m m' : Int → Int} {k : Nat} {W : Int} (h_ : KRk s m m' k W) : sc s 58 6 = m' 6 := h_.2.2.2.1
theorem KRk.j7 {s : SG} {m m' : Int → Int} {k : Nat} {W : Int} (h_ : KRk s m m' k W) : sc s 58 7 = m' 7 := h_.2.2.2.2.1
theorem KRk.j8 {s : SG} {m m' : Int → Int} {k : Nat} {W : Int} (h_ : KRk s m m' k W) : sc s 58 8 = W := h_.2.2.2.2.2
theorem ndC_nd (hW : WF m) {c : Int} (hv : vC m c) : nd m (ndC c) := by
  have hb := vC_b hW.1 hv
  have hm0 := hW.1.1
  refine ⟨hb.2.1, hb.2.2.1, ?_⟩
  show -1 ≤ wx (c % 41) ∧ wx (c % 41) < m 0
  unfold wx
  split <;> omega
/-- where a step leads -/
theorem KNT.step (h : KNT σ m) (hW : WF m) {i : Int} (hi : 0 ≤ i ∧ i < kN σ) {q : Op} (hq : q ∈ ops m) (hz : bAnd (ia σ 60 i / 287) (msk m q.2 q.1) = 0) : (i < ia σ 59 (cdB m (ia σ 60 i / 287) (ia σ 60 i % 41) q) - 1 ∧ ia σ 59 (cdB m (ia σ 60 i / 287) (ia σ 60 i % 41) q) - 1 < kN σ) ∧ ndC (ia σ 60 (ia σ 59 (cdB m (ia σ 60 i / 287) (ia σ 60 i % 41) q) - 1)) = stp m (ndC (ia σ 60 i)) q := by
  have hv := (h.vd i hi.1 hi.2).1
  have hvb := vC_b hW.1 hv
  have hcd := cdB_s hW hvb.1 hvb.2.2.2 (ops_mem hq)
  have h1 := h.cl i hi.1 hi.2 q hq hz
  have hr := hcd.2.2.2.1.1
  have h1' : i + 1 < ia σ 59 (cdB m (ia σ 60 i / 287) (ia σ 60 i % 41) q) := h1
  rcases h.se _ hr.1 hr.2 with z | ⟨z1, z2, z3⟩
  · omega
  · refine ⟨⟨by omega, by omega⟩, ?_⟩
    rw [z3, ndC_B hW hv (ops_mem hq)]
theorem n_leastRest {i : Int} (hk : isK k) (hV : VA m m' W) (hW : WF m) (hK : KRk σ m m' k W) (hi : 0 ≤ i ∧ i < kN σ) (hne : ¬ ia σ 60 i / 287 = fullM m) (hr : ∀ j, i < j → j < kN σ → ia σ 61 j = rsM m' (ndC (ia σ 60 j))) (hS : SR σ) (hd : 3 ≤ d) : EI g ad d mX1_leastRest [.ref (ad 58), vi i] σ (rsM m' (ndC (ia σ 60 i))) σ := by
  have hnb := hK.kn.nb
  have hv := (hK.kn.vd i hi.1 hi.2).1
  have hvb := vC_b hW.1 hv
  have hlen := ops_len hW.1
  have h3 := hW.1.2.2.2.1
  have hm0 := hW.1.1
  have hf := fullM_b hW.1
  have h6 := hV.wf.1.2.2.2.2.2.2.1
  have ii : iR i := iR_of (by omega) (by omega)
  refine EbS rfl pl_X1 rfl rfl (bX1_leastRest_0 ii hS ?_)
  refine EI.k (n_mask (d := d - 1) ⟨hi.1, by omega⟩ hv.1 hS) (by omega) (fun i2 _ => ?_)
  refine EI.k (n_behind (d := d - 1) ⟨hi.1, by omega⟩ hv.1 hS) (by omega) (fun i3 _ => ?_)
  refine EI.k (n_last (d := d - 1) ⟨hi.1, by omega⟩ hv.1 hS) (by omega) (fun i4 _ => ?_)
  intro _ _ _ _ _ _ _
  have hx : ∀ b : Int, (ops m').foldl (fun b q => if (decide (apB q.1 (ndC (ia σ 60 i)).2.1 ≤ m' 7) && decide (bAnd (ndC (ia σ 60 i)).1 (msk m' q.2 q.1) = 0)) = true then min b (wgt m' (ndC (ia σ 60 i)) q + rsM m' (stp m' (ndC (ia σ 60 i)) q)) else b) b = (ops m).foldl (fun b q => if decide (¬ q.2 = W) = true then (if (decide (apB q.1 (ndC (ia σ 60 i)).2.1 ≤ m' 7) && decide (bAnd (ndC (ia σ 60 i)).1 (msk m' q.2 q.1) = 0)) = true then min b (wgt m' (ndC (ia σ 60 i)) q + rsM m' (stp m' (ndC (ia σ 60 i)) q)) else b) else b) b := fun b => by
    rw [va_ops hV, fold_filter]
  have hval : rsM m' (ndC (ia σ 60 i)) = (ops m).foldl (fun b q => if decide (¬ q.2 = W) = true then (if (decide (apB q.1 (ndC (ia σ 60 i)).2.1 ≤ m' 7) && decide (bAnd (ndC (ia σ 60 i)).1 (msk m' q.2 q.1) = 0)) = true then min b (wgt m' (ndC (ia σ 60 i)) q + rsM m' (stp m' (ndC (ia σ 60 i)) q)) else b) else b) 1000000 := by
    rw [rsM_eq hV.wf hvb.2.1, if_neg (by rw [va_full hV]; exact hne), hx]
  rw [hval]
  generalize hF : (fun (b : Int) (q : Op) => if decide (¬ q.2 = W) = true then (if (decide (apB q.1 (ndC (ia σ 60 i)).2.1 ≤ m' 7) && decide (bAnd (ndC (ia σ 60 i)).1 (msk m' q.2 q.1) = 0)) = true then min b (wgt m' (ndC (ia σ 60 i)) q + rsM m' (stp m' (ndC (ia σ 60 i)) q)) else b) else b) = F
  refine up_loop (P := fun j => ∀ b : Int, (0 ≤ b ∧ b ≤ 1000000) → ((ops m).drop j.toNat).foldl F b = (ops m).foldl F 1000000 → aX1_leastRest_26 g ad d (Ki fun r s => r = (ops m).foldl F 1000000 ∧ s = σ) 0 0 σ i (ia σ 60 i / 287) (ia σ 60 i / 41 % 7) (ia σ 60 i % 41) b j) (hi := ((ops m).length : Int)) 0 (by omega) ?_ ?_ 1000000 (by omega) (by rw [show (0 : Int).toNat = 0 from rfl, List.drop_zero])
  · intro b hb hv2
    rw [List.drop_of_length_le (by omega)] at hv2
    exact bX1_leastRest_26 ii i2 i3 i4 (iR_of (by omega) (by omega)) (iR_of (by omega) (by omega)) hS ⟨fun _ => re_i ⟨hv2, rfl⟩, fun z => absurd (by rw [hK.op.l.1]; omega) z⟩
  · intro j hj0 hj1 ih b hb hv2
    obtain ⟨q, hget, hdr, hE, hq⟩ := hK.op.at hj0 hj1
    have hqm : q ∈ ops m := List.mem_of_getElem? hget
    rw [hdr, List.foldl_cons] at hv2
    have ib : iR b := iR_of (by omega) (by omega)
    have ij : iR (j + 1) := iR_of (by omega) (by omega)
    have hvs := va_stp hV hW (x := ndC (ia σ 60 i)) hq.2.1 hq.1.1
    have emk := va_msk hV (s := q.1) hq.2.1
    have hFq : ∀ b', F b' q = if decide (¬ q.2 = W) = true then (if (decide (apB q.1 (ia σ 60 i / 41 % 7) ≤ m' 7) && decide (bAnd (ia σ 60 i / 287) (msk m q.2 q.1) = 0)) = true then min b' (wgt m' (ndC (ia σ 60 i)) q + rsM m' (stp m' (ndC (ia σ 60 i)) q)) else b') else b' := fun b' => by
      rw [← hF]
      show (if decide (¬ q.2 = W) = true then (if (decide (apB q.1 (ndC (ia σ 60 i)).2.1 ≤ m' 7) && decide (bAnd (ndC (ia σ 60 i)).1 (msk m' q.2 q.1) = 0)) = true then min b' (wgt m' (ndC (ia σ 60 i)) q + rsM m' (stp m' (ndC (ia σ 60 i)) q)) else b') else b') = _
      rw [emk]
      rfl
    rw [hFq] at hv2
    refine bX1_leastRest_26 ii i2 i3 i4 ib (iR_of (by omega) (by omega)) hS ⟨fun z => absurd z (by rw [hK.op.l.1]; omega), fun _ => ⟨⟨hj0, by omega⟩, ?_⟩⟩
    rw [hE.cv, hE.nu, hK.j8]
    refine ⟨fun c1 => ⟨ij, fun _ _ _ _ _ _ _ => ih b hb ?_⟩, fun c1 => ⟨fun c2 => ?_, fun c2 => ⟨ij, fun _ _ _ _ _ _ _ => ih b hb ?_⟩⟩⟩
    · rw [decide_eq_false c1, Bool.and_false] at hv2
      by_cases c3 : q.2 = W
      · rw [if_neg (by rw [decide_eq_true_eq]; exact fun z => z c3)] at hv2
        exact hv2
      · rw [if_pos (decide_eq_true c3), if_neg (by decide)] at hv2
        exact hv2
    rotate_left
    · rw [if_neg (by rw [decide_eq_true_eq]; exact fun z => z c2)] at hv2
      exact hv2
    rw [if_pos (decide_eq_true c2), decide_eq_true c1, Bool.and_true] at hv2
    have hgap := apB_b (a := q.1) (b := ia σ 60 i / 41 % 7) (by omega) hvb.2.2.1
    refine EI.k (o_gap (d := d - 1) hE ⟨hj0, by omega⟩ (by omega) hvb.2.2.1 hS (by omega)) (by omega) (fun _ _ => ?_)
    have hst := hK.kn.step hW hi hqm c1
    refine EI.k (n_follow (d := d - 1) hW hE ⟨hj0, by omega⟩ hq hvb.1 hvb.2.2.2 (by omega) hS (by omega)) (by omega) (fun _ _ => ?_)
    rw [hK.j7]
    refine ⟨fun c3 => ⟨ij, fun _ _ _ _ _ _ _ => ih b hb ?_⟩, fun c3 => ⟨fun c4 => absurd c4 (by omega), fun _ => ⟨⟨by omega, by omega⟩, ?_⟩⟩⟩
    · rw [decide_eq_false (by omega), if_neg (by decide)] at hv2
      exact hv2
    rw [if_pos (by rw [decide_eq_true_eq]; omega)] at hv2
    refine EI.k (o_standing (d := d - 1) hk hK.rk hW hK.op.kn hE ⟨hj0, by omega⟩ ⟨hq.1, hq.2.1⟩ (by omega) hS (by omega)) (by omega) (fun _ _ => ?_)
    rw [hK.j6, hr _ hst.1.1 hst.1.2, hst.2]
    have hsb := stdM_b hW (q := q) (last := wx (ia σ 60 i % 41)) hq.2.1
    have hmb := mul_b h6 hgap
    have hnd := ndC_nd hW hv
    have hrs : 0 ≤ rsM m' (stp m (ndC (ia σ 60 i)) q) ∧ rsM m' (stp m (ndC (ia σ 60 i)) q) ≤ 1000000 := by
      rw [← hst.2]
      have hv' := (hK.kn.vd _ (show 0 ≤ ia σ 59 (cdB m (ia σ 60 i / 287) (ia σ 60 i % 41) q) - 1 by omega) hst.1.2).1
      have hnd' := ndC_nd hW hv'
      exact rsM_b hV.wf hnd'.2.1 (by rw [(va_3 hV).1]; exact hnd'.2.2)
    rw [hvs.1, hvs.2] at hv2
    have ev : rsM m' (stp m (ndC (ia σ 60 i)) q) + stdM m (wx (ia σ 60 i % 41)) q + m' 6 * apB q.1 (ia σ 60 i / 41 % 7) = stdM m (ndC (ia σ 60 i)).2.2 q + m' 6 * apB q.1 (ndC (ia σ 60 i)).2.1 + rsM m' (stp m (ndC (ia σ 60 i)) q) := by
      show _ = stdM m (wx (ia σ 60 i % 41)) q + m' 6 * apB q.1 (ia σ 60 i / 41 % 7) + rsM m' (stp m (ndC (ia σ 60 i)) q)
      omega
    refine EI.k (j_min (d := d - 1) ib (iR_of (by omega) (by omega)) hS) (by omega) (fun _ _ => ⟨ij, fun _ _ _ _ _ _ _ => ih _ (by omega) ?_⟩)
    rw [ev]
    exact hv2
theorem n_reckon (hk : isK k) (hV : VA m m' W) (hW : WF m) (hR : RK σ k m) (hO : OPT σ m k) (hN : KNT σ m) (hw : iR W) (hS : SR σ) (hd : 4 ≤ d) : Eb g ad d mX1_reckon 0 0 [.ref (ad 58), vi (m' 6), vi (m' 7), vi W] σ (Kv fun s => KRk s m m' k W ∧ RST s m' ∧ Fr Kno σ s) := by
  have h6 := hV.wf.1.2.2.2.2.2.2.1
  have h7 := hV.wf.1.2.2.2.2.2.2.2.1
  have h3 := hW.1.2.2.2.1
  have i6 : iR (m' 6) := iR_of (by omega) (by omega)
  have i7 : iR (m' 7) := iR_of (by omega) (by omega)
  have hnb := hN.nb
  refine EbS rfl pl_X1 rfl rfl (bX1_reckon_0 i6 i7 hw hS ?_)
  simp (config := {decide := true}) only [sc_S, ia_S, la_S, rv_S, sc_I, rv_I, la_I, ia_I, sc_L, rv_L, ia_L, la_L, sc_A, rv_A, la_A, ia_A, sc_B, rv_B, ia_B, la_B, sc_R, ia_R, la_R, rv_R, ia_w, la_w, rv_w, sc_w, if_true, if_false]
  rw [hO.pl]
  have hnb' : 1 ≤ sc σ 58 5 ∧ sc σ 58 5 ≤ 7913 := hnb
  refine ⟨⟨by omega, by omega⟩, iR_of (by omega) (by omega), fun _ _ _ _ _ hS1 => ?_⟩
  have hF1 : Fr Kno σ (setS (setS (setS σ 58 6 (m' 6)) 58 7 (m' 7)) 58 8 W) := (((Fr.refl σ).S ⟨by omega, by omega⟩).S ⟨by omega, by omega⟩).S ⟨by omega, by omega⟩
  have e5 : sc (setS (setS (setS σ 58 6 (m' 6)) 58 7 (m' 7)) 58 8 W) 58 5 = sc σ 58 5 := by simp (config := {decide := true}) only [sc_S, ia_S, la_S, rv_S, sc_I, rv_I, la_I, ia_I, sc_L, rv_L, ia_L, la_L, sc_A, rv_A, la_A, ia_A, sc_B, rv_B, ia_B, la_B, sc_R, ia_R, la_R, rv_R, ia_w, la_w, rv_w, sc_w, if_true, if_false]
  have hK1 : KRk (setS (setS (setS σ 58 6 (m' 6)) 58 7 (m' 7)) 58 8 W) m m' k W := ⟨hR.fr hF1 (fun c hc => Kno_K hk c hc), hO.fr hF1 (fun c hc => Kno_O c hc), hN.eq rfl rfl rfl e5, by simp (config := {decide := true}) only [sc_S, ia_S, la_S, rv_S, sc_I, rv_I, la_I, ia_I, sc_L, rv_L, ia_L, la_L, sc_A, rv_A, la_A, ia_A, sc_B, rv_B, ia_B, la_B, sc_R, ia_R, la_R, rv_R, ia_w, la_w, rv_w, sc_w, if_true, if_false], by simp (config := {decide := true}) only [sc_S, ia_S, la_S, rv_S, sc_I, rv_I, la_I, ia_I, sc_L, rv_L, ia_L, la_L, sc_A, rv_A, la_A, ia_A, sc_B, rv_B, ia_B, la_B, sc_R, ia_R, la_R, rv_R, ia_w, la_w, rv_w, sc_w, if_true, if_false], by simp (config := {decide := true}) only [sc_S, ia_S, la_S, rv_S, sc_I, rv_I, la_I, ia_I, sc_L, rv_L, ia_L, la_L, sc_A, rv_A, la_A, ia_A, sc_B, rv_B, ia_B, la_B, sc_R, ia_R, la_R, rv_R, ia_w, la_w, rv_w, sc_w, if_true, if_false]⟩
  have hfi := hK1.kn.fi (m 3) h3.1 (by omega)
  have e62 : ia (setS (setS (setS σ 58 6 (m' 6)) 58 7 (m' 7)) 58 8 W) 62 = ia σ 62 := rfl
  rw [e62] at hfi
  rw [← e5]
  have ewh : ∀ τ : SG, True := fun _ => trivial
  generalize setS (setS (setS σ 58 6 (m' 6)) 58 7 (m' 7)) 58 8 W = s1 at hS1 hF1 e5 hK1 hfi
  have iwh : iR (ia σ 62 (m 3)) := hS.1 62 _
  have key : ∀ (n : Nat) (τ : SG), (n : Int) ≤ kN s1 → SR τ → Fr (fun c => c = 61) s1 τ → sc τ = sc s1 → (∀ i, (n : Int) ≤ i → i < kN s1 → ia τ 61 i = rsM m' (ndC (ia s1 60 i))) → aX1_reckon_37 g ad d (Kv fun s => KRk s m m' k W ∧ RST s m' ∧ Fr Kno σ s) 0 0 τ (m' 6) (m' 7) W (ia σ 62 (m 3)) ((n : Int) - 1) := by
    intro n
    induction n with
    | zero =>
      intro τ hn hSt hF hsc hr
      have e60 : ia τ 60 = ia s1 60 := hF.ia 60 (by omega)
      have hF' : Fr Kno s1 τ := hF.mono (fun c hc => by rw [hc]; exact ⟨by omega, by omega⟩)
      refine bX1_reckon_37 i6 i7 hw iwh (iR_lit rfl) hSt ⟨fun _ => re_v ⟨⟨hK1.rk.fr hF' (fun c hc => Kno_K hk c hc), hK1.op.fr hF' (fun c hc => Kno_O c hc), hK1.kn.eq (hF.ia 59 (by omega)) e60 (hF.ia 62 (by omega)) (by rw [hsc]), by rw [hsc]; exact hK1.j6, by rw [hsc]; exact hK1.j7, by rw [hsc]; exact hK1.j8⟩, fun i a b => ?_, hF1.trans hF'⟩, fun z => absurd (by decide) z⟩
      rw [e60]
      refine hr i (by omega) ?_
      show i < sc s1 58 5
      rw [← hsc]
      exact b
    | succ n ih =>
      intro τ hn hSt hF hsc hr
      have e60 : ia τ 60 = ia s1 60 := hF.ia 60 (by omega)
      have hF' : Fr Kno s1 τ := hF.mono (fun c hc => by rw [hc]; exact ⟨by omega, by omega⟩)
      have hKt : KRk τ m m' k W := ⟨hK1.rk.fr hF' (fun c hc => Kno_K hk c hc), hK1.op.fr hF' (fun c hc => Kno_O c hc), hK1.kn.eq (hF.ia 59 (by omega)) e60 (hF.ia 62 (by omega)) (by rw [hsc]), by rw [hsc]; exact hK1.j6, by rw [hsc]; exact hK1.j7, by rw [hsc]; exact hK1.j8⟩
      have eN : kN τ = kN s1 := by show sc τ 58 5 = sc s1 58 5; rw [hsc]
      have hnb1 := hK1.kn.nb
      have hv := (hKt.kn.vd n (by omega) (by rw [eN]; omega)).1
      have hvb := vC_b hW.1 hv
      rw [show ((n + 1 : Nat) : Int) - 1 = (n : Int) by omega]
      have inn : iR (n : Int) := iR_of (by omega) (by omega)
      have i1 : iR ((n : Int) + (-1)) := iR_of (by omega) (by omega)
      -- a knot done
      have next : ∀ v, v = rsM m' (ndC (ia s1 60 n)) → SR (setI τ 61 n v) → aX1_reckon_37 g ad d (Kv fun s => KRk s m m' k W ∧ RST s m' ∧ Fr Kno σ s) 0 0 (setI τ 61 n v) (m' 6) (m' 7) W (ia σ 62 (m 3)) ((n : Int) + (-1)) := by
        intro v hv' hSs
        have := ih (setI τ 61 n v) (by omega) hSs (hF.I rfl) hsc (fun i a b => ?_)
        · rw [show (n : Int) - 1 = (n : Int) + (-1) by omega] at this
          exact this
        · rw [ia_I, if_pos rfl]
          by_cases ci : i = n
          · rw [ci, up_at]
            exact hv'
          · rw [up_ne ci]
            exact hr i (by omega) b
      have hpcf := full_pc hW.1 hvb.1
      have hfn := hfi.2 n (by omega) (by omega)
      have ekM : kM s1 n = ia τ 60 n / 287 := by show ia s1 60 n / 287 = _; rw [e60]
      rw [ekM] at hfn
      refine bX1_reckon_37 i6 i7 hw iwh inn hSt ⟨fun z => absurd z (by omega), fun _ => ⟨fun c1 => ?_, fun c1 => ?_⟩⟩
      · have hne : ¬ ia τ 60 n / 287 = fullM m := fun z => by
          have h1 := hfn.mp c1
          have h2 := hpcf.2.mpr z
          omega
        refine EI.k (n_leastRest (d := d - 1) (i := n) hk hV hW hKt ⟨by omega, by rw [eN]; omega⟩ hne (fun j a b => by rw [e60]; exact hr j (by omega) (by rw [← eN]; exact b)) hSt (by omega)) (by omega) (fun _ _ => ⟨⟨by omega, by omega⟩, i1, fun _ _ _ _ _ hS5 => next _ (by rw [e60]) hS5⟩)
      · have hfu : ia τ 60 n / 287 = fullM m := hpcf.2.mp (by
          have h1 : ¬ (pc (ia τ 60 n / 287) : Int) < m 3 := fun z => c1 (hfn.mpr z)
          have h2 := hpcf.1
          omega)
        have hm0 := hW.1.1
        refine EI.k (n_last (d := d - 1) ⟨by omega, by omega⟩ hv.1 hSt) (by omega) (fun _ _ => ?_)
        refine EI.k (o_ending (d := d - 1) hk hKt.rk hW hKt.op.kn (by omega) hSt (by omega)) (by omega) (fun _ _ => ⟨⟨by omega, by omega⟩, i1, fun _ _ _ _ _ hS5 => next _ ?_ hS5⟩)
        rw [rsM_eq hV.wf (x := ndC (ia s1 60 n)) (by rw [← e60]; exact hvb.2.1), if_pos (by rw [va_full hV, ← e60]; exact hfu), va_aft hV hW.1, ← e60]
        rfl
  have hk1 := hK1.kn.nb
  have := key (kN s1).toNat s1 (by omega) hS1 (Fr.refl s1) rfl (fun i a b => by omega)
  rw [show ((kN s1).toNat : Int) = sc s1 58 5 by show ((kN s1).toNat : Int) = kN s1; omega] at this
  exact this
end RE2

section SK3
variable {g : AG} {ad : Nat → Nat} {d : Nat} {σ : SG} {m t : Int → Int} {k : Nat}
theorem lie_ls {S : SK} {k0 c by_ s o q : Int} (h : ¬ S.ls q = 0) : ¬ (lieS S k0 c by_ s o).ls q = 0 := by
  unfold lieS
  split
  · exact h
  · show ¬ up S.ls k0 1 q = 0
    by_cases e : q = k0
    · rw [e, up_at]; decide
    · rw [up_ne e]; exact h
theorem lie_mn {S : SK} {k0 c by_ s o : Int} : (lieS S k0 c by_ s o).mn = S.mn + 1 := by
  unfold lieS
  split <;> rfl
theorem SCl.fr {s : SG} {S : SK} (h : SCl σ m S) (e76 : ia s 76 = ia σ 76) (e77 : ia s 77 = ia σ 77) (e78 : ia s 78 = ia σ 78) (e79 : ia s 79 = ia σ 79) (e80 : ia s 80 = ia σ 80) (e81 : ia s 81 = ia σ 81) (e60 : ia s 60 = ia σ 60) (e5 : sc s 58 5 = sc σ 58 5) (e13 : sc s 75 13 = sc σ 75 13) : SCl s m S := by
  refine ⟨?_, ?_, ?_, ?_, ?_, ?_, ?_⟩ <;> simp only [kN, kK, e76, e77, e78, e79, e80, e81, e60, e5, e13]
  · exact h.tm
  · exact h.cs_
  · exact h.pa
  · exact h.al
  · exact h.mg_
  · exact h.ct
  · exact h.lo
/-- what a half leaves as it was -/
def Gk (σ s : SG) : Prop := Fr Fcl σ s ∧ sc s 75 11 = sc σ 75 11 ∧ sc s 75 14 = sc σ 75 14 ∧ ia s 82 = ia σ 82 ∧ la s 82 = la σ 82 ∧ ia s 83 = ia σ 83
theorem Gk.trans {s u : SG} (h1 : Gk σ s) (h2 : Gk s u) : Gk σ u := ⟨h1.1.trans h2.1, h2.2.1.trans h1.2.1, h2.2.2.1.trans h1.2.2.1, h2.2.2.2.1.trans h1.2.2.2.1, h2.2.2.2.2.1.trans h1.2.2.2.2.1, h2.2.2.2.2.2.trans h1.2.2.2.2.2⟩
theorem f_goOn {S : SK} {i : Int} (hk : isK k) (hB : SB σ m k) (hW : WF m) (hI : IS m S) (hC : SCl σ m S) (hmn : sc σ 75 12 = S.mn) (hmb : 0 ≤ S.mn ∧ S.mn ≤ 900000) (hi : 0 ≤ i ∧ i < kN σ) (hls : ¬ S.ls (kK σ i) = 0) (hS : SR σ) (hd : 3 ≤ d) : Eb g ad d mX7_goOn 0 0 [.ref (ad 75), vi i, vi (m 6), vi (m 7)] σ (Kv fun s => (SCl s m (goS m S (kK σ i)) ∧ IS m (goS m S (kK σ i)) ∧ sc s 75 12 = (goS m S (kK σ i)).mn ∧ (S.mn ≤ (goS m S (kK σ i)).mn ∧ (goS m S (kK σ i)).mn ≤ S.mn + 186)) ∧ Gk σ s) := by
  have hnb := hB.kn.nb
  have hlen := ops_len hW.1
  have hv := (hB.kn.vd i hi.1 hi.2).1
  have hvb := vC_b hW.1 hv
  have hks := keyC_s hW.1 hv
  have h3 := hW.1.2.2.2.1
  have h6 := hW.1.2.2.2.2.2.2.1
  have h7 := hW.1.2.2.2.2.2.2.2.1
  have hm0 := hW.1.1
  have ii : iR i := iR_of (by omega) (by omega)
  have i6 : iR (m 6) := iR_of (by omega) (by omega)
  have i7 : iR (m 7) := iR_of (by omega) (by omega)
  have hndK : ndK (kK σ i) = ndC (ia σ 60 i) := hks.2.2
  refine EbS rfl pl_X7 rfl rfl (bX7_goOn_0 ii i6 i7 hS ?_)
  refine EI.k (n_mask (d := d - 1) ⟨hi.1, by omega⟩ hv.1 hS) (by omega) (fun i4 _ => ?_)
  refine EI.k (n_behind (d := d - 1) ⟨hi.1, by omega⟩ hv.1 hS) (by omega) (fun i5 _ => ?_)
  refine EI.k (n_last (d := d - 1) ⟨hi.1, by omega⟩ hv.1 hS) (by omega) (fun i8 _ => ?_)
  intro _ _ _ _ _ _ _ _
  have hgo : goS m S (kK σ i) = (ops m).foldl (fun S' q => if (decide (apB q.1 (ia σ 60 i / 41 % 7) ≤ m 7) && decide (bAnd (ia σ 60 i / 287) (msk m q.2 q.1) = 0)) = true then lieS S' (keyN (stp m (ndC (ia σ 60 i)) q)) (S'.cs (kK σ i) + wgt m (ndC (ia σ 60 i)) q) (kK σ i) q.1 q.2 else S') S := by
    unfold goS
    have : ∀ (l : List Op) (S0 : SK), l.foldl (goS1 m (kK σ i)) S0 = l.foldl (fun S' p => if myB m (ndC (ia σ 60 i)) p = true then lieS S' (keyN (stp m (ndC (ia σ 60 i)) p)) (S'.cs (kK σ i) + wgt m (ndC (ia σ 60 i)) p) (kK σ i) p.1 p.2 else S') S0 := fun l S0 => foldl_cong l S0 (fun a b _ => by unfold goS1; rw [hndK])
    rw [this]
    exact fold_ops (x := ndC (ia σ 60 i)) (F := fun S' p => lieS S' (keyN (stp m (ndC (ia σ 60 i)) p)) (S'.cs (kK σ i) + wgt m (ndC (ia σ 60 i)) p) (kK σ i) p.1 p.2) S
  generalize hF : (fun (S' : SK) (q : Op) => if (decide (apB q.1 (ia σ 60 i / 41 % 7) ≤ m 7) && decide (bAnd (ia σ 60 i / 287) (msk m q.2 q.1) = 0)) = true then lieS S' (keyN (stp m (ndC (ia σ 60 i)) q)) (S'.cs (kK σ i) + wgt m (ndC (ia σ 60 i)) q) (kK σ i) q.1 q.2 else S') = F at hgo
  generalize hgoal : goS m S (kK σ i) = SF at hgo
  refine up_loop (P := fun j => ∀ (τ : SG) (S' : SK), SR τ → Gk σ τ → SCl τ m S' → IS m S' → sc τ 75 12 = S'.mn → (S.mn ≤ S'.mn ∧ S'.mn ≤ S.mn + j) → ¬ S'.ls (kK σ i) = 0 → ((ops m).drop j.toNat).foldl F S' = SF → aX7_goOn_33 g ad d (Kv fun s => (SCl s m SF ∧ IS m SF ∧ sc s 75 12 = SF.mn ∧ (S.mn ≤ SF.mn ∧ SF.mn ≤ S.mn + 186)) ∧ Gk σ s) 0 0 τ i (m 6) (m 7) (ia σ 60 i / 287) (ia σ 60 i / 41 % 7) (ia σ 60 i % 41) j) (hi := ((ops m).length : Int)) 0 (by omega) ?_ ?_ σ S hS ⟨Fr.refl σ, rfl, rfl, rfl, rfl, rfl⟩ hC hI hmn (by omega) hls (by rw [show (0 : Int).toNat = 0 from rfl, List.drop_zero]; exact hgo.symm)
  · intro τ S' hSt hG hC' hI' hm' hb' hl' hv'
    have hBt := hB.fr hk hG.1
    rw [List.drop_of_length_le (by omega)] at hv'
    have e : S' = SF := hv'
    subst e
    exact bX7_goOn_33 ii i6 i7 i4 i5 i8 (iR_of (by omega) (by omega)) hSt ⟨fun _ => re_v ⟨⟨hC', hI', hm', hb'.1, by omega⟩, hG⟩, fun z => absurd (by rw [hBt.op.l.1]; omega) z⟩
  · intro j hj0 hj1 ih τ S' hSt hG hC' hI' hm' hb' hl' hv'
    have hBt := hB.fr hk hG.1
    have e60 : ia τ 60 = ia σ 60 := hG.1.ia 60 (fun z => by unfold Fcl at z; omega)
    have e5 : kN τ = kN σ := hG.1.sc 58 5 (fun z => by unfold Fcl at z; omega)
    have ekK : ∀ i', kK τ i' = kK σ i' := fun i' => by show keyC (ia τ 60 i') = keyC (ia σ 60 i'); rw [e60]
    obtain ⟨q, hget, hdr, hE, hq⟩ := hBt.op.at hj0 hj1
    have hqm : q ∈ ops m := List.mem_of_getElem? hget
    rw [hdr, List.foldl_cons] at hv'
    have hFq : F S' q = if (decide (apB q.1 (ia σ 60 i / 41 % 7) ≤ m 7) && decide (bAnd (ia σ 60 i / 287) (msk m q.2 q.1) = 0)) = true then lieS S' (keyN (stp m (ndC (ia σ 60 i)) q)) (S'.cs (kK σ i) + wgt m (ndC (ia σ 60 i)) q) (kK σ i) q.1 q.2 else S' := by rw [← hF]
    rw [hFq] at hv'
    have ij : iR (j + 1) := iR_of (by omega) (by omega)
    have hgap := apB_b (a := q.1) (b := ia σ 60 i / 41 % 7) (by omega) hvb.2.2.1
    refine bX7_goOn_33 ii i6 i7 i4 i5 i8 (iR_of (by omega) (by omega)) hSt ⟨fun z => absurd z (by rw [hBt.op.l.1]; omega), fun _ => ?_⟩
    refine EI.k (o_gap (d := d - 1) hE ⟨hj0, by omega⟩ (by omega) hvb.2.2.1 hSt (by omega)) (by omega) (fun _ _ => ⟨⟨hj0, by omega⟩, ?_⟩)
    rw [hE.cv]
    refine ⟨fun c1 => ⟨ij, fun _ _ _ _ _ _ _ _ => ih τ S' hSt hG hC' hI' hm' (by omega) hl' ?_⟩, fun c1 => ⟨fun c2 => ?_, fun c2 => ⟨ij, fun _ _ _ _ _ _ _ _ => ih τ S' hSt hG hC' hI' hm' (by omega) hl' ?_⟩⟩⟩
    · rw [decide_eq_false c1, Bool.and_false, if_neg (by decide)] at hv'
      exact hv'
    rotate_left
    · rw [decide_eq_false c2, Bool.false_and, if_neg (by decide)] at hv'
      exact hv'
    rw [decide_eq_true c2, decide_eq_true c1, Bool.and_self, if_pos rfl] at hv'
    have hst := hB.kn.step hW hi hqm c1
    have e59 : ia τ 59 = ia σ 59 := hG.1.ia 59 (fun z => by unfold Fcl at z; omega)
    refine EI.k (n_follow (d := d - 1) hW hE ⟨hj0, by omega⟩ hq hvb.1 hvb.2.2.2 (by rw [e59]; omega) hSt (by omega)) (by omega) (fun _ _ => ?_)
    rw [e59]
    have hcs := hC'.cs_ i hi.1 (by rw [e5]; exact hi.2) (by rw [ekK]; exact hl')
    rw [ekK] at hcs
    have hcb := hI'.cst _ hl'
    have hpc6 := st_pc6 hvb.2.1
    have hkk : kK σ i / 294 = ia σ 60 i / 287 := hks.1
    rw [hkk] at hcb
    refine ⟨fun c3 => absurd c3 (by omega), fun _ => ?_⟩
    simp (config := {decide := true}) only [sc_S, ia_S, la_S, rv_S, sc_I, rv_I, la_I, ia_I, sc_L, rv_L, ia_L, la_L, sc_A, rv_A, la_A, ia_A, sc_B, rv_B, ia_B, la_B, sc_R, ia_R, la_R, rv_R, ia_w, la_w, rv_w, sc_w, if_true, if_false]
    rw [hm']
    refine ⟨iR_of (by omega) (by omega), ⟨hi.1, by omega⟩, ?_⟩
    have hS1 : SR (setS τ 75 12 (S'.mn + 1)) := SR_setS hSt (iR_of (by omega) (by omega))
    have hF1 : Fr Fcl τ (setS τ 75 12 (S'.mn + 1)) := (Fr.refl τ).S ⟨by omega, by omega⟩
    have hG1 : Gk τ (setS τ 75 12 (S'.mn + 1)) := ⟨hF1, by simp (config := {decide := true}) only [sc_S, ia_S, la_S, rv_S, sc_I, rv_I, la_I, ia_I, sc_L, rv_L, ia_L, la_L, sc_A, rv_A, la_A, ia_A, sc_B, rv_B, ia_B, la_B, sc_R, ia_R, la_R, rv_R, ia_w, la_w, rv_w, sc_w, if_true, if_false], by simp (config := {decide := true}) only [sc_S, ia_S, la_S, rv_S, sc_I, rv_I, la_I, ia_I, sc_L, rv_L, ia_L, la_L, sc_A, rv_A, la_A, ia_A, sc_B, rv_B, ia_B, la_B, sc_R, ia_R, la_R, rv_R, ia_w, la_w, rv_w, sc_w, if_true, if_false], rfl, rfl, rfl⟩
    have hB1 := hBt.fr hk hF1
    have hE1 : OpE (setS τ 75 12 (S'.mn + 1)) m j q := hE.fr (fun _ _ _ => rfl)
    refine EI.k (o_standing (d := d - 1) hk hB1.rk hW hB1.op.kn hE1 ⟨hj0, by omega⟩ ⟨hq.1, hq.2.1⟩ (by omega) hS1 (by omega)) (by omega) (fun _ _ => ?_)
    rw [hcs.1]
    have hsb := stdM_b hW (q := q) (last := wx (ia σ 60 i % 41)) hq.2.1
    have hmb2 := mul_b h6 hgap
    have hw := weigh_std hW (place := ia σ 60 i / 41 % 7) (last := wx (ia σ 60 i % 41)) hq.2.1
    have hwc := weigh_c hW (place := ia σ 60 i / 41 % 7) (last := wx (ia σ 60 i % 41)) hq.2.1 hvb.2.2.1 hq.1
    rw [hw] at hwc
    have hwc' : 0 ≤ stdM m (wx (ia σ 60 i % 41)) q + m 6 * apB q.1 (ia σ 60 i / 41 % 7) ∧ stdM m (wx (ia σ 60 i % 41)) q + m 6 * apB q.1 (ia σ 60 i / 41 % 7) ≤ 516 := hwc
    have ewg : wgt m (ndC (ia σ 60 i)) q = stdM m (wx (ia σ 60 i % 41)) q + m 6 * apB q.1 (ia σ 60 i / 41 % 7) := by
      show (weigh m (ia σ 60 i / 41 % 7) (wx (ia σ 60 i % 41)) q.1 q.2).1 = _
      rw [hw]
    rw [ewg] at hv'
    generalize hto : ia σ 59 (cdB m (ia σ 60 i / 287) (ia σ 60 i % 41) q) - 1 = to_ at hst
    have ekt : kK σ to_ = keyN (stp m (ndC (ia σ 60 i)) q) := by
      show keyN (ndC (ia σ 60 to_)) = _
      rw [hst.2]
    have hvt := (hB.kn.vd to_ (by omega) hst.1.2).1
    have hkst := keyC_s hW.1 hvt
    have hvtb := vC_b hW.1 hvt
    have hmo : pc (ia σ 60 i / 287) < pc (ia σ 60 to_ / 287) := by
      have e1 : (ndC (ia σ 60 to_)).1 = (stp m (ndC (ia σ 60 i)) q).1 := by rw [hst.2]
      have e2 : ia σ 60 to_ / 287 = bOr (ia σ 60 i / 287) (msk m q.2 q.1) := e1
      have hmk := full_msk hW hq
      have hfb := fullM_b hW.1
      rw [e2]
      exact (st_pc (a := ia σ 60 i / 287) (b := msk m q.2 q.1) hvb.2.1 (by omega) c1 (by omega)).1
    have ekt2 : kK σ to_ / 294 = ia σ 60 to_ / 287 := hkst.1
    have hC1 : SCl (setS τ 75 12 (S'.mn + 1)) m S' := hC'.fr rfl rfl rfl rfl rfl rfl rfl (by simp (config := {decide := true}) only [sc_S, ia_S, la_S, rv_S, sc_I, rv_I, la_I, ia_I, sc_L, rv_L, ia_L, la_L, sc_A, rv_A, la_A, ia_A, sc_B, rv_B, ia_B, la_B, sc_R, ia_R, la_R, rv_R, ia_w, la_w, rv_w, sc_w, if_true, if_false]) (by simp (config := {decide := true}) only [sc_S, ia_S, la_S, rv_S, sc_I, rv_I, la_I, ia_I, sc_L, rv_L, ia_L, la_L, sc_A, rv_A, la_A, ia_A, sc_B, rv_B, ia_B, la_B, sc_R, ia_R, la_R, rv_R, ia_w, la_w, rv_w, sc_w, if_true, if_false])
    have ekK1 : ∀ i', kK (setS τ 75 12 (S'.mn + 1)) i' = kK σ i' := fun i' => ekK i'
    have eN1 : kN (setS τ 75 12 (S'.mn + 1)) = kN σ := by show sc (setS τ 75 12 (S'.mn + 1)) 58 5 = _; simp (config := {decide := true}) only [sc_S, ia_S, la_S, rv_S, sc_I, rv_I, la_I, ia_I, sc_L, rv_L, ia_L, la_L, sc_A, rv_A, la_A, ia_A, sc_B, rv_B, ia_B, la_B, sc_R, ia_R, la_R, rv_R, ia_w, la_w, rv_w, sc_w, if_true, if_false]; exact e5
    have hlay := f_lay (g := g) (ad := ad) (d := d - 1) (i := to_) (c := S'.cs (kK σ i) + stdM m (wx (ia σ 60 i % 41)) q + m 6 * apB q.1 (ia σ 60 i / 41 % 7)) (p := i) (j := j) (fr_ := kK σ i) (bs_ := q.1) (bo_ := q.2) hk hB1 hW hI' hC1 (by simp (config := {decide := true}) only [sc_S, ia_S, la_S, rv_S, sc_I, rv_I, la_I, ia_I, sc_L, rv_L, ia_L, la_L, sc_A, rv_A, la_A, ia_A, sc_B, rv_B, ia_B, la_B, sc_R, ia_R, la_R, rv_R, ia_w, la_w, rv_w, sc_w, if_true, if_false]) (by omega) (by rw [eN1]; omega) (by omega) (Or.inr ⟨by rw [eN1]; exact hi, ekK1 i, hj0, hget⟩) hS1 (by omega)
    refine Cl.vo hlay (by omega) (fun s9 hS9 h9 => ⟨ij, fun _ _ _ _ _ _ _ _ => ?_⟩)
    rw [ekK1, ekt] at h9
    have hcomm : S'.cs (kK σ i) + stdM m (wx (ia σ 60 i % 41)) q + m 6 * apB q.1 (ia σ 60 i / 41 % 7) = S'.cs (kK σ i) + (stdM m (wx (ia σ 60 i % 41)) q + m 6 * apB q.1 (ia σ 60 i / 41 % 7)) := by omega
    rw [hcomm] at h9
    have hIS : IS m (lieS S' (keyN (stp m (ndC (ia σ 60 i)) q)) (S'.cs (kK σ i) + (stdM m (wx (ia σ 60 i % 41)) q + m 6 * apB q.1 (ia σ 60 i / 41 % 7))) (kK σ i) q.1 q.2) := by
      rw [← ekt]
      refine hI'.lie ⟨hkst.2.1.1, ?_, ?_⟩ ⟨by omega, ?_⟩ ⟨hl', ?_, (List.mem_filter.mp hqm).1, hq.2.2⟩
      · have h1 := hkst.2.1.2
        have h2 := fullM_b hW.1
        show keyC (ia σ 60 to_) < 18816
        omega
      · show nd m (ndK (keyC (ia σ 60 to_)))
        rw [hkst.2.2]
        exact ndC_nd hW hvt
      · rw [ekt2]
        omega
      · rw [ekt2, hkk]
        exact hmo
    refine ih s9 _ hS9 (hG.trans (hG1.trans ⟨h9.2.1, h9.2.2.2⟩)) h9.1 hIS (by rw [h9.2.2.1, lie_mn]) (by rw [lie_mn]; omega) (lie_ls hl') hv'
end SK3

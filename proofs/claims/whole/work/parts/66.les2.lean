section LES2
variable {g : AG} {ad : Nat → Nat} {d : Nat} {σ : SG} {m t : Int → Int} {k : Nat} {e f : Int}
theorem fol_cong {P Q : Int → Prop} [DecidablePred P] [DecidablePred Q] : ∀ (l : List Int) (n : Int), (∀ w ∈ l, (P w ↔ Q w)) → l.foldl (fun n w => n + if P w then 0 else 1) n = l.foldl (fun n w => n + if Q w then (0 : Int) else 1) n
  | [], n, _ => rfl
  | w :: l, n, h => by
    rw [List.foldl_cons, List.foldl_cons]
    have := h w (List.mem_cons_self ..)
    by_cases c : P w
    · rw [if_pos c, if_pos (this.mp c)]; exact fol_cong l _ (fun w' hw => h w' (List.mem_cons_of_mem _ hw))
    · rw [if_neg c, if_neg (fun z => c (this.mpr z))]; exact fol_cong l _ (fun w' hw => h w' (List.mem_cons_of_mem _ hw))
theorem c_unlinked {ls : List Lk} {na nb i j p q : Int} (hL : LkC (ia σ 47) ls) (hI : LIn na nb ls) (hna : na ≤ 6) (hnb : nb ≤ 6) (hi : 0 ≤ i ∧ i ≤ j ∧ j < na) (hp : 0 ≤ p ∧ p ≤ q ∧ q < nb) (hgo : goT ls (i, j, p, q) = true) (hS : SR σ) (hd : 1 ≤ d) : EI g ad d mX3_unlinked [.ref (ad 37), vi i, vi j, vi p, vi q] σ (unl ls (i, j, p, q)) σ := by
  have i1 : iR i := iR_of (by omega) (by omega)
  have i2 : iR j := iR_of (by omega) (by omega)
  have i3 : iR p := iR_of (by omega) (by omega)
  have i4 : iR q := iR_of (by omega) (by omega)
  have hun := unA_b (F := fun l => l.1) (ls := ls) hi.2.1
  have hun2 := unA_b (F := fun l => l.2) (ls := ls) hp.2.1
  refine EbS rfl pl_X3 rfl rfl (bX3_unlinked_0 i1 i2 i3 i4 hS ?_)
  intro _ _ _ _ _ _ _ _
  have hz : ∀ w, 0 ≤ w → w < na → (ls.any (fun l => decide (l.1 = w)) = true ↔ ¬ ia σ 47 w = 0) := by
    intro w w0 w1
    obtain ⟨hb, hbit⟩ := hL w w0 (by omega)
    rw [List.any_eq_true]
    constructor
    · rintro ⟨l, hm, hl⟩ z
      have hl' := of_decide_eq_true hl
      have hr := hI l hm
      exact (bit_z hb).mp z l.2 hr.2.1 (by omega) ((hbit l.2 hr.2.1 (by omega)).mpr (by rw [← hl']; exact hm))
    · intro z
      rcases Classical.em (∃ v, 0 ≤ v ∧ v < 6 ∧ bitB (ia σ 47 w) v = true) with z2 | z2
      · obtain ⟨v, v0, v1, hv⟩ := z2
        exact ⟨(w, v), (hbit v v0 v1).mp hv, decide_eq_true rfl⟩
      · exact absurd ((bit_z hb).mpr (fun v v0 v1 hv => z2 ⟨v, v0, v1, hv⟩)) z
  refine up_loop (P := fun w => ∀ a n : Int, (0 ≤ a ∧ a ≤ 63) → (0 ≤ n ∧ n ≤ w - i) → (∀ v, 0 ≤ v → v < 6 → (bitB a v = true ↔ ∃ c, i ≤ c ∧ c < w ∧ (c, v) ∈ ls)) → (ir w (j + 1)).foldl (fun n w => n + if ls.any (fun l => decide (l.1 = w)) = true then 0 else 1) n = unA (fun l => l.1) ls i j → aX3_unlinked_9 g ad d (Ki fun r s => r = unl ls (i, j, p, q) ∧ s = σ) 0 0 σ i j p q a n w) (hi := j + 1) i (by omega) ?_ ?_ 0 0 (by omega) (by omega) ?_ rfl
  · intro a n ha hn hbit hv
    rw [ir_nil (Int.le_refl _)] at hv
    have hv' : n = unA (fun l => l.1) ls i j := hv
    have hk := mk_s ha hp.1 hp.2.1 (show q < 6 by omega)
    refine bX3_unlinked_9 i1 i2 i3 i4 (iR_of (by omega) (by omega)) (iR_of (by omega) (by omega)) (iR_of (by omega) (by omega)) hS ⟨fun _ => ?_, fun z => absurd (by omega) z⟩
    refine EI.k (c_bitsOf (d := d - 1) hp.1 hp.2.1 (by omega) hS) (by omega) (fun ik _ => ?_)
    refine EI.k (j_bitCount (d := d - 1) ⟨hk.2.2.1, hk.2.2.2.1⟩ hS) (by omega) (fun ip _ => ?_)
    have epc : (pc (bAnd (mkB p q) (bXor a (-1))) : Int) = unA (fun l => l.2) ls p q := by
      rw [hk.2.2.2.2]
      unfold unA
      refine fol_cong _ _ (fun w hw => ?_)
      have hwb := mem_ir.mp hw
      rw [hbit w (by omega) (by omega), List.any_eq_true]
      unfold goT at hgo
      rw [Bool.and_eq_true, List.all_eq_true] at hgo
      constructor
      · rintro ⟨c, c1, c2, hm⟩
        exact ⟨_, hm, decide_eq_true rfl⟩
      · rintro ⟨l, hm, hl⟩
        have hl' : l.2 = w := of_decide_eq_true hl
        have h1 : inB l.1 i j = inB l.2 p q := eq_of_beq (hgo.1 l hm)
        have h2 : inB l.2 p q = true := decide_eq_true ⟨by omega, by omega⟩
        rw [h2] at h1
        have h3 := of_decide_eq_true h1
        exact ⟨l.1, h3.1, by omega, by rw [← hl']; exact hm⟩
    rw [epc]
    refine ⟨iR_of (by omega) (by omega), re_i ⟨?_, rfl⟩⟩
    rw [hv']
    rfl
  · intro w hw0 hw1 ih a n ha hn hbit hv
    rw [ir_cons (by omega), List.foldl_cons] at hv
    obtain ⟨hb, hbw⟩ := hL w (by omega) (by omega)
    have ho := bit_o ha hb
    have iw : iR (w + 1) := iR_of (by omega) (by omega)
    have hbit' : ∀ v, 0 ≤ v → v < 6 → (bitB (bOr a (ia σ 47 w)) v = true ↔ ∃ c, i ≤ c ∧ c < w + 1 ∧ (c, v) ∈ ls) := by
      intro v v0 v1
      rw [ho.2 v v0 v1, hbit v v0 v1, hbw v v0 v1]
      constructor
      · rintro (⟨c, c1, c2, c3⟩ | z)
        · exact ⟨c, c1, by omega, c3⟩
        · exact ⟨w, by omega, by omega, z⟩
      · rintro ⟨c, c1, c2, c3⟩
        by_cases cc : c = w
        · rw [cc] at c3; exact Or.inr c3
        · exact Or.inl ⟨c, c1, by omega, c3⟩
    have hzw := hz w (by omega) (by omega)
    refine bX3_unlinked_9 i1 i2 i3 i4 (iR_of (by omega) (by omega)) (iR_of (by omega) (by omega)) (iR_of (by omega) (by omega)) hS ⟨fun z => absurd z (by omega), fun _ => ⟨⟨by omega, by omega⟩, fun c => ⟨iR_of (by omega) (by omega), iw, fun _ _ _ _ _ _ _ _ => ?_⟩, fun c => ⟨iR_of (by omega) (by omega), iw, fun _ _ _ _ _ _ _ _ => ?_⟩⟩⟩
    · refine ih _ (n + 0) ho.1 (by omega) hbit' ?_
      rw [if_pos (hzw.mpr c)] at hv
      exact hv
    · refine ih _ (n + 1) ho.1 (by omega) hbit' ?_
      rw [if_neg (fun z => hzw.mp z c)] at hv
      exact hv
  · intro v v0 v1
    constructor
    · intro z
      exact absurd z ((bit_z (a := 0) (by omega)).mp rfl v v0 v1)
    · rintro ⟨c, c1, c2, -⟩
      omega
/-! the lesson enters -/
/-- whatever comes, it comes from here -/
def OcG (G : Int → Int → (Int → Int) → Prop) (x : Les) (τ : SG) (k : Nat) (z : Int) (rem : List Qd) (c : Int) : Prop := ∀ u v m', G u v m' → ∃ mi, lrRel x rem c mi u m' v ∧ RK τ k mi ∧ GM mi ∧ mi 0 = z
def LeE (σ τ : SG) (k : Nat) (x : Les) (z : Int) : Prop := (LsC τ x) ∧ (Fr (Kcl k) σ τ) ∧ (∃ mc, RK τ k mc ∧ GM mc ∧ mc 0 = z)
theorem LeE.ls {σ τ : SG} {k : Nat} {x : Les} {z : Int} (h_ : LeE σ τ k x z) : LsC τ x := h_.1
theorem LeE.fr {σ τ : SG} {k : Nat} {x : Les} {z : Int} (h_ : LeE σ τ k x z) : Fr (Kcl k) σ τ := h_.2.1
theorem LeE.mc {σ τ : SG} {k : Nat} {x : Les} {z : Int} (h_ : LeE σ τ k x z) : ∃ mc, RK τ k mc ∧ GM mc ∧ mc 0 = z := h_.2.2
theorem LsC.fr {s : SG} {x : Les} (h : LsC σ x) (hk : isK k) (hF : Fr (Kcl k) σ s) : LsC s x := by
  unfold LsC at h ⊢
  rw [hF.sc 37 11 (Kcl_no hk (by omega)), hF.sc 37 13 (Kcl_no hk (by omega)), hF.ia 45 (Kcl_no hk (by omega)), hF.ia 46 (Kcl_no hk (by omega)), hF.ia 47 (Kcl_no hk (by omega))]
  exact h
theorem LeE.go {τ s : SG} {x : Les} {z : Int} {mc : Int → Int} (h : LeE σ τ k x z) (hk : isK k) (hF : Fr (Kcl k) τ s) (hR : RK s k mc) (hG : GM mc) (h0 : mc 0 = z) : LeE σ s k x z := ⟨h.ls.fr hk hF, h.fr.trans hF, mc, hR, hG, h0⟩
/-- how stretches ahead come out -/
def EhP (G : Int → Int → (Int → Int) → Prop) (x : Les) (σ s : SG) (k : Nat) (z : Int) (rest : List Qd) (c0 r : Int) : Prop := LeE σ s k x z ∧ (r = -1 → ∀ u v m', G u v m' → u = 2) ∧ (¬ r = -1 → r = sc s k 9 - sc σ k 9 ∧ 0 ≤ r ∧ OcG G x s k z rest (c0 + r))
theorem cost_max {a : Int} : max 0 (a - 1) = if 0 < a then a - 1 else 0 := by
  split <;> omega
theorem slc_hl0 {a : List Int} {R : Int → Int} {i j : Int} (h : hl R 0 a) (h0 : 0 ≤ i) (h1 : j < a.length) : hl R i (slc a i j) := by
  refine slc_hl (fun c a1 a2 => ?_)
  have := hl_getD h (i := c.toNat) (by omega)
  rw [show (0 : Int) + (c.toNat : Int) = c by omega] at this
  rw [show i + c - i = c by omega]
  exact this
theorem c_enterAhead {G : Int → Int → (Int → Int) → Prop} {x : Les} {i j c0 z : Int} {rest : List Qd} (hk : isK k) (h : LeE σ σ k x z) (hI : LIn x.1.length x.2.1.length x.2.2) (hv1 : ∀ w ∈ x.1, 0 ≤ w ∧ w < z) (hv2 : ∀ w ∈ x.2.1, 0 ≤ w ∧ w < z) (hi : 0 ≤ i ∧ i ≤ j ∧ j < x.1.length ∧ j < i + 3) (hG : OcG G x σ k z (qP x.2.1.length i j 0 ++ rest) c0) (hS : SR σ) (hd : 3 ≤ d) : Eb g ad d mX3_enterAhead 0 0 [.ref (ad k), .ref (ad 37), vi i, vi j] σ (Ki fun r s => EhP G x σ s k z rest c0 r) := by
  have hkb := isK_b hk
  have hls := h.ls
  have hla := hls.2.2.2.2.2.1
  have hlb := hls.2.2.2.2.2.2
  have i2 : iR i := iR_of (by omega) (by omega)
  have i3 : iR j := iR_of (by omega) (by omega)
  have h9b : ∀ {τ}, LeE σ τ k x z → 0 ≤ sc τ k 9 ∧ sc τ k 9 ≤ 30 := fun {τ} q => by
    obtain ⟨mc, hR, hGm, -⟩ := q.mc
    have := hGm.wf.1.2.1
    rw [hR.p]
    exact this
  have h9σ := h9b h
  refine EbS rfl pl_X3 rfl rfl (bX3_enterAhead_0 hk i2 i3 hS ?_)
  intro _ _ _ _ _
  refine up_loop (P := fun p => ∀ (τ : SG) (c : Int), SR τ → LeE σ τ k x z → c = sc τ k 9 - sc σ k 9 → 0 ≤ c → OcG G x τ k z (qP x.2.1.length i j p ++ rest) (c0 + c) → aX3_enterAhead_6 g ad d (Ki fun r s => EhP G x σ s k z rest c0 r) 0 0 τ i j c p k) (hi := (x.2.1.length : Int)) 0 (by omega) ?_ ?_ σ 0 hS h (by omega) (by omega) (by rw [Int.add_zero]; exact hG)
  · intro τ c hSt q hc hc0 hO
    have h13 := q.ls.2.1
    have hb9 := h9b q
    refine bX3_enterAhead_6 hk i2 i3 (iR_of (by omega) (by omega)) (iR_of (by omega) (by omega)) hSt ⟨fun _ => re_i ⟨q, fun z => by omega, fun _ => ⟨hc, hc0, ?_⟩⟩, fun z => absurd (by rw [h13]; omega) z⟩
    rw [qP_end (Int.le_refl _)] at hO
    exact hO
  · intro p hp0 hp1 ihp τ c hSt q hc hc0 hO
    have h13 := q.ls.2.1
    have hb9 := h9b q
    have ip : iR p := iR_of (by omega) (by omega)
    refine bX3_enterAhead_6 hk i2 i3 (iR_of (by omega) (by omega)) ip hSt ⟨fun z => absurd z (by rw [h13]; omega), fun _ _ _ _ _ _ _ => ?_⟩
    rw [qP_cons hp1, List.append_assoc] at hO
    refine up_loop (P := fun w => ∀ (τ : SG) (c : Int), SR τ → LeE σ τ k x z → c = sc τ k 9 - sc σ k 9 → 0 ≤ c → OcG G x τ k z (qQ x.2.1.length i j p w ++ (qP x.2.1.length i j (p + 1) ++ rest)) (c0 + c) → aX3_enterAhead_19 g ad d (Ki fun r s => EhP G x σ s k z rest c0 r) 0 0 τ i j c p w k) (hi := min (x.2.1.length : Int) (p + 3)) p (by omega) ?_ ?_ τ c hSt q hc hc0 hO
    · intro τ c hSt q hc hc0 hO
      rw [qQ_end (by omega)] at hO
      have h13 := q.ls.2.1
      have hb9 := h9b q
      have ic : iR c := iR_of (by omega) (by omega)
      have ie : iR (min (x.2.1.length : Int) (p + 3)) := iR_of (by omega) (by omega)
      have nx : aX3_enterAhead_177 g ad d (Ki fun r s => EhP G x σ s k z rest c0 r) 0 0 τ i j c p (min (x.2.1.length : Int) (p + 3)) k := bX3_enterAhead_177 hk i2 i3 ic ip ie hSt ⟨iR_of (by omega) (by omega), fun _ _ _ _ _ => ihp τ c hSt q hc hc0 hO⟩
      exact bX3_enterAhead_19 hk i2 i3 ic ip ie hSt ⟨fun _ _ _ _ _ _ _ => nx, fun c1 => ⟨iR_of (by omega) (by omega), fun _ _ _ _ _ _ _ => nx, fun c2 => absurd (by rw [h13] at c1; omega) c2⟩⟩
    · intro w hw0 hw1 ihw τ c hSt q hc hc0 hO
      have h13 := q.ls.2.1
      have h11 := q.ls.1
      have hb9 := h9b q
      have ic : iR c := iR_of (by omega) (by omega)
      have iw : iR w := iR_of (by omega) (by omega)
      have next : ∀ (s : SG) (c' : Int), SR s → LeE σ s k x z → c' = sc s k 9 - sc σ k 9 → 0 ≤ c' → OcG G x s k z (qQ x.2.1.length i j p (w + 1) ++ (qP x.2.1.length i j (p + 1) ++ rest)) (c0 + c') → aX3_enterAhead_171 g ad d (Ki fun r s => EhP G x σ s k z rest c0 r) 0 0 s i j c' p w k := by
        intro s c' hSs qs hc' hc0' hO'
        have hb9' := h9b qs
        exact bX3_enterAhead_171 hk i2 i3 (iR_of (by omega) (by omega)) ip iw hSs ⟨iR_of (by omega) (by omega), fun _ _ _ _ _ _ => ihw s c' hSs qs hc' hc0' hO'⟩
      rw [qQ_cons (by omega) (by omega), List.cons_append] at hO
      obtain ⟨mc, hRc, hGc, ez⟩ := q.mc
      have hm1 := hGc.wf.1.2.1
      refine bX3_enterAhead_19 hk i2 i3 ic ip iw hSt ⟨fun c1 => absurd c1 (by rw [h13]; omega), fun _ => ⟨iR_of (by omega) (by omega), fun c1 => absurd c1 (by omega), fun _ => ?_⟩⟩
      refine EI.k (c_belong (d := d - 1) q.ls.2.2.2.2.1 hI h11 (by omega) (by omega) ⟨hi.1, hi.2.1, hi.2.2.1⟩ ⟨hp0, hw0, by omega⟩ hSt (by omega)) (by omega) (fun _ _ => ?_)
      refine bi_nz (fun cg => ?_) (fun cg _ _ _ _ _ _ => ?_)
      rotate_left
      · refine next τ c hSt q hc hc0 (fun u v m' hu => ?_)
        obtain ⟨mi, hb, hr⟩ := hO u v m' hu
        exact ⟨mi, hb.1 cg, hr⟩
      have la := slc_len (a := x.1) hi.2.1
      have lb := slc_len (a := x.2.1) hw0
      have ha := slc_hl0 q.ls.2.2.1 hi.1 hi.2.2.1
      have hb := slc_hl0 q.ls.2.2.2.1 hp0 (show w < x.2.1.length by omega)
      generalize ha_ : slc x.1 i j = a at la ha
      generalize hb_ : slc x.2.1 p w = b at lb hb
      have hab := alkL_b hGc.wf.1 a b
      have hwa : ∀ v ∈ a, 0 ≤ v ∧ v < z := fun v hv => hv1 v (slc_mem hi.1 hi.2.2.1 (by rw [ha_]; exact hv))
      have hwb : ∀ v ∈ b, 0 ≤ v ∧ v < z := fun v hv => hv2 v (slc_mem hp0 (show w < x.2.1.length by omega) (by rw [hb_]; exact hv))
      have hO1 : ∀ u v m', G u v m' → ∃ mi, ((¬ alkL mi a b = -1 → lrRel x (qQ x.2.1.length i j p (w + 1) ++ (qP x.2.1.length i j (p + 1) ++ rest)) (c0 + c) (lrCost mi (alkL mi a b)) u m' v) ∧ (alkL mi a b = -1 → (mi 1 = 30 → u = 2) ∧ (¬ mi 1 = 30 → ∃ R, RowR R a b ∧ lrRel x (qQ x.2.1.length i j p (w + 1) ++ (qP x.2.1.length i j (p + 1) ++ rest)) (c0 + c + 1) (comesS mi R 0 (10 + 5 * unl x.2.2 (i, j, p, w))) u m' v))) ∧ RK τ k mi ∧ GM mi ∧ mi 0 = z := by
        intro u v m' hu
        obtain ⟨mi, hb2, hr⟩ := hO u v m' hu
        have := hb2.2 cg
        have h5 : (¬ alkL mi (slc x.1 i j) (slc x.2.1 p w) = -1 → lrRel x (qQ x.2.1.length i j p (w + 1) ++ (qP x.2.1.length i j (p + 1) ++ rest)) (c0 + c) (lrCost mi (alkL mi (slc x.1 i j) (slc x.2.1 p w))) u m' v) ∧ (alkL mi (slc x.1 i j) (slc x.2.1 p w) = -1 → (mi 1 = 30 → u = 2) ∧ (¬ mi 1 = 30 → ∃ R, RowR R (slc x.1 i j) (slc x.2.1 p w) ∧ lrRel x (qQ x.2.1.length i j p (w + 1) ++ (qP x.2.1.length i j (p + 1) ++ rest)) (c0 + c + 1) (comesS mi R 0 (10 + 5 * unl x.2.2 (i, j, p, w))) u m' v)) := this
        rw [ha_, hb_] at h5
        exact ⟨mi, h5, hr⟩
      refine EI.k (k_findPhrase (d := d - 1) hk hRc hGc.wf aI_45 aI_46 ha (by omega) hb (by omega) (by omega) (by omega) ⟨hi.1, by omega⟩ ⟨hp0, by omega⟩ ⟨by decide, by decide⟩ hSt (by omega)) (by omega) (fun ir _ => ?_)
      rw [hRc.p]
      refine ⟨fun c1 => ⟨fun c2 => ?_, fun c2 => re_i ⟨q, fun _ u v m' hu => ?_, fun z => absurd rfl z⟩⟩, fun c1 => ⟨⟨by omega, by omega⟩, ?_⟩⟩
      · have hu1 := unA_b (F := fun l => l.1) (ls := x.2.2) hi.2.1
        have hu2 := unA_b (F := fun l => l.2) (ls := x.2.2) hw0
        have hub : 0 ≤ unl x.2.2 (i, j, p, w) ∧ unl x.2.2 (i, j, p, w) ≤ 6 := by
          show 0 ≤ unA (fun l => l.1) x.2.2 i j + unA (fun l => l.2) x.2.2 p w ∧ unA (fun l => l.1) x.2.2 i j + unA (fun l => l.2) x.2.2 p w ≤ 6
          omega
        refine EI.k (c_unlinked (d := d - 1) q.ls.2.2.2.2.1 hI (by omega) (by omega) ⟨hi.1, hi.2.1, hi.2.2.1⟩ ⟨hp0, hw0, by omega⟩ cg hSt (by omega)) (by omega) (fun _ _ => ?_)
        refine Cl.vo (k_addPhrase (d := d - 1) hk hRc.p ⟨hm1.1, by omega⟩ aI_45 aI_46 ⟨by decide, by decide⟩ ha (by omega) hb (by omega) (by omega) (by omega) ⟨hi.1, by omega⟩ ⟨hp0, by omega⟩ ⟨by decide, by decide⟩ (iR_of (by omega) (by omega)) hSt (by omega)) (by omega) (fun s4 hS4 h4 => ⟨iR_of (by omega) (by omega), fun _ _ _ _ _ _ => ?_⟩)
        obtain ⟨hadd, hF4⟩ := h4
        obtain ⟨R, hRR⟩ := RowR_ex (a := a) (b := b) (by omega)
        have hcj : ∀ mi R j, 0 ≤ mi 1 → comesS mi R 0 (10 + 5 * unl x.2.2 (i, j, p, w)) 0 = mi 0 := fun mi R j hz => by rw [comesS_at hz, if_neg (by omega), if_neg (by omega), if_neg (by omega), if_neg (by omega)]
        have hGn : ∀ mi R, RK τ k mi → GM mi → mi 0 = z → RowR R a b → GM (comesS mi R 0 (10 + 5 * unl x.2.2 (i, j, p, w))) := fun mi R hRi hGi ei hR2 => by
          have em1 : mi 1 = mc 1 := by rw [← hRi.p, hRc.p]
          exact hGi.comes (by omega) (RowR_G hR2 (by omega) (by omega) (by rw [ei]; exact hwa) (by rw [ei]; exact hwb)) (by omega)
        have e9 : sc s4 k 9 = sc τ k 9 + 1 := by
          rw [(hadd mc R hRc hGc hRR).p, comesS_at hm1.1, if_pos rfl, hRc.p]
        refine next s4 (c + 1) hS4 (q.go hk hF4 (hadd mc R hRc hGc hRR) (hGn mc R hRc hGc ez hRR) (by rw [hcj mc R j hm1.1]; exact ez)) (by omega) (by omega) (fun u v m' hu => ?_)
        obtain ⟨mi, hb2, hRi, hGi, ei⟩ := hO1 u v m' hu
        have eal := hRc.alk hRi hGc.wf hGi.wf a b
        have em1 : mi 1 = mc 1 := by rw [← hRi.p, hRc.p]
        obtain ⟨R', hRR', hb3⟩ := (hb2.2 (by rw [← eal]; exact c1)).2 (by rw [em1]; exact c2)
        rw [show c0 + c + 1 = c0 + (c + 1) by omega] at hb3
        exact ⟨_, hb3, hadd mi R' hRi hGi hRR', hGn mi R' hRi hGi ei hRR', by rw [hcj mi R' j hGi.wf.1.2.1.1]; exact ei⟩
      · obtain ⟨mi, hb2, hRi, hGi, ei⟩ := hO1 u v m' hu
        have eal := hRc.alk hRi hGc.wf hGi.wf a b
        have em1 : mi 1 = mc 1 := by rw [← hRi.p, hRc.p]
        exact (hb2.2 (by rw [← eal]; exact c1)).1 (by rw [em1]; exact c2)
      · have hp := show 0 ≤ alkL mc a b ∧ alkL mc a b < mc 1 by omega
        have hco := hRc.co _ hp.1 hp.2
        have hcb := (hGc.wf.2.1 _ hp.1 hp.2)
        have icost : iR (ia τ (k + 7) (alkL mc a b)) := hSt.1 _ _
        have hcb2 : 0 ≤ of_ mc (alkL mc a b) 8 ∧ of_ mc (alkL mc a b) 8 ≤ 99 := by
          unfold of_ at hcb ⊢
          omega
        refine EI.k (j_max (d := d - 1) (iR_lit rfl) (iR_of (by omega) (by omega)) hSt) (by omega) (fun _ _ _ _ _ _ _ hS5 => ?_)
        have hup : ∀ mi, RK τ k mi → GM mi → RK (setI τ (k + 7) (alkL mc a b) (max 0 (ia τ (k + 7) (alkL mc a b) - 1))) k (lrCost mi (alkL mc a b)) := fun mi hRi hGi => by
          have em1 : mi 1 = mc 1 := by rw [← hRi.p, hRc.p]
          have := hRi.upP (v := max 0 (ia τ (k + 7) (alkL mc a b) - 1)) (i := 7) (w := 8) hGi (show 0 ≤ alkL mc a b ∧ alkL mc a b < mi 1 by omega) (Or.inl ⟨rfl, rfl⟩)
          unfold lrCost
          rw [cost_max] at this ⊢
          have ec : ia τ (k + 7) (alkL mc a b) = mi (369 + 10 * alkL mc a b + 8) := hRi.co _ hp.1 (by omega)
          rw [ec] at this ⊢
          exact this
        have hFk : Fr (Kcl k) τ (setI τ (k + 7) (alkL mc a b) (max 0 (ia τ (k + 7) (alkL mc a b) - 1))) := (Fr.refl τ).I ⟨by omega, by omega⟩
        have hc0' : ∀ mi p, 0 ≤ p → lrCost mi p 0 = mi 0 := fun mi p hz => up_ne (by omega)
        refine next _ c hS5 (q.go hk hFk (hup mc hRc hGc) (hGc.cost hp) (by rw [hc0' mc _ hp.1]; exact ez)) hc hc0 (fun u v m' hu => ?_)
        obtain ⟨mi, hb2, hRi, hGi, ei⟩ := hO1 u v m' hu
        have eal := hRc.alk hRi hGc.wf hGi.wf a b
        have em1 : mi 1 = mc 1 := by rw [← hRi.p, hRc.p]
        have hb3 := hb2.1 (by rw [← eal]; exact c1)
        rw [← eal] at hb3
        exact ⟨_, hb3, hup mi hRi hGi, hGi.cost (by omega), by rw [hc0' mi _ hp.1]; exact ei⟩
theorem c_enter {G : Int → Int → (Int → Int) → Prop} {x : Les} {z : Int} (hk : isK k) (h : LeE σ σ k x z) (hI : LIn x.1.length x.2.1.length x.2.2) (hv1 : ∀ w ∈ x.1, 0 ≤ w ∧ w < z) (hv2 : ∀ w ∈ x.2.1, 0 ≤ w ∧ w < z) (hG : OcG G x σ k z (qI x.1.length x.2.1.length 0) 0) (hS : SR σ) (hd : 4 ≤ d) : Eb g ad d mX3_enter 0 0 [.ref (ad k), .ref (ad 37)] σ (Ki fun r s => EhP G x σ s k z [] 0 r) := by
  have hla := h.ls.2.2.2.2.2.1
  have h9b : ∀ {τ}, LeE σ τ k x z → 0 ≤ sc τ k 9 ∧ sc τ k 9 ≤ 30 := fun {τ} q => by
    obtain ⟨mc, hR, hGm, -⟩ := q.mc
    have := hGm.wf.1.2.1
    rw [hR.p]
    exact this
  have h9σ := h9b h
  refine EbS rfl pl_X3 rfl rfl (bX3_enter_0 hk hS ?_)
  intro _ _ _
  refine up_loop (P := fun i => ∀ (τ : SG) (c : Int), SR τ → LeE σ τ k x z → c = sc τ k 9 - sc σ k 9 → 0 ≤ c → OcG G x τ k z (qI x.1.length x.2.1.length i) c → aX3_enter_4 g ad d (Ki fun r s => EhP G x σ s k z [] 0 r) 0 0 τ c i k) (hi := (x.1.length : Int)) 0 (by omega) ?_ ?_ σ 0 hS h (by omega) (by omega) hG
  · intro τ c hSt q hc hc0 hO
    have h11 := q.ls.1
    have hb9 := h9b q
    refine bX3_enter_4 hk (iR_of (by omega) (by omega)) (iR_of (by omega) (by omega)) hSt ⟨fun _ => re_i ⟨q, fun z => by omega, fun _ => ⟨hc, hc0, ?_⟩⟩, fun z => absurd (by rw [h11]; omega) z⟩
    rw [qI_end (Int.le_refl _)] at hO
    rw [Int.zero_add]
    exact hO
  · intro i hi0 hi1 ihi τ c hSt q hc hc0 hO
    have h11 := q.ls.1
    have hb9 := h9b q
    have ii : iR i := iR_of (by omega) (by omega)
    refine bX3_enter_4 hk (iR_of (by omega) (by omega)) ii hSt ⟨fun z => absurd z (by rw [h11]; omega), fun _ _ _ _ _ => ?_⟩
    rw [qI_cons hi1] at hO
    refine up_loop (P := fun j => ∀ (τ : SG) (c : Int), SR τ → LeE σ τ k x z → c = sc τ k 9 - sc σ k 9 → 0 ≤ c → OcG G x τ k z (qJ x.1.length x.2.1.length i j ++ qI x.1.length x.2.1.length (i + 1)) c → aX3_enter_15 g ad d (Ki fun r s => EhP G x σ s k z [] 0 r) 0 0 τ c i j k) (hi := min (x.1.length : Int) (i + 3)) i (by omega) ?_ ?_ τ c hSt q hc hc0 hO
    · intro τ c hSt q hc hc0 hO
      rw [qJ_end (by omega)] at hO
      have h11 := q.ls.1
      have hb9 := h9b q
      have nx : iR (i + 1) ∧ (iR c → iR (i + 1) → SR τ → aX3_enter_4 g ad d (Ki fun r s => EhP G x σ s k z [] 0 r) 0 0 τ c (i + 1) k) := ⟨iR_of (by omega) (by omega), fun _ _ _ => ihi τ c hSt q hc hc0 hO⟩
      exact bX3_enter_15 hk (iR_of (by omega) (by omega)) ii (iR_of (by omega) (by omega)) hSt ⟨fun _ => nx, fun c1 => ⟨iR_of (by omega) (by omega), fun _ => nx, fun c2 => absurd (by rw [h11] at c1; omega) c2⟩⟩
    · intro j hj0 hj1 ihj τ c hSt q hc hc0 hO
      have h11 := q.ls.1
      have hb9 := h9b q
      rw [qJ_cons (by omega) (by omega), List.append_assoc] at hO
      refine bX3_enter_15 hk (iR_of (by omega) (by omega)) ii (iR_of (by omega) (by omega)) hSt ⟨fun c1 => absurd c1 (by rw [h11]; omega), fun _ => ⟨iR_of (by omega) (by omega), fun c1 => absurd c1 (by omega), fun _ => ?_⟩⟩
      refine Cl.i (c_enterAhead (d := d - 1) hk (⟨q.ls, Fr.refl τ, q.mc⟩ : LeE τ τ k x z) hI hv1 hv2 ⟨hi0, hj0, by omega, by omega⟩ hO hSt (by omega)) (by omega) (fun r s hr hSs hE => ?_)
      obtain ⟨qs, hbad, hok⟩ := hE
      have qs' : LeE σ s k x z := ⟨qs.ls, q.fr.trans qs.fr, qs.mc⟩
      have hb9' := h9b qs'
      refine ⟨fun c1 => ?_, fun c1 => re_i ⟨qs', fun _ => hbad c1, fun z => absurd rfl z⟩⟩
      obtain ⟨e9, h0, hO'⟩ := hok c1
      refine ⟨iR_of (by omega) (by omega), iR_of (by omega) (by omega), fun _ _ _ _ => ihj s (c + r) hSs qs' (by omega) (by omega) hO'⟩
end LES2

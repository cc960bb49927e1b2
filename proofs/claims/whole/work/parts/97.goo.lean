/-- what Ways stand on -/
def WB (s : SG) (m0 m : Int → Int) (k : Nat) : Prop := (RK s k m0) ∧ (WF m0) ∧ (VA m0 m (-1)) ∧ (OPT s m0 k) ∧ (OPT s m k) ∧ (KNT s m) ∧ (sc s 58 6 = m 6) ∧ (sc s 58 7 = m 7) ∧ (RST s m)
theorem WB.rk {s : SG} {m0 m : Int → Int} {k : Nat} (h_ : WB s m0 m k) : RK s k m0 := h_.1
theorem WB.w0 {s : SG} {m0 m : Int → Int} {k : Nat} (h_ : WB s m0 m k) : WF m0 := h_.2.1
theorem WB.va {s : SG} {m0 m : Int → Int} {k : Nat} (h_ : WB s m0 m k) : VA m0 m (-1) := h_.2.2.1
theorem WB.o0 {s : SG} {m0 m : Int → Int} {k : Nat} (h_ : WB s m0 m k) : OPT s m0 k := h_.2.2.2.1
theorem WB.op {s : SG} {m0 m : Int → Int} {k : Nat} (h_ : WB s m0 m k) : OPT s m k := h_.2.2.2.2.1
theorem WB.kn {s : SG} {m0 m : Int → Int} {k : Nat} (h_ : WB s m0 m k) : KNT s m := h_.2.2.2.2.2.1
theorem WB.j6 {s : SG} {m0 m : Int → Int} {k : Nat} (h_ : WB s m0 m k) : sc s 58 6 = m 6 := h_.2.2.2.2.2.2.1
theorem WB.j7 {s : SG} {m0 m : Int → Int} {k : Nat} (h_ : WB s m0 m k) : sc s 58 7 = m 7 := h_.2.2.2.2.2.2.2.1
theorem WB.rs {s : SG} {m0 m : Int → Int} {k : Nat} (h_ : WB s m0 m k) : RST s m := h_.2.2.2.2.2.2.2.2
section GOO
variable {g : AG} {ad : Nat → Nat} {d : Nat} {σ : SG} {m m0 t : Int → Int} {k : Nat}
def Wcl (c : Nat) : Prop := 63 ≤ c ∧ c ≤ 71
theorem WB.fr {s : SG} (h : WB σ m0 m k) (hk : isK k) (hF : Fr Wcl σ s) : WB s m0 m k := by
  have hkb := isK_b hk
  refine ⟨h.rk.fr hF (fun c hc z => ?_), h.w0, h.va, h.o0.fr hF (fun c hc z => ?_), h.op.fr hF (fun c hc z => ?_), h.kn.fr hF (fun c hc z => ?_), ?_, ?_, h.rs.fr hF (fun c hc z => ?_)⟩
  · unfold Kcl at hc
    unfold Wcl at z
    omega
  · unfold Ocl at z
    unfold Wcl at hc
    omega
  · unfold Ocl at z
    unfold Wcl at hc
    omega
  · unfold Kno at z
    unfold Wcl at hc
    omega
  · rw [hF.sc 58 6 (fun z => by unfold Wcl at z; omega)]
    exact h.j6
  · rw [hF.sc 58 7 (fun z => by unfold Wcl at z; omega)]
    exact h.j7
  · unfold Kno at z
    unfold Wcl at hc
    omega
/-- what an option costs where it stands, under the row otherwise -/
theorem wb_standing {i x2 : Int} {q : Op} (hk : isK k) (hB : WB σ m0 m k) (hi : 0 ≤ i ∧ i < 186) (hq : (ops m)[i.toNat]? = some q) (h2 : 0 ≤ x2 ∧ x2 ≤ 40) (hS : SR σ) (hd : 1 ≤ d) : EI g ad d mX5_standing [.ref (ad 48), vi i, vi x2] σ (stdM m (wx x2) q) σ := by
  rw [va_ops1 hB.va] at hq
  have hm := ops_mem (List.mem_of_getElem? hq)
  have hE := hB.o0.l.2 _ q hq
  rw [show ((i.toNat : Nat) : Int) = i by omega] at hE
  have h := o_standing (g := g) (ad := ad) (d := d) hk hB.rk hB.w0 hB.o0.kn hE hi ⟨hm.1, hm.2.1⟩ h2 hS hd
  rw [← (va_std hB.va hB.w0 hm.2.1 hm.1.1).1] at h
  exact h
theorem Ek.f {s : SG} (h : Ek σ s) : Fr Wcl σ s := h.1.mono (fun c hc => ⟨hc.1, by omega⟩)
theorem QA.cv {τ s : SG} {T : List En} (h60 : ia τ 60 = ia σ 60) (h5 : kN τ = kN σ) (h : QA σ s m T) : QA τ s m T := by
  refine ⟨h.1, fun p y hp => ?_⟩
  have := h.2 p y hp
  unfold QE KE at this ⊢
  rw [h60, h5]
  exact this
/-! the key of one step more -/
theorem dgP_mul : ∀ (n : Nat) (p : List Op), p.length ≤ n → opA m p → W0 m → ∃ r, 0 ≤ r ∧ dgP m n p = r * 256 ^ (n - p.length)
  | n, [], _, _, _ => ⟨0, Int.le_refl _, by rw [dgP_nil, Int.zero_mul]⟩
  | 0, q :: l, h, _, _ => by rw [List.length_cons] at h; omega
  | n + 1, q :: l, h, ho, h0 => by
    rw [List.length_cons] at h
    obtain ⟨r, hr, e⟩ := dgP_mul n l (by omega) ho.tl.2 h0
    have hi := (ix_b h0 ho.tl.1).1
    refine ⟨(ix m q + 1) * 256 ^ l.length + r, Int.add_nonneg (Int.mul_nonneg (by omega) (by have := pow256 l.length; omega)) hr, ?_⟩
    show (ix m q + 1) * 256 ^ n + dgP m n l = _
    rw [List.length_cons, Nat.add_sub_add_right, e, Int.add_mul ((ix m q + 1) * 256 ^ l.length) r, Int.mul_assoc (ix m q + 1), ← Int.pow_add, show l.length + (n - l.length) = n by omega]
theorem shl_step {j a : Int} (hj : 0 ≤ j ∧ j < 186) (ha : 0 ≤ a ∧ a < 6) : lShl (j + 1) (8 * (5 - a)) = (j + 1) * 256 ^ (5 - a).toNat := by
  have hc : a = 0 ∨ a = 1 ∨ a = 2 ∨ a = 3 ∨ a = 4 ∨ a = 5 := by omega
  rcases hc with rfl | rfl | rfl | rfl | rfl | rfl
  · exact lShl_n (n := 40) (by decide) (by omega) (by omega)
  · exact lShl_n (n := 32) (by decide) (by omega) (by omega)
  · exact lShl_n (n := 24) (by decide) (by omega) (by omega)
  · exact lShl_n (n := 16) (by decide) (by omega) (by omega)
  · exact lShl_n (n := 8) (by decide) (by omega) (by omega)
  · exact lShl_n (n := 0) (by decide) (by omega) (by omega)
theorem pw8 (n : Nat) : (2 : Int) ^ (8 * n) = 256 ^ n := by rw [Int.pow_mul]; rfl
theorem key_n {c : Int} {p : List Op} {q : Op} (h0 : W0 m) (hc : 0 ≤ c ∧ c < 10000) (hp : opA m p) (hq : q ∈ ops m) (hl : p.length < 6) : lOr (lOr (lShl c 48) (dgP m 6 p)) (lShl (ix m q + 1) (8 * (5 - (p.length : Int)))) = c * 281474976710656 + dgP m 6 (p ++ [q]) := by
  have hd := dgP_b h0 6 p hp
  rw [p256] at hd
  have hi := (ix_b h0 hq).1
  rw [lShl_n sh48 hc.1 (by omega), lOr_add (n := 48) hc.1 hd (by omega), shl_step ⟨hi.1, hi.2.2⟩ ⟨by omega, by omega⟩, dgP_app 6 p [q] (by omega)]
  obtain ⟨r, hr, e⟩ := dgP_mul 6 p (by omega) hp h0
  have e5 : (5 - (p.length : Int)).toNat = 5 - p.length := by omega
  have hP := pow256 (5 - p.length)
  have hd2 := dgP_b h0 6 (p ++ [q]) (hp.app (fun z hz => by rw [List.mem_singleton.mp hz]; exact hq))
  rw [p256, dgP_app 6 p [q] (by omega)] at hd2
  have e1 : dgP m (6 - p.length) [q] = (ix m q + 1) * 256 ^ (5 - p.length) := by
    rw [show 6 - p.length = (5 - p.length) + 1 by omega]
    show (ix m q + 1) * 256 ^ (5 - p.length) + dgP m (5 - p.length) [] = _
    rw [dgP_nil]
    omega
  rw [e1] at hd2 ⊢
  rw [e5]
  have e48 : (281474976710656 : Int) = 256 ^ p.length * 256 ^ (6 - p.length) := by
    rw [← Int.pow_add, show p.length + (6 - p.length) = 6 by omega, p256]
  have e6 : c * 2 ^ 48 + dgP m 6 p = (c * 256 ^ p.length + r) * 2 ^ (8 * (6 - p.length)) := by
    rw [e, pw8, Int.add_mul, Int.mul_assoc, ← e48]
    rfl
  have hb : 0 ≤ (ix m q + 1) * 256 ^ (5 - p.length) ∧ (ix m q + 1) * 256 ^ (5 - p.length) < 2 ^ (8 * (6 - p.length)) := by
    rw [pw8, show 6 - p.length = (5 - p.length) + 1 by omega, Int.pow_succ]
    refine ⟨Int.mul_nonneg (by omega) (by omega), ?_⟩
    rw [Int.mul_comm (256 ^ (5 - p.length)) 256]
    have h1 : (ix m q + 1) * 256 ^ (5 - p.length) ≤ 255 * 256 ^ (5 - p.length) := Int.mul_le_mul_of_nonneg_right (by omega) (by omega)
    omega
  have h2 : 0 ≤ c * 256 ^ p.length + r := Int.add_nonneg (Int.mul_nonneg hc.1 (by have := pow256 p.length; omega)) hr
  have h3 := lOr_add (a := c * 256 ^ p.length + r) (n := 8 * (6 - p.length)) h2 hb (by
    rw [← e6]
    have : (2 : Int) ^ 48 = 281474976710656 := by decide
    omega)
  rw [← e6] at h3
  rw [h3]
  have : (2 : Int) ^ 48 = 281474976710656 := by decide
  omega
theorem lR_key (hW : WF m) {e : En} (h : VE m e) : 0 ≤ keyE m e ∧ keyE m e < 1000000000000000000 := by
  have := h.kb hW
  unfold keyE
  omega
theorem lR_of' {z : Int} (h : 0 ≤ z ∧ z < 1000000000000000000) : lR z := ⟨by omega, by omega⟩
theorem kids_cons {e : En} {q : Op} {l : List Op} : kids m e (q :: l) = if kB m e.x q = true then chE m e q :: kids m e l else kids m e l := by
  unfold kids
  by_cases c : kB m e.x q = true
  · rw [if_pos c, List.filter_cons_of_pos c, List.map_cons]
  · rw [if_neg c, List.filter_cons_of_neg c]
theorem w_goOn {R : List Wy} {Q : List En} {e : En} {i : Int} (hk : isK k) (hB : WB σ m0 m k) (hW : WF m) (hQ : QA σ σ m Q) (hn : sc σ 63 8 = (R.length : Int)) (hws : Ws m R Q (kids m e (ops m))) (hv : VE m e) (hf : ¬ e.x.1 = fullM m) (hK : KE σ e i) (hS : SR σ) (hd : 3 ≤ d) : Eb g ad d mX9_goOn 0 0 [.ref (ad 63), vl (dgP m 6 e.p), vi i, vi e.c, vi e.p.length] σ (Kv fun s => QA σ s m ((kids m e (ops m)).foldl (enq m R.length) Q) ∧ Ek σ s) := by
  have hnb := hB.kn.nb
  have h3 := hW.1.2.2.2.1
  have h6 := hW.1.2.2.2.2.2.2.1
  have h7 := hW.1.2.2.2.2.2.2.2.1
  have hKi := hK.1
  have hvc := (hB.kn.vd i hK.1.1 hK.1.2).1
  have hvb := vC_b hW.1 hvc
  have hm0 := hW.1.1
  have hkb := hv.kb hW
  have hcs := hv.cst
  have hpc := pc6 e.x
  have hln := hv.ln
  have ex : ndC (ia σ 60 i) = e.x := hK.2
  have e1 : ia σ 60 i / 287 = e.x.1 := by rw [← ex]; rfl
  have e2 : ia σ 60 i / 41 % 7 = e.x.2.1 := by rw [← ex]; rfl
  have e3 : wx (ia σ 60 i % 41) = e.x.2.2 := by rw [← ex]; rfl
  have hx := hv.nd
  -- it isn't at the end: a step more is there
  have hl5 : e.p.length < 6 := by
    obtain ⟨w, hw⟩ := List.exists_mem_of_ne_nil _ hv.fin
    have hw' : (e.c + w.1, e.p ++ w.2) ∈ TE m e := List.mem_map.mpr ⟨w, hw, rfl⟩
    obtain ⟨q, hq, hmy, _⟩ := (TE_step hW hv hf).mp hw'
    have := stp_nd hW hx (List.mem_filter.mp hq).1 hmy
    have hl := hv.len
    omega
  have ii : iR i := iR_of (by omega) (by omega)
  have ic : iR e.c := iR_of (by omega) (by omega)
  have ip : iR (e.p.length : Int) := iR_of (by omega) (by omega)
  have ir_ : lR (dgP m 6 e.p) := lR_of' ⟨by omega, by omega⟩
  refine EbS rfl pl_X9 rfl rfl (bX9_goOn_0 ir_ ii ic ip hS ?_)
  refine EI.k (n_mask (d := d - 1) ⟨hK.1.1, by omega⟩ hvc.1 hS) (by omega) (fun i1 _ => ?_)
  refine EI.k (n_behind (d := d - 1) ⟨hK.1.1, by omega⟩ hvc.1 hS) (by omega) (fun i2 _ => ?_)
  refine EI.k (n_last (d := d - 1) ⟨hK.1.1, by omega⟩ hvc.1 hS) (by omega) (fun i3 _ => ?_)
  intro _ _ _ _ _ _ _ _ hS0
  have hol := ops_len hW.1
  refine up_loop (P := fun j => 0 ≤ j → ∀ (τ : SG) (QQ : List En), SR τ → Ek σ τ → QA σ τ m QQ → Ws m R QQ (kids m e ((ops m).drop j.toNat)) → (kids m e ((ops m).drop j.toNat)).foldl (enq m R.length) QQ = (kids m e (ops m)).foldl (enq m R.length) Q → aX9_goOn_33 g ad d (Kv fun s => QA σ s m ((kids m e (ops m)).foldl (enq m R.length) Q) ∧ Ek σ s) 0 0 τ (dgP m 6 e.p) i e.c e.p.length (ia σ 60 i / 287) (ia σ 60 i / 41 % 7) (ia σ 60 i % 41) j) (hi := ((ops m).length : Int)) 0 (by omega) ?_ ?_ (Int.le_refl _) σ Q hS0 Ek.refl hQ hws rfl
  · intro _ τ QQ hSt hE hQQ _ hfin
    have hBt := hB.fr hk hE.f
    rw [Int.toNat_natCast, List.drop_length] at hfin
    have hfin' : QQ = (kids m e (ops m)).foldl (enq m R.length) Q := hfin
    refine bX9_goOn_33 ir_ ii ic ip i1 i2 i3 (iR_of (by omega) (by omega)) hSt ⟨fun _ => re_v ?_, fun z => absurd (by rw [hBt.op.l.1]; exact Int.le_refl _) z⟩
    rw [← hfin']
    exact ⟨hQQ, hE⟩
  · intro j hj0 hj1 ih hjj τ QQ hSt hE hQQ hwsj hfin
    have hBt := hB.fr hk hE.f
    obtain ⟨q, hget, hdr, hOE, hq⟩ := hBt.op.at hj0 hj1
    have hqm : q ∈ ops m := List.mem_of_getElem? hget
    have ij : iR j := iR_of (by omega) (by omega)
    have ij1 : iR (j + 1) := iR_of (by omega) (by omega)
    have eix : ix m q = j := by
      have := ix_at hW.1 hget
      omega
    rw [hdr, kids_cons] at hwsj hfin
    have e60 : ia τ 60 = ia σ 60 := hE.1.ia 60 (by omega)
    have e59 : ia τ 59 = ia σ 59 := hE.1.ia 59 (by omega)
    have e61 : ia τ 61 = ia σ 61 := hE.1.ia 61 (by omega)
    have e5 : kN τ = kN σ := hE.1.sc 58 5 (by omega)
    -- on with the next
    have nxt : ∀ (r1 : Int), iR r1 → ∀ (u : SG) (Q2 : List En), SR u → Ek σ u → QA σ u m Q2 → Ws m R Q2 (kids m e ((ops m).drop (j + 1).toNat)) → (kids m e ((ops m).drop (j + 1).toNat)).foldl (enq m R.length) Q2 = (kids m e (ops m)).foldl (enq m R.length) Q → aX9_goOn_207 g ad d (Kv fun s => QA σ s m ((kids m e (ops m)).foldl (enq m R.length) Q) ∧ Ek σ s) 0 0 u (dgP m 6 e.p) i e.c e.p.length (ia σ 60 i / 287) (ia σ 60 i / 41 % 7) (ia σ 60 i % 41) j r1 := fun r1 hr1 u Q2 hSu hEu hQu hwu hfu =>
      bX9_goOn_207 ir_ ii ic ip i1 i2 i3 ij hr1 hSu ⟨ij1, fun _ _ _ _ _ _ _ _ hS' => ih (by omega) u Q2 hS' hEu hQu hwu hfu⟩
    have hgap := apB_b (a := q.1) (b := ia σ 60 i / 41 % 7) (by omega) hvb.2.2.1
    refine bX9_goOn_33 ir_ ii ic ip i1 i2 i3 ij hSt ⟨fun z => absurd z (by rw [hBt.op.l.1]; omega), fun _ => ?_⟩
    refine EI.k (o_gap (d := d - 1) hOE ⟨hj0, by omega⟩ (by omega) hvb.2.2.1 hSt (by omega)) (by omega) (fun ig _ => ⟨⟨hj0, by omega⟩, ?_⟩)
    rw [hOE.cv]
    have hmy := mayB_opt (x := e.x) (q := q) hq.2.2
    refine ⟨fun c1 _ _ _ _ _ _ _ _ _ hS' => ?_, fun c1 => ⟨fun c2 => ?_, fun c2 _ _ _ _ _ _ _ _ _ hS' => ?_⟩⟩
    · have hkF : ¬ kB m e.x q = true := by
        unfold kB
        rw [hmy, ← e1, decide_eq_false c1, Bool.and_false, Bool.false_and]
        decide
      rw [if_neg hkF] at hwsj hfin
      exact nxt _ ig τ QQ hS' hE hQQ hwsj hfin
    rotate_left
    · rw [hBt.j7] at c2
      have hkF : ¬ kB m e.x q = true := by
        unfold kB
        rw [hmy, ← e2, decide_eq_false c2, Bool.false_and, Bool.false_and]
        decide
      rw [if_neg hkF] at hwsj hfin
      exact nxt _ ig τ QQ hS' hE hQQ hwsj hfin
    rw [hBt.j7] at c2
    have hmyT : myB m e.x q = true := by
      rw [hmy, ← e1, ← e2, decide_eq_true c2, decide_eq_true c1]
      rfl
    have hst := hB.kn.step hW hK.1 hqm c1
    refine EI.k (n_follow (d := d - 1) hW hOE ⟨hj0, by omega⟩ hq hvb.1 hvb.2.2.2 (by rw [e59]; omega) hSt (by omega)) (by omega) (fun _ _ => ?_)
    rw [e59]
    generalize hto : ia σ 59 (cdB m (ia σ 60 i / 287) (ia σ 60 i % 41) q) - 1 = to_ at hst
    rw [ex] at hst
    have hrs := hB.rs to_ (by omega) hst.1.2
    rw [hst.2] at hrs
    refine ⟨fun c3 => absurd c3 (by omega), fun _ => ⟨⟨by omega, by omega⟩, ?_⟩⟩
    rw [e61, hrs]
    refine ⟨fun c4 => ?_, fun c4 _ _ _ _ _ _ _ _ _ hS' => ?_⟩
    rotate_left
    · have hkF : ¬ kB m e.x q = true := by
        unfold kB
        rw [decide_eq_false c4, Bool.and_false]
        decide
      rw [if_neg hkF] at hwsj hfin
      exact nxt _ ig τ QQ hS' hE hQQ hwsj hfin
    have hkT : kB m e.x q = true := by
      unfold kB
      rw [hmyT, decide_eq_true c4]
      rfl
    rw [if_pos hkT] at hwsj hfin
    have hvq := hwsj.vp _ (List.mem_cons_self ..)
    have hkq := hvq.kb hW
    have hcq := hvq.cst
    have hpq := pc6 (chE m e q).x
    have ers : rsM m (stp m e.x q) = rsN m (stp m e.x q) := by
      unfold rsM at c4 ⊢
      show min (restM m _ _ _) 1000000 = restM m _ _ _
      omega
    refine EI.k (wb_standing (d := d - 1) hk hBt ⟨hj0, by omega⟩ hget (by omega) hSt (by omega)) (by omega) (fun _ _ => ?_)
    have hw := weigh_std hW (place := e.x.2.1) (last := e.x.2.2) hq.2.1
    have ewg : wgt m e.x q = stdM m (wx (ia σ 60 i % 41)) q + m 6 * apB q.1 (ia σ 60 i / 41 % 7) := by
      show (weigh m e.x.2.1 e.x.2.2 q.1 q.2).1 = _
      rw [hw, e2, e3]
    rw [hBt.j6, e61, hrs, ers]
    have ecq : e.c + stdM m (wx (ia σ 60 i % 41)) q + m 6 * apB q.1 (ia σ 60 i / 41 % 7) = (chE m e q).c := by
      show _ = e.c + wgt m e.x q
      rw [ewg]
      omega
    rw [ecq]
    have exq : (chE m e q).x = stp m e.x q := rfl
    rw [exq] at hkq
    have hkey : lOr (lOr (lShl ((chE m e q).c + rsN m (stp m e.x q)) 48) (dgP m 6 e.p)) (lShl (j + 1) (8 * (5 - (e.p.length : Int)))) = keyE m (chE m e q) := by
      rw [← eix]
      exact key_n hW.1 (by omega) hv.op hqm hl5
    have elen : (e.p.length : Int) + 1 = ((chE m e q).p.length : Int) := by
      show _ = ((e.p ++ [q]).length : Int)
      rw [List.length_append, List.length_singleton]
      omega
    rw [hkey, elen]
    refine ⟨ij1, iR_of (by omega) (by omega), ?_⟩
    rw [List.foldl_cons] at hfin
    have henq := w_enq (g := g) (ad := ad) (d := d - 1) (σ := τ) (m := m) (i := to_) (e := chE m e q) (Q := QQ) (n := R.length) hwsj.so (QA.cv e60 e5 hQQ) ⟨by rw [e5]; exact ⟨by omega, hst.1.2⟩, by rw [e60]; exact hst.2⟩ (by rw [e5]; omega) (by rw [hE.2 8 (by decide)]; exact hn) hwsj.bd (fun y hy => lR_of' (lR_key hW (by
      rcases hy with rfl | hy
      · exact hvq
      · exact hwsj.vq y hy))) (iR_of (by omega) (by omega)) hvq.ln hSt
    refine Cl.vo henq (by omega) (fun s9 hS9 h9 _ _ _ _ _ _ _ _ _ hS' => ?_)
    exact nxt _ ig s9 _ hS' (hE.trans h9.2) (QA.cv e60.symm e5.symm h9.1) (hwsj.enq hW) hfin
end GOO

section OP2
variable {g : AG} {ad : Nat → Nat} {d : Nat} {σ : SG} {m t : Int → Int} {k : Nat}
theorem OPT.at {i : Int} (h : OPT σ m k) (h0 : 0 ≤ i) (h1 : i < (ops m).length) : ∃ q, (ops m)[i.toNat]? = some q ∧ (ops m).drop i.toNat = q :: (ops m).drop (i + 1).toNat ∧ OpE σ m i q ∧ ((0 ≤ q.1 ∧ q.1 < m 3) ∧ isO m q.2 ∧ isOpt m q.2 q.1 = true) := by
  have hi : i.toNat < (ops m).length := by omega
  refine ⟨(ops m)[i.toNat], List.getElem?_eq_getElem hi, ?_, ?_, ops_mem (List.getElem_mem hi)⟩
  · rw [drop_cons hi, show (i + 1).toNat = i.toNat + 1 by omega]
  · have := h.l.2 i.toNat _ (List.getElem?_eq_getElem hi)
    rw [show ((i.toNat : Nat) : Int) = i by omega] at this
    exact this
theorem o_full (h : OPT σ m k) (hW : WF m) (hS : SR σ) : EI g ad d mX5_full [.ref (ad 48)] σ (fullM m) σ := by
  have h3 := hW.1.2.2.2.1
  have hb := fullM_b hW.1
  have e : bShl 1 (m 3) - 1 = fullM m := by
    unfold fullM
    have h1 : (m 3).toNat < 7 := by omega
    have : ∀ a : Fin 7, bShl 1 (a.val : Int) - 1 = 2 ^ a.val - 1 := by decide
    have := this ⟨(m 3).toNat, h1⟩
    rw [show (((⟨(m 3).toNat, h1⟩ : Fin 7).val : Nat) : Int) = m 3 from by show (((m 3).toNat : Nat) : Int) = _; omega] at this
    exact this
  refine EbS rfl pl_X5 rfl rfl (bX5_full_0 hS ?_)
  rw [h.pl, e]
  exact ⟨iR_of (by omega) (by omega), re_i ⟨rfl, rfl⟩⟩
theorem o_howOften {x1 : Int} (h : OPT σ m k) (hW : WF m) (h1 : iR x1) (hS : SR σ) : EI g ad d mX5_howOften [.ref (ad 48), vi x1] σ (((ops m).filter (fun q => decide (q.2 = x1))).length : Int) σ := by
  have hl := ops_len hW.1
  refine EbS rfl pl_X5 rfl rfl (bX5_howOften_0 h1 hS ?_)
  intro _ _ _ _
  refine up_loop (P := fun i => ∀ n : Int, (0 ≤ n ∧ n ≤ i) → n + (((ops m).drop i.toNat).filter (fun q => decide (q.2 = x1))).length = (((ops m).filter (fun q => decide (q.2 = x1))).length : Int) → aX5_howOften_4 g ad d (Ki fun r s => r = (((ops m).filter (fun q => decide (q.2 = x1))).length : Int) ∧ s = σ) 0 0 σ x1 n i) (hi := ((ops m).length : Int)) 0 (by omega) ?_ ?_ 0 (by omega) (by rw [show (0 : Int).toNat = 0 from rfl, List.drop_zero]; omega)
  · intro n hn hv
    rw [List.drop_of_length_le (by omega)] at hv
    refine bX5_howOften_4 h1 (iR_of (by omega) (by omega)) (iR_of (by omega) (by omega)) hS ⟨fun _ => re_i ⟨?_, rfl⟩, fun z => absurd (by rw [h.l.1]; omega) z⟩
    rw [← hv]
    show n = n + ((0 : Nat) : Int)
    omega
  · intro i hi0 hi1 ih n hn hv
    obtain ⟨q, -, hdr, hE, -⟩ := h.at hi0 hi1
    rw [hdr] at hv
    refine bX5_howOften_4 h1 (iR_of (by omega) (by omega)) (iR_of (by omega) (by omega)) hS ⟨fun z => absurd z (by rw [h.l.1]; omega), fun _ => ⟨⟨hi0, by omega⟩, ?_⟩⟩
    rw [hE.nu]
    refine ⟨fun c => ⟨iR_of (by omega) (by omega), iR_of (by omega) (by omega), fun _ _ _ _ => ih (n + 0) (by omega) ?_⟩, fun c => ⟨iR_of (by omega) (by omega), iR_of (by omega) (by omega), fun _ _ _ _ => ih (n + 1) (by omega) ?_⟩⟩
    · rw [List.filter_cons_of_neg (by rw [decide_eq_true_eq]; exact c)] at hv
      omega
    · rw [List.filter_cons_of_pos (by rw [decide_eq_true_eq]; exact c), List.length_cons] at hv
      omega
theorem nod_ir_filter {o : Int} : ∀ (n : Nat) (a b : Int), b = a + n → ((ir a b).filter (fun o' => decide (o' = o))) = if a ≤ o ∧ o < b then [o] else []
  | 0, a, b, h => by rw [ir_nil (by omega), if_neg (by omega)]; rfl
  | n + 1, a, b, h => by
    rw [ir_cons (by omega)]
    by_cases c : a = o
    · rw [List.filter_cons_of_pos (by rw [decide_eq_true_eq]; exact c), nod_ir_filter n (a + 1) b (by omega), if_neg (by omega), if_pos (by omega), c]
    · rw [List.filter_cons_of_neg (by rw [decide_eq_true_eq]; exact c), nod_ir_filter n (a + 1) b (by omega)]
      by_cases c2 : a ≤ o ∧ o < b
      · rw [if_pos c2, if_pos (by omega)]
      · rw [if_neg c2, if_neg (by omega)]
theorem ops_often {p : Int} (hm1 : 0 ≤ m 1 ∧ m 1 ≤ 30) (hm3 : 0 ≤ m 3) (hp : 0 ≤ p ∧ p < m 1) : (((ops m).filter (fun q => decide (q.2 = p))).length : Int) = placesOf m p := by
  have key : ∀ (n : Nat) (s : Int), 0 ≤ s → s + n = m 3 → ((((sr m s).filter (fun q => isOpt m q.2 q.1)).filter (fun q => decide (q.2 = p))).length : Int) = cnt (fun k => isOpt m p k) n s := by
    intro n
    induction n with
    | zero => intro s h0 h1; rw [sr_end (by omega)]; rfl
    | succ n ih =>
      intro s h0 h1
      have := ih (s + 1) (by omega) (by omega)
      have e : sr m s = soS m s ++ sr m (s + 1) := by
        unfold sr
        rw [ir_cons (by omega), List.flatMap_cons]
      rw [e, List.filter_append, List.filter_append, List.length_append, cnt]
      have e2 : ((((soS m s).filter (fun q => isOpt m q.2 q.1)).filter (fun q => decide (q.2 = p))).length : Int) = if isOpt m p s = true then 1 else 0 := by
        rw [List.filter_filter]
        have e3 : (soS m s).filter (fun a => decide (a.2 = p) && isOpt m a.2 a.1) = ((soS m s).filter (fun a => decide (a.2 = p))).filter (fun a => isOpt m a.2 a.1) := by
          rw [List.filter_filter]
          refine List.filter_congr (fun a _ => ?_)
          rw [Bool.and_comm]
        rw [e3]
        have e4 : (soS m s).filter (fun a => decide (a.2 = p)) = [(s, p)] := by
          unfold soS
          rw [List.filter_append, List.filter_map]
          have e5 : (ir 0 (m 1)).filter ((fun a : Op => decide (a.2 = p)) ∘ fun o => (s, o)) = [p] := by
            have := nod_ir_filter (o := p) (m 1).toNat 0 (m 1) (by omega)
            rw [if_pos hp] at this
            exact this
          rw [e5, List.filter_cons_of_neg (by rw [decide_eq_true_eq]; show ¬ (99 : Int) = p; omega)]
          rfl
        rw [e4]
        by_cases c : isOpt m p s = true
        · rw [List.filter_cons_of_pos (by exact c), if_pos c]; rfl
        · rw [List.filter_cons_of_neg (by exact c), if_neg c]; rfl
      omega
  unfold placesOf ops
  exact key (m 3).toNat 0 (by omega) (by omega)
theorem ops_at {s : Int} (h0 : 0 ≤ s ∧ s < m 3) : ((ops m).filter (fun q => decide (q.1 = s))).map (fun q => q.2) = opl m s := by
  have key : ∀ (n : Nat) (a : Int), a + n = m 3 → (((sr m a).filter (fun q => isOpt m q.2 q.1)).filter (fun q => decide (q.1 = s))).map (fun q => q.2) = if a ≤ s then opl m s else [] := by
    intro n
    induction n with
    | zero => intro a h1; rw [sr_end (by omega), if_neg (by omega)]; rfl
    | succ n ih =>
      intro a h1
      have := ih (a + 1) (by omega)
      have e : sr m a = soS m a ++ sr m (a + 1) := by
        unfold sr
        rw [ir_cons (by omega), List.flatMap_cons]
      rw [e, List.filter_append, List.filter_append, List.map_append, this]
      have e2 : soS m a = (ir 0 (m 1) ++ [99]).map (fun o => (a, o)) := by
        unfold soS
        rw [List.map_append]
        rfl
      by_cases c : a = s
      · subst c
        rw [if_neg (by omega), if_pos (by omega), List.append_nil]
        have e3 : ((soS m a).filter (fun q => isOpt m q.2 q.1)).filter (fun q => decide (q.1 = a)) = (soS m a).filter (fun q => isOpt m q.2 q.1) := by
          refine List.filter_eq_self.mpr (fun q hq => ?_)
          have := (List.mem_filter.mp hq).1
          rw [e2, List.mem_map] at this
          obtain ⟨o, -, ho⟩ := this
          rw [← ho]
          exact decide_eq_true rfl
        rw [e3, e2, List.filter_map, List.map_map]
        unfold opl
        have e4 : ((fun q : Op => q.2) ∘ fun o => (a, o)) = (id : Int → Int) := rfl
        rw [e4, List.map_id]
        rfl
      · have e3 : ((soS m a).filter (fun q => isOpt m q.2 q.1)).filter (fun q => decide (q.1 = s)) = [] := by
          refine List.filter_eq_nil_iff.mpr (fun q hq => ?_)
          have := (List.mem_filter.mp hq).1
          rw [e2, List.mem_map] at this
          obtain ⟨o, -, ho⟩ := this
          rw [← ho, decide_eq_true_eq]
          exact c
        rw [e3, List.map_nil, List.nil_append]
        by_cases c2 : a + 1 ≤ s
        · rw [if_pos c2, if_pos (by omega)]
        · rw [if_neg c2, if_neg (by omega)]
  have := key (m 3).toNat 0 (by omega)
  rw [if_pos h0.1] at this
  exact this
theorem o_numberAt {x1 x2 : Int} (h : OPT σ m k) (hW : WF m) (h1 : 0 ≤ x1 ∧ x1 < m 3) (h2 : iR x2) (hS : SR σ) : EI g ad d mX5_numberAt [.ref (ad 48), vi x1, vi x2] σ (nthO (opl m x1) x2) σ := by
  have hl := ops_len hW.1
  have hm3 := hW.1.2.2.2.1
  have i1 : iR x1 := iR_of (by omega) (by omega)
  refine EbS rfl pl_X5 rfl rfl (bX5_numberAt_0 i1 h2 hS ?_)
  intro _ _ _ _ _
  refine up_loop (P := fun i => ∀ n : Int, (0 ≤ n ∧ n ≤ i) → nthO ((((ops m).drop i.toNat).filter (fun q => decide (q.1 = x1))).map (fun q => q.2)) (x2 - n) = nthO (opl m x1) x2 → aX5_numberAt_5 g ad d (Ki fun r s => r = nthO (opl m x1) x2 ∧ s = σ) 0 0 σ x1 x2 n i) (hi := ((ops m).length : Int)) 0 (by omega) ?_ ?_ 0 (by omega) ?_
  · intro n hn hv
    rw [List.drop_of_length_le (by omega)] at hv
    exact bX5_numberAt_5 i1 h2 (iR_of (by omega) (by omega)) (iR_of (by omega) (by omega)) hS ⟨fun _ => re_i ⟨hv, rfl⟩, fun z => absurd (by rw [h.l.1]; omega) z⟩
  · intro i hi0 hi1 ih n hn hv
    obtain ⟨q, -, hdr, hE, -⟩ := h.at hi0 hi1
    rw [hdr] at hv
    refine bX5_numberAt_5 i1 h2 (iR_of (by omega) (by omega)) (iR_of (by omega) (by omega)) hS ⟨fun z => absurd z (by rw [h.l.1]; omega), fun _ => ⟨⟨hi0, by omega⟩, ?_⟩⟩
    rw [hE.st, hE.nu]
    refine ⟨fun c => ⟨iR_of (by omega) (by omega), fun _ _ _ _ _ => ih n (by omega) ?_⟩, fun c => ?_⟩
    · rw [List.filter_cons_of_neg (by rw [decide_eq_true_eq]; exact c)] at hv
      exact hv
    · rw [List.filter_cons_of_pos (by rw [decide_eq_true_eq]; exact c), List.map_cons, nthO] at hv
      refine ⟨fun c2 => ⟨iR_of (by omega) (by omega), iR_of (by omega) (by omega), fun _ _ _ _ _ => ih (n + 1) (by omega) ?_⟩, fun c2 => re_i ⟨?_, rfl⟩⟩
      · rw [if_neg (by omega), show x2 - n - 1 = x2 - (n + 1) by omega] at hv
        exact hv
      · rw [if_pos (by omega)] at hv
        exact hv
  · rw [show (0 : Int).toNat = 0 from rfl, List.drop_zero, ops_at h1, Int.sub_zero]
/-- what a step costs, but for the jump -/
def stdM (m : Int → Int) (last : Int) (q : Op) : Int := if tgN m q.2 = 0 then ownC m q.1 q.2 else ownC m q.1 q.2 + aft m last (fiW m q)
def lstM (m : Int → Int) (last : Int) (q : Op) : Int := if tgN m q.2 = 0 then last else laW m q
theorem fold_sh {F : Int → Int} : ∀ (l : List Int) (c x : Int), l.foldl (fun c k => c + F k) (c + x) = l.foldl (fun c k => c + F k) c + x
  | [], c, x => rfl
  | a :: l, c, x => by
    rw [List.foldl_cons, List.foldl_cons, show c + x + F a = c + F a + x by omega]
    exact fold_sh l _ x
theorem wl_fold {o s : Int} : ∀ (n : Nat) (j c : Int), 1 ≤ j → j + n = tgN m o → wl m o s n j c (tgt m o s (j - 1)) = ((ir j (tgN m o)).foldl (fun c k => c + aft m (tgt m o s (k - 1)) (tgt m o s k)) c, tgt m o s (tgN m o - 1))
  | 0, j, c, h1, h2 => by
    rw [ir_nil (by omega), wl, show j = tgN m o by omega]
    rfl
  | n + 1, j, c, h1, h2 => by
    rw [ir_cons (by omega), wl, List.foldl_cons]
    have := wl_fold (o := o) (s := s) n (j + 1) (c + aft m (tgt m o s (j - 1)) (tgt m o s j)) (by omega) (by omega)
    rw [show j + 1 - 1 = j by omega] at this
    exact this
theorem weigh_std (hW : WF m) {place last : Int} {q : Op} (ho : isO m q.2) : weigh m place last q.1 q.2 = (stdM m last q + m 6 * apB q.1 place, lstM m last q) := by
  have ht := tgN_b hW.2.1 ho
  unfold weigh stdM lstM
  by_cases c : tgN m q.2 = 0
  · rw [if_pos c, if_pos c, c]
    unfold ownC wbase
    rw [c, ir_nil (by omega)]
    rfl
  · rw [if_neg c, if_neg c]
    obtain ⟨n, hn⟩ : ∃ n, (tgN m q.2).toNat = n + 1 := ⟨(tgN m q.2).toNat - 1, by omega⟩
    rw [hn, wl]
    have := wl_fold (m := m) (o := q.2) (s := q.1) n (0 + 1) (wbase m place q.1 q.2 + aft m last (tgt m q.2 q.1 0)) (by omega) (by omega)
    rw [show (0 : Int) + 1 - 1 = 0 by omega] at this
    rw [this, fold_sh, show (0 : Int) + 1 = 1 by omega]
    unfold laW fiW
    rw [if_neg c, if_neg c]
    refine Prod.ext ?_ rfl
    show _ + aft m last (tgt m q.2 q.1 0) = _
    unfold wbase ownC
    rw [fold_sh]
    omega
theorem fiW_z (hW : WF m) {q : Op} (hq : (0 ≤ q.1 ∧ q.1 < m 3) ∧ isO m q.2) : (fiW m q = -1 ↔ tgN m q.2 = 0) ∧ (laW m q = -1 ↔ tgN m q.2 = 0) ∧ (¬ tgN m q.2 = 0 → (0 ≤ fiW m q ∧ fiW m q < m 0) ∧ (0 ≤ laW m q ∧ laW m q < m 0)) := by
  have ht := tgN_b hW.2.1 hq.2
  unfold fiW laW
  by_cases c : tgN m q.2 = 0
  · rw [if_pos c, if_pos c]
    exact ⟨⟨fun _ => c, fun _ => rfl⟩, ⟨fun _ => c, fun _ => rfl⟩, fun z => absurd c z⟩
  · rw [if_neg c, if_neg c]
    have h1 := tgt_b hW hq.2 hq.1 (k := 0) ⟨by omega, by omega⟩
    have h2 := tgt_b hW hq.2 hq.1 (k := tgN m q.2 - 1) ⟨by omega, by omega⟩
    exact ⟨⟨fun z => by omega, fun z => absurd z c⟩, ⟨fun z => by omega, fun z => absurd z c⟩, fun _ => ⟨h1, h2⟩⟩
theorem stdM_b (hW : WF m) {q : Op} {last : Int} (ho : isO m q.2) : 0 ≤ stdM m last q ∧ stdM m last q ≤ 396 := by
  have h1 := ownC_b hW (a := q.1) ho
  have h2 := aft_b hW.1 hW.2.2.1 last (fiW m q)
  unfold stdM
  split <;> omega
theorem o_gap {i x2 : Int} {q : Op} (hE : OpE σ m i q) (hi : 0 ≤ i ∧ i < 186) (hq : 0 ≤ q.1 ∧ q.1 ≤ 6) (h2 : 0 ≤ x2 ∧ x2 ≤ 6) (hS : SR σ) (hd : 1 ≤ d) : EI g ad d mX5_gap [.ref (ad 48), vi i, vi x2] σ (apB q.1 x2) σ := by
  refine EbS rfl pl_X5 rfl rfl (bX5_gap_0 (iR_of (by omega) (by omega)) (iR_of (by omega) (by omega)) hS ⟨hi, ?_⟩)
  rw [hE.st]
  exact EI.k (j_abs (d := d - 1) (by omega) (by omega) hS) hd (fun _ _ => re_i ⟨rfl, rfl⟩)
theorem o_standing {i x2 : Int} {q : Op} (hk : isK k) (hR : RK σ k m) (hW : WF m) (hrv : rv σ 48 11 = k) (hE : OpE σ m i q) (hi : 0 ≤ i ∧ i < 186) (hq : (0 ≤ q.1 ∧ q.1 < m 3) ∧ isO m q.2) (h2 : 0 ≤ x2 ∧ x2 ≤ 40) (hS : SR σ) (hd : 1 ≤ d) : EI g ad d mX5_standing [.ref (ad 48), vi i, vi x2] σ (stdM m (wx x2) q) σ := by
  have hf := fiW_z hW hq
  have hm0 := hW.1.1
  have h1 := ownC_b hW (a := q.1) hq.2
  have hsb := stdM_b hW (last := wx x2) hq.2
  refine EbS rfl pl_X5 rfl rfl (bX5_standing_0 (iR_of (by omega) (by omega)) (iR_of (by omega) (by omega)) hS ⟨hi, ?_⟩)
  rw [hE.fi, hE.ow, hrv]
  refine ⟨fun c => ⟨hk, ?_⟩, fun c => re_i ⟨?_, rfl⟩⟩
  · have c' : ¬ tgN m q.2 = 0 := fun z => c (hf.1.mpr z)
    have hw := (hf.2.2 c').1
    refine EI.k (k_flow (d := d - 1) hk hR hW h2 ⟨hw.1, by omega⟩ hS) hd (fun _ _ => ?_)
    rw [wx_id hw hm0.2]
    have e : ownC m q.1 q.2 + aft m (wx x2) (fiW m q) = stdM m (wx x2) q := by
      unfold stdM
      rw [if_neg c']
    rw [e]
    exact ⟨iR_of (by omega) (by omega), re_i ⟨rfl, rfl⟩⟩
  · unfold stdM
    rw [if_pos (hf.1.mp c)]
theorem o_ending {x1 : Int} (hk : isK k) (hR : RK σ k m) (hW : WF m) (hrv : rv σ 48 11 = k) (h1 : 0 ≤ x1 ∧ x1 ≤ 40) (hS : SR σ) (hd : 1 ≤ d) : EI g ad d mX5_ending [.ref (ad 48), vi x1] σ (aft m (wx x1) (-1)) σ := by
  refine EbS rfl pl_X5 rfl rfl (bX5_ending_0 (iR_of (by omega) (by omega)) hS ?_)
  rw [hrv]
  refine ⟨hk, ?_⟩
  exact EI.k (k_flow (d := d - 1) hk hR hW h1 ⟨by decide, by decide⟩ hS) hd (fun _ _ => re_i ⟨rfl, rfl⟩)
end OP2

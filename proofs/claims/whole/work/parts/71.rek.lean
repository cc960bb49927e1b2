/-- the row otherwise: another JUMP, another FAR, without a phrase -/
def VA (m m' : Int → Int) (W : Int) : Prop := (WF m') ∧ (∀ j, ¬ j = 6 → ¬ j = 7 → ¬ j = 8 → ¬ (369 ≤ j ∧ j < 669 ∧ (j - 369) % 10 = 9) → m' j = m j) ∧ (∀ s o, isO m o → 0 ≤ s → s < m 3 → isOpt m' o s = (isOpt m o s && decide (¬ o = W)))
theorem VA.wf {m m' : Int → Int} {W : Int} (h_ : VA m m' W) : WF m' := h_.1
theorem VA.e_ {m m' : Int → Int} {W : Int} (h_ : VA m m' W) : ∀ j, ¬ j = 6 → ¬ j = 7 → ¬ j = 8 → ¬ (369 ≤ j ∧ j < 669 ∧ (j - 369) % 10 = 9) → m' j = m j := h_.2.1
theorem VA.op {m m' : Int → Int} {W : Int} (h_ : VA m m' W) : ∀ s o, isO m o → 0 ≤ s → s < m 3 → isOpt m' o s = (isOpt m o s && decide (¬ o = W)) := h_.2.2
def ndC (c : Int) : Nd := (c / 287, c / 41 % 7, wx (c % 41))
def rsM (m : Int → Int) (x : Nd) : Int := min (restM m x.1 x.2.1 x.2.2) 1000000
section REK
variable {g : AG} {ad : Nat → Nat} {d : Nat} {σ : SG} {m m' t : Int → Int} {k : Nat} {W : Int}
theorem va_of (h : VA m m' W) {o w : Int} (ho : 0 ≤ o) (hw : 0 ≤ w ∧ w ≤ 8) : of_ m' o w = of_ m o w := by
  unfold of_
  exact h.e_ _ (by omega) (by omega) (by omega) (by omega)
theorem va_3 (h : VA m m' W) : m' 0 = m 0 ∧ m' 1 = m 1 ∧ m' 2 = m 2 ∧ m' 3 = m 3 ∧ m' 4 = m 4 ∧ m' 5 = m 5 := ⟨h.e_ 0 (by omega) (by omega) (by omega) (by omega), h.e_ 1 (by omega) (by omega) (by omega) (by omega), h.e_ 2 (by omega) (by omega) (by omega) (by omega), h.e_ 3 (by omega) (by omega) (by omega) (by omega), h.e_ 4 (by omega) (by omega) (by omega) (by omega), h.e_ 5 (by omega) (by omega) (by omega) (by omega)⟩
theorem isO_0 {o : Int} (h : isO m o) : 0 ≤ o := by rcases h with h | h <;> omega
theorem va_isO (h : VA m m' W) {o : Int} : isO m' o ↔ isO m o := by unfold isO; rw [(va_3 h).2.1]
theorem va_full (h : VA m m' W) : fullM m' = fullM m := by unfold fullM; rw [(va_3 h).2.2.2.1]
theorem va_cov (h : VA m m' W) {o : Int} (ho : isO m o) : cov m' o = cov m o := by
  unfold cov
  rw [va_of h (isO_0 ho) (by omega)]
theorem va_msk (h : VA m m' W) {o s : Int} (ho : isO m o) : msk m' o s = msk m o s := by
  unfold msk
  rw [va_cov h ho]
theorem va_tgN (h : VA m m' W) {o : Int} (ho : isO m o) : tgN m' o = tgN m o := by
  unfold tgN
  rw [va_of h (isO_0 ho) (by omega)]
theorem va_tgt (h : VA m m' W) {o s j : Int} (ho : isO m o) (hs : 0 ≤ s) (hj : 0 ≤ j ∧ j < 4) : tgt m' o s j = tgt m o s j := by
  unfold tgt
  rw [va_of h (isO_0 ho) (by omega), h.e_ (849 + s) (by omega) (by omega) (by omega) (by omega)]
theorem va_aft (h : VA m m' W) (hW : W0 m) (a b : Int) : aft m' a b = aft m a b := by
  have h2 := hW.2.2.1
  have hp : pairOf m' a b = pairOf m a b := by
    unfold pairOf
    rw [(va_3 h).2.2.1]
    refine sea_cong _ _ (fun j h0 h1 => ?_)
    unfold pairP
    rw [h.e_ (669 + 3 * j) (by omega) (by omega) (by omega) (by omega), h.e_ (669 + 3 * j + 1) (by omega) (by omega) (by omega) (by omega)]
  have hb := pairOf_b hW a b
  unfold aft
  rw [hp, (va_3 h).2.2.2.2.1]
  by_cases c : pairOf m a b = -1
  · rw [if_pos c, if_pos c]
  · rw [if_neg c, if_neg c]
    exact h.e_ _ (by omega) (by omega) (by omega) (by omega)
theorem fold_congr {F G : Int → Int → Int} : ∀ (l : List Int) (c : Int), (∀ w ∈ l, ∀ c, F c w = G c w) → l.foldl F c = l.foldl G c
  | [], c, _ => rfl
  | w :: l, c, h => by
    rw [List.foldl_cons, List.foldl_cons, h w (List.mem_cons_self ..)]
    exact fold_congr l _ (fun w' hw => h w' (List.mem_cons_of_mem _ hw))
theorem va_own (h : VA m m' W) (hW : WF m) {o s : Int} (ho : isO m o) (hs : 0 ≤ s) : ownC m' s o = ownC m s o := by
  have ht := tgN_b hW.2.1 ho
  unfold ownC
  rw [va_tgN h ho, (va_3 h).2.2.2.2.2, va_of h (isO_0 ho) (by omega)]
  refine fold_congr _ _ (fun w hw c => ?_)
  have := mem_ir.mp hw
  rw [va_tgt h ho hs (by omega), va_tgt h ho hs (by omega), va_aft h hW.1]
theorem va_fi (h : VA m m' W) (hW : WF m) {q : Op} (ho : isO m q.2) (hs : 0 ≤ q.1) : fiW m' q = fiW m q ∧ laW m' q = laW m q := by
  have ht := tgN_b hW.2.1 ho
  unfold fiW laW
  rw [va_tgN h ho]
  by_cases c : tgN m q.2 = 0
  · rw [if_pos c, if_pos c, if_pos c, if_pos c]; exact ⟨rfl, rfl⟩
  · rw [if_neg c, if_neg c, if_neg c, if_neg c]
    exact ⟨va_tgt h ho hs (by omega), va_tgt h ho hs (by omega)⟩
theorem va_std (h : VA m m' W) (hW : WF m) {q : Op} {last : Int} (ho : isO m q.2) (hs : 0 ≤ q.1) : stdM m' last q = stdM m last q ∧ lstM m' last q = lstM m last q := by
  unfold stdM lstM
  rw [va_tgN h ho, va_own h hW ho hs, (va_fi h hW ho hs).1, (va_fi h hW ho hs).2, va_aft h hW.1]
  exact ⟨rfl, rfl⟩
theorem va_sr (h : VA m m' W) (s : Int) : sr m' s = sr m s := by
  unfold sr soS
  rw [(va_3 h).2.1, (va_3 h).2.2.2.1]
theorem va_ops (h : VA m m' W) : ops m' = (ops m).filter (fun q => decide (¬ q.2 = W)) := by
  unfold ops
  rw [va_sr h, List.filter_filter]
  refine List.filter_congr (fun q hq => ?_)
  have := mem_sr.mp hq
  rw [h.op q.1 q.2 this.2 this.1.1 this.1.2, Bool.and_comm]
/-- behind a step, in the class's numbers -/
theorem ndC_B (hW : WF m) {c : Int} {q : Op} (hv : vC m c) (hq : (0 ≤ q.1 ∧ q.1 < m 3) ∧ isO m q.2 ∧ isOpt m q.2 q.1 = true) : ndC (cdB m (c / 287) (c % 41) q) = stp m (ndC c) q := by
  have hb := vC_b hW.1 hv
  have hs := cdB_s hW hb.1 hb.2.2.2 hq
  have hm0 := hW.1.1
  have hf := fiW_z hW ⟨hq.1, hq.2.1⟩
  unfold ndC stp
  rw [hs.1, hs.2.1, hs.2.2.1, weigh_std hW hq.2.1]
  refine Prod.ext rfl (Prod.ext rfl ?_)
  show wx (if laW m q = -1 then c % 41 else laW m q) = lstM m (wx (c % 41)) q
  unfold lstM
  by_cases cz : tgN m q.2 = 0
  · rw [if_pos cz, if_pos (hf.2.1.mpr cz)]
  · rw [if_neg cz, if_neg (fun z => cz (hf.2.1.mp z)), wx_id (hf.2.2 cz).2 hm0.2]
theorem va_stp (h : VA m m' W) (hW : WF m) {x : Nd} {q : Op} (ho : isO m q.2) (hs : 0 ≤ q.1) : stp m' x q = stp m x q ∧ wgt m' x q = stdM m x.2.2 q + m' 6 * apB q.1 x.2.1 := by
  unfold stp wgt
  rw [weigh_std h.wf ((va_isO h).mpr ho), weigh_std hW ho, va_msk h ho, va_cov h ho, (va_std h hW ho hs).1, (va_std h hW ho hs).2]
  exact ⟨rfl, rfl⟩
theorem fold_filter {α β : Type} {p : α → Bool} {F : β → α → β} : ∀ (l : List α) (b : β), (l.filter p).foldl F b = l.foldl (fun b q => if p q = true then F b q else b) b
  | [], b => rfl
  | a :: l, b => by
    rw [List.foldl_cons]
    by_cases c : p a = true
    · rw [List.filter_cons_of_pos c, List.foldl_cons, if_pos c]; exact fold_filter l _
    · rw [List.filter_cons_of_neg c, if_neg c]; exact fold_filter l _
theorem fold_min {α : Type} {c : α → Bool} {v u : α → Int} {E : Int} (B : Int) : ∀ (l : List α) (b : Int), (∀ q ∈ l, min (v q) E = min (u q) E) → min (l.foldl (fun b q => if c q = true then min b (v q) else b) b) E = l.foldl (fun b q => if c q = true then min b (u q) else b) (min b E)
  | [], b, _ => rfl
  | a :: l, b, h => by
    rw [List.foldl_cons, List.foldl_cons]
    have h1 := h a (List.mem_cons_self ..)
    by_cases cc : c a = true
    · rw [if_pos cc, if_pos cc, fold_min B l _ (fun q hq => h q (List.mem_cons_of_mem _ hq))]
      congr 1
      omega
    · rw [if_neg cc, if_neg cc, fold_min B l _ (fun q hq => h q (List.mem_cons_of_mem _ hq))]
theorem mayB_opt {x : Nd} {q : Op} (ho : isOpt m q.2 q.1 = true) : myB m x q = (decide (apB q.1 x.2.1 ≤ m 7) && decide (bAnd x.1 (msk m q.2 q.1) = 0)) := by
  unfold myB mayB
  by_cases c : m 7 < apB q.1 x.2.1
  · rw [if_pos c, decide_eq_false (by omega)]; rfl
  · rw [if_neg c, if_pos ho, decide_eq_true (show apB q.1 x.2.1 ≤ m 7 by omega)]; rfl
/-- over the options that there are -/
theorem fold_ops {β : Type} {x : Nd} {F : β → Op → β} (b : β) : (sr m 0).foldl (fun b p => if myB m x p = true then F b p else b) b = (ops m).foldl (fun b q => if (decide (apB q.1 x.2.1 ≤ m 7) && decide (bAnd x.1 (msk m q.2 q.1) = 0)) = true then F b q else b) b := by
  unfold ops
  rw [fold_filter]
  generalize sr m 0 = l
  induction l generalizing b with
  | nil => rfl
  | cons q l ih =>
    rw [List.foldl_cons, List.foldl_cons]
    by_cases c : isOpt m q.2 q.1 = true
    · rw [if_pos c, ← mayB_opt c]
      exact ih _
    · rw [if_neg c, if_neg]
      · exact ih _
      · intro z
        exact c (mayB_s z).2.1
/-- what is left, cut off -/
theorem rsM_eq (hW : WF m) {x : Nd} (hs : 0 ≤ x.1 ∧ x.1 ≤ 63) : rsM m x = if x.1 = fullM m then aft m x.2.2 (-1) else (ops m).foldl (fun b q => if (decide (apB q.1 x.2.1 ≤ m 7) && decide (bAnd x.1 (msk m q.2 q.1) = 0)) = true then min b (wgt m x q + rsM m (stp m x q)) else b) 1000000 := by
  unfold rsM
  rw [restM_eq' hW hs]
  by_cases c : x.1 = fullM m
  · rw [if_pos c, if_pos c]
    have := aft_b hW.1 hW.2.2.1 x.2.2 (-1)
    omega
  · rw [if_neg c, if_neg c]
    have e : (sr m 0).foldl (fun b p => restS m x.1 x.2.1 x.2.2 b p.1 p.2) 1000000000 = (sr m 0).foldl (fun b p => if myB m x p = true then min b (wgt m x p + restM m (stp m x p).1 (stp m x p).2.1 (stp m x p).2.2) else b) 1000000000 := rfl
    rw [e, fold_ops (F := fun b q => min b (wgt m x q + restM m (stp m x q).1 (stp m x q).2.1 (stp m x q).2.2)), fold_min (u := fun q => wgt m x q + min (restM m (stp m x q).1 (stp m x q).2.1 (stp m x q).2.2) 1000000) 0]
    · rfl
    · intro q hq
      have hw : 0 ≤ wgt m x q := by
        have ho := (ops_mem hq).2.1
        have hwl := wl_b hW.1 hW.2.2.1 q.2 q.1 (tgN m q.2).toNat 0 (wbase m x.2.1 q.1 q.2) x.2.2
        have h6 := hW.1.2.2.2.2.2.2.1
        have ha : 0 ≤ apB q.1 x.2.1 := by unfold apB; split <;> omega
        have hm := Int.mul_nonneg h6.1 ha
        have hb : 0 ≤ wbase m x.2.1 q.1 q.2 := by
          have h5 := hW.1.2.2.2.2.2.1
          unfold wbase
          by_cases c5 : q.2 = 99
          · rw [if_pos c5]; omega
          · rw [if_neg c5]
            rcases ho with z | z
            · exact absurd z c5
            · have := (hW.2.1 _ z.1 z.2).2.2.1
              omega
        unfold wgt weigh
        omega
      show min (wgt m x q + restM m (stp m x q).1 (stp m x q).2.1 (stp m x q).2.2) 1000000 = min (wgt m x q + min (restM m (stp m x q).1 (stp m x q).2.1 (stp m x q).2.2) 1000000) 1000000
      omega
theorem rsM_b (hW : WF m) {x : Nd} (hp : 0 ≤ x.2.1 ∧ x.2.1 ≤ 6) (hl : -1 ≤ x.2.2 ∧ x.2.2 < m 0) : 0 ≤ rsM m x ∧ rsM m x ≤ 1000000 := by
  have := restM_b hW (set := x.1) hp hl
  unfold rsM
  omega
end REK

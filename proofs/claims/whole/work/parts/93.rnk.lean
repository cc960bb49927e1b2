section RNK
variable {m : Int → Int}
/-! the rank of a way -/
abbrev LW (m : Int → Int) : List Wy := wy m (0, 0, -1)
def keyW (m : Int → Int) (w : Wy) : Int := w.1 * 281474976710656 + dgP m 6 w.2
def rkW (m : Int → Int) (w : Wy) : Nat := ((LW m).filter (fun v => decide (keyW m v < keyW m w))).length
theorem nodup_len : ∀ (l M : List Wy), l.Pairwise (fun a b => a ≠ b) → (∀ a ∈ l, a ∈ M) → l.length ≤ M.length
  | [], _, _, _ => Nat.zero_le _
  | a :: l, M, h, hs => by
    have p := List.pairwise_cons.mp h
    have ha := hs a (List.mem_cons_self ..)
    have ih := nodup_len l (M.erase a) p.2 (fun b hb => (List.mem_erase_of_ne (fun e => p.1 b hb e.symm)).mpr (hs b (List.mem_cons_of_mem _ hb)))
    rw [List.length_erase_of_mem ha] at ih
    have := List.length_pos_of_mem ha
    rw [List.length_cons]
    omega
theorem pw_mem {f : Wy → Int} : ∀ {l : List Wy}, l.Pairwise (fun a b => f a < f b) → ∀ {a b : Wy}, a ∈ l → b ∈ l → a = b ∨ f a < f b ∨ f b < f a
  | [], _, a, b, ha, _ => by cases ha
  | c :: l, h, a, b, ha, hb => by
    have p := List.pairwise_cons.mp h
    rcases List.mem_cons.mp ha with e1 | ha'
    · rcases List.mem_cons.mp hb with e2 | hb'
      · exact Or.inl (e1.trans e2.symm)
      · rw [e1]
        exact Or.inr (Or.inl (p.1 b hb'))
    · rcases List.mem_cons.mp hb with e2 | hb'
      · rw [e2]
        exact Or.inr (Or.inr (p.1 a ha'))
      · exact pw_mem p.2 ha' hb'
theorem LW_up (hW : WF m) : (LW m).Pairwise (fun a b => dgP m 6 a.2 < dgP m 6 b.2) := wy_up hW 6 _ (nd0 hW) (by decide)
theorem LW_ne (hW : WF m) : (LW m).Pairwise (fun a b => a ≠ b) := List.Pairwise.imp (fun {a b} h e => by rw [e] at h; omega) (LW_up hW)
theorem LW_opA (hW : WF m) {w : Wy} (hw : w ∈ LW m) : opA m w.2 := wy_opA hW (nd0 hW) hw
theorem p256 : (256 : Int) ^ 6 = 281474976710656 := by decide
theorem LW_dgP (hW : WF m) {w : Wy} (hw : w ∈ LW m) : 0 ≤ dgP m 6 w.2 ∧ dgP m 6 w.2 < 281474976710656 := by
  have := dgP_b hW.1 6 w.2 (LW_opA hW hw)
  rw [p256] at this
  exact this
theorem key_lt (hW : WF m) {w v : Wy} (hw : w ∈ LW m) (hv : v ∈ LW m) : keyW m w < keyW m v ↔ w.1 < v.1 ∨ w.1 = v.1 ∧ dgP m 6 w.2 < dgP m 6 v.2 := by
  have h1 := LW_dgP hW hw
  have h2 := LW_dgP hW hv
  unfold keyW
  omega
theorem key_inj (hW : WF m) {w v : Wy} (hw : w ∈ LW m) (hv : v ∈ LW m) (e : keyW m w = keyW m v) : w = v := by
  have h1 := LW_dgP hW hw
  have h2 := LW_dgP hW hv
  unfold keyW at e
  rcases pw_mem (f := fun w => dgP m 6 w.2) (LW_up hW) hw hv with z | z | z
  · exact z
  · have z' : dgP m 6 w.2 < dgP m 6 v.2 := z
    omega
  · have z' : dgP m 6 v.2 < dgP m 6 w.2 := z
    omega
theorem rk_lt (hW : WF m) {w v : Wy} (hw : w ∈ LW m) (h : keyW m w < keyW m v) : rkW m w < rkW m v := by
  have h1 := nodup_len (w :: (LW m).filter (fun u => decide (keyW m u < keyW m w))) ((LW m).filter (fun u => decide (keyW m u < keyW m v))) (List.pairwise_cons.mpr ⟨fun u hu e => by
      have := of_decide_eq_true (List.mem_filter.mp hu).2
      rw [e] at this
      omega, (LW_ne hW).filter _⟩) (fun u hu => by
      rcases List.mem_cons.mp hu with rfl | hu
      · exact List.mem_filter.mpr ⟨hw, decide_eq_true h⟩
      · have := List.mem_filter.mp hu
        have h2 := of_decide_eq_true this.2
        exact List.mem_filter.mpr ⟨this.1, decide_eq_true (by omega)⟩)
  rw [List.length_cons] at h1
  exact h1
theorem rk_inj (hW : WF m) {w v : Wy} (hw : w ∈ LW m) (hv : v ∈ LW m) (e : rkW m w = rkW m v) : w = v := by
  rcases Int.lt_trichotomy (keyW m w) (keyW m v) with z | z | z
  · have := rk_lt hW hw z
    omega
  · exact key_inj hW hw hv z
  · have := rk_lt hW hv z
    omega
/-- the ready ones -/
def Rdy (m : Int → Int) (R : List Wy) : Prop := ∀ (i : Nat) (w : Wy), R[i]? = some w → w ∈ LW m ∧ rkW m w = i
theorem Rdy.mem {R : List Wy} (h : Rdy m R) {w : Wy} (hw : w ∈ R) : w ∈ LW m ∧ rkW m w < R.length := by
  obtain ⟨i, hi⟩ := List.mem_iff_getElem?.mp hw
  have h1 := h i w hi
  have h2 := (List.getElem?_eq_some_iff.mp hi).1
  exact ⟨h1.1, by omega⟩
theorem Rdy.in_ (hW : WF m) {R : List Wy} (h : Rdy m R) {w : Wy} (hw : w ∈ LW m) (hr : rkW m w < R.length) : w ∈ R := by
  have hg : R[rkW m w]? = some (R[rkW m w]'hr) := List.getElem?_eq_getElem hr
  have h1 := h _ _ hg
  have := rk_inj hW h1.1 hw h1.2
  rw [← this]
  exact List.getElem_mem hr
theorem Rdy.ne {R : List Wy} (h : Rdy m R) : R.Pairwise (fun a b => a ≠ b) := by
  rw [List.pairwise_iff_getElem]
  intro i j hi hj hij e
  have h1 := (h i _ (List.getElem?_eq_getElem hi)).2
  have h2 := (h j _ (List.getElem?_eq_getElem hj)).2
  rw [e] at h1
  omega
/-- a ready one goes ahead of one that isn't -/
theorem Rdy.lt (hW : WF m) {R : List Wy} (h : Rdy m R) {r w : Wy} (hr : r ∈ R) (hw : w ∈ LW m) (hn : ¬ w ∈ R) : keyW m r < keyW m w := by
  have h1 := h.mem hr
  rcases Int.lt_trichotomy (keyW m r) (keyW m w) with z | z | z
  · exact z
  · rw [key_inj hW h1.1 hw z] at hr
    exact absurd hr hn
  · have := rk_lt hW hw z
    exact absurd (h.in_ hW hw (by omega)) hn
theorem least_of {f : Wy → Int} : ∀ (l : List Wy), l ≠ [] → ∃ a ∈ l, ∀ b ∈ l, f a ≤ f b
  | [], h => absurd rfl h
  | [a], _ => ⟨a, List.mem_cons_self .., fun b hb => by rw [List.mem_singleton.mp hb]; exact Int.le_refl _⟩
  | a :: b :: l, _ => by
    obtain ⟨c, hc, hl⟩ := least_of (f := f) (b :: l) (List.cons_ne_nil _ _)
    by_cases h : f a ≤ f c
    · refine ⟨a, List.mem_cons_self .., fun d hd => ?_⟩
      rcases List.mem_cons.mp hd with rfl | hd
      · exact Int.le_refl _
      · have := hl d hd
        omega
    · refine ⟨c, List.mem_cons_of_mem _ hc, fun d hd => ?_⟩
      rcases List.mem_cons.mp hd with rfl | hd
      · omega
      · exact hl d hd
/-- the next way -/
theorem Rdy.next (hW : WF m) {R : List Wy} (h : Rdy m R) {v : Wy} (hv : v ∈ LW m) (hn : ¬ v ∈ R) : ∃ w, w ∈ LW m ∧ ¬ w ∈ R ∧ rkW m w = R.length ∧ ∀ u ∈ LW m, ¬ u ∈ R → keyW m w ≤ keyW m u := by
  obtain ⟨w, hw, hl⟩ := least_of (f := keyW m) ((LW m).filter (fun u => decide (¬ u ∈ R))) (fun e => by
    have : v ∈ (LW m).filter (fun u => decide (¬ u ∈ R)) := List.mem_filter.mpr ⟨hv, decide_eq_true hn⟩
    rw [e] at this
    cases this)
  have hw1 := (List.mem_filter.mp hw).1
  have hw2 : ¬ w ∈ R := of_decide_eq_true (List.mem_filter.mp hw).2
  have hl' : ∀ u ∈ LW m, ¬ u ∈ R → keyW m w ≤ keyW m u := fun u hu hr => hl u (List.mem_filter.mpr ⟨hu, decide_eq_true hr⟩)
  refine ⟨w, hw1, hw2, ?_, hl'⟩
  have a1 : rkW m w ≤ R.length := nodup_len _ R ((LW_ne hW).filter _) (fun u hu => by
    have h1 := List.mem_filter.mp hu
    have h2 : keyW m u < keyW m w := of_decide_eq_true h1.2
    refine Classical.byContradiction (fun c => ?_)
    have := hl' u h1.1 c
    omega)
  have a2 : R.length ≤ rkW m w := nodup_len R _ h.ne (fun u hu => List.mem_filter.mpr ⟨(h.mem hu).1, decide_eq_true (h.lt hW hu hw1 hw2)⟩)
  omega
/-! the rank is the number by cost and place -/
theorem pos_cnt {f : Wy → Int} : ∀ {l : List Wy}, l.Pairwise (fun a b => f a < f b) → ∀ {i : Nat} {w : Wy}, l[i]? = some w → (l.filter (fun v => decide (f v < f w))).length = i
  | [], _, i, w, h => by simp at h
  | c :: l, h, i, w, hi => by
    have p := List.pairwise_cons.mp h
    cases i with
    | zero =>
      have e : c = w := by simpa using hi
      subst e
      have : (c :: l).filter (fun v => decide (f v < f c)) = [] := by
        refine List.filter_eq_nil_iff.mpr (fun v hv => ?_)
        rcases List.mem_cons.mp hv with rfl | hv
        · rw [decide_eq_true_eq]; omega
        · have := p.1 v hv
          rw [decide_eq_true_eq]
          omega
      rw [this]
      rfl
    | succ i =>
      rw [List.getElem?_cons_succ] at hi
      have ih := pos_cnt p.2 hi
      have hw := p.1 w (List.mem_of_getElem? hi)
      rw [List.filter_cons_of_pos (p := fun v => decide (f v < f w)) (decide_eq_true hw), List.length_cons, ih]
theorem filt_two {p q r : Wy → Bool} : ∀ (l : List Wy), (∀ v ∈ l, r v = (p v || q v)) → (∀ v ∈ l, ¬ (p v = true ∧ q v = true)) → (l.filter r).length = (l.filter p).length + (l.filter q).length
  | [], _, _ => rfl
  | v :: l, h1, h2 => by
    have ih := filt_two (p := p) (q := q) (r := r) l (fun u hu => h1 u (List.mem_cons_of_mem _ hu)) (fun u hu => h2 u (List.mem_cons_of_mem _ hu))
    have e := h1 v (List.mem_cons_self ..)
    have z := h2 v (List.mem_cons_self ..)
    by_cases cp : p v = true
    · have cq : ¬ q v = true := fun t => z ⟨cp, t⟩
      have cr : r v = true := by rw [e, cp]; rfl
      rw [List.filter_cons_of_pos cr, List.filter_cons_of_pos cp, List.filter_cons_of_neg cq, List.length_cons, List.length_cons, ih]
      omega
    · by_cases cq : q v = true
      · have cr : r v = true := by rw [e, cq, Bool.or_true]
        rw [List.filter_cons_of_pos cr, List.filter_cons_of_neg cp, List.filter_cons_of_pos cq, List.length_cons, List.length_cons, ih]
        omega
      · have cr : ¬ r v = true := by
          rw [e, Bool.or_eq_true]
          exact fun t => t.elim cp cq
        rw [List.filter_cons_of_neg cr, List.filter_cons_of_neg cp, List.filter_cons_of_neg cq, ih]
theorem rk_KW (hW : WF m) {w : Wy} (hw : w ∈ LW m) : KW (LW m) (rkW m w) w := by
  have hu : (cEq w.1 (LW m)).Pairwise (fun a b => dgP m 6 a.2 < dgP m 6 b.2) := (LW_up hW).filter _
  have hm : w ∈ cEq w.1 (LW m) := List.mem_filter.mpr ⟨hw, decide_eq_true rfl⟩
  obtain ⟨i, hi⟩ := List.mem_iff_getElem?.mp hm
  have hc := pos_cnt (f := fun w => dgP m 6 w.2) hu hi
  have e : rkW m w = cLt w.1 (LW m) + i := by
    rw [← hc]
    unfold rkW cLt cEq
    rw [List.filter_filter]
    refine filt_two (LW m) (fun v hv => ?_) (fun v hv z => ?_)
    · have := key_lt hW hv hw
      by_cases c : keyW m v < keyW m w
      · rw [decide_eq_true c]
        rcases this.mp c with z | z
        · rw [decide_eq_true z]; rfl
        · rw [decide_eq_true (p := dgP m 6 v.2 < dgP m 6 w.2) z.2, decide_eq_true z.1, Bool.and_self, Bool.or_true]
      · rw [decide_eq_false c]
        have c1 : ¬ v.1 < w.1 := fun z => c (this.mpr (Or.inl z))
        rw [decide_eq_false c1, Bool.false_or]
        by_cases c2 : v.1 = w.1
        · have c3 : ¬ dgP m 6 v.2 < dgP m 6 w.2 := fun z => c (this.mpr (Or.inr ⟨c2, z⟩))
          rw [decide_eq_false c3, Bool.false_and]
        · rw [decide_eq_false c2, Bool.and_false]
    · rw [Bool.and_eq_true, decide_eq_true_eq, decide_eq_true_eq, decide_eq_true_eq] at z
      omega
  refine ⟨by omega, ?_⟩
  rw [e, Nat.add_sub_cancel_left]
  exact hi
theorem way_rk (hW : WF m) {w : Wy} (hw : w ∈ LW m) {k : Int} (hk : (rkW m w : Int) = k) : wayK m k = some w := by
  unfold wayK
  rw [← hk, Int.toNat_natCast]
  exact kw_some (rk_KW hW hw)
theorem rk_way (hW : WF m) {w : Wy} {k : Int} (h : wayK m k = some w) : w ∈ LW m ∧ rkW m w = k.toNat := by
  have h1 := kw_KW h
  have hw : w ∈ LW m := KW_mem h1
  have h2 := rk_KW hW hw
  refine ⟨hw, ?_⟩
  have hu : (cEq w.1 (LW m)).Pairwise (fun a b => dgP m 6 a.2 < dgP m 6 b.2) := (LW_up hW).filter _
  have e1 := pos_cnt (f := fun w => dgP m 6 w.2) hu h1.2
  have e2 := pos_cnt (f := fun w => dgP m 6 w.2) hu h2.2
  have a1 : cLt w.1 (LW m) ≤ k.toNat := h1.1
  have a2 : cLt w.1 (LW m) ≤ rkW m w := h2.1
  have e3 : k.toNat - cLt w.1 (LW m) = rkW m w - cLt w.1 (LW m) := e1.symm.trans e2
  omega
end RNK

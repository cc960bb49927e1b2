/-- one that waits: what it cost, where it stands, its steps -/
abbrev En : Type := (Int) × (Nd) × (List Op)
abbrev En.c (x_ : En) : Int := x_.1
abbrev En.x (x_ : En) : Nd := x_.2.1
abbrev En.p (x_ : En) : List Op := x_.2.2
section WSE
variable {m : Int → Int}
/-- the ways that go on from it -/
def TE (m : Int → Int) (e : En) : List Wy := (wy m e.x).map (fun w => (e.c + w.1, e.p ++ w.2))
abbrev rsN (m : Int → Int) (x : Nd) : Int := restM m x.1 x.2.1 x.2.2
def keyE (m : Int → Int) (e : En) : Int := (e.c + rsN m e.x) * 281474976710656 + dgP m 6 e.p
def chE (m : Int → Int) (e : En) (q : Op) : En := (e.c + wgt m e.x q, stp m e.x q, e.p ++ [q])
end WSE
def VE (m : Int → Int) (e : En) : Prop := (nd m e.x) ∧ (e.p.length ≤ pc e.x.1) ∧ (opA m e.p) ∧ (∀ w ∈ TE m e, w ∈ LW m) ∧ (wy m e.x ≠ []) ∧ (0 ≤ e.c ∧ e.c ≤ 516 * pc e.x.1)
theorem VE.nd {m : Int → Int} {e : En} (h_ : VE m e) : nd m e.x := h_.1
theorem VE.len {m : Int → Int} {e : En} (h_ : VE m e) : e.p.length ≤ pc e.x.1 := h_.2.1
theorem VE.op {m : Int → Int} {e : En} (h_ : VE m e) : opA m e.p := h_.2.2.1
theorem VE.sub {m : Int → Int} {e : En} (h_ : VE m e) : ∀ w ∈ TE m e, w ∈ LW m := h_.2.2.2.1
theorem VE.fin {m : Int → Int} {e : En} (h_ : VE m e) : wy m e.x ≠ [] := h_.2.2.2.2.1
theorem VE.cst {m : Int → Int} {e : En} (h_ : VE m e) : 0 ≤ e.c ∧ e.c ≤ 516 * pc e.x.1 := h_.2.2.2.2.2
section WSV
variable {m : Int → Int}
theorem pc6 (x : Nd) : pc x.1 ≤ 6 := by
  unfold pc
  exact Nat.le_trans (List.length_filter_le _ _) (by rw [List.length_range]; exact Nat.le_refl _)
theorem VE.rs (hW : WF m) {e : En} (h : VE m e) : (0 ≤ rsN m e.x ∧ rsN m e.x ≤ 516 * mu e.x + 99) ∧ (∀ w ∈ wy m e.x, rsN m e.x ≤ w.1) ∧ ∃ w ∈ wy m e.x, w.1 = rsN m e.x := by
  have h1 := wy_rest hW (mu e.x) e.x h.nd (Nat.le_refl _)
  have h2 := restM_b hW (set := e.x.1) (place := e.x.2.1) (last := e.x.2.2) h.nd.2.1 h.nd.2.2
  rcases h1.2 with z | ⟨w, hw, ew⟩
  · exact absurd z.2 h.fin
  · have h3 := h1.1 w hw
    exact ⟨⟨h2.1, by show restM m e.x.1 e.x.2.1 e.x.2.2 ≤ _; omega⟩, fun v hv => (h1.1 v hv).1, w, hw, ew⟩
theorem VE.ln {e : En} (h : VE m e) : e.p.length ≤ 6 := Nat.le_trans h.len (pc6 e.x)
theorem VE.kb (hW : WF m) {e : En} (h : VE m e) : (0 ≤ e.c + rsN m e.x ∧ e.c + rsN m e.x ≤ 3195) ∧ (0 ≤ dgP m 6 e.p ∧ dgP m 6 e.p < 281474976710656) := by
  have h1 := (h.rs hW).1
  have h2 := h.cst
  have h3 := pc6 e.x
  have h4 := dgP_b hW.1 6 e.p h.op
  rw [p256] at h4
  have h5 : mu e.x = 6 - pc e.x.1 := rfl
  refine ⟨⟨by omega, by omega⟩, h4⟩
theorem TE_s (hW : WF m) {e : En} (h : VE m e) {w : Wy} (hw : w ∈ TE m e) : ∃ s, w.2 = e.p ++ s ∧ opA m s ∧ (e.p ++ s).length ≤ 6 ∧ e.c + rsN m e.x ≤ w.1 := by
  obtain ⟨v, hv, rfl⟩ := List.mem_map.mp hw
  have h1 := (wy_mem hW (mu e.x) e.x h.nd (Nat.le_refl _) v hv).1
  have h2 := h.len
  have h3 := pc6 e.x
  have h5 : mu e.x = 6 - pc e.x.1 := rfl
  refine ⟨v.2, rfl, wy_opA hW h.nd hv, ?_, ?_⟩
  · rw [List.length_append]
    omega
  · have := (h.rs hW).2.1 v hv
    show e.c + rsN m e.x ≤ e.c + v.1
    omega
theorem key_le (hW : WF m) {e : En} (h : VE m e) {w : Wy} (hw : w ∈ TE m e) : keyE m e ≤ keyW m w := by
  obtain ⟨s, e1, h1, h2, h3⟩ := TE_s hW h hw
  unfold keyE keyW
  rw [e1, dgP_app 6 e.p s h.ln]
  have := (dgP_b hW.1 (6 - e.p.length) s h1).1
  omega
def bst (m : Int → Int) (e : En) : Wy := ((TE m e).find? (fun w => decide (w.1 = e.c + rsN m e.x))).getD (0, [])
theorem bst_s (hW : WF m) {e : En} (h : VE m e) : bst m e ∈ TE m e ∧ (bst m e).1 = e.c + rsN m e.x := by
  obtain ⟨w, hw, ew⟩ := (h.rs hW).2.2
  have hm : (e.c + w.1, e.p ++ w.2) ∈ TE m e := List.mem_map.mpr ⟨w, hw, rfl⟩
  unfold bst
  cases hf : (TE m e).find? (fun w => decide (w.1 = e.c + rsN m e.x)) with
  | none =>
    have := List.find?_eq_none.mp hf _ hm
    rw [decide_eq_true_eq] at this
    exact absurd (by show e.c + w.1 = e.c + rsN m e.x; rw [ew]) this
  | some v =>
    exact ⟨List.mem_of_find?_eq_some hf, of_decide_eq_true (List.find?_some (p := fun w : Wy => decide (w.1 = e.c + rsN m e.x)) hf)⟩
/-- two that are apart -/
theorem key_sep (hW : WF m) {e f : En} (he : VE m e) (hf : VE m f) (hi : Inc e.p f.p) : keyE m e ≠ keyE m f ∧ (keyE m e ≤ keyE m f → ∀ w ∈ TE m f, keyW m (bst m e) < keyW m w) := by
  have b1 := he.kb hW
  have b2 := hf.kb hW
  have key : ∀ w ∈ TE m f, (dgP m 6 e.p < dgP m 6 f.p ∧ dgP m 6 (bst m e).2 < dgP m 6 w.2) ∨ (dgP m 6 f.p < dgP m 6 e.p ∧ dgP m 6 w.2 < dgP m 6 (bst m e).2) := fun w hw => by
    obtain ⟨s, e1, h1, h2, _⟩ := TE_s hW he (bst_s hW he).1
    obtain ⟨s', e1', h1', h2', _⟩ := TE_s hW hf hw
    rw [e1, e1']
    exact inc_lt hW.1 hi he.op hf.op h1 h1' h2 h2'
  refine ⟨fun z => ?_, fun z w hw => ?_⟩
  · have := key _ (bst_s hW hf).1
    unfold keyE at z
    omega
  · have k1 := key w hw
    obtain ⟨_, _, _, _, h3⟩ := TE_s hW hf hw
    have h4 := (bst_s hW he).2
    have d1 := LW_dgP hW (he.sub _ (bst_s hW he).1)
    have d2 := LW_dgP hW (hf.sub _ hw)
    unfold keyE at z
    unfold keyW
    omega
theorem TE_dis {e f : En} (hi : Inc e.p f.p) {w : Wy} (h1 : w ∈ TE m e) : ¬ w ∈ TE m f := fun h2 => by
  obtain ⟨v, _, rfl⟩ := List.mem_map.mp h1
  obtain ⟨u, _, e2⟩ := List.mem_map.mp h2
  have e3 : f.p ++ u.2 = e.p ++ v.2 := congrArg Prod.snd e2
  have := Inc.ext v.2 u.2 hi
  rw [e3] at this
  exact this.ne
/-! going on -/
theorem TE_full (hW : WF m) {e : En} (h : VE m e) (hf : e.x.1 = fullM m) : TE m e = [(e.c + aft m e.x.2.2 (-1), e.p)] ∧ rsN m e.x = aft m e.x.2.2 (-1) := by
  unfold TE
  have h1 : wy m e.x = [(aft m e.x.2.2 (-1), [])] := by
    rw [wy_eq hW h.nd]
    unfold wyG
    rw [if_pos hf]
  refine ⟨?_, ?_⟩
  · rw [h1, List.map_singleton, List.append_nil]
  · show restM m e.x.1 e.x.2.1 e.x.2.2 = _
    rw [rest_nd hW h.nd, if_pos hf]
theorem TE_step (hW : WF m) {e : En} (h : VE m e) (hf : ¬ e.x.1 = fullM m) {w : Wy} : w ∈ TE m e ↔ ∃ q, q ∈ ops m ∧ myB m e.x q = true ∧ w ∈ TE m (chE m e q) := by
  unfold TE
  rw [wy_eq hW h.nd]
  unfold wyG
  rw [if_neg hf]
  constructor
  · intro hw
    obtain ⟨v, hv, rfl⟩ := List.mem_map.mp hw
    obtain ⟨q, hq, hv⟩ := List.mem_flatMap.mp hv
    by_cases c : myB m e.x q = true
    · rw [if_pos c] at hv
      obtain ⟨u, hu, rfl⟩ := List.mem_map.mp hv
      refine ⟨q, List.mem_filter.mpr ⟨hq, (mayB_s c).2.1⟩, c, List.mem_map.mpr ⟨u, hu, ?_⟩⟩
      show (e.c + wgt m e.x q + u.1, (e.p ++ [q]) ++ u.2) = (e.c + (wgt m e.x q + u.1), e.p ++ q :: u.2)
      rw [List.append_assoc, Int.add_assoc]
      rfl
    · rw [if_neg c] at hv
      cases hv
  · rintro ⟨q, hq, c, hw⟩
    obtain ⟨u, hu, rfl⟩ := List.mem_map.mp hw
    refine List.mem_map.mpr ⟨(wgt m e.x q + u.1, q :: u.2), List.mem_flatMap.mpr ⟨q, (List.mem_filter.mp hq).1, ?_⟩, ?_⟩
    · rw [if_pos c]
      exact List.mem_map.mpr ⟨u, hu, rfl⟩
    · show (e.c + (wgt m e.x q + u.1), e.p ++ q :: u.2) = (e.c + wgt m e.x q + u.1, (e.p ++ [q]) ++ u.2)
      rw [List.append_assoc, Int.add_assoc]
      rfl
theorem VE.ch (hW : WF m) {e : En} (h : VE m e) (hf : ¬ e.x.1 = fullM m) {q : Op} (hq : q ∈ ops m) (hm : myB m e.x q = true) (hn : wy m (stp m e.x q) ≠ []) : VE m (chE m e q) := by
  have hs := stp_nd hW h.nd (List.mem_filter.mp hq).1 hm
  have hl := h.len
  have hc := h.cst
  refine ⟨hs.1, ?_, ?_, fun w hw => h.sub w ((TE_step hW h hf).mpr ⟨q, hq, hm, hw⟩), hn, ?_⟩
  · show (e.p ++ [q]).length ≤ pc (stp m e.x q).1
    rw [List.length_append, List.length_singleton]
    omega
  · exact h.op.app (fun r hr => by rw [List.mem_singleton.mp hr]; exact hq)
  · show 0 ≤ e.c + wgt m e.x q ∧ e.c + wgt m e.x q ≤ 516 * pc (stp m e.x q).1
    omega
/-- the one at the start -/
def stE : En := (0, (0, 0, -1), [])
theorem TE_st : TE m stE = LW m := by
  unfold TE stE
  have : (fun w : Wy => ((0 : Int) + w.1, ([] : List Op) ++ w.2)) = fun w => w := by
    funext w
    rw [Int.zero_add, List.nil_append]
  show (wy m (0, 0, -1)).map (fun w : Wy => ((0 : Int) + w.1, ([] : List Op) ++ w.2)) = _
  rw [this, List.map_id']
end WSV

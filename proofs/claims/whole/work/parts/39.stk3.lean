section STM
variable {g : AG} {ad : Nat → Nat} {d : Nat} {σ : SG} {m : Int → Int}
/-- those that cover at most n places are as they were -/
def Kp (n : Int) (S T : SK) : Prop := ∀ j, (pc (j / 294) : Int) ≤ n → T.ls j = S.ls j ∧ T.cs j = S.cs j ∧ T.md j = S.md j ∧ T.fr j = S.fr j ∧ T.bs j = S.bs j ∧ T.bo j = S.bo j
theorem Kp.refl {n : Int} {S : SK} : Kp n S S := fun _ _ => ⟨rfl, rfl, rfl, rfl, rfl, rfl⟩
theorem Kp.trans {n : Int} {S T U : SK} (h1 : Kp n S T) (h2 : Kp n T U) : Kp n S U := fun j hj => by
  have a := h2 j hj
  have b := h1 j hj
  exact ⟨a.1.trans b.1, a.2.1.trans b.2.1, a.2.2.1.trans b.2.2.1, a.2.2.2.1.trans b.2.2.2.1, a.2.2.2.2.1.trans b.2.2.2.2.1, a.2.2.2.2.2.trans b.2.2.2.2.2⟩
theorem filter_cong' {α : Type} {p q : α → Bool} : ∀ {l : List α}, (∀ a ∈ l, p a = q a) → l.filter p = l.filter q
  | [], _ => rfl
  | a :: l, h => by
    rw [List.filter_cons, List.filter_cons, h a (List.mem_cons_self ..), filter_cong' (fun b hb => h b (List.mem_cons_of_mem _ hb))]
theorem Kp.cand {n : Int} {S T : SK} (h : Kp n S T) : cand m T n = cand m S n := by
  unfold Jvm.Pilot.CPhraseRoadsLaw_law_r8434_031205.cand
  refine filter_cong' (fun k _ => ?_)
  by_cases c : (pc (k / 294) : Int) = n
  · rw [(h k (by omega)).1]
  · rw [decide_eq_false c]
    rfl
theorem ins_cong {rk rk' : Int → Int} {x : Int} : ∀ {l : List Int}, rk x = rk' x → (∀ y ∈ l, rk y = rk' y) → ins rk x l = ins rk' x l
  | [], _, _ => rfl
  | y :: l, hx, h => by
    rw [ins, ins, hx, h y (List.mem_cons_self ..), ins_cong hx (fun z hz => h z (List.mem_cons_of_mem _ hz))]
theorem srt_cong {rk rk' : Int → Int} : ∀ {l : List Int}, (∀ y ∈ l, rk y = rk' y) → srt rk l = srt rk' l
  | [], _ => rfl
  | y :: l, h => by
    show ins rk y (srt rk l) = ins rk' y (srt rk' l)
    rw [srt_cong (fun z hz => h z (List.mem_cons_of_mem _ hz))]
    exact ins_cong (h y (List.mem_cons_self ..)) (fun z hz => h z (List.mem_cons_of_mem _ (mem_srt.mp hz)))
theorem Kp.srt {n : Int} {S T : SK} (h : Kp n S T) : srt (rkS m T) (Jvm.Pilot.CPhraseRoadsLaw_law_r8434_031205.cand m T n) = srt (rkS m S) (Jvm.Pilot.CPhraseRoadsLaw_law_r8434_031205.cand m S n) := by
  rw [h.cand]
  refine srt_cong (fun k hk => ?_)
  have := h k (by have := (mem_cand.mp hk).2.1; omega)
  unfold rkS sco
  rw [this.2.1, this.2.2.1]
theorem goS_IS (hW : WF m) {S : SK} (h : IS m S) {k : Int} (hk : ¬ S.ls k = 0) : IS m (goS m S k) ∧ Kp (pc (k / 294)) S (goS m S k) ∧ S.mn ≤ (goS m S k).mn ∧ (goS m S k).mn ≤ S.mn + 186 := by
  have h1 := goSf_IS hW (sr m 0) S (fun p hp => hp) h hk
  have h2 := sr_len hW.1
  refine ⟨h1.1, fun j hj => h1.2.1 j (by omega), h1.2.2.1, ?_⟩
  have : (goS m S k).mn ≤ S.mn + (sr m 0).length := h1.2.2.2
  omega
theorem goSs_IS (hW : WF m) {n : Int} : ∀ (T : List Int) (S : SK), IS m S → (∀ k ∈ T, ¬ S.ls k = 0 ∧ (pc (k / 294) : Int) = n) → IS m (T.foldl (goS m) S) ∧ Kp n S (T.foldl (goS m) S) ∧ S.mn ≤ (T.foldl (goS m) S).mn ∧ (T.foldl (goS m) S).mn ≤ S.mn + 186 * T.length
  | [], S, h, _ => ⟨h, Kp.refl, Int.le_refl _, by show S.mn ≤ S.mn + 186 * ((0 : Nat) : Int); omega⟩
  | k :: T, S, h, hT => by
    have hk := hT k (List.mem_cons_self ..)
    have h1 := goS_IS hW h hk.1
    rw [hk.2] at h1
    have h2 := goSs_IS hW T (goS m S k) h1.1 (fun j hj => by
      have := hT j (List.mem_cons_of_mem _ hj)
      rw [(h1.2.1 j (by omega)).1]
      exact this)
    rw [List.foldl_cons, List.length_cons]
    exact ⟨h2.1, h1.2.1.trans h2.2.1, by omega, by omega⟩
theorem stkN_succ {w n : Int} (h : 0 ≤ n) : stkN m w (n + 1) = stage m w (stkN m w n) n := by
  unfold stkN
  rw [ir_snoc h, List.foldl_append]
  rfl
theorem emp_IS (hW : WF m) : IS m stk0.S ∧ stk0.S.mn = 0 := by
  have e : stk0.S = (up (fun _ => 0) 0 1, up (fun _ => 0) 0 0, up (fun _ => 0) 0 (-1 + 1), up (fun _ => 0) 0 (-1), up (fun _ => 0) 0 (-1), up (fun _ => 0) 0 (-1), -1 + 1, 0 + (if (0 : Int) = 0 then 0 else 1)) := by
    show lieS emptyS 0 0 (-1) (-1) (-1) = _
    unfold lieS
    rw [if_neg (by rintro ⟨h, -⟩; exact h rfl)]
    rfl
  rw [e]
  have hk : ∀ k, ¬ up (fun _ => 0) 0 1 k = 0 → k = 0 := by
    intro k h
    by_cases c : k = 0
    · exact c
    · rw [up_ne c] at h
      exact absurd rfl h
  refine ⟨⟨fun k h => ?_, fun k => ?_, fun k h => ?_, fun k h => ?_, fun k j h1 h2 _ => ?_, ?_, fun k h => ?_⟩, rfl⟩
  · rw [hk k h]
    exact ⟨by omega, by omega, nd0 hW⟩
  · show up (fun _ => 0) 0 1 k = 0 ∨ up (fun _ => 0) 0 1 k = 1
    by_cases c : k = 0
    · rw [c, up_at]; exact Or.inr rfl
    · rw [up_ne c]; exact Or.inl rfl
  · have e := hk k h
    subst e
    show 0 ≤ up (fun _ => 0) 0 0 0 ∧ up (fun _ => 0) 0 0 0 ≤ _
    rw [up_at]
    omega
  · have e := hk k h
    subst e
    show 0 ≤ up (fun _ => 0) 0 (-1 + 1) 0 ∧ up (fun _ => 0) 0 (-1 + 1) 0 ≤ -1 + 1
    rw [up_at]
    omega
  · rw [hk k h1, hk j h2]
  · show 0 ≤ 0 + (if (0 : Int) = 0 then 0 else 1) ∧ 0 + (if (0 : Int) = 0 then 0 else 1) ≤ -1 + 1 + 1
    simp
  · have e := hk k h
    subst e
    exact Or.inl ⟨by show up (fun _ => 0) 0 (-1) 0 = -1; exact up_at, rfl⟩
theorem topM_len {S : SK} {n w : Int} (hw : 0 ≤ w) : ((topM m S n w).length : Int) ≤ w := by
  unfold topM
  rw [List.length_take]
  omega
theorem stkN_IS (hW : WF m) {w : Int} (hw : 1 ≤ w ∧ w ≤ 40) : ∀ (j : Nat), IS m (stkN m w j).S ∧ 0 ≤ (stkN m w j).S.mn ∧ (stkN m w j).S.mn ≤ 7440 * j := by
  intro j
  induction j with
  | zero =>
    have := emp_IS hW
    refine ⟨this.1, ?_, ?_⟩
    · show 0 ≤ stk0.S.mn
      omega
    · show stk0.S.mn ≤ _
      omega
  | succ j ih =>
    have e : stkN m w ((j + 1 : Nat) : Int) = stage m w (stkN m w j) j := by
      rw [show ((j + 1 : Nat) : Int) = (j : Int) + 1 by omega]
      exact stkN_succ (by omega)
    rw [e]
    have hT := goSs_IS hW (n := (j : Int)) (topM m (stkN m w j).S j w) (stkN m w j).S ih.1 (fun k hk => by
      have := mem_cand.mp (mem_srt.mp (List.mem_of_mem_take hk))
      exact ⟨this.2.2, this.2.1⟩)
    have hl := topM_len (m := m) (S := (stkN m w j).S) (n := j) (w := w) (by omega)
    refine ⟨hT.1, ?_, ?_⟩
    · show 0 ≤ ((topM m (stkN m w j).S j w).foldl (goS m) (stkN m w j).S).mn
      omega
    · show ((topM m (stkN m w j).S j w).foldl (goS m) (stkN m w j).S).mn ≤ _
      omega
/-! what is found -/
def candF (m : Int → Int) (S : SK) : List Int := (ir (294 * fullM m) (294 * fullM m + 294)).filter (fun k => decide (¬ S.ls k = 0))
def scF (m : Int → Int) (S : SK) (k : Int) : Int := S.cs k + aft m (k % 42 - 1) (-1)
def rkF (m : Int → Int) (S : SK) (k : Int) : Int := scF m S k * 4294967296 + S.md k
def fkM (m : Int → Int) (S : SK) : Int := ((srt (rkF m S) (candF m S))[0]?).getD (-1)
def fcM (m : Int → Int) (S : SK) : Int := if fkM m S = -1 then -1 else scF m S (fkM m S)
theorem mem_candF {S : SK} {k : Int} : k ∈ candF m S ↔ (294 * fullM m ≤ k ∧ k < 294 * fullM m + 294) ∧ ¬ S.ls k = 0 := by
  unfold candF
  rw [List.mem_filter, mem_ir, decide_eq_true_eq]
theorem fk_of (hW : WF m) {S : SK} (hI : IS m S) (hb : S.mn < 4294967296) {best : Int} (h : (best = -1 ∧ ∀ k, ¬ k ∈ candF m S) ∨ (best ∈ candF m S ∧ ∀ k, k ∈ candF m S → rkF m S best ≤ rkF m S k)) : best = fkM m S := by
  have hne : ∀ k j, ¬ S.ls k = 0 → ¬ S.ls j = 0 → k ≠ j → rkF m S k ≠ rkF m S j := by
    intro k j hk hj hkj e
    have h1 := hI.mad k hk
    have h2 := hI.mad j hj
    unfold rkF at e
    have : S.md k = S.md j := by omega
    exact hkj (hI.dis k j hk hj this)
  have hup : Up (rkF m S) (srt (rkF m S) (candF m S)) := by
    refine up_srt ?_
    unfold candF
    refine List.Pairwise.imp_of_mem ?_ (List.Pairwise.filter _ ir_nodup)
    intro a b ha hb' hab
    exact hne a b (mem_candF.mp ha).2 (mem_candF.mp hb').2 (by omega)
  unfold fkM
  have hmem : ∀ z, z ∈ srt (rkF m S) (candF m S) ↔ z ∈ candF m S := fun z => mem_srt
  generalize srt (rkF m S) (candF m S) = L at hup hmem
  cases L with
  | nil =>
    rcases h with h | h
    · exact h.1
    · exact absurd ((hmem best).mpr h.1) (by simp)
  | cons k L =>
    show best = k
    have hk := (hmem k).mp (List.mem_cons_self ..)
    rcases h with h | h
    · exact absurd hk (h.2 k)
    · rcases List.mem_cons.mp ((hmem best).mpr h.1) with e | e
      · exact e
      · have h1 := (List.pairwise_cons.mp hup).1 best e
        have h2 := h.2 k hk
        omega
theorem e_finds {S : SK} (em : ia σ 103 = m) (hW : WF m) (hR : RelS σ S) (hI : IS m S) (hb : S.mn < 4294967296) (hS : SR σ) (hd : 3 ≤ d) : Eb g ad d mX11_finds 0 0 [.ref (ad 102)] σ (Kv fun s => sc s 102 46 = fkM m S ∧ sc s 102 47 = fcM m S ∧ Fm [] [46, 47] σ s) := by
  have hW0 := hW.1
  have hfb := full_b hW0
  have h0 := hW.1.1
  have im : iR (-1) := iR_lit rfl
  have hsf : ∀ k, ¬ S.ls k = 0 → 0 ≤ scF m S k ∧ scF m S k ≤ 4000 := by
    intro k hk
    have h1 := hI.cst k hk
    have h2 := aft_b hW.1 hW.2.2.1 (k % 42 - 1) (-1)
    have h4 : pc (k / 294) ≤ 6 := st_pc6 (hI.rng k hk).2.2.1
    unfold scF
    omega
  have cmp : ∀ j k, ¬ S.ls j = 0 → ¬ S.ls k = 0 → (rkF m S j ≤ rkF m S k ↔ scF m S j < scF m S k ∨ scF m S j = scF m S k ∧ S.md j ≤ S.md k) := by
    intro j k hj hk
    have h1 := hI.mad j hj
    have h2 := hI.mad k hk
    unfold rkF
    omega
  have hS0 : SR (setS (setS σ 102 46 (-1)) 102 47 (-1)) := SR_setS (SR_setS hS im) im
  refine EbS rfl pl_X11 rfl rfl (bX11_finds_0 hS ?_)
  refine EI.k (by apply (w_full (σ := setS (setS σ 102 46 (-1)) 102 47 (-1)) em) <;> (first | with_reducible assumption | with_reducible exact iR_of (by omega) (by omega) | omega | with_reducible (exact bi_01) | assumption)) (by omega) (fun _ _ => ?_)
  refine ⟨iR_of (by omega) (by omega), fun _ _ => ?_⟩
  refine up_loop (P := fun pos => ∀ τ, SR τ → Fm [] [46, 47] σ τ → ((sc τ 102 46 = -1 ∧ sc τ 102 47 = -1 ∧ ∀ k, k ∈ candF m S → ¬ k < pos) ∨ (sc τ 102 46 ∈ candF m S ∧ sc τ 102 46 < pos ∧ sc τ 102 47 = scF m S (sc τ 102 46) ∧ ∀ k, k ∈ candF m S → k < pos → rkF m S (sc τ 102 46) ≤ rkF m S k)) → aX11_finds_19 g ad d (Kv fun s => sc s 102 46 = fkM m S ∧ sc s 102 47 = fcM m S ∧ Fm [] [46, 47] σ s) 0 0 τ pos) (hi := 294 * fullM m + 294) (294 * fullM m) (by omega) ?_ ?_ _ hS0 (((Fm.refl σ).setS (by decide)).setS (by decide)) (Or.inl ⟨by simp (config := {decide := true}) only [sc_S, ia_S, la_S, rv_S, sc_I, rv_I, la_I, ia_I, sc_L, rv_L, ia_L, la_L, sc_A, rv_A, la_A, ia_A, sc_B, rv_B, ia_B, la_B, sc_R, ia_R, la_R, rv_R, ia_w, la_w, rv_w, sc_w, if_true, if_false], by simp (config := {decide := true}) only [sc_S, ia_S, la_S, rv_S, sc_I, rv_I, la_I, ia_I, sc_L, rv_L, ia_L, la_L, sc_A, rv_A, la_A, ia_A, sc_B, rv_B, ia_B, la_B, sc_R, ia_R, la_R, rv_R, ia_w, la_w, rv_w, sc_w, if_true, if_false], fun k hk => by have := (mem_candF.mp hk).1; omega⟩)
  · intro τ hSt hF hB
    have et : ia τ 103 = m := (hF.a 103 rfl).trans em
    refine bX11_finds_19 (iR_of (by omega) (by omega)) hSt ?_
    refine EI.k (by apply (w_full et) <;> (first | with_reducible assumption | with_reducible exact iR_of (by omega) (by omega) | omega | with_reducible (exact bi_01) | assumption)) (by omega) (fun _ _ => ?_)
    refine ⟨iR_of (by omega) (by omega), fun _ => re_v ?_, fun q => absurd (Int.le_refl _) q⟩
    rcases hB with ⟨b1, b2, b3⟩ | ⟨b1, b2, b3, b4⟩
    · have e := fk_of hW hI hb (best := -1) (Or.inl ⟨rfl, fun k hk => b3 k hk (mem_candF.mp hk).1.2⟩)
      refine ⟨b1.trans e, ?_, hF⟩
      unfold fcM
      rw [if_pos e.symm]
      exact b2
    · have e := fk_of hW hI hb (best := sc τ 102 46) (Or.inr ⟨b1, fun k hk => b4 k hk (mem_candF.mp hk).1.2⟩)
      have hpos := (mem_candF.mp b1).1
      refine ⟨e, ?_, hF⟩
      unfold fcM
      rw [if_neg (by omega), ← e]
      exact b3
  · intro pos hp0 hp1 ih τ hSt hF hB
    have et : ia τ 103 = m := (hF.a 103 rfl).trans em
    have hRt : RelS τ S := hR.fm hF rfl rfl
    have els := hRt.ls pos (by omega) (by omega)
    refine bX11_finds_19 (iR_of (by omega) (by omega)) hSt ?_
    refine EI.k (by apply (w_full et) <;> (first | with_reducible assumption | with_reducible exact iR_of (by omega) (by omega) | omega | with_reducible (exact bi_01) | assumption)) (by omega) (fun _ _ => ?_)
    refine ⟨iR_of (by omega) (by omega), fun q => absurd q (by omega), fun _ => ⟨⟨by omega, by omega⟩, ?_⟩⟩
    rw [els]
    refine ⟨fun c1 => ?_, fun c1 => ⟨iR_of (by omega) (by omega), fun _ _ => ih τ hSt hF ?_⟩⟩
    · have hcm : pos ∈ candF m S := mem_candF.mpr ⟨⟨hp0, hp1⟩, c1⟩
      have hsb := hsf pos c1
      have hcst := hI.cst pos c1
      refine EI.k (by apply e_lastOf <;> (first | with_reducible assumption | with_reducible exact iR_of (by omega) (by omega) | omega | with_reducible (exact bi_01) | assumption)) (by omega) (fun _ _ => ?_)
      refine EI.k (by apply (w_after0 et) <;> (first | with_reducible assumption | with_reducible exact iR_of (by omega) (by omega) | omega | with_reducible (exact bi_01) | assumption)) (by omega) (fun _ _ => ?_)
      rw [hRt.cs pos (by omega) (by omega) c1]
      have esc : S.cs pos + aft m (pos % 42 - 1) (-1) = scF m S pos := rfl
      rw [esc]
      have take : (sc τ 102 46 = -1 ∨ rkF m S pos ≤ rkF m S (sc τ 102 46)) → SR (setS (setS τ 102 46 pos) 102 47 (scF m S pos)) → aX11_finds_19 g ad d (Kv fun s => sc s 102 46 = fkM m S ∧ sc s 102 47 = fcM m S ∧ Fm [] [46, 47] σ s) 0 0 (setS (setS τ 102 46 pos) 102 47 (scF m S pos)) (pos + 1) := by
        intro hlt hS'
        refine ih _ hS' ((hF.setS (by decide)).setS (by decide)) (Or.inr ?_)
        simp (config := {decide := true}) only [sc_S, ia_S, la_S, rv_S, sc_I, rv_I, la_I, ia_I, sc_L, rv_L, ia_L, la_L, sc_A, rv_A, la_A, ia_A, sc_B, rv_B, ia_B, la_B, sc_R, ia_R, la_R, rv_R, ia_w, la_w, rv_w, sc_w, if_true, if_false]
        refine ⟨hcm, by omega, True.intro, fun k hk hlt2 => ?_⟩
        by_cases e : k = pos
        · rw [e]; exact Int.le_refl _
        · rcases hB with ⟨b1, b2, b3⟩ | ⟨b1, b2, b3, b4⟩
          · exact absurd (by omega) (b3 k hk)
          · have := b4 k hk (by omega)
            have := (mem_candF.mp b1).1
            omega
      have keep : ¬ sc τ 102 46 = -1 → rkF m S (sc τ 102 46) ≤ rkF m S pos → aX11_finds_19 g ad d (Kv fun s => sc s 102 46 = fkM m S ∧ sc s 102 47 = fcM m S ∧ Fm [] [46, 47] σ s) 0 0 τ (pos + 1) := by
        intro hn hge
        refine ih τ hSt hF ?_
        rcases hB with ⟨b1, b2, b3⟩ | ⟨b1, b2, b3, b4⟩
        · exact absurd b1 hn
        · refine Or.inr ⟨b1, by omega, b3, fun k hk hlt => ?_⟩
          by_cases e : k = pos
          · rw [e]; exact hge
          · exact b4 k hk (by omega)
      refine ⟨fun c2 => ⟨iR_of (by omega) (by omega), iR_of (by omega) (by omega), fun _ hS' => take (Or.inl c2) hS'⟩, fun c2 => ⟨iR_of (by omega) (by omega), ?_⟩⟩
      have hbst : sc τ 102 46 ∈ candF m S ∧ sc τ 102 47 = scF m S (sc τ 102 46) := by
        rcases hB with ⟨b1, b2, b3⟩ | ⟨b1, b2, b3, b4⟩
        · exact absurd b1 c2
        · exact ⟨b1, b3⟩
      have hbr := mem_candF.mp hbst.1
      have cm1 := cmp _ _ hbr.2 c1
      have cm2 := cmp _ _ c1 hbr.2
      refine ⟨fun c3 => ⟨iR_of (by omega) (by omega), fun _ _ => keep c2 (cm1.mpr (by omega))⟩, fun c3 => ⟨fun c4 => ⟨iR_of (by omega) (by omega), fun _ hS' => take (Or.inr (cm2.mpr (by omega))) hS'⟩, fun c4 => ⟨⟨by omega, by omega⟩, ?_⟩⟩⟩
      rw [hRt.md pos (by omega) (by omega) c1, hRt.md _ (by omega) (by omega) hbr.2]
      exact ⟨fun c5 => ⟨iR_of (by omega) (by omega), fun _ hS' => take (Or.inr (cm2.mpr (by omega))) hS'⟩, fun c5 => ⟨iR_of (by omega) (by omega), fun _ _ => keep c2 (cm1.mpr (by omega))⟩⟩
    · rcases hB with ⟨b1, b2, b3⟩ | ⟨b1, b2, b3, b4⟩
      · refine Or.inl ⟨b1, b2, fun k hk hlt => ?_⟩
        by_cases e : k = pos
        · rw [e] at hk
          exact (mem_candF.mp hk).2 c1
        · exact b3 k hk (by omega)
      · refine Or.inr ⟨b1, by omega, b3, fun k hk hlt => ?_⟩
        by_cases e : k = pos
        · rw [e] at hk
          exact absurd c1 (mem_candF.mp hk).2
        · exact b4 k hk (by omega)
/-! all stacks -/
def stkM (m : Int → Int) (w : Int) : SR_ := stkN m w (m 3)
/-- what the reference knows behind it -/
def StkP (m : Int → Int) (w : Int) (s : SG) : Prop := (RelS s (stkM m w).S) ∧ (sc s 102 45 = (stkM m w).cut) ∧ (∀ n, 0 ≤ n → n ≤ m 3 → ia s 125 n = (cand m (stkN m w n).S n).length) ∧ (∀ n, 0 ≤ n → n ≤ m 3 → ia s 126 n = lowM m (stkN m w n).S n) ∧ (sc s 102 46 = fkM m (stkM m w).S) ∧ (sc s 102 47 = fcM m (stkM m w).S)
theorem StkP.rel {m : Int → Int} {w : Int} {s : SG} (h_ : StkP m w s) : RelS s (stkM m w).S := h_.1
theorem StkP.cut {m : Int → Int} {w : Int} {s : SG} (h_ : StkP m w s) : sc s 102 45 = (stkM m w).cut := h_.2.1
theorem StkP.lay {m : Int → Int} {w : Int} {s : SG} (h_ : StkP m w s) : ∀ n, 0 ≤ n → n ≤ m 3 → ia s 125 n = (cand m (stkN m w n).S n).length := h_.2.2.1
theorem StkP.low {m : Int → Int} {w : Int} {s : SG} (h_ : StkP m w s) : ∀ n, 0 ≤ n → n ≤ m 3 → ia s 126 n = lowM m (stkN m w n).S n := h_.2.2.2.1
theorem StkP.fk {m : Int → Int} {w : Int} {s : SG} (h_ : StkP m w s) : sc s 102 46 = fkM m (stkM m w).S := h_.2.2.2.2.1
theorem StkP.fc {m : Int → Int} {w : Int} {s : SG} (h_ : StkP m w s) : sc s 102 47 = fcM m (stkM m w).S := h_.2.2.2.2.2
theorem cut_b (h0 : W0 m) {w : Int} (hw : 0 ≤ w) : ∀ (j : Nat), 0 ≤ (stkN m w j).cut ∧ (stkN m w j).cut ≤ 18816 * j := by
  have hfb := full_b h0
  intro j
  induction j with
  | zero => exact ⟨Int.le_refl _, Int.le_refl _⟩
  | succ j ih =>
    have e : stkN m w ((j + 1 : Nat) : Int) = stage m w (stkN m w j) j := by
      rw [show ((j + 1 : Nat) : Int) = (j : Int) + 1 by omega]
      exact stkN_succ (by omega)
    rw [e]
    show 0 ≤ (stkN m w j).cut + ((cand m (stkN m w j).S j).length - (topM m (stkN m w j).S j w).length) ∧ (stkN m w j).cut + ((cand m (stkN m w j).S j).length - (topM m (stkN m w j).S j w).length) ≤ _
    have h1 : (topM m (stkN m w j).S j w).length ≤ (cand m (stkN m w j).S j).length := by
      unfold topM
      rw [List.length_take, len_srt]
      omega
    have h2 : (cand m (stkN m w j).S j).length ≤ 18816 := by
      have := List.length_filter_le (fun k => decide ((pc (k / 294) : Int) = j) && decide (¬ (stkN m w j).S.ls k = 0)) (ir 0 (294 * (fullM m + 1)))
      rw [ir_length] at this
      unfold cand
      omega
    omega
theorem e_stacks (em : ia σ 103 = m) (hW : WF m) (hS : SR σ) (hd : 7 ≤ d) : Eb g ad d mX11_stacks 0 0 [.ref (ad 102)] σ (Kv fun s => StkP m (m 8) s ∧ Fm [117, 118, 119, 120, 121, 122, 123, 124, 125, 126] [22, 23, 43, 44, 45, 46, 47] σ s) := by
  have hW0 := hW.1
  have hw := hW.1.2.2.2.2.2.2.2.2
  have h3 := hW.1.2.2.2.1
  have hfb := full_b hW0
  have im : iR (-1) := iR_lit rfl
  have i0 : iR 0 := iR_lit rfl
  refine EbS rfl pl_X11 rfl rfl (bX11_stacks_0 hS ?_)
  refine Cl.vo (e_laysStretches (d := d - 1) em hW hS (by omega)) (by omega) (fun s1 hS1 h1 => ?_)
  intros
  refine up_loop (P := fun k => ∀ τ, SR τ → Fm [117, 118, 119, 120, 121, 122, 123, 124, 125, 126] [22, 23, 43, 44, 45, 46, 47] σ τ → StT m (ia τ 117) → (∀ j, 0 ≤ j → j < k → ia τ 118 j = 0 ∧ ia τ 119 j = 0) → aX11_stacks_6 g ad d (Kv fun s => StkP m (m 8) s ∧ Fm [117, 118, 119, 120, 121, 122, 123, 124, 125, 126] [22, 23, 43, 44, 45, 46, 47] σ s) 0 0 τ k) (hi := 18816) 0 (by omega) ?_ ?_ s1 hS1 (h1.2.mono (by decide) (by decide)) h1.1 (fun j h0 h1 => by omega)
  · intro τ hSt hF hT hall
    have et : ia τ 103 = m := (hF.a 103 rfl).trans em
    have hS3 : SR (setS (setS (setS τ 102 43 (-1)) 102 44 0) 102 45 0) := SR_setS (SR_setS (SR_setS hSt im) i0) i0
    refine bX11_stacks_6 (iR_lit rfl) hSt ⟨fun _ => ?_, fun q => absurd (by decide) q⟩
    refine EI.k (by apply e_key <;> (first | with_reducible assumption | with_reducible exact iR_of (by omega) (by omega) | omega | with_reducible (exact bi_01) | assumption)) (by omega) (fun _ _ => ?_)
    have hR0 : RelS (setS (setS (setS τ 102 43 (-1)) 102 44 0) 102 45 0) emptyS := ⟨fun k h0 h1 => by simp (config := {decide := true}) only [sc_S, ia_S, la_S, rv_S, sc_I, rv_I, la_I, ia_I, sc_L, rv_L, ia_L, la_L, sc_A, rv_A, la_A, ia_A, sc_B, rv_B, ia_B, la_B, sc_R, ia_R, la_R, rv_R, ia_w, la_w, rv_w, sc_w, if_true, if_false]; exact (hall k h0 h1).1, fun k _ _ q => absurd rfl q, fun k _ _ q => absurd rfl q, fun k _ _ q => absurd rfl q, fun k _ _ q => absurd rfl q, fun k _ _ q => absurd rfl q, by simp (config := {decide := true}) only [sc_S, ia_S, la_S, rv_S, sc_I, rv_I, la_I, ia_I, sc_L, rv_L, ia_L, la_L, sc_A, rv_A, la_A, ia_A, sc_B, rv_B, ia_B, la_B, sc_R, ia_R, la_R, rv_R, ia_w, la_w, rv_w, sc_w, if_true, if_false] <;> rfl, by simp (config := {decide := true}) only [sc_S, ia_S, la_S, rv_S, sc_I, rv_I, la_I, ia_I, sc_L, rv_L, ia_L, la_L, sc_A, rv_A, la_A, ia_A, sc_B, rv_B, ia_B, la_B, sc_R, ia_R, la_R, rv_R, ia_w, la_w, rv_w, sc_w, if_true, if_false] <;> rfl⟩
    refine Cl.vo (e_lies (d := d - 1) (S := emptyS) (x1 := (0 * 7 + 0) * 42 + -1 + 1) hR0 hS3 (by omega) i0 im im im ⟨by decide, by decide⟩ ⟨by decide, by decide⟩) (by omega) (fun s4 hS4 h4 => ?_)
    intros
    have hF4 : Fm [117, 118, 119, 120, 121, 122, 123, 124, 125, 126] [22, 23, 43, 44, 45, 46, 47] σ s4 := (((hF.setS (by decide)).setS (by decide)).setS (by decide)).trans (h4.2.mono (by decide) (by decide))
    have hT4 : StT m (ia s4 117) := by rw [h4.2.a 117 rfl]; exact hT
    have h119 : ∀ j, 0 ≤ j → j < 18816 → ia s4 119 j = 0 := fun j h0 h1 => by rw [h4.2.a 119 rfl]; exact (hall j h0 h1).2
    have hc45 : sc s4 102 45 = 0 := by rw [h4.2.s 45 rfl]; simp (config := {decide := true}) only [sc_S, ia_S, la_S, rv_S, sc_I, rv_I, la_I, ia_I, sc_L, rv_L, ia_L, la_L, sc_A, rv_A, la_A, ia_A, sc_B, rv_B, ia_B, la_B, sc_R, ia_R, la_R, rv_R, ia_w, la_w, rv_w, sc_w, if_true, if_false]
    refine up_loop (P := fun n => ∀ τ, SR τ → Fm [117, 118, 119, 120, 121, 122, 123, 124, 125, 126] [22, 23, 43, 44, 45, 46, 47] σ τ → StT m (ia τ 117) → RelS τ (stkN m (m 8) (min n (m 3))).S → sc τ 102 45 = (stkN m (m 8) (min n (m 3))).cut → (∀ j, 0 ≤ j → j < 18816 → n ≤ (pc (j / 294) : Int) → ia τ 119 j = 0) → (∀ j, 0 ≤ j → j < n → ia τ 125 j = (cand m (stkN m (m 8) j).S j).length ∧ ia τ 126 j = lowM m (stkN m (m 8) j).S j) → aX11_stacks_64 g ad d (Kv fun s => StkP m (m 8) s ∧ Fm [117, 118, 119, 120, 121, 122, 123, 124, 125, 126] [22, 23, 43, 44, 45, 46, 47] σ s) 0 0 τ n) (hi := m 3 + 1) 0 (by omega) ?_ ?_ s4 hS4 hF4 hT4 ?_ ?_ (fun j h0 h1 _ => h119 j h0 h1) (fun j h0 h1 => by omega)
    · intro τ hSt hF hT hR hcut h119 hll
      have et : ia τ 103 = m := (hF.a 103 rfl).trans em
      rw [show min (m 3 + 1) (m 3) = m 3 by omega] at hR hcut
      have hIS := stkN_IS hW hw (m 3).toNat
      rw [show (((m 3).toNat : Nat) : Int) = m 3 by omega] at hIS
      refine bX11_stacks_64 (iR_of (by omega) (by omega)) hSt ⟨fun _ => ?_, fun q => absurd (by rw [et]; omega) q⟩
      refine Cl.vo (e_finds (d := d - 1) et hW hR hIS.1 (by omega) hSt (by omega)) (by omega) (fun s hS' h => re_v ⟨⟨?_, ?_, ?_, ?_, h.1, h.2.1⟩, hF.trans (h.2.2.mono (by decide) (by decide))⟩)
      · exact hR.fm h.2.2 rfl rfl
      · rw [h.2.2.s 45 rfl]; exact hcut
      · intro n hn0 hn1
        rw [h.2.2.a 125 rfl]
        exact (hll n hn0 (by omega)).1
      · intro n hn0 hn1
        rw [h.2.2.a 126 rfl]
        exact (hll n hn0 (by omega)).2
    · intro n hn0 hn1 ih τ hSt hF hT hR hcut h119 hll
      have et : ia τ 103 = m := (hF.a 103 rfl).trans em
      rw [show min n (m 3) = n by omega] at hR hcut
      have in_ : iR n := iR_of (by omega) (by omega)
      have hIS := stkN_IS hW hw n.toNat
      rw [show ((n.toNat : Nat) : Int) = n by omega] at hIS
      have hcb := cut_b hW0 (w := m 8) (by omega) n.toNat
      rw [show ((n.toNat : Nat) : Int) = n by omega] at hcb
      refine bX11_stacks_64 in_ hSt ⟨fun q => absurd q (by rw [et]; omega), fun _ => ?_⟩
      refine Cl.vo (e_counts (d := d - 1) (n := n) et hW hR hIS.1 hT (by omega) hSt (by omega)) (by omega) (fun s2 hS2 h2 => ?_)
      have e2 : ia s2 103 = m := (h2.2.2.a 103 rfl).trans et
      have hF2 : Fm [117, 118, 119, 120, 121, 122, 123, 124, 125, 126] [22, 23, 43, 44, 45, 46, 47] σ s2 := hF.trans (h2.2.2.mono (by decide) (by decide))
      have hR2 : RelS s2 (stkN m (m 8) n).S := hR.fm h2.2.2 rfl rfl
      have hT2 : StT m (ia s2 117) := by rw [h2.2.2.a 117 rfl]; exact hT
      have h119' : ∀ j, 0 ≤ j → j < 18816 → n ≤ (pc (j / 294) : Int) → ia s2 119 j = 0 := fun j h0 h1 h2' => by rw [h2.2.2.a 119 rfl]; exact h119 j h0 h1 h2'
      have hc2 : sc s2 102 45 = (stkN m (m 8) n).cut := by rw [h2.2.2.s 45 rfl]; exact hcut
      have hll2 : ∀ j, 0 ≤ j → j < n + 1 → ia s2 125 j = (cand m (stkN m (m 8) j).S j).length ∧ ia s2 126 j = lowM m (stkN m (m 8) j).S j := by
        intro j hj0 hj1
        rw [h2.1, h2.2.1]
        by_cases e : j = n
        · rw [e, up_at, up_at]; exact ⟨rfl, rfl⟩
        · rw [up_ne e, up_ne e]; exact hll j hj0 (by omega)
      rw [e2]
      refine ⟨fun c => ?_, fun c => ⟨iR_of (by omega) (by omega), fun _ _ => ?_⟩⟩
      · -- a stack is gone through
        have hnl : n < m 3 := by omega
        have hsN : stkN m (m 8) (min (n + 1) (m 3)) = stage m (m 8) (stkN m (m 8) n) n := by
          rw [show min (n + 1) (m 3) = n + 1 by omega]
          exact stkN_succ hn0
        have hupN := cand_up hIS.1 hW (by omega) (n := n)
        have hmemL : ∀ z, z ∈ srt (rkS m (stkN m (m 8) n).S) (cand m (stkN m (m 8) n).S n) ↔ z ∈ cand m (stkN m (m 8) n).S n := fun z => mem_srt
        have hlenL : (srt (rkS m (stkN m (m 8) n).S) (cand m (stkN m (m 8) n).S n)).length = (cand m (stkN m (m 8) n).S n).length := len_srt
        have hclen : (cand m (stkN m (m 8) n).S n).length ≤ 18816 := by
          have := List.length_filter_le (fun k => decide ((pc (k / 294) : Int) = n) && decide (¬ (stkN m (m 8) n).S.ls k = 0)) (ir 0 (294 * (fullM m + 1)))
          rw [ir_length] at this
          unfold cand
          omega
        have hLdef : topM m (stkN m (m 8) n).S n (m 8) = (srt (rkS m (stkN m (m 8) n).S) (cand m (stkN m (m 8) n).S n)).take (m 8).toNat := rfl
        generalize hL : srt (rkS m (stkN m (m 8) n).S) (cand m (stkN m (m 8) n).S n) = L at hupN hmemL hlenL hLdef
        -- the inner loop
        have lp : ∀ (j t : Nat) (τ : SG) (T : SK), t + j = (m 8).toNat → t ≤ L.length → SR τ → Fm [117, 118, 119, 120, 121, 122, 123, 124, 125, 126] [22, 23, 43, 44, 45, 46, 47] σ τ → StT m (ia τ 117) → RelS τ T → T = (L.take t).foldl (goS m) (stkN m (m 8) n).S → sc τ 102 45 = (stkN m (m 8) n).cut → (∀ i, 0 ≤ i → i < 18816 → n + 1 ≤ (pc (i / 294) : Int) → ia τ 119 i = 0) → (∀ k, k ∈ cand m (stkN m (m 8) n).S n → (ia τ 119 k = 0 ↔ k ∉ L.take t)) → (∀ j, 0 ≤ j → j < n + 1 → ia τ 125 j = (cand m (stkN m (m 8) j).S j).length ∧ ia τ 126 j = lowM m (stkN m (m 8) j).S j) → aX11_stacks_100 g ad d (Kv fun s => StkP m (m 8) s ∧ Fm [117, 118, 119, 120, 121, 122, 123, 124, 125, 126] [22, 23, 43, 44, 45, 46, 47] σ s) 0 0 τ n t ((L[t]?).getD (-1)) := by
          intro j
          induction j with
          | zero =>
            intro t τ T htj htl hSt hF hT hR hTd hcut h119 htk hll
            have et : ia τ 103 = m := (hF.a 103 rfl).trans em
            have e125 := (hll n hn0 (by omega)).1
            have hL1 : ia τ 125 n = L.length := by rw [e125, hlenL]
            have htop : topM m (stkN m (m 8) n).S n (m 8) = L.take t := by rw [hLdef]; congr 1; omega
            have hnx : SR (setS τ 102 45 (sc τ 102 45 + (ia τ 125 n - t))) → aX11_stacks_64 g ad d (Kv fun s => StkP m (m 8) s ∧ Fm [117, 118, 119, 120, 121, 122, 123, 124, 125, 126] [22, 23, 43, 44, 45, 46, 47] σ s) 0 0 (setS τ 102 45 (sc τ 102 45 + (ia τ 125 n - t))) (n + 1) := by
              intro hS'
              refine ih _ hS' (hF.setS (by decide)) (by simp (config := {decide := true}) only [sc_S, ia_S, la_S, rv_S, sc_I, rv_I, la_I, ia_I, sc_L, rv_L, ia_L, la_L, sc_A, rv_A, la_A, ia_A, sc_B, rv_B, ia_B, la_B, sc_R, ia_R, la_R, rv_R, ia_w, la_w, rv_w, sc_w, if_true, if_false]; exact hT) ?_ ?_ (fun i h0 h1 h2 => by simp (config := {decide := true}) only [sc_S, ia_S, la_S, rv_S, sc_I, rv_I, la_I, ia_I, sc_L, rv_L, ia_L, la_L, sc_A, rv_A, la_A, ia_A, sc_B, rv_B, ia_B, la_B, sc_R, ia_R, la_R, rv_R, ia_w, la_w, rv_w, sc_w, if_true, if_false]; exact h119 i h0 h1 h2) (fun i h0 h1 => by simp (config := {decide := true}) only [sc_S, ia_S, la_S, rv_S, sc_I, rv_I, la_I, ia_I, sc_L, rv_L, ia_L, la_L, sc_A, rv_A, la_A, ia_A, sc_B, rv_B, ia_B, la_B, sc_R, ia_R, la_R, rv_R, ia_w, la_w, rv_w, sc_w, if_true, if_false]; exact hll i h0 (by omega))
              · rw [hsN]
                show RelS _ ((topM m (stkN m (m 8) n).S n (m 8)).foldl (goS m) (stkN m (m 8) n).S)
                rw [htop, ← hTd]
                exact hR.cong rfl rfl rfl rfl rfl rfl (by simp (config := {decide := true}) only [sc_S, ia_S, la_S, rv_S, sc_I, rv_I, la_I, ia_I, sc_L, rv_L, ia_L, la_L, sc_A, rv_A, la_A, ia_A, sc_B, rv_B, ia_B, la_B, sc_R, ia_R, la_R, rv_R, ia_w, la_w, rv_w, sc_w, if_true, if_false]) (by simp (config := {decide := true}) only [sc_S, ia_S, la_S, rv_S, sc_I, rv_I, la_I, ia_I, sc_L, rv_L, ia_L, la_L, sc_A, rv_A, la_A, ia_A, sc_B, rv_B, ia_B, la_B, sc_R, ia_R, la_R, rv_R, ia_w, la_w, rv_w, sc_w, if_true, if_false])
              · rw [hsN]
                show _ = (stkN m (m 8) n).cut + ((cand m (stkN m (m 8) n).S n).length - (topM m (stkN m (m 8) n).S n (m 8)).length)
                simp (config := {decide := true}) only [sc_S, ia_S, la_S, rv_S, sc_I, rv_I, la_I, ia_I, sc_L, rv_L, ia_L, la_L, sc_A, rv_A, la_A, ia_A, sc_B, rv_B, ia_B, la_B, sc_R, ia_R, la_R, rv_R, ia_w, la_w, rv_w, sc_w, if_true, if_false]
                rw [htop, List.length_take, hcut, hL1]
                omega
            have ig : iR ((L[t]?).getD (-1)) := by
              cases e : L[t]? with
              | none => exact im
              | some k =>
                have := (mem_cand.mp ((hmemL k).mp (List.mem_of_getElem? e))).1
                exact iR_of (by show -2147483648 ≤ k; omega) (by show k < 2147483648; omega)
            refine bX11_stacks_100 in_ (iR_of (by omega) (by omega)) ig hSt ⟨fun _ => ⟨⟨by omega, by omega⟩, iR_of (by omega) (by omega), iR_of (by omega) (by omega), fun _ hS' => hnx hS'⟩, fun _ => ⟨fun _ => ⟨⟨by omega, by omega⟩, iR_of (by omega) (by omega), iR_of (by omega) (by omega), fun _ hS' => hnx hS'⟩, fun q => absurd (by rw [et]; omega) q⟩⟩
          | succ j ihj =>
            intro t τ T htj htl hSt hF hT hR hTd hcut h119 htk hll
            have et : ia τ 103 = m := (hF.a 103 rfl).trans em
            have e125 := (hll n hn0 (by omega)).1
            have hL1 : ia τ 125 n = L.length := by rw [e125, hlenL]
            cases e : L[t]? with
            | none =>
              have hlen : L.length ≤ t := List.getElem?_eq_none_iff.mp e
              have htop : topM m (stkN m (m 8) n).S n (m 8) = L.take t := by
                rw [hLdef, List.take_of_length_le (by omega), List.take_of_length_le (by omega)]
              refine bX11_stacks_100 in_ (iR_of (by omega) (by omega)) im hSt ⟨fun _ => ⟨⟨by omega, by omega⟩, iR_of (by omega) (by omega), iR_of (by omega) (by omega), fun _ hS' => ?_⟩, fun q => absurd rfl q⟩
              refine ih _ hS' (hF.setS (by decide)) (by simp (config := {decide := true}) only [sc_S, ia_S, la_S, rv_S, sc_I, rv_I, la_I, ia_I, sc_L, rv_L, ia_L, la_L, sc_A, rv_A, la_A, ia_A, sc_B, rv_B, ia_B, la_B, sc_R, ia_R, la_R, rv_R, ia_w, la_w, rv_w, sc_w, if_true, if_false]; exact hT) ?_ ?_ (fun i h0 h1 h2 => by simp (config := {decide := true}) only [sc_S, ia_S, la_S, rv_S, sc_I, rv_I, la_I, ia_I, sc_L, rv_L, ia_L, la_L, sc_A, rv_A, la_A, ia_A, sc_B, rv_B, ia_B, la_B, sc_R, ia_R, la_R, rv_R, ia_w, la_w, rv_w, sc_w, if_true, if_false]; exact h119 i h0 h1 h2) (fun i h0 h1 => by simp (config := {decide := true}) only [sc_S, ia_S, la_S, rv_S, sc_I, rv_I, la_I, ia_I, sc_L, rv_L, ia_L, la_L, sc_A, rv_A, la_A, ia_A, sc_B, rv_B, ia_B, la_B, sc_R, ia_R, la_R, rv_R, ia_w, la_w, rv_w, sc_w, if_true, if_false]; exact hll i h0 (by omega))
              · rw [hsN]
                show RelS _ ((topM m (stkN m (m 8) n).S n (m 8)).foldl (goS m) (stkN m (m 8) n).S)
                rw [htop, ← hTd]
                exact hR.cong rfl rfl rfl rfl rfl rfl (by simp (config := {decide := true}) only [sc_S, ia_S, la_S, rv_S, sc_I, rv_I, la_I, ia_I, sc_L, rv_L, ia_L, la_L, sc_A, rv_A, la_A, ia_A, sc_B, rv_B, ia_B, la_B, sc_R, ia_R, la_R, rv_R, ia_w, la_w, rv_w, sc_w, if_true, if_false]) (by simp (config := {decide := true}) only [sc_S, ia_S, la_S, rv_S, sc_I, rv_I, la_I, ia_I, sc_L, rv_L, ia_L, la_L, sc_A, rv_A, la_A, ia_A, sc_B, rv_B, ia_B, la_B, sc_R, ia_R, la_R, rv_R, ia_w, la_w, rv_w, sc_w, if_true, if_false])
              · rw [hsN]
                show _ = (stkN m (m 8) n).cut + ((cand m (stkN m (m 8) n).S n).length - (topM m (stkN m (m 8) n).S n (m 8)).length)
                simp (config := {decide := true}) only [sc_S, ia_S, la_S, rv_S, sc_I, rv_I, la_I, ia_I, sc_L, rv_L, ia_L, la_L, sc_A, rv_A, la_A, ia_A, sc_B, rv_B, ia_B, la_B, sc_R, ia_R, la_R, rv_R, ia_w, la_w, rv_w, sc_w, if_true, if_false]
                rw [htop, List.length_take, hcut, hL1]
                omega
            | some k =>
              have hlt : t < L.length := (List.getElem?_eq_some_iff.mp e).1
              have hkc := (hmemL k).mp (List.mem_of_getElem? e)
              have hkm := mem_cand.mp hkc
              have ik : iR k := iR_of (by omega) (by omega)
              have hT0 := goSs_IS hW (n := n) (L.take t) (stkN m (m 8) n).S hIS.1 (fun i hi => by
                have := mem_cand.mp ((hmemL i).mp (List.mem_of_mem_take hi))
                exact ⟨this.2.2, this.2.1⟩)
              rw [← hTd] at hT0
              have htlen : ((L.take t).length : Int) ≤ 40 := by rw [List.length_take]; omega
              have hkT : ¬ T.ls k = 0 := by rw [(hT0.2.1 k (by omega)).1]; exact hkm.2.2
              have hkg := goS_IS hW hT0.1 hkT
              rw [hkm.2.1] at hkg
              refine bX11_stacks_100 in_ (iR_of (by omega) (by omega)) ik hSt ⟨fun q => absurd q (by show ¬ k = -1; omega), fun _ => ⟨fun q => absurd q (by rw [et]; omega), fun _ => ⟨⟨by show 0 ≤ k; omega, by show k < 18816; omega⟩, ?_⟩⟩⟩
              show Cl g ad d mX11_goesOn 0 0 [.ref (ad 102), vi k] (setI τ 119 k 1) _
              refine Cl.vo (e_goesOn (d := d - 1) (S := T) (k := k) (m := m) (by simp (config := {decide := true}) only [sc_S, ia_S, la_S, rv_S, sc_I, rv_I, la_I, ia_I, sc_L, rv_L, ia_L, la_L, sc_A, rv_A, la_A, ia_A, sc_B, rv_B, ia_B, la_B, sc_R, ia_R, la_R, rv_R, ia_w, la_w, rv_w, sc_w, if_true, if_false]; exact et) hW (hR.cong (by simp (config := {decide := true}) only [sc_S, ia_S, la_S, rv_S, sc_I, rv_I, la_I, ia_I, sc_L, rv_L, ia_L, la_L, sc_A, rv_A, la_A, ia_A, sc_B, rv_B, ia_B, la_B, sc_R, ia_R, la_R, rv_R, ia_w, la_w, rv_w, sc_w, if_true, if_false]) (by simp (config := {decide := true}) only [sc_S, ia_S, la_S, rv_S, sc_I, rv_I, la_I, ia_I, sc_L, rv_L, ia_L, la_L, sc_A, rv_A, la_A, ia_A, sc_B, rv_B, ia_B, la_B, sc_R, ia_R, la_R, rv_R, ia_w, la_w, rv_w, sc_w, if_true, if_false]) (by simp (config := {decide := true}) only [sc_S, ia_S, la_S, rv_S, sc_I, rv_I, la_I, ia_I, sc_L, rv_L, ia_L, la_L, sc_A, rv_A, la_A, ia_A, sc_B, rv_B, ia_B, la_B, sc_R, ia_R, la_R, rv_R, ia_w, la_w, rv_w, sc_w, if_true, if_false]) (by simp (config := {decide := true}) only [sc_S, ia_S, la_S, rv_S, sc_I, rv_I, la_I, ia_I, sc_L, rv_L, ia_L, la_L, sc_A, rv_A, la_A, ia_A, sc_B, rv_B, ia_B, la_B, sc_R, ia_R, la_R, rv_R, ia_w, la_w, rv_w, sc_w, if_true, if_false]) (by simp (config := {decide := true}) only [sc_S, ia_S, la_S, rv_S, sc_I, rv_I, la_I, ia_I, sc_L, rv_L, ia_L, la_L, sc_A, rv_A, la_A, ia_A, sc_B, rv_B, ia_B, la_B, sc_R, ia_R, la_R, rv_R, ia_w, la_w, rv_w, sc_w, if_true, if_false]) (by simp (config := {decide := true}) only [sc_S, ia_S, la_S, rv_S, sc_I, rv_I, la_I, ia_I, sc_L, rv_L, ia_L, la_L, sc_A, rv_A, la_A, ia_A, sc_B, rv_B, ia_B, la_B, sc_R, ia_R, la_R, rv_R, ia_w, la_w, rv_w, sc_w, if_true, if_false]) (by simp (config := {decide := true}) only [sc_S, ia_S, la_S, rv_S, sc_I, rv_I, la_I, ia_I, sc_L, rv_L, ia_L, la_L, sc_A, rv_A, la_A, ia_A, sc_B, rv_B, ia_B, la_B, sc_R, ia_R, la_R, rv_R, ia_w, la_w, rv_w, sc_w, if_true, if_false]) (by simp (config := {decide := true}) only [sc_S, ia_S, la_S, rv_S, sc_I, rv_I, la_I, ia_I, sc_L, rv_L, ia_L, la_L, sc_A, rv_A, la_A, ia_A, sc_B, rv_B, ia_B, la_B, sc_R, ia_R, la_R, rv_R, ia_w, la_w, rv_w, sc_w, if_true, if_false])) hT0.1 hkT (SR_setI hSt (iR_lit rfl)) (by omega) (by omega) (by omega)) (by omega) (fun s8 hS8 h8 => ?_)
              have e8 : ia s8 103 = m := by rw [h8.2.a 103 rfl]; simp (config := {decide := true}) only [sc_S, ia_S, la_S, rv_S, sc_I, rv_I, la_I, ia_I, sc_L, rv_L, ia_L, la_L, sc_A, rv_A, la_A, ia_A, sc_B, rv_B, ia_B, la_B, sc_R, ia_R, la_R, rv_R, ia_w, la_w, rv_w, sc_w, if_true, if_false]; exact et
              have hF8 : Fm [117, 118, 119, 120, 121, 122, 123, 124, 125, 126] [22, 23, 43, 44, 45, 46, 47] σ s8 := (hF.setI (by decide)).trans (h8.2.mono (by decide) (by decide))
              have hT8 : StT m (ia s8 117) := by rw [h8.2.a 117 rfl]; simp (config := {decide := true}) only [sc_S, ia_S, la_S, rv_S, sc_I, rv_I, la_I, ia_I, sc_L, rv_L, ia_L, la_L, sc_A, rv_A, la_A, ia_A, sc_B, rv_B, ia_B, la_B, sc_R, ia_R, la_R, rv_R, ia_w, la_w, rv_w, sc_w, if_true, if_false]; exact hT
              have hKp : Kp n (stkN m (m 8) n).S (goS m T k) := hT0.2.1.trans hkg.2.1
              have hsr8 : srt (rkS m (goS m T k)) (cand m (goS m T k) n) = L := by rw [hKp.srt, hL]
              have hca8 : cand m (goS m T k) n = cand m (stkN m (m 8) n).S n := hKp.cand
              have hdis : k ∉ L.take t := by
                intro hin
                obtain ⟨i, hi⟩ := List.getElem?_of_mem hin
                have hit : i < t := by
                  have := (List.getElem?_eq_some_iff.mp hi).1
                  rw [List.length_take] at this
                  omega
                rw [List.getElem?_take_of_lt hit] at hi
                have := up_at' hupN hi e hit
                omega
              have htk8 : ∀ i, i ∈ cand m (stkN m (m 8) n).S n → (ia s8 119 i = 0 ↔ i ∉ L.take (t + 1)) := by
                intro i hi
                rw [h8.2.a 119 rfl]
                simp (config := {decide := true}) only [sc_S, ia_S, la_S, rv_S, sc_I, rv_I, la_I, ia_I, sc_L, rv_L, ia_L, la_L, sc_A, rv_A, la_A, ia_A, sc_B, rv_B, ia_B, la_B, sc_R, ia_R, la_R, rv_R, ia_w, la_w, rv_w, sc_w, if_true, if_false]
                rw [List.take_add_one, e]
                by_cases ei : i = k
                · rw [ei, up_at]
                  refine ⟨fun q => absurd q (by decide), fun q => absurd ?_ q⟩
                  simp
                · rw [up_ne ei, htk i hi, List.mem_append]
                  simp [ei]
              refine EI.k (e_nextOf (d := d - 1) (S := goS m T k) (n := n) (t := t + 1) e8 hW h8.1 hkg.1 hT8 (by omega) (by omega) (by rw [hsr8, hca8]; exact htk8) hS8 (by omega)) (by omega) (fun _ _ => ?_)
              rw [hsr8]
              refine ⟨iR_of (by omega) (by omega), fun _ _ _ _ => ?_⟩
              have := ihj (t + 1) s8 (goS m T k) (by omega) (by omega) hS8 hF8 hT8 h8.1 (by rw [List.take_add_one, e, List.foldl_append, ← hTd]; rfl) (by rw [h8.2.s 45 rfl]; simp (config := {decide := true}) only [sc_S, ia_S, la_S, rv_S, sc_I, rv_I, la_I, ia_I, sc_L, rv_L, ia_L, la_L, sc_A, rv_A, la_A, ia_A, sc_B, rv_B, ia_B, la_B, sc_R, ia_R, la_R, rv_R, ia_w, la_w, rv_w, sc_w, if_true, if_false]; exact hcut) (fun i h0 h1 h2 => by
                rw [h8.2.a 119 rfl]
                simp (config := {decide := true}) only [sc_S, ia_S, la_S, rv_S, sc_I, rv_I, la_I, ia_I, sc_L, rv_L, ia_L, la_L, sc_A, rv_A, la_A, ia_A, sc_B, rv_B, ia_B, la_B, sc_R, ia_R, la_R, rv_R, ia_w, la_w, rv_w, sc_w, if_true, if_false]
                rw [up_ne (fun q => by rw [q] at h2; omega)]
                exact h119 i h0 h1 h2) htk8 (fun i h0 h1 => by rw [h8.2.a 125 rfl, h8.2.a 126 rfl]; simp (config := {decide := true}) only [sc_S, ia_S, la_S, rv_S, sc_I, rv_I, la_I, ia_I, sc_L, rv_L, ia_L, la_L, sc_A, rv_A, la_A, ia_A, sc_B, rv_B, ia_B, la_B, sc_R, ia_R, la_R, rv_R, ia_w, la_w, rv_w, sc_w, if_true, if_false]; exact hll i h0 h1)
              exact this
        refine EI.k (e_nextOf (d := d - 1) (S := (stkN m (m 8) n).S) (n := n) (t := 0) e2 hW hR2 hIS.1 hT2 (by omega) (by omega) (fun k hk => by
          have := mem_cand.mp hk
          rw [h119' k (by omega) (by omega) (by omega)]
          simp) hS2 (by omega)) (by omega) (fun _ _ => ?_)
        intros
        rw [hL]
        exact lp (m 8).toNat 0 s2 _ (by omega) (by omega) hS2 hF2 hT2 hR2 rfl hc2 (fun i h0 h1 h2 => h119' i h0 h1 (by omega)) (fun k hk => by
          have := mem_cand.mp hk
          rw [h119' k (by omega) (by omega) (by omega)]
          simp) hll2
      · refine ih s2 hS2 hF2 hT2 ?_ ?_ (fun j h0 h1 h2 => h119' j h0 h1 (by omega)) hll2
        · rw [show min (n + 1) (m 3) = n by omega]; exact hR2
        · rw [show min (n + 1) (m 3) = n by omega]; exact hc2
    · rw [show min 0 (m 3) = 0 by omega]
      exact h4.1
    · rw [show min 0 (m 3) = 0 by omega]
      exact hc45
  · intro k hk0 hk1 ih τ hSt hF hT hall
    refine bX11_stacks_6 (iR_of (by omega) (by omega)) hSt ⟨fun q => absurd q (by omega), fun _ => ⟨⟨hk0, hk1⟩, iR_of (by omega) (by omega), fun _ hS' => ?_⟩⟩
    refine ih _ hS' ((hF.setI (by decide)).setI (by decide)) (by simp (config := {decide := true}) only [sc_S, ia_S, la_S, rv_S, sc_I, rv_I, la_I, ia_I, sc_L, rv_L, ia_L, la_L, sc_A, rv_A, la_A, ia_A, sc_B, rv_B, ia_B, la_B, sc_R, ia_R, la_R, rv_R, ia_w, la_w, rv_w, sc_w, if_true, if_false]; exact hT) (fun j hj0 hj1 => ?_)
    simp (config := {decide := true}) only [sc_S, ia_S, la_S, rv_S, sc_I, rv_I, la_I, ia_I, sc_L, rv_L, ia_L, la_L, sc_A, rv_A, la_A, ia_A, sc_B, rv_B, ia_B, la_B, sc_R, ia_R, la_R, rv_R, ia_w, la_w, rv_w, sc_w, if_true, if_false]
    by_cases e : j = k
    · rw [e, up_at, up_at]; exact ⟨rfl, rfl⟩
    · rw [up_ne e, up_ne e]; exact hall j hj0 (by omega)
end STM

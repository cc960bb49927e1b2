/-- the stacks are filled -/
def FIL (s : SG) (m : Int → Int) (w : Int) : Prop := (sc s 75 12 = (stkM m w).S.mn) ∧ (sc s 75 13 = (stkM m w).S.mg) ∧ (sc s 75 14 = (stkM m w).cut) ∧ (sc s 75 15 = fcM m (stkM m w).S) ∧ (PaC s m (if fkM m (stkM m w).S = -1 then [] else fpM m w)) ∧ (∀ n, 0 ≤ n → n ≤ m 3 → ia s 80 n = (cand m (stkN m w n).S n).length) ∧ (∀ n, 0 ≤ n → n ≤ m 3 → ia s 81 n = lowM m (stkN m w n).S n)
theorem FIL.mn {s : SG} {m : Int → Int} {w : Int} (h_ : FIL s m w) : sc s 75 12 = (stkM m w).S.mn := h_.1
theorem FIL.mg {s : SG} {m : Int → Int} {w : Int} (h_ : FIL s m w) : sc s 75 13 = (stkM m w).S.mg := h_.2.1
theorem FIL.ct {s : SG} {m : Int → Int} {w : Int} (h_ : FIL s m w) : sc s 75 14 = (stkM m w).cut := h_.2.2.1
theorem FIL.fc {s : SG} {m : Int → Int} {w : Int} (h_ : FIL s m w) : sc s 75 15 = fcM m (stkM m w).S := h_.2.2.2.1
theorem FIL.pa {s : SG} {m : Int → Int} {w : Int} (h_ : FIL s m w) : PaC s m (if fkM m (stkM m w).S = -1 then [] else fpM m w) := h_.2.2.2.2.1
theorem FIL.cn {s : SG} {m : Int → Int} {w : Int} (h_ : FIL s m w) : ∀ n, 0 ≤ n → n ≤ m 3 → ia s 80 n = (cand m (stkN m w n).S n).length := h_.2.2.2.2.2.1
theorem FIL.lo {s : SG} {m : Int → Int} {w : Int} (h_ : FIL s m w) : ∀ n, 0 ≤ n → n ≤ m 3 → ia s 81 n = lowM m (stkN m w n).S n := h_.2.2.2.2.2.2
section FILs
variable {g : AG} {ad : Nat → Nat} {d : Nat} {σ : SG} {m t : Int → Int} {k : Nat}
theorem Kp.mono {n n' : Int} {S T : SK} (h : Kp n S T) (hn : n' ≤ n) : Kp n' S T := fun j hj => h j (by omega)
theorem top_mem {S : SK} {n w q : Int} (h : q ∈ topM m S n w) : q ∈ cand m S n := by
  unfold topM at h
  exact mem_srt.mp (List.mem_of_mem_take h)
theorem stage_Kp (hW : WF m) {w n : Int} {R : SR_} (hI : IS m R.S) : Kp n R.S (stage m w R n).S := by
  have h1 : ∀ q ∈ topM m R.S n w, ¬ R.S.ls q = 0 ∧ (pc (q / 294) : Int) = n := fun q hq => by
    have := mem_cand.mp (top_mem hq)
    exact ⟨this.2.2, this.2.1⟩
  exact (goSs_IS hW _ R.S hI h1).2.1
theorem stkN_Kp (hW : WF m) {w : Int} (hw : 1 ≤ w ∧ w ≤ 40) {n : Int} (hn : 0 ≤ n) : ∀ (j : Nat), Kp n (stkN m w n).S (stkN m w (n + j)).S
  | 0 => by
    rw [show n + ((0 : Nat) : Int) = n by omega]
    exact Kp.refl
  | j + 1 => by
    have ih := stkN_Kp hW hw hn j
    have e : n + ((j + 1 : Nat) : Int) = n + (j : Int) + 1 := by omega
    rw [e, stkN_succ (by omega)]
    refine ih.trans ?_
    have hI := (stkN_IS (m := m) hW hw (n + (j : Int)).toNat).1
    rw [show (((n + (j : Int)).toNat : Nat) : Int) = n + (j : Int) by omega] at hI
    exact (stage_Kp hW hI).mono (by omega)
theorem low_Kp {n : Int} {S T : SK} (h : Kp n S T) : lowM m T n = lowM m S n := by
  unfold lowM
  rw [h.cand]
  have key : ∀ (l : List Int) (b : Int), (∀ q ∈ l, sco m T q = sco m S q) → l.foldl (fun b k => if b = -1 ∨ sco m T k < b then sco m T k else b) b = l.foldl (fun b k => if b = -1 ∨ sco m S k < b then sco m S k else b) b := by
    intro l
    induction l with
    | nil => intro b _; rfl
    | cons q l ih =>
      intro b hq
      rw [List.foldl_cons, List.foldl_cons, hq q (List.mem_cons_self ..)]
      exact ih _ (fun q' hq' => hq q' (List.mem_cons_of_mem _ hq'))
  refine key _ _ (fun q hq => ?_)
  have h1 := mem_cand.mp hq
  have h2 := h q (by omega)
  unfold sco
  rw [h2.2.1]
theorem emp_SCl {s : SG} (h13 : sc s 75 13 = 0) (h77 : ∀ i, 0 ≤ i → i < kN s → ia s 77 i = -1) (h80 : ∀ i, 0 ≤ i → i < 7 → ia s 80 i = 0) (h81 : ∀ i, 0 ≤ i → i < 7 → ia s 81 i = -1) (h3 : m 3 ≤ 6) : SCl s m emptyS := by
  have hc : ∀ n, cand m emptyS n = [] := fun n => by
    refine List.eq_nil_iff_forall_not_mem.mpr (fun q hq => ?_)
    exact (mem_cand.mp hq).2.2 rfl
  refine ⟨fun i h0 h1 => ⟨fun _ => h77 i h0 h1, fun _ => rfl⟩, fun i h0 h1 z => absurd rfl z, fun i h0 h1 z => absurd rfl z, fun q z => absurd rfl z, h13, fun n h0 h1 => ?_, fun n h0 h1 => ?_⟩
  · rw [h80 n h0 (by omega), hc]
    rfl
  · rw [h81 n h0 (by omega)]
    unfold lowM
    rw [hc]
    rfl
theorem emp_IS0 : IS m emptyS := ⟨fun q z => absurd rfl z, fun q => Or.inl rfl, fun q z => absurd rfl z, fun q z => absurd rfl z, fun q j z => absurd rfl z, ⟨Int.le_refl _, by show (0 : Int) ≤ -1 + 1; omega⟩, fun q z => absurd rfl z⟩
theorem Tk_F {s : SG} (h : Fr (fun c => c = 84 ∨ c = 75) σ s) : Fr Fcl σ s := h.mono (fun c hc => by
  rcases hc with z | z <;> rw [z] <;> exact ⟨by omega, by omega⟩)
/-- over the chosen ones -/
theorem f_fill114 {R : SR_} {n w : Int} {T : List Int} {Q : SG → Prop} (hk : isK k) (hB : SB σ m k) (hW : WF m) (hI : IS m R.S) (hmb : 0 ≤ R.S.mn ∧ R.S.mn ≤ 800000) (hn : 0 ≤ n ∧ n < m 3) (hw : 1 ≤ w ∧ w ≤ 40) (hT : T.map (kK σ) = topM m R.S n w) (hTb : ∀ y ∈ T, 0 ≤ y ∧ y < kN σ) (h11 : sc σ 75 11 = (T.length : Int)) (hA : ∀ (p : Nat) (i : Int), T[p]? = some i → ia σ 83 p = i) (hd : 4 ≤ d)
    (hE : ∀ τ, SR τ → SCl τ m (stage m w R n).S → sc τ 75 12 = (stage m w R n).S.mn → Gk σ τ → aX7_fill_71 g ad d (Kv Q) 0 0 τ (m 6) (m 7) w (n + 1)) :
    ∀ τ, SR τ → SCl τ m R.S → sc τ 75 12 = R.S.mn → Gk σ τ → aX7_fill_114 g ad d (Kv Q) 0 0 τ (m 6) (m 7) w n 0 := by
  have h3 := hW.1.2.2.2.1
  have hlen : T.length = (topM m R.S n w).length := by rw [← hT, List.length_map]
  have hl40 : (T.length : Int) ≤ 40 := by
    have := topM_len (m := m) (S := R.S) (n := n) (w := w) (by omega)
    omega
  have h6 := hW.1.2.2.2.2.2.2.1
  have h7 := hW.1.2.2.2.2.2.2.2.1
  have i6 : iR (m 6) := iR_of (by omega) (by omega)
  have i7 : iR (m 7) := iR_of (by omega) (by omega)
  have iw : iR w := iR_of (by omega) (by omega)
  have i4 : iR n := iR_of (by omega) (by omega)
  have hpre : ∀ p : Nat, IS m (((topM m R.S n w).take p).foldl (goS m) R.S) ∧ Kp n R.S (((topM m R.S n w).take p).foldl (goS m) R.S) ∧ R.S.mn ≤ (((topM m R.S n w).take p).foldl (goS m) R.S).mn ∧ (((topM m R.S n w).take p).foldl (goS m) R.S).mn ≤ R.S.mn + 186 * 40 := fun p => by
    have h1 := goSs_IS hW (n := n) ((topM m R.S n w).take p) R.S hI (fun q hq => by
      have := mem_cand.mp (top_mem (List.mem_of_mem_take hq))
      exact ⟨this.2.2, this.2.1⟩)
    have h2 : ((topM m R.S n w).take p).length ≤ T.length := by
      rw [List.length_take, ← hlen]
      omega
    exact ⟨h1.1, h1.2.1, h1.2.2.1, by have := h1.2.2.2; omega⟩
  intro τ0 hS0 hC0 hm0 hG0
  have key := up_loop (P := fun x => ∀ τ, SR τ → SCl τ m (((topM m R.S n w).take x.toNat).foldl (goS m) R.S) → sc τ 75 12 = (((topM m R.S n w).take x.toNat).foldl (goS m) R.S).mn → Gk σ τ → aX7_fill_114 g ad d (Kv Q) 0 0 τ (m 6) (m 7) w n x) (hi := (T.length : Int)) 0 (by omega) ?_ ?_
  · exact key τ0 hS0 hC0 hm0 hG0
  · intro τ hSt hC hm hG
    have e11 : sc τ 75 11 = (T.length : Int) := hG.2.1.trans h11
    have ef : (topM m R.S n w).take (T.length : Int).toNat = topM m R.S n w := List.take_of_length_le (by omega)
    rw [ef] at hC hm
    refine bX7_fill_114 i6 i7 iw i4 (iR_of (by omega) (by omega)) hSt ⟨fun _ => ⟨iR_of (by omega) (by omega), fun _ _ _ _ hS' => hE τ hS' hC hm hG⟩, fun z => absurd (by rw [e11]; exact Int.le_refl _) z⟩
  · intro x hx0 hx1 ih τ hSt hC hm hG
    have e11 : sc τ 75 11 = (T.length : Int) := hG.2.1.trans h11
    obtain ⟨y, hy⟩ : ∃ y, T[x.toNat]? = some y := ⟨T[x.toNat]'(by omega), List.getElem?_eq_getElem (by omega)⟩
    have hyb := hTb y (List.mem_of_getElem? hy)
    have e83 : ia τ 83 x = y := by
      rw [hG.2.2.2.2.2]
      have := hA x.toNat y hy
      rw [show ((x.toNat : Nat) : Int) = x by omega] at this
      exact this
    have e5 : kN τ = kN σ := hG.1.sc 58 5 (fun z => by unfold Fcl at z; omega)
    have e60 : ia τ 60 = ia σ 60 := hG.1.ia 60 (fun z => by unfold Fcl at z; omega)
    have ekK : kK τ y = kK σ y := by show keyC (ia τ 60 y) = keyC (ia σ 60 y); rw [e60]
    have hty : (topM m R.S n w)[x.toNat]? = some (kK σ y) := by rw [← hT, List.getElem?_map, hy]; rfl
    have hyc := mem_cand.mp (top_mem (List.mem_of_getElem? hty))
    have hp := hpre x.toNat
    have hls : ¬ (((topM m R.S n w).take x.toNat).foldl (goS m) R.S).ls (kK τ y) = 0 := by
      rw [ekK, (hp.2.1 _ (by omega)).1]
      exact hyc.2.2
    have hgo := f_goOn (g := g) (ad := ad) (d := d - 1) (i := y) hk (hB.fr hk hG.1) hW hp.1 hC hm (by omega) (by rw [e5]; exact hyb) hls hSt (by omega)
    refine bX7_fill_114 i6 i7 iw i4 (iR_of (by omega) (by omega)) hSt ⟨fun z => absurd z (by rw [e11]; omega), fun _ => ⟨⟨hx0, by omega⟩, ?_⟩⟩
    rw [e83]
    refine Cl.vo hgo (by omega) (fun s9 hS9 h9 => ⟨iR_of (by omega) (by omega), fun _ _ _ _ _ _ => ?_⟩)
    have e1 : (topM m R.S n w).take (x + 1).toNat = (topM m R.S n w).take x.toNat ++ [kK σ y] := by
      rw [show (x + 1).toNat = x.toNat + 1 by omega, List.take_add_one, hty]
      rfl
    rw [ekK] at h9
    refine ih s9 hS9 ?_ ?_ (hG.trans h9.2)
    · rw [e1, List.foldl_append]
      exact h9.1.1
    · rw [e1, List.foldl_append]
      exact h9.1.2.2.1
theorem f_fill {w : Int} (hk : isK k) (hB : SB σ m k) (hW : WF m) (hw : 1 ≤ w ∧ w ≤ 40) (hS : SR σ) (hd : 4 ≤ d) : Eb g ad d mX7_fill 0 0 [.ref (ad 75), vi (m 6), vi (m 7), vi w] σ (Kv fun s => FIL s m w ∧ Fr Fcl σ s) := by
  have h3 := hW.1.2.2.2.1
  have hnb := hB.kn.nb
  have h6 := hW.1.2.2.2.2.2.2.1
  have h7 := hW.1.2.2.2.2.2.2.2.1
  have i6 : iR (m 6) := iR_of (by omega) (by omega)
  have i7 : iR (m 7) := iR_of (by omega) (by omega)
  have iw : iR w := iR_of (by omega) (by omega)
  refine EbS rfl pl_X7 rfl rfl (bX7_fill_0 i6 i7 iw hS ?_)
  intro _ _ _ _ hS0
  have f75 : Fcl 75 := ⟨by omega, by omega⟩
  -- the stages
  have stages : ∀ x, 0 ≤ x → x ≤ m 3 → ∀ τ, SR τ → SCl τ m (stkN m w x).S → sc τ 75 12 = (stkN m w x).S.mn → sc τ 75 14 = (stkN m w x).cut → Fr Fcl σ τ → aX7_fill_71 g ad d (Kv fun s => FIL s m w ∧ Fr Fcl σ s) 0 0 τ (m 6) (m 7) w x := by
    intro x hx0 hx1
    have isx : ∀ y, 0 ≤ y → y ≤ m 3 → IS m (stkN m w y).S ∧ 0 ≤ (stkN m w y).S.mn ∧ (stkN m w y).S.mn ≤ 7440 * 6 := fun y h0 h1 => by
      have := stkN_IS (m := m) hW hw y.toNat
      rw [show ((y.toNat : Nat) : Int) = y by omega] at this
      exact ⟨this.1, this.2.1, by omega⟩
    refine up_loop (P := fun x => 0 ≤ x → ∀ τ, SR τ → SCl τ m (stkN m w x).S → sc τ 75 12 = (stkN m w x).S.mn → sc τ 75 14 = (stkN m w x).cut → Fr Fcl σ τ → aX7_fill_71 g ad d (Kv fun s => FIL s m w ∧ Fr Fcl σ s) 0 0 τ (m 6) (m 7) w x) (hi := m 3) x hx1 ?_ ?_ hx0
    · intro _ τ hSt hC hm hc hF
      have hBt := hB.fr hk hF
      have hI := isx (m 3) (by omega) (Int.le_refl _)
      refine bX7_fill_71 i6 i7 iw (iR_of (by omega) (by omega)) hSt ⟨fun _ => ?_, fun z => absurd (by rw [hBt.op.pl]; exact Int.le_refl _) z⟩
      refine Cl.vo (f_find (d := d - 1) hk hBt hW hI.1 hC (by omega) hSt (by omega)) (by omega) (fun s9 hS9 h9 => re_v ?_)
      obtain ⟨b, hbe, hpa, hfr, hsc⟩ := h9
      have hfk := BeP_fk hBt hW hI.1 hC (by omega) hbe
      refine ⟨⟨?_, ?_, ?_, hfk.2.1, ?_, fun n h0 h1 => ?_, fun n h0 h1 => ?_⟩, hF.trans (Tk_F hfr)⟩
      · rw [hsc 12 (by decide) (by decide)]
        exact hm
      · rw [hsc 13 (by decide) (by decide)]
        exact hC.mg_
      · rw [hsc 14 (by decide) (by decide)]
        exact hc
      · show PaC s9 m (if fkM m (stkN m w (m 3)).S = -1 then [] else pthM (stkN m w (m 3)).S (fkM m (stkN m w (m 3)).S))
        by_cases c : b = -1
        · rw [if_pos (hfk.2.2.mp c)]
          rw [if_pos c] at hpa
          exact hpa
        · rw [if_neg (fun z => c (hfk.2.2.mpr z)), ← hfk.1, if_neg c]
          rw [if_neg c] at hpa
          exact hpa
      · have hkp := stkN_Kp hW hw h0 (m 3 - n).toNat
        rw [show n + (((m 3 - n).toNat : Nat) : Int) = m 3 by omega] at hkp
        rw [hfr.ia 80 (by omega), hC.ct n h0 h1, hkp.cand]
      · have hkp := stkN_Kp hW hw h0 (m 3 - n).toNat
        rw [show n + (((m 3 - n).toNat : Nat) : Int) = m 3 by omega] at hkp
        rw [hfr.ia 81 (by omega), hC.lo n h0 h1, low_Kp hkp]
    · intro n hn0 hn1 ih hnn τ hSt hC hm hc hF
      have hBt := hB.fr hk hF
      have hI := isx n (by omega) (by omega)
      refine bX7_fill_71 i6 i7 iw (iR_of (by omega) (by omega)) hSt ⟨fun z => absurd z (by rw [hBt.op.pl]; omega), fun _ => ?_⟩
      refine Cl.vo (f_choose (d := d - 1) hk hBt hW hI.1 hC (by omega) ⟨hnn, hn1⟩ hw hSt (by omega)) (by omega) (fun s9 hS9 h9 => ⟨⟨hnn, by omega⟩, ?_⟩)
      obtain ⟨T, hA, h11, hTm, hTb, hO⟩ := h9
      have hC9 := hC.ok hO
      have hlenT : T.length = (topM m (stkN m w n).S n w).length := by rw [← hTm, List.length_map]
      have ecut : sc s9 75 14 + (ia s9 80 n - sc s9 75 11) = (stkN m w (n + 1)).cut := by
        rw [hO.2 14 (by decide), hC9.ct n hnn (by omega), h11, hc, stkN_succ hnn, hlenT]
        rfl
      rw [ecut]
      have hcb := cut_b hW.1 (w := w) (by omega) (n + 1).toNat
      rw [show (((n + 1).toNat : Nat) : Int) = n + 1 by omega] at hcb
      refine ⟨iR_of (by omega) (by omega), fun _ _ _ _ _ hS10 => ?_⟩
      have hF9 : Fr Fcl τ (setS s9 75 14 (stkN m w (n + 1)).cut) := hO.f.S f75
      have hB9 := hBt.fr hk hF9
      have e60 : ia s9 60 = ia τ 60 := hO.1.ia 60 (by omega)
      have e5 : sc s9 58 5 = sc τ 58 5 := hO.1.sc 58 5 (by omega)
      have ekK : kK (setS s9 75 14 (stkN m w (n + 1)).cut) = kK τ := by
        funext i
        show keyC (ia s9 60 i) = keyC (ia τ 60 i)
        rw [e60]
      refine f_fill114 (σ := setS s9 75 14 (stkN m w (n + 1)).cut) (R := stkN m w n) (T := T) hk hB9 hW hI.1 (by omega) ⟨hnn, hn1⟩ hw (by rw [ekK]; exact hTm) (fun y hy => ?_) (by simp (config := {decide := true}) only [sc_S, ia_S, la_S, rv_S, sc_I, rv_I, la_I, ia_I, sc_L, rv_L, ia_L, la_L, sc_A, rv_A, la_A, ia_A, sc_B, rv_B, ia_B, la_B, sc_R, ia_R, la_R, rv_R, ia_w, la_w, rv_w, sc_w, if_true, if_false]; exact h11) (fun p i hp => (hA p i hp).1) hd ?_ _ hS10 (hC9.fr rfl rfl rfl rfl rfl rfl rfl (by simp (config := {decide := true}) only [sc_S, ia_S, la_S, rv_S, sc_I, rv_I, la_I, ia_I, sc_L, rv_L, ia_L, la_L, sc_A, rv_A, la_A, ia_A, sc_B, rv_B, ia_B, la_B, sc_R, ia_R, la_R, rv_R, ia_w, la_w, rv_w, sc_w, if_true, if_false]) (by simp (config := {decide := true}) only [sc_S, ia_S, la_S, rv_S, sc_I, rv_I, la_I, ia_I, sc_L, rv_L, ia_L, la_L, sc_A, rv_A, la_A, ia_A, sc_B, rv_B, ia_B, la_B, sc_R, ia_R, la_R, rv_R, ia_w, la_w, rv_w, sc_w, if_true, if_false])) (by simp (config := {decide := true}) only [sc_S, ia_S, la_S, rv_S, sc_I, rv_I, la_I, ia_I, sc_L, rv_L, ia_L, la_L, sc_A, rv_A, la_A, ia_A, sc_B, rv_B, ia_B, la_B, sc_R, ia_R, la_R, rv_R, ia_w, la_w, rv_w, sc_w, if_true, if_false]; rw [hO.2 12 (by decide)]; exact hm) ⟨Fr.refl _, rfl, rfl, rfl, rfl, rfl⟩
      · have h1 := hTb y hy
        have : kN (setS s9 75 14 (stkN m w (n + 1)).cut) = kN τ := by
          show sc (setS s9 75 14 (stkN m w (n + 1)).cut) 58 5 = sc τ 58 5
          simp (config := {decide := true}) only [sc_S, ia_S, la_S, rv_S, sc_I, rv_I, la_I, ia_I, sc_L, rv_L, ia_L, la_L, sc_A, rv_A, la_A, ia_A, sc_B, rv_B, ia_B, la_B, sc_R, ia_R, la_R, rv_R, ia_w, la_w, rv_w, sc_w, if_true, if_false]
          exact e5
        rw [this]
        exact h1
      · intro u hSu hCu hmu hGu
        rw [← stkN_succ hnn] at hCu hmu
        exact ih (by omega) u hSu hCu hmu (by rw [hGu.2.2.1]; simp (config := {decide := true}) only [sc_S, ia_S, la_S, rv_S, sc_I, rv_I, la_I, ia_I, sc_L, rv_L, ia_L, la_L, sc_A, rv_A, la_A, ia_A, sc_B, rv_B, ia_B, la_B, sc_R, ia_R, la_R, rv_R, ia_w, la_w, rv_w, sc_w, if_true, if_false]) (hF.trans (hF9.trans hGu.1))
  -- the times are cleared
  refine up_loop (P := fun x => ∀ τ, SR τ → Fr Fcl σ τ → (∀ i, 0 ≤ i → i < x → ia τ 77 i = -1) → aX7_fill_3 g ad d (Kv fun s => FIL s m w ∧ Fr Fcl σ s) 0 0 τ (m 6) (m 7) w x) (hi := kN σ) 0 (by omega) ?_ ?_ σ hS0 (Fr.refl σ) (fun i h0 h1 => by omega)
  · intro τ hSt hF h77
    have e5 : kN τ = kN σ := hF.sc 58 5 (fun z => by unfold Fcl at z; omega)
    have e5' : sc τ 58 5 = sc σ 58 5 := e5
    refine bX7_fill_3 i6 i7 iw (iR_of (by omega) (by omega)) hSt ⟨fun _ => ?_, fun z => absurd (by rw [e5']; exact Int.le_refl _) z⟩
    refine EV.k (j_fill (d := d - 1) aI_80 (iR_lit rfl) (by decide) hSt) (by omega) (fun hS1 => ?_)
    refine EV.k (j_fill (d := d - 1) aI_81 (iR_lit rfl) (by decide) hS1) (by omega) (fun hS2 => ?_)
    generalize hs1 : setA (setA τ 80 (fil (ia τ 80) 7 0)) 81 (fil (ia (setA τ 80 (fil (ia τ 80) 7 0)) 81) 7 (-1)) = s1 at hS2
    have f1 : Fr Fcl τ s1 := by
      rw [← hs1]
      exact ((Fr.refl τ).A ⟨by omega, by omega⟩).A ⟨by omega, by omega⟩
    have f2 : Fr Fcl τ (setS (setS (setS s1 75 12 0) 75 13 0) 75 14 0) := ((f1.S f75).S f75).S f75
    have hS3 : SR (setS (setS (setS s1 75 12 0) 75 13 0) 75 14 0) := SR_setS (SR_setS (SR_setS hS2 (iR_lit rfl)) (iR_lit rfl)) (iR_lit rfl)
    have e80 : ∀ i, 0 ≤ i → i < 7 → ia s1 80 i = 0 := fun i h0 h1 => by
      rw [← hs1]
      simp (config := {decide := true}) only [sc_S, ia_S, la_S, rv_S, sc_I, rv_I, la_I, ia_I, sc_L, rv_L, ia_L, la_L, sc_A, rv_A, la_A, ia_A, sc_B, rv_B, ia_B, la_B, sc_R, ia_R, la_R, rv_R, ia_w, la_w, rv_w, sc_w, if_true, if_false]
      show (if 0 ≤ i ∧ i < ((7 : Nat) : Int) then (0 : Int) else _) = 0
      rw [if_pos (by omega)]
    have e81 : ∀ i, 0 ≤ i → i < 7 → ia s1 81 i = -1 := fun i h0 h1 => by
      rw [← hs1]
      simp (config := {decide := true}) only [sc_S, ia_S, la_S, rv_S, sc_I, rv_I, la_I, ia_I, sc_L, rv_L, ia_L, la_L, sc_A, rv_A, la_A, ia_A, sc_B, rv_B, ia_B, la_B, sc_R, ia_R, la_R, rv_R, ia_w, la_w, rv_w, sc_w, if_true, if_false]
      show (if 0 ≤ i ∧ i < ((7 : Nat) : Int) then (-1 : Int) else _) = -1
      rw [if_pos (by omega)]
    have e77 : ia s1 77 = ia τ 77 := by
      rw [← hs1]
      simp (config := {decide := true}) only [sc_S, ia_S, la_S, rv_S, sc_I, rv_I, la_I, ia_I, sc_L, rv_L, ia_L, la_L, sc_A, rv_A, la_A, ia_A, sc_B, rv_B, ia_B, la_B, sc_R, ia_R, la_R, rv_R, ia_w, la_w, rv_w, sc_w, if_true, if_false]
    have e3 : kN (setS (setS (setS s1 75 12 0) 75 13 0) 75 14 0) = kN σ := by
      show sc (setS (setS (setS s1 75 12 0) 75 13 0) 75 14 0) 58 5 = _
      simp (config := {decide := true}) only [sc_S, ia_S, la_S, rv_S, sc_I, rv_I, la_I, ia_I, sc_L, rv_L, ia_L, la_L, sc_A, rv_A, la_A, ia_A, sc_B, rv_B, ia_B, la_B, sc_R, ia_R, la_R, rv_R, ia_w, la_w, rv_w, sc_w, if_true, if_false]
      rw [f1.sc 58 5 (fun z => by unfold Fcl at z; omega)]
      exact e5'
    have hB3 := (hB.fr hk hF).fr hk f2
    have hC3 : SCl (setS (setS (setS s1 75 12 0) 75 13 0) 75 14 0) m emptyS := emp_SCl (by simp (config := {decide := true}) only [sc_S, ia_S, la_S, rv_S, sc_I, rv_I, la_I, ia_I, sc_L, rv_L, ia_L, la_L, sc_A, rv_A, la_A, ia_A, sc_B, rv_B, ia_B, la_B, sc_R, ia_R, la_R, rv_R, ia_w, la_w, rv_w, sc_w, if_true, if_false]) (fun i h0 h1 => by
      show ia s1 77 i = -1
      rw [e77]
      exact h77 i h0 (by omega)) (fun i h0 h1 => e80 i h0 h1) (fun i h0 h1 => e81 i h0 h1) (by omega)
    have hk0 : kK (setS (setS (setS s1 75 12 0) 75 13 0) 75 14 0) 0 = 0 := by
      show keyC (ia (setS (setS (setS s1 75 12 0) 75 13 0) 75 14 0) 60 0) = 0
      rw [hB3.kn.c0]
      rfl
    have hlay := f_lay (g := g) (ad := ad) (d := d - 1) (i := 0) (c := 0) (p := -1) (j := -1) (fr_ := -1) (bs_ := -1) (bo_ := -1) hk hB3 hW emp_IS0 hC3 (by simp (config := {decide := true}) only [sc_S, ia_S, la_S, rv_S, sc_I, rv_I, la_I, ia_I, sc_L, rv_L, ia_L, la_L, sc_A, rv_A, la_A, ia_A, sc_B, rv_B, ia_B, la_B, sc_R, ia_R, la_R, rv_R, ia_w, la_w, rv_w, sc_w, if_true, if_false]) ⟨by decide, by decide⟩ (by rw [e3]; omega) (by omega) (Or.inl ⟨rfl, rfl, rfl⟩) hS3 (by omega)
    rw [hk0] at hlay
    refine Cl.vo hlay (by omega) (fun s9 hS9 h9 _ _ _ _ hS10 => ?_)
    refine stages 0 (Int.le_refl _) (by omega) s9 hS9 h9.1 ?_ ?_ (hF.trans (f2.trans h9.2.1))
    · rw [h9.2.2.1]
      exact (emp_IS hW).2.symm
    · rw [h9.2.2.2.2.1]
      simp (config := {decide := true}) only [sc_S, ia_S, la_S, rv_S, sc_I, rv_I, la_I, ia_I, sc_L, rv_L, ia_L, la_L, sc_A, rv_A, la_A, ia_A, sc_B, rv_B, ia_B, la_B, sc_R, ia_R, la_R, rv_R, ia_w, la_w, rv_w, sc_w, if_true, if_false]
      rfl
  · intro x hx0 hx1 ih τ hSt hF h77
    have e5' : sc τ 58 5 = sc σ 58 5 := hF.sc 58 5 (fun z => by unfold Fcl at z; omega)
    have hx1' : x < sc σ 58 5 := hx1
    refine bX7_fill_3 i6 i7 iw (iR_of (by omega) (by omega)) hSt ⟨fun z => absurd z (by rw [e5']; omega), fun _ => ⟨⟨by omega, by omega⟩, iR_of (by omega) (by omega), fun _ _ _ _ hS1 => ?_⟩⟩
    refine ih _ hS1 (hF.I ⟨by omega, by omega⟩) (fun i h0 h1 => ?_)
    by_cases c : i = x
    · simp (config := {decide := true}) only [sc_S, ia_S, la_S, rv_S, sc_I, rv_I, la_I, ia_I, sc_L, rv_L, ia_L, la_L, sc_A, rv_A, la_A, ia_A, sc_B, rv_B, ia_B, la_B, sc_R, ia_R, la_R, rv_R, ia_w, la_w, rv_w, sc_w, if_true, if_false]
      rw [c, up_at]
    · simp (config := {decide := true}) only [sc_S, ia_S, la_S, rv_S, sc_I, rv_I, la_I, ia_I, sc_L, rv_L, ia_L, la_L, sc_A, rv_A, la_A, ia_A, sc_B, rv_B, ia_B, la_B, sc_R, ia_R, la_R, rv_R, ia_w, la_w, rv_w, sc_w, if_true, if_false]
      rw [up_ne c]
      exact h77 i h0 (by omega)
end FILs

section EDs
variable {g : AG} {ad : Nat → Nat} {d : Nat} {σ : SG} {m : Int → Int}
/-- APART -/
def edT (A B : Nat → Int) : Nat → Nat → Int
  | 0, j => j
  | i + 1, 0 => ((i + 1 : Nat) : Int)
  | i + 1, j + 1 => min (edT A B i j + (if A i = B j then 0 else 1)) (1 + min (edT A B i (j + 1)) (edT A B (i + 1) j))
theorem edT_b {A B : Nat → Int} : ∀ (i j : Nat), 0 ≤ edT A B i j ∧ edT A B i j ≤ i + j
  | 0, j => by rw [edT]; omega
  | i + 1, 0 => by rw [edT]; omega
  | i + 1, j + 1 => by
    rw [edT]
    have h1 := edT_b (A := A) (B := B) i j
    have h2 := edT_b (A := A) (B := B) i (j + 1)
    have h3 := edT_b (A := A) (B := B) (i + 1) j
    split <;> omega
theorem edT_cong {A B A' B' : Nat → Int} : ∀ (i j : Nat), (∀ a b, a < i → b < j → (A a = B b ↔ A' a = B' b)) → edT A B i j = edT A' B' i j
  | 0, j, _ => by rw [edT, edT]
  | i + 1, 0, _ => by rw [edT, edT]
  | i + 1, j + 1, h => by
    rw [edT, edT, edT_cong i j (fun a b ha hb => h a b (by omega) (by omega)), edT_cong i (j + 1) (fun a b ha hb => h a b (by omega) (by omega)), edT_cong (i + 1) j (fun a b ha hb => h a b (by omega) (by omega))]
    have := h i j (by omega) (by omega)
    by_cases c : A i = B j
    · rw [if_pos c, if_pos (this.mp c)]
    · rw [if_neg c, if_neg (fun q => c (this.mpr q))]
theorem e_apart {x2 x3 x5 x6 : Int} {c1 n1 c4 n4 : Nat} {A B : Nat → Int} (hc1 : aI c1 n1) (hc4 : aI c4 n4) (h128 : c1 ≠ 128 ∧ c4 ≠ 128) (hA : ∀ i : Nat, (i : Int) < x3 → ia σ c1 (x2 + i) = A i) (hB : ∀ i : Nat, (i : Int) < x6 → ia σ c4 (x5 + i) = B i) (h2 : 0 ≤ x2 ∧ x2 + x3 ≤ n1) (h3 : 0 ≤ x3 ∧ x3 ≤ 18) (h5 : 0 ≤ x5 ∧ x5 + x6 ≤ n4) (h6 : 0 ≤ x6 ∧ x6 ≤ 18) (hn : n1 ≤ 200 ∧ n4 ≤ 200) (hS : SR σ) (hd : 1 ≤ d) :
    Eb g ad d mX11_apart 0 0 [.ref (ad 102), .ref (ad c1), vi x2, vi x3, .ref (ad c4), vi x5, vi x6] σ (Ki fun r s => r = edT A B x3.toNat x6.toNat ∧ Fm [128] [] σ s) := by
  have i2 : iR x2 := iR_of (by omega) (by omega)
  have i3 : iR x3 := iR_of (by omega) (by omega)
  have i5 : iR x5 := iR_of (by omega) (by omega)
  have i6 : iR x6 := iR_of (by omega) (by omega)
  refine EbS rfl pl_X11 rfl rfl (bX11_apart_0 hc1 hc4 i2 i3 i5 i6 hS ?_)
  intros
  refine up_loop (P := fun i => ∀ τ, SR τ → Fm [128] [] σ τ → (∀ a b : Nat, (a : Int) < i → (b : Int) ≤ x6 → ia τ 128 (19 * a + b) = edT A B a b) → aX11_apart_3 g ad d (Ki fun r s => r = edT A B x3.toNat x6.toNat ∧ Fm [128] [] σ s) 0 0 τ x2 x3 x5 x6 i c1 c4) (hi := x3 + 1) 0 (by omega) ?_ ?_ σ hS (Fm.refl σ) (fun a b h => by omega)
  · intro τ hSt hF hall
    have h := hall x3.toNat x6.toNat (by omega) (by omega)
    rw [show ((x3.toNat : Nat) : Int) = x3 by omega, show ((x6.toNat : Nat) : Int) = x6 by omega] at h
    exact bX11_apart_3 hc1 hc4 i2 i3 i5 i6 (iR_of (by omega) (by omega)) hSt ⟨fun _ => ⟨⟨by omega, by omega⟩, re_i ⟨h, hF⟩⟩, fun q => absurd (by omega) q⟩
  · intro i hi0 hi1 ih τ hSt hF hall
    have ii : iR i := iR_of (by omega) (by omega)
    refine bX11_apart_3 hc1 hc4 i2 i3 i5 i6 ii hSt ⟨fun q => absurd q (by omega), fun _ => ?_⟩
    intros
    refine up_loop (P := fun j => ∀ τ, SR τ → Fm [128] [] σ τ → (∀ a b : Nat, ((a : Int) < i ∧ (b : Int) ≤ x6 ∨ (a : Int) = i ∧ (b : Int) < j) → ia τ 128 (19 * a + b) = edT A B a b) → aX11_apart_12 g ad d (Ki fun r s => r = edT A B x3.toNat x6.toNat ∧ Fm [128] [] σ s) 0 0 τ x2 x3 x5 x6 i j c1 c4) (hi := x6 + 1) 0 (by omega) ?_ ?_ τ hSt hF (fun a b h => hall a b (by omega) (by omega))
    · intro τ hSt hF hall
      refine bX11_apart_12 hc1 hc4 i2 i3 i5 i6 ii (iR_of (by omega) (by omega)) hSt ⟨fun _ => ⟨iR_of (by omega) (by omega), fun _ _ _ _ _ _ => ?_⟩, fun q => absurd (by omega) q⟩
      exact ih τ hSt hF (fun a b h1 h2 => hall a b (by omega))
    · intro j hj0 hj1 ihj τ hSt hF hall
      have ij : iR j := iR_of (by omega) (by omega)
      -- what is laid at (i, j)
      have fin : ∀ v, iR v → v = edT A B i.toNat j.toNat → aX11_apart_137 g ad d (Ki fun r s => r = edT A B x3.toNat x6.toNat ∧ Fm [128] [] σ s) 0 0 τ x2 x3 x5 x6 i j v c1 c4 := by
        intro v iv hv
        refine bX11_apart_137 hc1 hc4 i2 i3 i5 i6 ii ij iv hSt ⟨⟨by omega, by omega⟩, iR_of (by omega) (by omega), fun _ _ _ _ _ _ hS' => ?_⟩
        refine ihj _ hS' (hF.setI (by decide)) (fun a b h => ?_)
        simp (config := {decide := true}) only [sc_S, ia_S, la_S, rv_S, sc_I, rv_I, la_I, ia_I, sc_L, rv_L, ia_L, la_L, sc_A, rv_A, la_A, ia_A, sc_B, rv_B, ia_B, la_B, sc_R, ia_R, la_R, rv_R, ia_w, la_w, rv_w, sc_w, if_true, if_false]
        by_cases e : 19 * (a : Int) + b = 19 * i + j
        · have e1 : (a : Int) = i := by omega
          have e2 : (b : Int) = j := by omega
          rw [e, up_at, hv, show i.toNat = a by omega, show j.toNat = b by omega]
        · rw [up_ne e]
          exact hall a b (by omega)
      refine bX11_apart_12 hc1 hc4 i2 i3 i5 i6 ii ij hSt ⟨fun q => absurd q (by omega), fun _ => ⟨fun c1' => ⟨fun c2 => ?_, fun c2 => ⟨fun q => absurd q (by omega), fun _ => ⟨fun _ => ?_, fun q => absurd (by omega) q⟩⟩⟩, fun c1' => ⟨fun _ => ?_, fun q => absurd (by omega) q⟩⟩⟩
      · have hA1 := hA (i - 1).toNat (by omega)
        have hB1 := hB (j - 1).toNat (by omega)
        rw [show x2 + (((i - 1).toNat : Nat) : Int) = x2 + i - 1 by omega] at hA1
        rw [show x5 + (((j - 1).toNat : Nat) : Int) = x5 + j - 1 by omega] at hB1
        have ea : ia τ c1 = ia σ c1 := hF.2.2.1 c1 (by simp [h128.1])
        have eb : ia τ c4 = ia σ c4 := hF.2.2.1 c4 (by simp [h128.2])
        have hd1 := hall (i - 1).toNat (j - 1).toNat (by omega)
        have hd2 := hall (i - 1).toNat j.toNat (by omega)
        have hd3 := hall i.toNat (j - 1).toNat (by omega)
        rw [show 19 * (((i - 1).toNat : Nat) : Int) + (((j - 1).toNat : Nat) : Int) = 19 * (i - 1) + j - 1 by omega] at hd1
        rw [show 19 * (((i - 1).toNat : Nat) : Int) + ((j.toNat : Nat) : Int) = 19 * (i - 1) + j by omega] at hd2
        rw [show 19 * ((i.toNat : Nat) : Int) + (((j - 1).toNat : Nat) : Int) = 19 * i + j - 1 by omega] at hd3
        have hb1 := edT_b (A := A) (B := B) (i - 1).toNat (j - 1).toNat
        have hb2 := edT_b (A := A) (B := B) (i - 1).toNat j.toNat
        have hb3 := edT_b (A := A) (B := B) i.toNat (j - 1).toNat
        have hed : edT A B i.toNat j.toNat = min (edT A B (i - 1).toNat (j - 1).toNat + (if A (i - 1).toNat = B (j - 1).toNat then 0 else 1)) (1 + min (edT A B (i - 1).toNat j.toNat) (edT A B i.toNat (j - 1).toNat)) := by
          have e1 : i.toNat = (i - 1).toNat + 1 := by omega
          have e2 : j.toNat = (j - 1).toNat + 1 := by omega
          rw [e1, e2, edT]
        refine ⟨⟨by omega, by omega⟩, ⟨by omega, by omega⟩, ⟨by omega, by omega⟩, ?_⟩
        rw [ea, eb, hA1, hB1, hd1, hd2, hd3]
        refine ⟨fun c3 => ⟨fun q => absurd q (by omega), fun _ => ⟨fun q => absurd q (by omega), fun _ => ⟨⟨by omega, by omega⟩, ⟨by omega, by omega⟩, ?_⟩⟩⟩, fun c3 => ⟨fun q => absurd q (by omega), fun _ => ⟨fun q => absurd q (by omega), fun _ => ⟨⟨by omega, by omega⟩, ⟨by omega, by omega⟩, ?_⟩⟩⟩⟩
        · rw [if_neg c3] at hed
          refine EI.k (by apply e_lesser <;> (first | with_reducible assumption | with_reducible exact iR_of (by omega) (by omega) | omega | with_reducible (exact bi_01) | assumption)) (by omega) (fun _ _ => ?_)
          refine EI.k (by apply e_lesser <;> (first | with_reducible assumption | with_reducible exact iR_of (by omega) (by omega) | omega | with_reducible (exact bi_01) | assumption)) (by omega) (fun _ _ => ?_)
          intros
          exact fin _ (iR_of (by omega) (by omega)) hed.symm
        · rw [if_pos c3] at hed
          refine EI.k (by apply e_lesser <;> (first | with_reducible assumption | with_reducible exact iR_of (by omega) (by omega) | omega | with_reducible (exact bi_01) | assumption)) (by omega) (fun _ _ => ?_)
          refine EI.k (by apply e_lesser <;> (first | with_reducible assumption | with_reducible exact iR_of (by omega) (by omega) | omega | with_reducible (exact bi_01) | assumption)) (by omega) (fun _ _ => ?_)
          intros
          exact fin _ (iR_of (by omega) (by omega)) hed.symm
      · intros
        refine fin i ii ?_
        rw [c2, show i.toNat = (i - 1).toNat + 1 by omega]
        show i = edT A B ((i - 1).toNat + 1) 0
        rw [edT]
        omega
      · intros
        refine fin j ij ?_
        rw [c1']
        show j = edT A B 0 j.toNat
        rw [edT]
        omega
def edL (a : List Int) (tl : Int → Int) (tn : Int) : Int := edT (fun i => a.getD i 0) (fun j => tl j) a.length tn.toNat
theorem edL_b (a : List Int) (tl : Int → Int) {tn : Int} (h : 0 ≤ tn) : 0 ≤ edL a tl tn ∧ edL a tl tn ≤ a.length + tn := by
  have := edT_b (A := fun i => a.getD i 0) (B := fun j : Nat => tl j) a.length tn.toNat
  unfold edL
  omega
/-- the text of the k-th way -/
def tx (m : Int → Int) (k : Int) : List Int := match wayK m k with
  | some w => txt m w.2
  | none => []
theorem tx_len (hW : WF m) (k : Int) : (tx m k).length ≤ 18 := by
  unfold tx
  cases e : wayK m k with
  | none => exact Nat.zero_le _
  | some w =>
    have h1 := wayK_mem hW e
    have := txt_len hW w.2 (fun q hq => (mem_sr.mp (h1.2.2.1 q hq)).2)
    show (txt m w.2).length ≤ 18
    omega
theorem tx_word (hW : WF m) (k : Int) : ∀ v ∈ tx m k, 0 ≤ v ∧ v < m 0 := by
  unfold tx
  cases e : wayK m k with
  | none => intro v hv; cases hv
  | some w =>
    have h1 := wayK_mem hW e
    intro v hv
    obtain ⟨q, hq, hv⟩ := List.mem_flatMap.mp (show v ∈ w.2.flatMap (tgl m) from hv)
    unfold tgl at hv
    obtain ⟨k', hk, rfl⟩ := List.mem_map.mp hv
    have hqs := mem_sr.mp (h1.2.2.1 q hq)
    have := mem_ir.mp hk
    exact tgt_b hW hqs.2 hqs.1 this
def nearV (m tl : Int → Int) (tn : Int) : Int := edL (tx m 0) tl tn
theorem aI116 : aI 116 18 := by unfold aI; exact ⟨by decide +kernel, by omega⟩
theorem aI109 : aI 109 18 := by unfold aI; exact ⟨by decide +kernel, by omega⟩
theorem aI129 : aI 129 180 := by unfold aI; exact ⟨by decide +kernel, by omega⟩
theorem aI107 : aI 107 120 := by unfold aI; exact ⟨by decide +kernel, by omega⟩
theorem hl_getD {f : Int → Int} {b : Int} {l : List Int} (h : hl f b l) {i : Nat} (hi : i < l.length) : f (b + i) = l.getD i 0 := by
  rw [List.getD_eq_getElem?_getD, List.getElem?_eq_getElem hi]
  exact h i _ (List.getElem?_eq_getElem hi)
theorem e_nearTold {tl : Int → Int} {tn : Int} (em : ia σ 103 = m) (et : ∀ j, 0 ≤ j → j < tn → ia σ 109 j = tl j) (en : sc σ 102 14 = tn) (htn : 0 ≤ tn ∧ tn ≤ 18) (hW : WF m) (hS : SR σ) (hI : LI σ) (hd : 21 ≤ d) : Eb g ad d mX11_nearTold 0 0 [.ref (ad 102)] σ (Ki fun r s => r = nearV m tl tn ∧ LI s ∧ Fm [112, 114, 115, 116, 128] [20, 22, 23, 26, 27, 28, 29, 30, 32] σ s) := by
  obtain ⟨w, hw⟩ := way0 hW
  have htx : tx m 0 = txt m w.2 := by unfold tx; rw [hw]
  have hlen := tx_len hW 0
  rw [htx] at hlen
  refine EbS rfl pl_X11 rfl rfl (bX11_nearTold_0 hS ?_)
  refine Cl.i (w_isWay (m := m) (d := d - 1) (k := 0) em hW hS hI (by omega) (by omega) (by omega)) (by omega) (fun r s hr hS' h => ?_)
  obtain ⟨hh, hL, hF⟩ := h
  rcases hh with ⟨w', e1, -, e3⟩ | ⟨e1, -⟩
  · rw [hw] at e1
    have e4 := Option.some.inj e1
    subst e4
    rw [e3.2.2.2.1, hF.s 14 rfl, en]
    refine Cl.i (e_apart (d := d - 1) (A := fun i => (txt m w.2).getD i 0) (B := fun j => tl j) aI116 aI109 ⟨by decide, by decide⟩ (fun i hi => ?_) (fun i hi => ?_) (by omega) (by omega) (by omega) (by omega) ⟨by omega, by omega⟩ hS' (by omega)) (by omega) (fun r2 s2 hr2 hS2 h2 => ?_)
    · exact hl_getD e3.2.2.2.2 (by omega)
    · rw [hF.a 109 rfl, Int.zero_add]
      exact et i (by omega) hi
    · refine re_i ⟨?_, StkF_LI h2.2 rfl rfl hL, (hF.mono (by decide) (by decide)).trans (h2.2.mono (by decide) (by decide))⟩
      unfold nearV edL
      rw [htx, h2.1]
      rfl
  · rw [hw] at e1
    cases e1
/-! rows alike -/
def alR (f : Int → Int) (i : Int) (h : Int → Int) (j n : Int) : Bool := allN (fun k => decide (f (i + k) = h (j + k))) n.toNat 0
theorem e_areAlike {x1 x3 x4 : Int} {c0 n0 c2 n2 : Nat} {f h : Int → Int} (ef : ia σ c0 = f) (eh : ia σ c2 = h) (hc0 : aI c0 n0) (hc2 : aI c2 n2) (h1 : 0 ≤ x1 ∧ x1 + x4 ≤ n0) (h3 : 0 ≤ x3 ∧ x3 + x4 ≤ n2) (h4 : 0 ≤ x4) (hn : n0 ≤ 1000 ∧ n2 ≤ 1000) (hS : SR σ) : EI g ad d mX11_areAlike [.ref (ad c0), vi x1, .ref (ad c2), vi x3, vi x4] σ (bi (alR f x1 h x3 x4 = true)) σ := by
  have i1 : iR x1 := iR_of (by omega) (by omega)
  have i3 : iR x3 := iR_of (by omega) (by omega)
  have i4 : iR x4 := iR_of (by omega) (by omega)
  refine EbS rfl pl_X11 rfl rfl (bX11_areAlike_0 hc0 hc2 i1 i3 i4 hS ?_)
  intros
  have hh := up_loop (P := fun k => allN (fun k => decide (f (x1 + k) = h (x3 + k))) (x4 - k).toNat k = alR f x1 h x3 x4 → aX11_areAlike_3 g ad d (Ki fun r s => r = bi (alR f x1 h x3 x4 = true) ∧ s = σ) 0 0 σ x1 x3 x4 k c0 c2) (hi := x4) 0 h4 ?_ ?_
  · exact hh (by rw [Int.sub_zero]; rfl)
  · intro hv
    refine bX11_areAlike_3 hc0 hc2 i1 i3 i4 i4 hS ⟨fun _ => re_i ⟨(bi_t ?_).symm, rfl⟩, fun q => absurd (Int.le_refl _) q⟩
    rw [← hv, Int.sub_self]
    rfl
  · intro k hk0 hk1 ih hv
    rw [show (x4 - k).toNat = (x4 - (k + 1)).toNat + 1 by omega, allN] at hv
    refine bX11_areAlike_3 hc0 hc2 i1 i3 i4 (iR_of (by omega) (by omega)) hS ⟨fun q => absurd q (by omega), fun _ => ⟨⟨by omega, by omega⟩, ⟨by omega, by omega⟩, ?_⟩⟩
    rw [ef, eh]
    refine ⟨fun c => ⟨iR_of (by omega) (by omega), fun _ _ _ _ _ => ih ?_⟩, fun c => re_i ⟨(bi_f ?_).symm, rfl⟩⟩
    · rw [decide_eq_true c, Bool.true_and] at hv
      exact hv
    · rw [← hv, decide_eq_false c]
      simp
def tms (f : Int → Int) (many : Int) (h : Int → Int) (i n : Int) : Int := ((ir 0 (many - n + 1)).filter (fun j => alR f j h i n)).length
theorem tms_b (f : Int → Int) {many : Int} (h : Int → Int) (i : Int) {n : Int} (hm : 0 ≤ many) (hn : 1 ≤ n) : 0 ≤ tms f many h i n ∧ tms f many h i n ≤ many := by
  have := List.length_filter_le (fun j => alR f j h i n) (ir 0 (many - n + 1))
  rw [ir_length] at this
  unfold tms
  omega
theorem e_times {x1 x3 x4 : Int} {c0 n0 c2 n2 : Nat} {f h : Int → Int} (ef : ia σ c0 = f) (eh : ia σ c2 = h) (hc0 : aI c0 n0) (hc2 : aI c2 n2) (h1 : 0 ≤ x1 ∧ x1 ≤ n0) (h3 : 0 ≤ x3 ∧ x3 + x4 ≤ n2) (h4 : 1 ≤ x4 ∧ x4 ≤ 3) (hn : n0 ≤ 1000 ∧ n2 ≤ 1000) (hS : SR σ) (hd : 1 ≤ d) : EI g ad d mX11_times [.ref (ad c0), vi x1, .ref (ad c2), vi x3, vi x4] σ (tms f x1 h x3 x4) σ := by
  have i1 : iR x1 := iR_of (by omega) (by omega)
  have i3 : iR x3 := iR_of (by omega) (by omega)
  have i4 : iR x4 := iR_of (by omega) (by omega)
  refine EbS rfl pl_X11 rfl rfl (bX11_times_0 hc0 hc2 i1 i3 i4 hS ?_)
  intros
  have key : ∀ (n : Nat) (j t : Int), 0 ≤ j → j + n = max 0 (x1 - x4 + 1) → (0 ≤ t ∧ t ≤ j) → t + ((ir j (x1 - x4 + 1)).filter (fun j => alR f j h x3 x4)).length = tms f x1 h x3 x4 → aX11_times_6 g ad d (Ki fun r s => r = tms f x1 h x3 x4 ∧ s = σ) 0 0 σ x1 x3 x4 t j c0 c2 := by
    intro n
    induction n with
    | zero =>
      intro j t hj0 hj ht hv
      rw [ir_nil (by omega)] at hv
      have hv' : t + ((0 : Nat) : Int) = tms f x1 h x3 x4 := hv
      exact bX11_times_6 hc0 hc2 i1 i3 i4 (iR_of (by omega) (by omega)) (iR_of (by omega) (by omega)) hS ⟨iR_of (by omega) (by omega), fun _ => re_i ⟨by omega, rfl⟩, fun q => absurd (by omega) q⟩
    | succ n ih =>
      intro j t hj0 hj ht hv
      rw [ir_cons (by omega)] at hv
      refine bX11_times_6 hc0 hc2 i1 i3 i4 (iR_of (by omega) (by omega)) (iR_of (by omega) (by omega)) hS ⟨iR_of (by omega) (by omega), fun q => absurd q (by omega), fun _ => ?_⟩
      refine EI.k (e_areAlike (d := d - 1) ef eh hc0 hc2 (by omega) h3 (by omega) hn hS) (by omega) (fun _ _ => bi_zn (fun c => ⟨iR_of (by omega) (by omega), iR_of (by omega) (by omega), fun _ _ _ _ _ _ => ?_⟩) (fun c => ⟨iR_of (by omega) (by omega), iR_of (by omega) (by omega), fun _ _ _ _ _ _ => ?_⟩))
      · rw [List.filter_cons_of_pos (p := fun j => alR f j h x3 x4) c, List.length_cons] at hv
        exact ih (j + 1) (t + 1) (by omega) (by omega) (by omega) (by omega)
      · rw [List.filter_cons_of_neg (p := fun j => alR f j h x3 x4) c] at hv
        exact ih (j + 1) (t + 0) (by omega) (by omega) (by omega) (by omega)
  exact key (max 0 (x1 - x4 + 1)).toNat 0 0 (by omega) (by omega) (by omega) (by unfold tms; omega)
/-- MATCH -/
def mtS (f : Int → Int) (N : Int) (tl : Int → Int) (tn n i : Int) : Int := if allN (fun j => !alR f j f i n) i.toNat 0 = true then min (tms f N f i n) (tms tl tn f i n) else 0
def mtV (f : Int → Int) (N : Int) (tl : Int → Int) (tn n : Int) : Int := (ir 0 (N - n + 1)).foldl (fun s i => s + mtS f N tl tn n i) 0
theorem matchLoop {tl f : Int → Int} {N tn n x2 : Int} (et : ia σ 109 = tl) (en : sc σ 102 14 = tn) (ef : ia σ 116 = f) (eN : sc σ 102 32 = N) (htn : 0 ≤ tn ∧ tn ≤ 18) (hN : 0 ≤ N ∧ N ≤ 18) (hn : 1 ≤ n ∧ n ≤ 3) (h2 : iR x2) (hS : SR σ) (hd : 2 ≤ d) {Q : Int → SG → Prop} (hQ : Q (mtV f N tl tn n) σ) : aX11_match_41 g ad d (Ki Q) 0 0 σ n x2 0 0 := by
  have in_ : iR n := iR_of (by omega) (by omega)
  have key : ∀ (k : Nat) (i s : Int), 0 ≤ i → i + k = max 0 (N - n + 1) → (0 ≤ s ∧ s ≤ 18 * i) → (ir i (N - n + 1)).foldl (fun s i => s + mtS f N tl tn n i) s = mtV f N tl tn n → aX11_match_41 g ad d (Ki Q) 0 0 σ n x2 s i := by
    intro k
    induction k with
    | zero =>
      intro i s hi0 hi hs hv
      rw [ir_nil (by omega)] at hv
      have hv' : s = mtV f N tl tn n := hv
      exact bX11_match_41 in_ h2 (iR_of (by omega) (by omega)) (iR_of (by omega) (by omega)) hS ⟨iR_of (by omega) (by omega), fun _ => re_i (by rw [hv']; exact hQ), fun q => absurd (by rw [eN]; omega) q⟩
    | succ k ih =>
      intro i s hi0 hi hs hv
      have is_ : iR s := iR_of (by omega) (by omega)
      have ii : iR i := iR_of (by omega) (by omega)
      rw [ir_cons (by omega), List.foldl_cons] at hv
      refine bX11_match_41 in_ h2 is_ ii hS ⟨iR_of (by omega) (by omega), fun q => absurd q (by rw [eN]; omega), fun _ => ?_⟩
      intros
      have hb1 := tms_b f f i (n := n) hN.1 hn.1
      have hb2 := tms_b tl f i (n := n) htn.1 hn.1
      have lp := up_loop (P := fun j => ∀ b : Int, (b = 0 ∨ b = 1) → (b = 0 → ¬ allN (fun j => !alR f j f i n) i.toNat 0 = true) → (b = 1 → allN (fun j => !alR f j f i n) (i - j).toNat j = allN (fun j => !alR f j f i n) i.toNat 0) → aX11_match_58 g ad d (Ki Q) 0 0 σ n x2 s i b j) (hi := i) 0 hi0 ?_ ?_
      · exact lp 1 (Or.inr rfl) (fun q => absurd q (by decide)) (fun _ => by rw [Int.sub_zero])
      · intro b hb hb0 hb1'
        refine bX11_match_58 in_ h2 is_ ii (iR01 hb) ii hS ⟨fun _ => ⟨fun c => ⟨iR_of (by omega) (by omega), fun _ _ _ _ _ => ?_⟩, fun c => ?_⟩, fun q => absurd (Int.le_refl _) q⟩
        · refine ih (i + 1) s (by omega) (by omega) (by omega) ?_
          rw [← hv]
          congr 1
          unfold mtS
          rw [if_neg (hb0 c)]
          omega
        · have hall : allN (fun j => !alR f j f i n) i.toNat 0 = true := by
            rw [← hb1' (by omega), Int.sub_self]
            rfl
          rw [eN]
          refine EI.k (e_times (d := d - 1) ef ef aI116 aI116 (by omega) (by omega) hn ⟨by omega, by omega⟩ hS (by omega)) (by omega) (fun _ _ => ?_)
          rw [en]
          refine EI.k (e_times (d := d - 1) et ef aI109 aI116 (by omega) (by omega) hn ⟨by omega, by omega⟩ hS (by omega)) (by omega) (fun _ _ => ?_)
          refine EI.k (by apply e_lesser <;> (first | with_reducible assumption | with_reducible exact iR_of (by omega) (by omega) | omega | with_reducible (exact bi_01) | assumption)) (by omega) (fun _ _ => ?_)
          refine ⟨iR_of (by omega) (by omega), iR_of (by omega) (by omega), fun _ _ _ _ _ => ?_⟩
          refine ih (i + 1) _ (by omega) (by omega) (by omega) ?_
          rw [← hv]
          congr 2
          unfold mtS
          rw [if_pos hall]
      · intro j hj0 hj1 ihj b hb hb0 hb1'
        have ij : iR j := iR_of (by omega) (by omega)
        refine bX11_match_58 in_ h2 is_ ii (iR01 hb) ij hS ⟨fun q => absurd q (by omega), fun _ => ⟨fun c => ⟨fun _ => ⟨iR_of (by omega) (by omega), fun _ _ _ _ _ => ?_⟩, fun q => absurd c q⟩, fun c => ?_⟩⟩
        · refine ih (i + 1) s (by omega) (by omega) (by omega) ?_
          rw [← hv]
          congr 1
          unfold mtS
          rw [if_neg (hb0 c)]
          omega
        · have hst := hb1' (by omega)
          rw [show (i - j).toNat = (i - (j + 1)).toNat + 1 by omega, allN] at hst
          refine EI.k (e_areAlike (d := d - 1) ef ef aI116 aI116 (by omega) (by omega) (by omega) ⟨by omega, by omega⟩ hS) (by omega) (fun _ _ => bi_nz (fun c2 => ⟨iR_of (by omega) (by omega), fun _ _ _ _ _ _ _ => ?_⟩) (fun c2 => ⟨iR_of (by omega) (by omega), fun _ _ _ _ _ _ _ => ?_⟩))
          · refine ihj 0 (Or.inl rfl) (fun _ q => ?_) (fun q => absurd q (by decide))
            rw [q, c2] at hst
            exact absurd hst (by simp)
          · refine ihj 1 (Or.inr rfl) (fun q => absurd q (by decide)) (fun _ => ?_)
            have : (!alR f j f i n) = true := by simp [c2]
            rw [this, Bool.true_and] at hst
            exact hst
  exact key (max 0 (N - n + 1)).toNat 0 0 (by omega) (by omega) (by omega) rfl
end EDs

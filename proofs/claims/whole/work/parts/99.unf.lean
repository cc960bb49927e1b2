/-- a way laid out -/
def UNF (s : SG) (m : Int → Int) (w : Wy) : Prop := (sc s 63 11 = (w.2.length : Int)) ∧ (∀ (n : Nat) (q : Op), w.2[n]? = some q → ia s 69 n = ix m q ∧ ia s 70 n = stC m 0 (-1) w.2 n) ∧ (sc s 63 13 = ((txt m w.2).length : Int)) ∧ (hl (ia s 71) 0 (txt m w.2))
theorem UNF.sz {s : SG} {m : Int → Int} {w : Wy} (h_ : UNF s m w) : sc s 63 11 = (w.2.length : Int) := h_.1
theorem UNF.st {s : SG} {m : Int → Int} {w : Wy} (h_ : UNF s m w) : ∀ (n : Nat) (q : Op), w.2[n]? = some q → ia s 69 n = ix m q ∧ ia s 70 n = stC m 0 (-1) w.2 n := h_.2.1
theorem UNF.ts {s : SG} {m : Int → Int} {w : Wy} (h_ : UNF s m w) : sc s 63 13 = ((txt m w.2).length : Int) := h_.2.2.1
theorem UNF.tx {s : SG} {m : Int → Int} {w : Wy} (h_ : UNF s m w) : hl (ia s 71) 0 (txt m w.2) := h_.2.2.2
section UNFs
variable {g : AG} {ad : Nat → Nat} {d : Nat} {σ : SG} {m m0 t : Int → Int} {k : Nat}
theorem div_dig {A B P r : Int} (hP : 0 < P) (hB : 0 ≤ B ∧ B < 256) (hr : 0 ≤ r ∧ r < P) : ((A * 256 + B) * P + r) / P % 256 = B := by
  have h1 : ((A * 256 + B) * P + r) / P = A * 256 + B := by
    rw [Int.add_comm, Int.add_mul_ediv_right _ _ (by omega), Int.ediv_eq_zero_of_lt hr.1 hr.2]
    omega
  rw [h1]
  omega
theorem dig {c : Int} {p : List Op} (h0 : W0 m) (hp : opA m p) (hl : p.length ≤ 6) {n : Nat} (hn : n < 6) : (∀ q, p[n]? = some q → (c * 281474976710656 + dgP m 6 p) / 256 ^ (5 - n) % 256 = ix m q + 1) ∧ (p.length ≤ n → (c * 281474976710656 + dgP m 6 p) / 256 ^ (5 - n) % 256 = 0) := by
  have hP := pow256 (5 - n)
  have e48 : (281474976710656 : Int) = 256 ^ n * 256 * 256 ^ (5 - n) := by
    rw [← Int.pow_succ, ← Int.pow_add, show n + 1 + (5 - n) = 6 by omega, p256]
  refine ⟨fun q hq => ?_, fun c1 => ?_⟩
  · have hlt := (List.getElem?_eq_some_iff.mp hq).1
    have hqm : q ∈ ops m := hp q (List.mem_of_getElem? hq)
    have hi := (ix_b h0 hqm).1
    have hdr : p.drop n = q :: p.drop (n + 1) := by
      rw [List.drop_eq_getElem_cons hlt]
      congr 1
      exact (List.getElem?_eq_some_iff.mp hq).2
    have htl : (p.take n).length = n := by rw [List.length_take]; omega
    have e1 := dgP_app (m := m) 6 (p.take n) (p.drop n) (by omega)
    rw [List.take_append_drop, htl, hdr, show 6 - n = (5 - n) + 1 by omega] at e1
    have e2 : dgP m (5 - n + 1) (q :: p.drop (n + 1)) = (ix m q + 1) * 256 ^ (5 - n) + dgP m (5 - n) (p.drop (n + 1)) := rfl
    obtain ⟨r, hr, e3⟩ := dgP_mul (m := m) 6 (p.take n) (by omega) (fun z hz => hp z (List.mem_of_mem_take hz)) h0
    rw [htl, show 6 - n = (5 - n) + 1 by omega, Int.pow_succ] at e3
    have hb := dgP_b h0 (5 - n) (p.drop (n + 1)) (fun z hz => hp z (List.mem_of_mem_drop hz))
    rw [e1, e2, e3, e48]
    have e4 : c * (256 ^ n * 256 * 256 ^ (5 - n)) + (r * (256 ^ (5 - n) * 256) + ((ix m q + 1) * 256 ^ (5 - n) + dgP m (5 - n) (p.drop (n + 1)))) = ((c * 256 ^ n + r) * 256 + (ix m q + 1)) * 256 ^ (5 - n) + dgP m (5 - n) (p.drop (n + 1)) := by
      generalize (256 : Int) ^ (5 - n) = P
      generalize (256 : Int) ^ n = B
      rw [show c * (B * 256 * P) = c * B * 256 * P by rw [← Int.mul_assoc, ← Int.mul_assoc], show r * (P * 256) = r * 256 * P by rw [Int.mul_comm P 256, ← Int.mul_assoc], Int.add_mul ((c * B + r) * 256) (ix m q + 1) P, Int.add_mul (c * B) r 256, Int.add_mul (c * B * 256) (r * 256) P]
      simp only [Int.add_assoc]
    rw [e4]
    exact div_dig hP (by omega) hb
  · obtain ⟨r, hr, e3⟩ := dgP_mul (m := m) 6 p hl hp h0
    rw [e3, e48]
    have e5 : (256 : Int) ^ (6 - p.length) = 256 ^ (n - p.length) * 256 * 256 ^ (5 - n) := by
      rw [← Int.pow_succ, ← Int.pow_add, show n - p.length + 1 + (5 - n) = 6 - p.length by omega]
    rw [e5]
    have e4 : c * (256 ^ n * 256 * 256 ^ (5 - n)) + r * (256 ^ (n - p.length) * 256 * 256 ^ (5 - n)) = ((c * 256 ^ n + r * 256 ^ (n - p.length)) * 256 + 0) * 256 ^ (5 - n) + 0 := by
      generalize (256 : Int) ^ (5 - n) = P
      generalize (256 : Int) ^ n = B
      generalize (256 : Int) ^ (n - p.length) = D
      rw [Int.add_zero, Int.add_zero, Int.add_mul, Int.add_mul, ← Int.mul_assoc c, ← Int.mul_assoc c B 256, ← Int.mul_assoc r, ← Int.mul_assoc r D 256]
    rw [e4]
    exact div_dig hP (by omega) ⟨Int.le_refl _, hP⟩
theorem keyW_b (hW : WF m) {w : Wy} (hw : w ∈ LW m) : (0 ≤ w.1 ∧ w.1 ≤ 3195) ∧ w.2.length ≤ 6 ∧ (0 ≤ keyW m w ∧ keyW m w < 1000000000000000000) := by
  have h1 := wy_mem hW 6 _ (nd0 hW) (by decide) w hw
  have h2 := (wy_rest hW 6 _ (nd0 hW) (by decide)).1 w hw
  have h3 := restM_b hW (set := 0) (place := 0) (last := -1) (by omega) (nd0 hW).2.2
  have hmu : mu (0, 0, -1) = 6 := by decide
  rw [hmu] at h1 h2
  have h4 : restM m 0 0 (-1) ≤ w.1 := h2.1
  have h5 := LW_dgP hW hw
  unfold keyW
  exact ⟨⟨by omega, by omega⟩, h1.1, by omega, by omega⟩
theorem w_stepOf {w : Wy} {n : Int} (hW : WF m) (hw : w ∈ LW m) (hn : 0 ≤ n ∧ n < 6) (hS : SR σ) : ∃ r, EI g ad d mX9_stepOf [vl (keyW m w), vi n] σ r σ ∧ (∀ q, w.2[n.toNat]? = some q → r = ix m q) ∧ (w.2.length ≤ n.toNat → r = -1) := by
  have hb := keyW_b hW hw
  have hd := dig (c := w.1) hW.1 (LW_opA hW hw) hb.2.1 (n := n.toNat) (by omega)
  have hs := step_n (a := keyW m w) (n := n) ⟨hb.2.2.1, by omega⟩ hn
  rw [show (5 - n).toNat = 5 - n.toNat by omega] at hs
  refine ⟨lAnd (lUshr (keyW m w) (8 * (5 - n))) 255 - 1, ?_, fun q hq => ?_, fun c => ?_⟩
  · refine EbS rfl pl_X9 rfl rfl (bX9_stepOf_0 (lR_of' hb.2.2) (iR_of (by omega) (by omega)) hS ⟨?_, re_i ⟨rfl, rfl⟩⟩)
    rw [hs]
    exact iR_of (by omega) (by omega)
  · rw [hs]
    have := hd.1 q hq
    unfold keyW
    omega
  · rw [hs]
    have := hd.2 c
    unfold keyW
    omega
theorem w_costOf {R : List Wy} {w : Wy} {x : Int} (hW : WF m) (hR : RA σ m R) (hw : R[x.toNat]? = some w) (hL : w ∈ LW m) (hx : 0 ≤ x ∧ x < 30) (hS : SR σ) : EI g ad d mX9_costOf [.ref (ad 63), vi x] σ w.1 σ := by
  have hb := keyW_b hW hL
  have h1 := hR.2 _ w hw
  rw [show ((x.toNat : Nat) : Int) = x by omega] at h1
  refine EbS rfl pl_X9 rfl rfl (bX9_costOf_0 (iR_of (by omega) (by omega)) hS ⟨hx, ?_⟩)
  rw [h1, cost_n ⟨hb.2.2.1, by omega⟩]
  have e : keyW m w / 281474976710656 = w.1 := by
    have := LW_dgP hW hL
    unfold keyW
    omega
  rw [e]
  exact ⟨iR_of (by omega) (by omega), re_i ⟨rfl, rfl⟩⟩
theorem hl_cpy {f g' : Int → Int} {l r : List Int} {sp : Int} (h : hl g' 0 l) (hr : ∀ (i : Nat) (v : Int), r[i]? = some v → f (sp + i) = v) : hl (cpy f g' sp l.length r.length) 0 (l ++ r) := by
  intro i v hv
  unfold cpy
  by_cases c : i < l.length
  · rw [List.getElem?_append_left c] at hv
    rw [if_neg (by omega)]
    exact h i v hv
  · rw [List.getElem?_append_right (by omega)] at hv
    have h1 := (List.getElem?_eq_some_iff.mp hv).1
    rw [if_pos (by omega)]
    have := hr _ v hv
    rw [show sp + (0 + (i : Int) - (l.length : Int)) = sp + ((i - l.length : Nat) : Int) by omega]
    exact this
def Uk (σ s : SG) : Prop := Fr (fun c => c = 63 ∨ 69 ≤ c ∧ c ≤ 71) σ s ∧ ∀ j, ¬ j = 11 → ¬ j = 13 → sc s 63 j = sc σ 63 j
theorem Uk.trans {s u : SG} (h1 : Uk σ s) (h2 : Uk s u) : Uk σ u := ⟨h1.1.trans h2.1, fun j hj hj' => (h2.2 j hj hj').trans (h1.2 j hj hj')⟩
theorem Uk.f {s : SG} (h : Uk σ s) : Fr Wcl σ s := h.1.mono (fun c hc => by
  rcases hc with z | z
  · rw [z]; exact ⟨by omega, by omega⟩
  · exact ⟨by omega, by omega⟩)
theorem Uk.w {s : SG} (h : Uk σ s) {Q : List En} {R : List Wy} (hQ : QA σ σ m Q) (hR : RA σ m R) : QA s s m Q ∧ RA s m R := by
  have e60 : ia s 60 = ia σ 60 := h.1.ia 60 (by omega)
  have e5 : kN s = kN σ := h.1.sc 58 5 (by omega)
  refine ⟨⟨?_, fun p y hp => ?_⟩, ?_, fun i w hi => ?_⟩
  · rw [h.2 6 (by decide) (by decide)]
    exact hQ.1
  · have := hQ.2 p y hp
    unfold QE KE at this ⊢
    rw [h.1.la 64 (by omega), h.1.ia 65 (by omega), h.1.ia 66 (by omega), h.1.ia 67 (by omega), e60, e5]
    exact this
  · rw [h.2 8 (by decide) (by decide)]
    exact hR.1
  · rw [h.1.la 68 (by omega)]
    exact hR.2 i w hi
theorem stC_drop {p : List Op} {n : Nat} {q : Op} {place last : Int} (hq : p[n]? = some q) (h : ∀ j, stC m place last (p.drop n) j = stC m 0 (-1) p (n + j)) : (weigh m place last q.1 q.2).1 = stC m 0 (-1) p n ∧ ∀ j, stC m (q.1 + cov m q.2) (weigh m place last q.1 q.2).2 (p.drop (n + 1)) j = stC m 0 (-1) p (n + 1 + j) := by
  have hlt := (List.getElem?_eq_some_iff.mp hq).1
  have hdr : p.drop n = q :: p.drop (n + 1) := by
    rw [List.drop_eq_getElem_cons hlt]
    congr 1
    exact (List.getElem?_eq_some_iff.mp hq).2
  rw [hdr] at h
  refine ⟨h 0, fun j => ?_⟩
  have := h (j + 1)
  rw [show n + (j + 1) = n + 1 + j by omega] at this
  exact this
theorem w_unfold {R : List Wy} {x : Int} (hk : isK k) (hB : WB σ m0 m k) (hW : WF m) (hR : RA σ m R) (hrd : Rdy m R) (hx : 0 ≤ x ∧ x < 30) (hS : SR σ) (hd : 3 ≤ d) : Eb g ad d mX9_unfold 0 0 [.ref (ad 63), vi x] σ (Ki fun r s => (r = bi (x < R.length)) ∧ (∀ w, R[x.toNat]? = some w → UNF s m w) ∧ (¬ x < R.length → sc s 63 11 = 0 ∧ sc s 63 13 = 0) ∧ Uk σ s) := by
  have h3 := hW.1.2.2.2.1
  have h6 := hW.1.2.2.2.2.2.2.1
  have ix_ : iR x := iR_of (by omega) (by omega)
  refine EbS rfl pl_X9 rfl rfl (bX9_unfold_0 ix_ hS (fun _ hS1 => bX9_unfold_5 ix_ hS1 (fun _ hS2 => bX9_unfold_10 ix_ hS2 ?_)))
  have hU0 : Uk σ (setS (setS σ 63 11 0) 63 13 0) := ⟨((Fr.refl σ).S (Or.inl rfl)).S (Or.inl rfl), fun j hj hj' => by
    rw [sc_S, if_neg (fun z => hj' z.2), sc_S, if_neg (fun z => hj z.2)]⟩
  have e8 : sc (setS (setS σ 63 11 0) 63 13 0) 63 8 = (R.length : Int) := by
    rw [hU0.2 8 (by decide) (by decide)]
    exact hR.1
  rw [e8]
  refine ⟨fun c _ _ _ _ hS3 => ?_, fun c => re_i ⟨by rw [bi, if_neg c], fun w hw => ?_, fun _ => ⟨by simp (config := {decide := true}) only [sc_S, ia_S, la_S, rv_S, sc_I, rv_I, la_I, ia_I, sc_L, rv_L, ia_L, la_L, sc_A, rv_A, la_A, ia_A, sc_B, rv_B, ia_B, la_B, sc_R, ia_R, la_R, rv_R, ia_w, la_w, rv_w, sc_w, if_true, if_false], by simp (config := {decide := true}) only [sc_S, ia_S, la_S, rv_S, sc_I, rv_I, la_I, ia_I, sc_L, rv_L, ia_L, la_L, sc_A, rv_A, la_A, ia_A, sc_B, rv_B, ia_B, la_B, sc_R, ia_R, la_R, rv_R, ia_w, la_w, rv_w, sc_w, if_true, if_false]⟩, hU0⟩⟩
  rotate_left
  · have := (List.getElem?_eq_some_iff.mp hw).1
    exact absurd (by omega) c
  obtain ⟨w, hw⟩ : ∃ w, R[x.toNat]? = some w := ⟨_, List.getElem?_eq_getElem (by omega)⟩
  have hwL := (hrd _ w hw).1
  have hwb := keyW_b hW hwL
  have hop := LW_opA hW hwL
  have hfin : ∀ s : SG, UNF s m w → Uk σ s → (1 : Int) = bi (x < R.length) ∧ (∀ w, R[x.toNat]? = some w → UNF s m w) ∧ (¬ x < R.length → sc s 63 11 = 0 ∧ sc s 63 13 = 0) ∧ Uk σ s := fun s hu hk' => ⟨by rw [bi, if_pos c], fun w' hw' => by rw [hw] at hw'; rw [← Option.some.inj hw']; exact hu, fun z => absurd c z, hk'⟩
  have isO_ : ∀ q ∈ w.2, (0 ≤ q.1 ∧ q.1 < m 3) ∧ isO m q.2 ∧ isOpt m q.2 q.1 = true := fun q hq => ops_mem (hop q hq)
  have key : ∀ (r : Nat) (n : Nat) (τ : SG) (place lc : Int), n + r = w.2.length → SR τ → Uk σ τ → (0 ≤ place ∧ place ≤ 6) → (0 ≤ lc ∧ (lc = 40 ∨ lc < m 0)) → sc τ 63 11 = n → sc τ 63 13 = ((txt m (w.2.take n)).length : Int) → hl (ia τ 71) 0 (txt m (w.2.take n)) → (∀ (i : Nat) (q : Op), i < n → w.2[i]? = some q → ia τ 69 i = ix m q ∧ ia τ 70 i = stC m 0 (-1) w.2 i) → (∀ j, stC m place (wx lc) (w.2.drop n) j = stC m 0 (-1) w.2 (n + j)) → aX9_unfold_28 g ad d (Ki fun r s => (r = bi (x < R.length)) ∧ (∀ w, R[x.toNat]? = some w → UNF s m w) ∧ (¬ x < R.length → sc s 63 11 = 0 ∧ sc s 63 13 = 0) ∧ Uk σ s) 0 0 τ x place lc n := by
    intro r
    induction r with
    | zero =>
      intro n τ place lc hn hSt hU hp hlc h11 h13 htx hst hc
      have en : n = w.2.length := by omega
      have hl68 : la τ 68 x = keyW m w := by
        rw [hU.1.la 68 (by omega)]
        have := hR.2 _ w hw
        rw [show ((x.toNat : Nat) : Int) = x by omega] at this
        exact this
      have hun : UNF τ m w := by
        rw [en, List.take_length] at h13 htx
        exact ⟨by rw [h11, en], fun i q hi => hst i q (by rw [en]; exact (List.getElem?_eq_some_iff.mp hi).1) hi, h13, htx⟩
      refine bX9_unfold_28 ix_ (iR_of (by omega) (by omega)) (iR_of (by omega) (by have := hW.1.1; omega)) (iR_of (by omega) (by omega)) hSt ⟨fun _ => re_i (hfin τ hun hU), fun c6 => ⟨⟨by omega, by omega⟩, ?_⟩⟩
      obtain ⟨r1, hE, _, hno⟩ := w_stepOf (g := g) (ad := ad) (d := d - 1) (σ := τ) (w := w) (n := (n : Int)) hW hwL ⟨by omega, by omega⟩ hSt
      rw [hl68]
      refine EI.k hE (by omega) (fun _ _ => ?_)
      rw [hno (by omega)]
      exact ⟨fun z => absurd rfl z, fun _ => re_i (hfin τ hun hU)⟩
    | succ r ih =>
      intro n τ place lc hn hSt hU hp hlc h11 h13 htx hst hc
      have hlt : n < w.2.length := by omega
      obtain ⟨q, hq⟩ : ∃ q, w.2[n]? = some q := ⟨_, List.getElem?_eq_getElem hlt⟩
      have hqm := List.mem_of_getElem? hq
      have hqo := isO_ q hqm
      have hqp := hop q hqm
      have hib := ix_b hW.1 hqp
      have hl68 : la τ 68 x = keyW m w := by
        rw [hU.1.la 68 (by omega)]
        have := hR.2 _ w hw
        rw [show ((x.toNat : Nat) : Int) = x by omega] at this
        exact this
      have ipl : iR place := iR_of (by omega) (by omega)
      have ilc : iR lc := iR_of (by omega) (by have := hW.1.1; omega)
      have in_ : iR (n : Int) := iR_of (by omega) (by omega)
      refine bX9_unfold_28 ix_ ipl ilc in_ hSt ⟨fun z => absurd z (by omega), fun _ => ⟨⟨by omega, by omega⟩, ?_⟩⟩
      obtain ⟨r1, hE, hyes, _⟩ := w_stepOf (g := g) (ad := ad) (d := d - 1) (σ := τ) (w := w) (n := (n : Int)) hW hwL ⟨by omega, by omega⟩ hSt
      have er1 := hyes q (by rw [Int.toNat_natCast]; exact hq)
      subst er1
      rw [hl68]
      refine EI.k hE (by omega) (fun ir1 _ => ⟨fun _ => ?_, fun z => absurd z (by omega)⟩)
      rw [h11]
      refine ⟨⟨by omega, by omega⟩, ?_⟩
      have hS4 : SR (setI τ 69 n (ix m q)) := SR_setI hSt ir1
      have hU4 : Uk τ (setI τ 69 n (ix m q)) := ⟨(Fr.refl τ).I (Or.inr ⟨by omega, by omega⟩), fun _ _ _ => rfl⟩
      have hB4 := (hB.fr hk hU.f).fr hk hU4.f
      obtain ⟨q', hget, _, hOE, _⟩ := hB4.op.at (i := ix m q) hib.1.1 hib.1.2.1
      have eq' : q' = q := by
        rw [hib.2] at hget
        exact (Option.some.inj hget).symm
      subst eq'
      have hw' := weigh_std hW (place := place) (last := wx lc) hqo.2.1
      have hsd := stC_drop (m := m) hq hc
      have hlc40 : 0 ≤ lc ∧ lc ≤ 40 := by have := hW.1.1; omega
      refine EI.k (wb_standing (d := d - 1) hk hB4 ⟨hib.1.1, hib.1.2.2⟩ hib.2 hlc40 hS4 (by omega)) (by omega) (fun _ _ => ?_)
      refine EI.k (o_gap (d := d - 1) hOE ⟨hib.1.1, hib.1.2.2⟩ (by omega) hp hS4 (by omega)) (by omega) (fun _ _ => ?_)
      rw [hB4.j6]
      have ecst : stdM m (wx lc) q' + m 6 * apB q'.1 place = stC m 0 (-1) w.2 n := by
        rw [← hsd.1, hw']
      have ecb : 0 ≤ stC m 0 (-1) w.2 n ∧ stC m 0 (-1) w.2 n ≤ 516 := by
        rw [← hsd.1]
        exact weigh_c hW hqo.2.1 hp hqo.1
      rw [ecst]
      have f11 : sc (setI τ 69 n (ix m q')) 63 11 = n := h11
      rw [f11]
      have f11' : sc (setI (setI τ 69 n (ix m q')) 70 n (stC m 0 (-1) w.2 n)) 63 11 = n := h11
      rw [f11']
      refine ⟨⟨by omega, by omega⟩, iR_of (by omega) (by omega), iR_of (by omega) (by omega), fun _ _ _ _ _ hS5 => ?_⟩
      have go : ∀ s : SG, SR s → Uk τ s → sc s 63 11 = (n : Int) + 1 → sc s 63 13 = sc τ 63 13 → ia s 71 = ia τ 71 → ia s 69 = up (ia τ 69) n (ix m q') → ia s 70 = up (ia τ 70) n (stC m 0 (-1) w.2 n) → aX9_unfold_116 g ad d (Ki fun r s => (r = bi (x < R.length)) ∧ (∀ w, R[x.toNat]? = some w → UNF s m w) ∧ (¬ x < R.length → sc s 63 11 = 0 ∧ sc s 63 13 = 0) ∧ Uk σ s) 0 0 s x place lc n (ix m q') := by
        intro s hSs hUs s11 s13 s71 s69 s70
        have hBs := (hB.fr hk hU.f).fr hk hUs.f
        obtain ⟨q2, hget2, _, hOs, _⟩ := hBs.op.at (i := ix m q') hib.1.1 hib.1.2.1
        have eq2 : q2 = q' := by
          rw [hib.2] at hget2
          exact (Option.some.inj hget2).symm
        subst eq2
        have htg := tgl_len hW hqo.2.1
        have htb := tgN_b hW.2.1 hqo.2.1
        have htk := txt_take (m := m) hq
        have hol : ∀ z ∈ w.2.take (n + 1), isO m z.2 := fun z hz => (isO_ z (List.mem_of_mem_take hz)).2.1
        have htl := txt_len hW (w.2.take (n + 1)) hol
        rw [List.length_take] at htl
        have htl2 : (txt m (w.2.take (n + 1))).length = (txt m (w.2.take n)).length + (tgl m q2).length := by rw [htk, List.length_append]
        refine bX9_unfold_116 ix_ ipl ilc in_ ir1 hSs ⟨⟨hib.1.1, hib.1.2.2⟩, ?_⟩
        rw [hOs.tn, s13, h13]
        refine ⟨⟨by omega, by omega, by omega, by omega, by omega⟩, by omega, ?_⟩
        have s13' : sc (setA s 71 (cpy (ia s 53) (ia s 71) (ix m q2 * 3) ((txt m (w.2.take n)).length : Int) (tgN m q2.2))) 63 13 = ((txt m (w.2.take n)).length : Int) := by
          show sc s 63 13 = _
          rw [s13, h13]
        rw [s13']
        refine ⟨iR_of (by omega) (by omega), fun _ _ _ _ _ itn hS6 => ?_⟩
        have hU6 : Uk τ (setS (setA s 71 (cpy (ia s 53) (ia s 71) (ix m q2 * 3) ((txt m (w.2.take n)).length : Int) (tgN m q2.2))) 63 13 (((txt m (w.2.take n)).length : Int) + tgN m q2.2)) := hUs.trans ⟨((Fr.refl s).A (Or.inr ⟨by omega, by omega⟩)).S (Or.inl rfl), fun j hj hj' => by
          rw [sc_S, if_neg (fun z => hj' z.2)]
          rfl⟩
        have go2 : ∀ u : SG, SR u → Uk τ u → sc u 63 11 = (n : Int) + 1 → sc u 63 13 = ((txt m (w.2.take (n + 1))).length : Int) → hl (ia u 71) 0 (txt m (w.2.take (n + 1))) → ia u 69 = up (ia τ 69) n (ix m q2) → ia u 70 = up (ia τ 70) n (stC m 0 (-1) w.2 n) → aX9_unfold_163 g ad d (Ki fun r s => (r = bi (x < R.length)) ∧ (∀ w, R[x.toNat]? = some w → UNF s m w) ∧ (¬ x < R.length → sc s 63 11 = 0 ∧ sc s 63 13 = 0) ∧ Uk σ s) 0 0 u x place lc n (ix m q2) (tgN m q2.2) := by
          intro u hSu hUu u11 u13 u71 u69 u70
          have hBu := (hB.fr hk hU.f).fr hk hUu.f
          obtain ⟨q3, hget3, _, hOu, _⟩ := hBu.op.at (i := ix m q2) hib.1.1 hib.1.2.1
          have eq3 : q3 = q2 := by
            rw [hib.2] at hget3
            exact (Option.some.inj hget3).symm
          subst eq3
          have hcv := cov_b hW.2.1 hqo.2.1
          have hob := isOpt_b hqo.2.2
          have hlz := fiW_z hW ⟨hqo.1, hqo.2.1⟩
          have en1 : ((n : Int) + 1) = ((n + 1 : Nat) : Int) := by omega
          have hst' : ∀ (i : Nat) (z : Op), i < n + 1 → w.2[i]? = some z → ia u 69 i = ix m z ∧ ia u 70 i = stC m 0 (-1) w.2 i := fun i z hi hz => by
            rw [u69, u70]
            by_cases ci : i = n
            · subst ci
              rw [hq] at hz
              rw [← Option.some.inj hz, up_at, up_at]
              exact ⟨rfl, rfl⟩
            · rw [up_ne (by omega), up_ne (by omega)]
              exact hst i z (by omega) hz
          refine bX9_unfold_163 ix_ ipl ilc in_ ir1 itn hSu ⟨⟨hib.1.1, hib.1.2.2⟩, fun ct => ⟨iR_of (by omega) (by omega), fun _ _ _ _ hS7 => ?_⟩, fun ct => ⟨iR_of (by omega) (by omega), fun _ _ _ _ hS7 => ?_⟩⟩
          · rw [hOu.en, hOu.la_, en1]
            have hla := (hlz.2.2 ct).2
            refine ih (n + 1) u (q3.1 + cov m q3.2) (laW m q3) (by omega) hS7 (hU.trans hUu) (by omega) ⟨hla.1, Or.inr hla.2⟩ (by rw [u11]; omega) u13 u71 hst' (fun j => ?_)
            have := hsd.2 j
            rw [hw'] at this
            have e1 : lstM m (wx lc) q3 = wx (laW m q3) := by
              unfold lstM
              rw [if_neg ct, wx_id hla (by have := hW.1.1; omega)]
            rw [← e1]
            exact this
          · rw [hOu.en, en1]
            refine ih (n + 1) u (q3.1 + cov m q3.2) lc (by omega) hS7 (hU.trans hUu) (by omega) hlc (by rw [u11]; omega) u13 u71 hst' (fun j => ?_)
            have := hsd.2 j
            rw [hw'] at this
            have e1 : lstM m (wx lc) q3 = wx lc := by
              unfold lstM
              rw [if_pos ct]
            rw [← e1]
            exact this
        refine go2 _ hS6 hU6 ?_ ?_ ?_ ?_ ?_
        · simp (config := {decide := true}) only [sc_S, ia_S, la_S, rv_S, sc_I, rv_I, la_I, ia_I, sc_L, rv_L, ia_L, la_L, sc_A, rv_A, la_A, ia_A, sc_B, rv_B, ia_B, la_B, sc_R, ia_R, la_R, rv_R, ia_w, la_w, rv_w, sc_w, if_true, if_false]
          exact s11
        · simp (config := {decide := true}) only [sc_S, ia_S, la_S, rv_S, sc_I, rv_I, la_I, ia_I, sc_L, rv_L, ia_L, la_L, sc_A, rv_A, la_A, ia_A, sc_B, rv_B, ia_B, la_B, sc_R, ia_R, la_R, rv_R, ia_w, la_w, rv_w, sc_w, if_true, if_false]
          omega
        · have e71 : ia (setS (setA s 71 (cpy (ia s 53) (ia s 71) (ix m q2 * 3) ((txt m (w.2.take n)).length : Int) (tgN m q2.2))) 63 13 (((txt m (w.2.take n)).length : Int) + tgN m q2.2)) 71 = cpy (ia s 53) (ia s 71) (ix m q2 * 3) ((txt m (w.2.take n)).length : Int) (tgN m q2.2) := by simp (config := {decide := true}) only [sc_S, ia_S, la_S, rv_S, sc_I, rv_I, la_I, ia_I, sc_L, rv_L, ia_L, la_L, sc_A, rv_A, la_A, ia_A, sc_B, rv_B, ia_B, la_B, sc_R, ia_R, la_R, rv_R, ia_w, la_w, rv_w, sc_w, if_true, if_false]
          rw [e71, htk, ← htg.1]
          refine hl_cpy (by rw [s71]; exact htx) (fun i v hv => ?_)
          have hil := (List.getElem?_eq_some_iff.mp hv).1
          rw [hOs.tg i (by omega) (by omega)]
          unfold tgl at hv
          rw [List.getElem?_map] at hv
          obtain ⟨a, ha, e2⟩ := Option.map_eq_some_iff.mp hv
          have hai : a = i := by
            have h5 := ir_get (a := 0) (b := tgN m q2.2) (i := i) (by omega)
            rw [ha] at h5
            have := Option.some.inj h5
            omega
          rw [← e2, hai]
        · simp (config := {decide := true}) only [sc_S, ia_S, la_S, rv_S, sc_I, rv_I, la_I, ia_I, sc_L, rv_L, ia_L, la_L, sc_A, rv_A, la_A, ia_A, sc_B, rv_B, ia_B, la_B, sc_R, ia_R, la_R, rv_R, ia_w, la_w, rv_w, sc_w, if_true, if_false]
          exact s69
        · simp (config := {decide := true}) only [sc_S, ia_S, la_S, rv_S, sc_I, rv_I, la_I, ia_I, sc_L, rv_L, ia_L, la_L, sc_A, rv_A, la_A, ia_A, sc_B, rv_B, ia_B, la_B, sc_R, ia_R, la_R, rv_R, ia_w, la_w, rv_w, sc_w, if_true, if_false]
          exact s70
      refine go _ hS5 ⟨(((Fr.refl τ).I (Or.inr ⟨by omega, by omega⟩)).I (Or.inr ⟨by omega, by omega⟩)).S (Or.inl rfl), fun j hj hj' => by
        rw [sc_S, if_neg (fun z => hj z.2)]
        rfl⟩ (by simp (config := {decide := true}) only [sc_S, ia_S, la_S, rv_S, sc_I, rv_I, la_I, ia_I, sc_L, rv_L, ia_L, la_L, sc_A, rv_A, la_A, ia_A, sc_B, rv_B, ia_B, la_B, sc_R, ia_R, la_R, rv_R, ia_w, la_w, rv_w, sc_w, if_true, if_false]) (by simp (config := {decide := true}) only [sc_S, ia_S, la_S, rv_S, sc_I, rv_I, la_I, ia_I, sc_L, rv_L, ia_L, la_L, sc_A, rv_A, la_A, ia_A, sc_B, rv_B, ia_B, la_B, sc_R, ia_R, la_R, rv_R, ia_w, la_w, rv_w, sc_w, if_true, if_false]) (by simp (config := {decide := true}) only [sc_S, ia_S, la_S, rv_S, sc_I, rv_I, la_I, ia_I, sc_L, rv_L, ia_L, la_L, sc_A, rv_A, la_A, ia_A, sc_B, rv_B, ia_B, la_B, sc_R, ia_R, la_R, rv_R, ia_w, la_w, rv_w, sc_w, if_true, if_false]) (by simp (config := {decide := true}) only [sc_S, ia_S, la_S, rv_S, sc_I, rv_I, la_I, ia_I, sc_L, rv_L, ia_L, la_L, sc_A, rv_A, la_A, ia_A, sc_B, rv_B, ia_B, la_B, sc_R, ia_R, la_R, rv_R, ia_w, la_w, rv_w, sc_w, if_true, if_false]) (by simp (config := {decide := true}) only [sc_S, ia_S, la_S, rv_S, sc_I, rv_I, la_I, ia_I, sc_L, rv_L, ia_L, la_L, sc_A, rv_A, la_A, ia_A, sc_B, rv_B, ia_B, la_B, sc_R, ia_R, la_R, rv_R, ia_w, la_w, rv_w, sc_w, if_true, if_false])
  refine key w.2.length 0 _ 0 40 (by omega) hS3 hU0 (by omega) (by omega) (by simp (config := {decide := true}) only [sc_S, ia_S, la_S, rv_S, sc_I, rv_I, la_I, ia_I, sc_L, rv_L, ia_L, la_L, sc_A, rv_A, la_A, ia_A, sc_B, rv_B, ia_B, la_B, sc_R, ia_R, la_R, rv_R, ia_w, la_w, rv_w, sc_w, if_true, if_false]) (by simp (config := {decide := true}) only [sc_S, ia_S, la_S, rv_S, sc_I, rv_I, la_I, ia_I, sc_L, rv_L, ia_L, la_L, sc_A, rv_A, la_A, ia_A, sc_B, rv_B, ia_B, la_B, sc_R, ia_R, la_R, rv_R, ia_w, la_w, rv_w, sc_w, if_true, if_false]; rfl) (by rw [List.take_zero]; exact hl_nil) (fun i q hi => by omega) (fun j => ?_)
  rw [List.drop_zero, Nat.zero_add]
  rfl
theorem w_begin (hk : isK k) (hB : WB σ m0 m k) (hW : WF m) (hS : SR σ) (hd : 2 ≤ d) : Eb g ad d mX9_begin 0 0 [.ref (ad 63)] σ (Kv fun s => WAY s m ∧ Fr Wcl σ s) := by
  have hnb := hB.kn.nb
  have hS1 : SR (setS (setS σ 63 8 0) 63 6 0) := SR_setS (SR_setS hS (iR_lit rfl)) (iR_lit rfl)
  have hF1 : Fr Wcl σ (setS (setS σ 63 8 0) 63 6 0) := ((Fr.refl σ).S ⟨by omega, by omega⟩).S ⟨by omega, by omega⟩
  have hB1 := hB.fr hk hF1
  have hst := Ws.st hW
  have hkb := hst.2.kb hW
  have e61 : ia (setS (setS σ 63 8 0) 63 6 0) 61 0 = rsN m stE.x := by
    have h1 := hB1.rs 0 (Int.le_refl _) (by have := hB1.kn.nb; omega)
    rw [hB1.kn.c0] at h1
    rw [h1]
    have h2 := (hst.2.rs hW).1
    have h4 := pc6 stE.x
    have h5 : mu stE.x = 6 - pc stE.x.1 := rfl
    have h3 : rsM m (ndC 40) = min (rsN m stE.x) 1000000 := rfl
    rw [h3]
    omega
  refine EbS rfl pl_X9 rfl rfl (bX9_begin_0 hS ?_)
  have hch : EI g ad (d - 1) mX1_cheapest [.ref (ad 58)] (setS (setS σ 63 8 0) 63 6 0) (rsN m stE.x) (setS (setS σ 63 8 0) 63 6 0) := EbS rfl pl_X1 rfl rfl (bX1_cheapest_0 hS1 (by rw [e61]; exact re_i ⟨rfl, rfl⟩))
  refine EI.k hch (by omega) (fun _ _ => ?_)
  have hc0 : stE.c = 0 := rfl
  have hkey : lShl (rsN m stE.x) 48 = keyE m stE := by
    rw [lShl_n sh48 (by omega) (by omega)]
    unfold keyE
    have : dgP m 6 stE.p = 0 := rfl
    have e48 : (2 : Int) ^ 48 = 281474976710656 := by decide
    rw [this, hc0, e48]
    omega
  rw [hkey]
  have hq0 : QA (setS (setS σ 63 8 0) 63 6 0) (setS (setS σ 63 8 0) 63 6 0) m [] := ⟨by simp (config := {decide := true}) only [sc_S, ia_S, la_S, rv_S, sc_I, rv_I, la_I, ia_I, sc_L, rv_L, ia_L, la_L, sc_A, rv_A, la_A, ia_A, sc_B, rv_B, ia_B, la_B, sc_R, ia_R, la_R, rv_R, ia_w, la_w, rv_w, sc_w, if_true, if_false], fun p y hp => by simp at hp⟩
  have hK0 : KE (setS (setS σ 63 8 0) 63 6 0) stE 0 := ⟨⟨Int.le_refl _, by have := hB1.kn.nb; omega⟩, by rw [hB1.kn.c0]; rfl⟩
  have h := w_enq (g := g) (ad := ad) (d := d - 1) (σ := setS (setS σ 63 8 0) 63 6 0) (m := m) (i := 0) (e := stE) (Q := []) (n := 0) List.Pairwise.nil hq0 hK0 hB1.kn.nb.2 (by simp (config := {decide := true}) only [sc_S, ia_S, la_S, rv_S, sc_I, rv_I, la_I, ia_I, sc_L, rv_L, ia_L, la_L, sc_A, rv_A, la_A, ia_A, sc_B, rv_B, ia_B, la_B, sc_R, ia_R, la_R, rv_R, ia_w, la_w, rv_w, sc_w, if_true, if_false]) (by decide) (fun y hy => lR_of' (lR_key hW (by
    rcases hy with rfl | hy
    · exact hst.2
    · cases hy))) (iR_lit rfl) (by decide) hS1
  have h' : Eb g ad (d - 1) mX9_enqueue 0 0 [.ref (ad 63), vl (keyE m stE), vi 0, vi 0, vi 0] (setS (setS σ 63 8 0) 63 6 0) (Kv fun s => QA (setS (setS σ 63 8 0) 63 6 0) s m (enq m 0 [] stE) ∧ Ek (setS (setS σ 63 8 0) 63 6 0) s) := h
  refine Cl.vo h' (by omega) (fun s9 hS9 h9 => re_v ⟨⟨[], [stE], ?_, ⟨?_, fun i w hi => by simp at hi⟩, hst.1⟩, hF1.trans h9.2.f⟩)
  · exact QA.cv (h9.2.1.ia 60 (by omega)) (h9.2.1.sc 58 5 (by omega)) h9.1
  · rw [h9.2.2 8 (by decide)]
    simp (config := {decide := true}) only [sc_S, ia_S, la_S, rv_S, sc_I, rv_I, la_I, ia_I, sc_L, rv_L, ia_L, la_L, sc_A, rv_A, la_A, ia_A, sc_B, rv_B, ia_B, la_B, sc_R, ia_R, la_R, rv_R, ia_w, la_w, rv_w, sc_w, if_true, if_false]
end UNFs

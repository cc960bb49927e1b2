section TUN
variable {g : AG} {ad : Nat → Nat} {d : Nat} {σ : SG} {m m1 mi t : Int → Int} {k : Nat} {hi e f0 : Int}
def tuF (m : Int → Int) (l : List Int) (b : Int × Int) (n : Int) : Int × Int := if b.1 = -1 ∨ nearV (up m 6 n) (lz l) l.length < b.2 then (n, nearV (up m 6 n) (lz l) l.length) else b
theorem near_b (hW : WF m) {n : Int} (hn : 0 ≤ n ∧ n ≤ 20) (l : List Int) (hl18 : (l.length : Int) ≤ 18) : 0 ≤ nearV (up m 6 n) (lz l) l.length ∧ nearV (up m 6 n) (lz l) l.length ≤ 36 := by
  have h1 := edL_b (tx (up m 6 n) 0) (lz l) (tn := (l.length : Int)) (by omega)
  have h2 := tx_len (va_up6 hW hn).wf 0
  unfold nearV
  omega
theorem t_tuned (h : CI σ m mi hi) (hT : TP σ t e f0) (htb : ∀ j, 0 ≤ t j ∧ t j ≤ 255) (heb : 0 ≤ e ∧ e ≤ 400) (hS : SR σ) (hd : 10 ≤ d) : Eb g ad d mX10_tuned 1 6 [.ref (ad 0)] σ (XT σ m mi t hi e (tunV m)) := by
  have hW := h.gm.wf
  refine EbS rfl pl_X10 rfl rfl (bX10_tuned_0 hS ?_)
  refine Cl.xv (p_told (d := d - 1) h hT htb heb hS (by omega)) (by omega) (fun s1 hS1 hs1 => ?_) (fun E s1 hS1 hs1 => ?_)
  rotate_left
  · exact fun i2 => Or.inr ⟨E, rfl, i2, hs1⟩
  obtain ⟨l, hl1⟩ := hs1
  refine Cl.vo (p_options (d := d - 1) hl1.2.1 hS1 (by omega)) (by omega) (fun s2 hS2 hs2 _ _ _ hS2' => ?_)
  have h2 := hl1.q hs2.2.2.1 hs2.1
  have hl18 := h2.2.2.2.2.1
  have ht := h2.1
  have hw := told_w h.gm heb.1 ht
  refine up_loop (P := fun x => 0 ≤ x → ∀ (τ : SG) (b c : Int), SR τ → ToP σ τ m mi t hi e l → ¬ sc τ 0 12 = 0 → ((x = 0 ∧ b = 0 ∧ c = 1000000) ∨ (1 ≤ x ∧ (0 ≤ b ∧ b ≤ 20) ∧ (0 ≤ c ∧ c ≤ 36) ∧ ((ir x 21).foldl (tuF m l) (b, c)).1 = tunV m l)) → aX10_tuned_16 g ad d (XT σ m mi t hi e (tunV m)) 0 0 τ b c x) (hi := 21) 0 (by omega) ?_ ?_ (Int.le_refl _) s2 0 1000000 hS2' h2 hs2.2.1 (Or.inl ⟨rfl, rfl, rfl⟩)
  · intro _ τ b c hSt hto h12 hB
    rcases hB with z | ⟨_, hb, hc, hv⟩
    · omega
    · rw [ir_nil (Int.le_refl _)] at hv
      have hv' : b = tunV m l := hv
      exact bX10_tuned_16 (iR_of (by omega) (by omega)) (iR_of (by omega) (by omega)) (iR_of (by omega) (by omega)) hSt ⟨fun _ => fun i1 i2 => Or.inl ⟨b, rfl, i1, i2, l, ht, hv', hto.2.1, hto.2.2.1, hto.2.2.2.2.2.2⟩, fun z => absurd (by omega) z⟩
  · intro x hx0 hx1 ih hxx τ b c hSt hto h12 hB
    have hci := hto.2.1
    have ib : iR b := by rcases hB with z | z <;> exact iR_of (by omega) (by omega)
    have ic : iR c := by rcases hB with z | z <;> exact iR_of (by omega) (by omega)
    have ix_ : iR x := iR_of (by omega) (by omega)
    refine bX10_tuned_16 ib ic ix_ hSt ⟨fun z => absurd z (by omega), fun _ => ⟨hci.isk, ?_⟩⟩
    have e7 : ia τ (rv τ 0 1 + 11) 3 = m 7 := hci.rk.st 3 (by omega) (by omega)
    rw [e7]
    have hn20 : 0 ≤ x ∧ x ≤ 20 := ⟨hx0, by omega⟩
    have hV := va_up6 hW hn20
    have f6 : (up m 6 x) 6 = x := up_at
    have f7 : (up m 6 x) 7 = m 7 := up_ne (by omega)
    have hot := p_otherwise (g := g) (ad := ad) (d := d - 1) hci h12 hV (iR_lit rfl) hSt (by omega)
    rw [f6, f7] at hot
    refine Cl.i hot (by omega) (fun r s3 hr3 hS3 h3 => ?_)
    obtain ⟨_, ⟨hkr, hrs⟩, c3, n12, q3, F3, n13⟩ := h3
    have hk := hci.isk
    have hB3 : WB s3 m (up m 6 x) (rv τ 0 1) := ⟨hkr.rk, hW, hV, hkr.op, hkr.op.va hV hW, hkr.kn.va hV hW, hkr.j6, hkr.j7, hrs⟩
    refine Cl.vo (w_begin (d := d - 1) hk hB3 hV.wf hS3 (by omega)) (by omega) (fun s4 hS4 h4 => ?_)
    have hB4 := hB3.fr hk h4.2
    refine Cl.vo (w_bring (d := d - 1) (x := 0) hk hB4 hV.wf h4.1 (by omega) hS4 (by omega)) (by omega) (fun s5 hS5 h5 => ?_)
    obtain ⟨R, Q, hQ5, hR5, hw5, hq5, hF5⟩ := h5
    have hB5 := hB4.fr hk hF5
    have hway := hw5.way hV.wf (by omega) hq5
    refine Cl.i (w_unfold (d := d - 1) (x := 0) hk hB5 hV.wf hR5 hw5.rd (by omega) hS5 (by omega)) (by omega) (fun r6 s6 hr6 hS6 h6 => ?_)
    have hF6 : Fr Wcl s3 s6 := (h4.2.trans hF5).trans h6.2.2.2.f
    have z0 : ∀ j, sc s6 0 j = sc s3 0 j := fun j => hF6.sc 0 j (fun z => by unfold Wcl at z; omega)
    have c6 := c3.noways (hF6.mono (fun c hc => Or.inr (Or.inr hc))) (hkr.kn.fr hF6 (fun c hc z => by unfold Wcl at hc; unfold Kno at z; omega)) (fun j _ => z0 j) (by rw [z0]; exact n13) n12
    -- the text of the first way
    have huw : UWY s6 (up m 6 x) 0 r6 := by
      have hwa := h6.2.2.2.w hQ5 hR5
      by_cases cc : (0 : Int) < R.length
      · obtain ⟨w, hw'⟩ : ∃ w, R[(0 : Int).toNat]? = some w := ⟨_, List.getElem?_eq_getElem (by show (0 : Int).toNat < R.length; omega)⟩
        exact Or.inl ⟨w, hway.1 w hw', by rw [h6.1, bi, if_pos cc], h6.2.1 w hw', (hw5.rd _ w hw').1, R, hwa.2, hw'⟩
      · have := h6.2.2.1 cc
        exact Or.inr ⟨hway.2 cc, by rw [h6.1, bi, if_neg cc], this.1, this.2⟩
    have hun := un_tx hV.wf huw
    have hto6 := (hto.q q3 c3).q c6.2 c6.1
    refine Cl.i (near_c (d := d - 1) (m1 := m) hV.wf hw hun.1 hun.2 hto6.2.2.2.1 hl18 hto6.2.2.2.2.2.1 hS6 (by omega)) (by omega) (fun r7 s7 hr7 hS7 h7 => ?_)
    have k7 := c6.1.keep h7.2.1 (fun c hc' => by omega)
    have hto7 := hto6.q k7.2 k7.1
    have n12' : ¬ sc s7 0 12 = 0 := by
      rw [h7.2.2, z0]
      exact n12
    have hnb := near_b hW hn20 l hl18
    rw [h7.1]
    have i3 : iR (x + 1) := iR_of (by omega) (by omega)
    refine ⟨fun c2 => ⟨i3, fun _ _ _ hS' => ih (by omega) s7 b c hS' hto7 n12' (Or.inr ?_)⟩, fun c2 => ⟨i3, fun _ _ _ hS' => ih (by omega) s7 x _ hS' hto7 n12' (Or.inr ?_)⟩⟩
    · rcases hB with z | ⟨z1, z2, z3, hv⟩
      · omega
      · refine ⟨by omega, z2, z3, ?_⟩
        rw [ir_cons hx1, List.foldl_cons] at hv
        have e1 : tuF m l (b, c) x = (b, c) := by
          unfold tuF
          rw [if_neg]
          rintro (y | y)
          · have : b = -1 := y
            omega
          · have : nearV (up m 6 x) (lz l) l.length < c := y
            omega
        rw [e1] at hv
        exact hv
    · refine ⟨by omega, hn20, hnb, ?_⟩
      rcases hB with z | ⟨z1, z2, z3, hv⟩
      · have ex : x = 0 := z.1
        subst ex
        unfold tunV
        rw [ir_cons (show (0 : Int) < 21 by omega), List.foldl_cons]
        have e1 : (if ((-1 : Int), (0 : Int)).1 = -1 ∨ nearV (up m 6 0) (lz l) l.length < ((-1 : Int), (0 : Int)).2 then ((0 : Int), nearV (up m 6 0) (lz l) l.length) else (-1, 0)) = (0, nearV (up m 6 0) (lz l) l.length) := if_pos (Or.inl rfl)
        rw [e1]
        rfl
      · rw [ir_cons hx1, List.foldl_cons] at hv
        have e1 : tuF m l (b, c) x = (x, nearV (up m 6 x) (lz l) l.length) := by
          unfold tuF
          rw [if_pos]
          right
          show nearV (up m 6 x) (lz l) l.length < c
          omega
        rw [e1] at hv
        exact hv
end TUN

section IMG
variable {g : AG} {ad : Nat → Nat} {d : Nat} {σ : SG} {m m1 mi t : Int → Int} {k : Nat} {hi e f0 : Int}
theorem i_image (h : CI σ m mi hi) (hS : SR σ) (hd : 4 ≤ d) : Eb g ad d mX10_image 0 0 [.ref (ad 0)] σ (Kv fun s => CI s m m 1 ∧ Cf σ s ∧ Tf σ s) := by
  have hkn := h.kn
  refine EbS rfl pl_X10 rfl rfl (bX10_image_0 hS ⟨h.isk, ?_⟩)
  refine Cl.vo (k_copy (d := d - 1) (k0 := 1) (Or.inl rfl) h.isk (by omega) h.rk h.gm hS (by omega)) (by omega) (fun s2 hS2 h2 => re_v ?_)
  have hF : Fr (fun c => Kcl 1 c ∨ c = 0) σ (setS s2 0 11 1) := (h2.2.mono (fun c hc => Or.inl hc)).S (Or.inr rfl)
  have hD : ∀ c, (Kcl 1 c ∨ c = 0) → c ≤ 12 := fun c hc => by
    unfold Kcl at hc
    omega
  have er : rv (setS s2 0 11 1) = rv σ := hF.1
  have e_ : ∀ j, ¬ j = 11 → sc (setS s2 0 11 1) 0 j = sc σ 0 j := fun j hj => by
    rw [sc_S, if_neg (fun z => hj z.2)]
    exact h2.2.sc 0 j (fun z => by unfold Kcl at z; omega)
  have hR1 : RK (setS s2 0 11 1) 1 m := h2.1.eq (fun _ _ _ => rfl) (by
    funext j
    rw [sc_S, if_neg (by omega)])
  refine ⟨⟨by rw [er]; exact h.kn, h.gm, ?_, by simp (config := {decide := true}) only [sc_S, ia_S, la_S, rv_S, sc_I, rv_I, la_I, ia_I, sc_L, rv_L, ia_L, la_L, sc_A, rv_A, la_A, ia_A, sc_B, rv_B, ia_B, la_B, sc_R, ia_R, la_R, rv_R, ia_w, la_w, rv_w, sc_w, if_true, if_false], fun _ => ⟨hR1, h.gm⟩, h.kc.fr hF (fun c hc y => by unfold Kno at y; have := hD c hc; omega), fun z => ?_, fun z => ?_, fun z => ?_⟩, hF.c (fun c hc => by have := hD c hc; omega), hF.tf (fun z => by have := hD 37 z; omega) (fun z => by have := hD 38 z; omega)⟩
  · rw [er]
    exact h.rk.fr hF (fun c hc y => by unfold Kcl at hc; have := hD c y; omega)
  · rw [e_ 12 (by decide)] at z
    have hop := h.op z
    rw [er]
    exact ⟨hop.1.fr hF (fun c hc y => by unfold Ocl at y; have := hD c hc; omega), hop.2.1.fr hF (fun c hc y => by unfold Kno at y; have := hD c hc; omega), hop.2.2.fr hF (fun c hc y => by have := hD c hc; omega)⟩
  · rw [e_ 13 (by decide)] at z
    have hw := h.wy z
    refine ⟨by rw [e_ 12 (by decide)]; exact hw.1, ⟨?_, ?_, hw.2.1.2.2.fr hF (fun c hc y => by have := hD c hc; unfold Kno at y; omega)⟩, hw.2.2.fr hF (fun c hc => ⟨fun y => by have := hD c hc; unfold Wcl at y; omega, fun y => by have := hD c hc; unfold Kno at y; omega⟩)⟩
    · rw [hF.sc 58 6 (fun y => by have := hD 58 y; omega)]
      exact hw.2.1.1
    · rw [hF.sc 58 7 (fun y => by have := hD 58 y; omega)]
      exact hw.2.1.2.1
  · rw [e_ 14 (by decide)] at z
    have hs := h.st z
    exact ⟨by rw [e_ 12 (by decide)]; exact hs.1, hs.2.fr hF (fun c hc y => by have := hD c hc; unfold Fcl at y; omega)⟩
theorem i_back (h : CI σ m mi hi) (hS : SR σ) (hd : 4 ≤ d) : Eb g ad d mX10_back 0 0 [.ref (ad 0)] σ (Ki fun r s => r = (if hi = 0 then 0 else 1) ∧ CI s (if hi = 0 then m else mi) mi hi ∧ Cf σ s ∧ Tf σ s) := by
  have hkn := h.kn
  refine EbS rfl pl_X10 rfl rfl (bX10_back_0 hS ?_)
  rw [h.hi_]
  refine ⟨fun c => ⟨h.isk, ?_⟩, fun c => re_i ⟨by rw [if_pos c], by rw [if_pos c]; exact h, Cf.refl, Tf.refl⟩⟩
  have him := h.im c
  refine Cl.vo (k_copy (d := d - 1) (k1 := 1) h.isk (Or.inl rfl) (by omega) him.1 him.2 hS (by omega)) (by omega) (fun s2 hS2 h2 => ?_)
  refine EV.k (p_forget (d := d - 1) hS2 (by omega)) (by omega) (fun _ => re_i ?_)
  rw [if_neg c, if_neg c]
  have hF0 : Fr (fun b => b = 0) s2 (setS (setS (setS s2 0 12 0) 0 13 0) 0 14 0) := Fr0.trans (Fr0.trans Fr0)
  have hF : Fr (fun c => Kcl (rv σ 0 1) c ∨ c = 0) σ (setS (setS (setS s2 0 12 0) 0 13 0) 0 14 0) := (h2.2.mono (fun c hc => Or.inl hc)).trans (hF0.mono (fun c hc => Or.inr hc))
  have er : rv (setS (setS (setS s2 0 12 0) 0 13 0) 0 14 0) = rv σ := hF.1
  have hD : ∀ c, (Kcl (rv σ 0 1) c ∨ c = 0) → c = 0 ∨ 13 ≤ c ∧ c ≤ 36 := fun c hc => by
    unfold Kcl at hc
    omega
  refine ⟨rfl, CI.new (by rw [er]; exact h.kn) him.2 ?_ ?_ (fun _ => ⟨?_, him.2⟩) ?_ (by simp (config := {decide := true}) only [sc_S, ia_S, la_S, rv_S, sc_I, rv_I, la_I, ia_I, sc_L, rv_L, ia_L, la_L, sc_A, rv_A, la_A, ia_A, sc_B, rv_B, ia_B, la_B, sc_R, ia_R, la_R, rv_R, ia_w, la_w, rv_w, sc_w, if_true, if_false]) (by simp (config := {decide := true}) only [sc_S, ia_S, la_S, rv_S, sc_I, rv_I, la_I, ia_I, sc_L, rv_L, ia_L, la_L, sc_A, rv_A, la_A, ia_A, sc_B, rv_B, ia_B, la_B, sc_R, ia_R, la_R, rv_R, ia_w, la_w, rv_w, sc_w, if_true, if_false]) (by simp (config := {decide := true}) only [sc_S, ia_S, la_S, rv_S, sc_I, rv_I, la_I, ia_I, sc_L, rv_L, ia_L, la_L, sc_A, rv_A, la_A, ia_A, sc_B, rv_B, ia_B, la_B, sc_R, ia_R, la_R, rv_R, ia_w, la_w, rv_w, sc_w, if_true, if_false]), hF.c (fun c hc => by have := hD c hc; omega), hF.tf (fun z => by have := hD 37 z; omega) (fun z => by have := hD 38 z; omega)⟩
  · rw [er]
    exact h2.1.fr hF0 (fun b hb z => by unfold Kcl at hb; omega)
  · simp (config := {decide := true}) only [sc_S, ia_S, la_S, rv_S, sc_I, rv_I, la_I, ia_I, sc_L, rv_L, ia_L, la_L, sc_A, rv_A, la_A, ia_A, sc_B, rv_B, ia_B, la_B, sc_R, ia_R, la_R, rv_R, ia_w, la_w, rv_w, sc_w, if_true, if_false]
    rw [h2.2.sc 0 11 (fun z => by unfold Kcl at z; omega)]
    exact h.hi_
  · exact him.1.fr hF (fun b hb z => by unfold Kcl at hb; have := hD b z; omega)
  · exact h.kc.fr hF (fun b hb z => by unfold Kno at z; have := hD b hb; omega)
theorem i_fault {f : Int} (hT : TP σ t e f) (hS : SR σ) : EI g ad d mX10_fault [.ref (ad 0)] σ f σ := by
  refine EbS rfl pl_X10 rfl rfl (bX10_fault_0 hS ?_)
  rw [hT.2.2]
  exact re_i ⟨rfl, rfl⟩
theorem i_end {x1 f : Int} (h : CI σ m mi hi) (hT : TP σ t e f) (h1 : iR x1) (hS : SR σ) : Eb g ad d mX10_end 0 0 [.ref (ad 0), vi x1] σ (Ki fun r s => r = bi (0 ≤ x1 ∧ x1 ≤ e) ∧ CI s m mi hi ∧ TP s t (if 0 ≤ x1 ∧ x1 ≤ e then x1 else e) f ∧ Cf σ s) := by
  have hF : Fr (fun c => c = 37) σ (setS σ 37 1 x1) := (Fr.refl σ).S rfl
  refine EbS rfl pl_X10 rfl rfl (bX10_end_0 h1 hS ⟨fun c => re_i ⟨by rw [bi, if_neg (by omega)], h, by rw [if_neg (by omega)]; exact hT, Cf.refl⟩, fun c => ?_⟩)
  rw [hT.2.1]
  refine ⟨fun c2 => re_i ⟨by rw [bi, if_pos ⟨by omega, c2⟩], h.kt hF (fun c hc => by omega), ?_, hF.c (fun c hc => by omega)⟩, fun c2 => re_i ⟨by rw [bi, if_neg (by omega)], h, by rw [if_neg (by omega)]; exact hT, Cf.refl⟩⟩
  rw [if_pos ⟨by omega, c2⟩]
  refine ⟨hT.1, by simp (config := {decide := true}) only [sc_S, ia_S, la_S, rv_S, sc_I, rv_I, la_I, ia_I, sc_L, rv_L, ia_L, la_L, sc_A, rv_A, la_A, ia_A, sc_B, rv_B, ia_B, la_B, sc_R, ia_R, la_R, rv_R, ia_w, la_w, rv_w, sc_w, if_true, if_false], ?_⟩
  simp (config := {decide := true}) only [sc_S, ia_S, la_S, rv_S, sc_I, rv_I, la_I, ia_I, sc_L, rv_L, ia_L, la_L, sc_A, rv_A, la_A, ia_A, sc_B, rv_B, ia_B, la_B, sc_R, ia_R, la_R, rv_R, ia_w, la_w, rv_w, sc_w, if_true, if_false]
  exact hT.2.2
theorem wr_app : ∀ (l l' : List Int) (f : Int → Int) (n : Int), wr f n (l ++ l') = wr (wr f n l) (n + l.length) l'
  | [], l', f, n => by
    show wr f n l' = wr f (n + ((0 : Nat) : Int)) l'
    rw [show n + ((0 : Nat) : Int) = n by omega]
  | x :: l, l', f, n => by
    show wr (up f n x) (n + 1) (l ++ l') = wr (wr (up f n x) (n + 1) l) (n + ((l.length + 1 : Nat) : Int)) l'
    rw [wr_app l l' (up f n x) (n + 1), show n + 1 + (l.length : Int) = n + ((l.length + 1 : Nat) : Int) by omega]
theorem byte_b (y : Int) : 0 ≤ bAnd y 255 ∧ bAnd y 255 ≤ 255 := by
  have h1 : (Int32.ofInt y &&& Int32.ofInt 255).toBitVec.toNat ≤ 255 := by
    rw [Int32.toBitVec_and, BitVec.toNat_and, n32 (a := 255) (by omega)]
    exact Nat.and_le_right
  unfold bAnd
  rw [i32 (by omega)]
  omega
theorem wr_b : ∀ (l : List Int) (f : Int → Int) (n : Int), (∀ j, 0 ≤ f j ∧ f j ≤ 255) → (∀ x ∈ l, 0 ≤ x ∧ x ≤ 255) → ∀ j, 0 ≤ wr f n l j ∧ wr f n l j ≤ 255
  | [], f, n, hf, _, j => hf j
  | x :: l, f, n, hf, hl, j => by
    refine wr_b l (up f n x) (n + 1) (fun i => ?_) (fun y hy => hl y (List.mem_cons_of_mem _ hy)) j
    by_cases c : i = n
    · rw [c, up_at]
      exact hl x (List.mem_cons_self ..)
    · rw [up_ne c]
      exact hf i
theorem by4_b (v : Int) : ∀ x ∈ by4 v, 0 ≤ x ∧ x ≤ 255 := fun x hx => by
  unfold by4 at hx
  rcases List.mem_cons.mp hx with rfl | hx
  · exact byte_b _
  rcases List.mem_cons.mp hx with rfl | hx
  · exact byte_b _
  rcases List.mem_cons.mp hx with rfl | hx
  · exact byte_b _
  rcases List.mem_cons.mp hx with rfl | hx
  · exact byte_b _
  · cases hx
theorem w_append {x f : Int} (hT : TP σ t e f) (he : 0 ≤ e ∧ e + 4 ≤ 400) (hx : iR x) (hS : SR σ) : Eb g ad d mX6_append 0 0 [.ref (ad 37), vi x] σ (Kv fun s => TP s (wr t e (by4 x)) (e + 4) f ∧ Fr (fun c => c = 37 ∨ c = 38) σ s) := by
  refine EbS rfl pl_X6 rfl rfl (bX6_append_0 hx hS (fun _ _ hS0 => ?_))
  -- one byte
  have one : ∀ (Q : AO → SG → Prop) (τ : SG) (t' : Int → Int) (e' x2 : Int), SR τ → TP τ t' e' f → 0 ≤ e' → e' < 400 → 0 ≤ x2 → x2 ≤ 24 → (∀ τ', SR τ' → TP τ' (up t' e' (bAnd (bUshr x x2) 255)) (e' + 1) f → Fr (fun c => c = 37 ∨ c = 38) τ τ' → aX6_append_3 g ad d Q 0 0 τ' x (x2 + (-8))) → aX6_append_3 g ad d Q 0 0 τ x x2 := fun Q τ t' e' x2 hSt hTt h0 h1 h2 h3 hn => by
    refine bX6_append_3 hx (iR_of (by omega) (by omega)) hSt ⟨fun z => absurd z (by omega), fun _ => ?_⟩
    rw [hTt.2.1]
    refine ⟨fun z => absurd z (by omega), fun _ => ⟨⟨h0, h1⟩, ?_⟩⟩
    have e1 : sc (setI τ 38 e' (bAnd (bUshr x x2) 255)) 37 1 = e' := hTt.2.1
    rw [e1]
    refine ⟨iR_of (by omega) (by omega), iR_of (by omega) (by omega), fun _ _ hS' => hn _ hS' ⟨?_, by simp (config := {decide := true}) only [sc_S, ia_S, la_S, rv_S, sc_I, rv_I, la_I, ia_I, sc_L, rv_L, ia_L, la_L, sc_A, rv_A, la_A, ia_A, sc_B, rv_B, ia_B, la_B, sc_R, ia_R, la_R, rv_R, ia_w, la_w, rv_w, sc_w, if_true, if_false], ?_⟩ (((Fr.refl τ).I (Or.inr rfl)).S (Or.inl rfl))⟩
    · have : ia (setS (setI τ 38 e' (bAnd (bUshr x x2) 255)) 37 1 (e' + 1)) 38 = up (ia τ 38) e' (bAnd (bUshr x x2) 255) := by simp (config := {decide := true}) only [sc_S, ia_S, la_S, rv_S, sc_I, rv_I, la_I, ia_I, sc_L, rv_L, ia_L, la_L, sc_A, rv_A, la_A, ia_A, sc_B, rv_B, ia_B, la_B, sc_R, ia_R, la_R, rv_R, ia_w, la_w, rv_w, sc_w, if_true, if_false]
      rw [this, hTt.1]
    · simp (config := {decide := true}) only [sc_S, ia_S, la_S, rv_S, sc_I, rv_I, la_I, ia_I, sc_L, rv_L, ia_L, la_L, sc_A, rv_A, la_A, ia_A, sc_B, rv_B, ia_B, la_B, sc_R, ia_R, la_R, rv_R, ia_w, la_w, rv_w, sc_w, if_true, if_false]
      exact hTt.2.2
  refine one _ σ t e 24 hS0 hT he.1 (by omega) (by omega) (by omega) (fun s1 hS1 hT1 hF1 => ?_)
  refine one _ s1 _ (e + 1) (24 + (-8)) hS1 hT1 (by omega) (by omega) (by omega) (by omega) (fun s2 hS2 hT2 hF2 => ?_)
  refine one _ s2 _ (e + 1 + 1) (24 + (-8) + (-8)) hS2 hT2 (by omega) (by omega) (by omega) (by omega) (fun s3 hS3 hT3 hF3 => ?_)
  refine one _ s3 _ (e + 1 + 1 + 1) (24 + (-8) + (-8) + (-8)) hS3 hT3 (by omega) (by omega) (by omega) (by omega) (fun s4 hS4 hT4 hF4 => ?_)
  refine bX6_append_3 hx (iR_of (by omega) (by omega)) hS4 ⟨fun _ => re_v ⟨⟨hT4.1, by rw [hT4.2.1]; omega, hT4.2.2⟩, ((hF1.trans hF2).trans hF3).trans hF4⟩, fun z => absurd (by omega) z⟩
theorem i_feed {x1 x2 x3 x4 x5 f : Int} (h : CI σ m mi hi) (hT : TP σ t e f) (he : 0 ≤ e ∧ e ≤ 400) (h1 : iR x1) (h2 : iR x2) (h3 : iR x3) (h4 : iR x4) (h5 : iR x5) (hS : SR σ) (hd : 2 ≤ d) : Eb g ad d mX10_feed 0 0 [.ref (ad 0), vi x1, vi x2, vi x3, vi x4, vi x5] σ (Ki fun r s => r = (if e ≤ 380 then e + 20 else -1) ∧ CI s m mi hi ∧ TP s (if e ≤ 380 then wr t e (feedL x1 x2 x3 x4 x5) else t) (if e ≤ 380 then e + 20 else e) f ∧ Cf σ s) := by
  refine EbS rfl pl_X10 rfl rfl (bX10_feed_0 h1 h2 h3 h4 h5 hS ?_)
  rw [hT.2.1]
  refine ⟨iR_of (by omega) (by omega), fun c => ?_, fun c => re_i ⟨by rw [if_neg (by omega)], h, by rw [if_neg (by omega), if_neg (by omega)]; exact hT, Cf.refl⟩⟩
  refine Cl.vo (w_append (d := d - 1) hT (by omega) h1 hS) (by omega) (fun s2 hS2 b2 => ?_)
  refine Cl.vo (w_append (d := d - 1) b2.1 (by omega) h2 hS2) (by omega) (fun s3 hS3 b3 => ?_)
  refine Cl.vo (w_append (d := d - 1) b3.1 (by omega) h3 hS3) (by omega) (fun s4 hS4 b4 => ?_)
  refine Cl.vo (w_append (d := d - 1) b4.1 (by omega) h4 hS4) (by omega) (fun s5 hS5 b5 => ?_)
  refine Cl.vo (w_append (d := d - 1) b5.1 (by omega) h5 hS5) (by omega) (fun s6 hS6 b6 => ?_)
  have hF := (((b2.2.trans b3.2).trans b4.2).trans b5.2).trans b6.2
  have e20 : e + 4 + 4 + 4 + 4 + 4 = e + 20 := by omega
  rw [b6.1.2.1, e20]
  refine re_i ⟨by rw [if_pos (by omega)], h.kt hF (fun c hc => by omega), ?_, hF.c (fun c hc => by omega)⟩
  rw [if_pos (by omega), if_pos (by omega)]
  refine ⟨?_, by rw [b6.1.2.1, e20], b6.1.2.2⟩
  rw [b6.1.1]
  unfold feedL
  have l1 : ((by4 x1).length : Int) = 4 := rfl
  have l2 : ((by4 x1 ++ by4 x2).length : Int) = 8 := rfl
  have l3 : ((by4 x1 ++ by4 x2 ++ by4 x3).length : Int) = 12 := rfl
  have l4 : ((by4 x1 ++ by4 x2 ++ by4 x3 ++ by4 x4).length : Int) = 16 := rfl
  rw [wr_app, wr_app, wr_app, wr_app, l1, l2, l3, l4, show e + 4 + 4 + 4 + 4 = e + 16 by omega, show e + 4 + 4 + 4 = e + 12 by omega, show e + 4 + 4 = e + 8 by omega]
theorem feed_b {x1 x2 x3 x4 x5 : Int} (htb : ∀ j, 0 ≤ t j ∧ t j ≤ 255) (n : Int) : ∀ j, 0 ≤ wr t n (feedL x1 x2 x3 x4 x5) j ∧ wr t n (feedL x1 x2 x3 x4 x5) j ≤ 255 := by
  refine wr_b _ t n htb (fun x hx => ?_)
  unfold feedL at hx
  rcases List.mem_append.mp hx with hx | hx
  · rcases List.mem_append.mp hx with hx | hx
    · rcases List.mem_append.mp hx with hx | hx
      · rcases List.mem_append.mp hx with hx | hx
        · exact by4_b _ x hx
        · exact by4_b _ x hx
      · exact by4_b _ x hx
    · exact by4_b _ x hx
  · exact by4_b _ x hx
end IMG

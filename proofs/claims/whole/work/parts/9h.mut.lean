section MUT
variable {g : AG} {ad : Nat → Nat} {d : Nat} {σ : SG} {m m1 mi t : Int → Int} {k : Nat} {hi : Int}
/-- the reference's cells are as they were -/
def Cf (σ s : SG) : Prop := ∀ c, 102 ≤ c → ia s c = ia σ c ∧ la s c = la σ c ∧ sc s c = sc σ c ∧ rv s c = rv σ c
/-- the tape is as it was -/
def Tf (σ s : SG) : Prop := ia s 38 = ia σ 38 ∧ sc s 37 1 = sc σ 37 1 ∧ sc s 37 2 = sc σ 37 2
theorem Cf.refl : Cf σ σ := fun _ _ => ⟨rfl, rfl, rfl, rfl⟩
theorem Cf.trans {s u : SG} (h1 : Cf σ s) (h2 : Cf s u) : Cf σ u := fun c hc => ⟨(h2 c hc).1.trans (h1 c hc).1, (h2 c hc).2.1.trans (h1 c hc).2.1, (h2 c hc).2.2.1.trans (h1 c hc).2.2.1, (h2 c hc).2.2.2.trans (h1 c hc).2.2.2⟩
theorem Tf.refl : Tf σ σ := ⟨rfl, rfl, rfl⟩
theorem Tf.trans {s u : SG} (h1 : Tf σ s) (h2 : Tf s u) : Tf σ u := ⟨h2.1.trans h1.1, h2.2.1.trans h1.2.1, h2.2.2.trans h1.2.2⟩
theorem Qf.c {s : SG} (h : Qf σ s) : Cf σ s := fun c hc => ⟨(h.2.1 c (by omega) (by omega)).1, (h.2.1 c (by omega) (by omega)).2.1, (h.2.1 c (by omega) (by omega)).2.2, funext (fun j => h.1 c j (by omega))⟩
theorem Qf.tf {s : SG} (h : Qf σ s) : Tf σ s := ⟨(h.2.1 38 (by omega) (by omega)).1, congrFun (h.2.1 37 (by omega) (by omega)).2.2 1, congrFun (h.2.1 37 (by omega) (by omega)).2.2 2⟩
theorem Fr.c {C : Nat → Prop} {s : SG} (h : Fr C σ s) (hC : ∀ c, C c → c ≤ 101) : Cf σ s := fun c hc => ⟨h.ia c (fun z => by have := hC c z; omega), h.la c (fun z => by have := hC c z; omega), (h.2 c (fun z => by have := hC c z; omega)).2.2, by rw [h.1]⟩
theorem Fr.tf {C : Nat → Prop} {s : SG} (h : Fr C σ s) (h37 : ¬ C 37) (h38 : ¬ C 38) : Tf σ s := ⟨h.ia 38 h38, h.sc 37 1 h37, h.sc 37 2 h37⟩
/-- how a call that changes the class ends -/
def XM (σ : SG) (m m' mi : Int → Int) (hi v t : Int) (X : String → Int → Prop) : AO → SG → Prop := Kx (Ki fun r s => t = 0 ∧ r = v ∧ CI s m' mi hi ∧ Cf σ s ∧ Tf σ s) (fun E s => ¬ t = 0 ∧ X E t ∧ CI s m mi hi ∧ Cf σ s ∧ Tf σ s)
theorem ym {s : SG} {r v t : Int} {X : String → Int → Prop} (ht : t = 0) (hr : r = v) (hc : CI s m1 mi hi) (h1 : Cf σ s) (h2 : Tf σ s) : iR r → SR s → XM σ m m1 mi hi v t X (.inl (some (vi r))) s := fun a b => Or.inl ⟨r, rfl, a, b, ht, hr, hc, h1, h2⟩
theorem ye {s : SG} {v t : Int} {E : String} {X : String → Int → Prop} (ht : ¬ t = 0) (hx : X E t) (hc : CI s m mi hi) (h1 : Cf σ s) (h2 : Tf σ s) : SR s → XM σ m m1 mi hi v t X (.inr E) s := fun b => Or.inr ⟨E, rfl, b, ht, hx, hc, h1, h2⟩
theorem p_forgetWays (hS : SR σ) : EV g ad d mX10_forgetWays [.ref (ad 0)] σ (setS (setS σ 0 13 0) 0 14 0) := EbS rfl pl_X10 rfl rfl (bX10_forgetWays_0 hS (re_v rfl))
theorem p_forget (hS : SR σ) (hd : 1 ≤ d) : EV g ad d mX10_forgetOptions [.ref (ad 0)] σ (setS (setS (setS σ 0 12 0) 0 13 0) 0 14 0) := by
  refine EbS rfl pl_X10 rfl rfl (bX10_forgetOptions_0 hS ?_)
  exact EV.k (p_forgetWays (d := d - 1) (SR_setS hS (iR_lit rfl))) hd (fun _ => re_v rfl)
/-- nothing is ready any more -/
theorem CI.new {s : SG} (kn : rv s 0 1 = 13 ∧ rv s 0 2 = 25 ∨ rv s 0 1 = 25 ∧ rv s 0 2 = 13) (gm : GM m) (rk : RK s (rv s 0 1) m) (hi_ : sc s 0 11 = hi) (im : ¬ hi = 0 → RK s 1 mi ∧ GM mi) (kc : KCl s) (h12 : sc s 0 12 = 0) (h13 : sc s 0 13 = 0) (h14 : sc s 0 14 = 0) : CI s m mi hi := ⟨kn, gm, rk, hi_, im, kc, fun z => absurd h12 z, fun z => absurd h13 z, fun z => absurd h14 z⟩
/-- a row of the Knowledge that stands is changed, and all forgotten -/
theorem CI.chg {c : Nat} {j v : Int} (h : CI σ m mi hi) (hG : GM m1) (hc : rv σ 0 1 ≤ c ∧ c ≤ rv σ 0 1 + 11) (hR : RK (setI σ c j v) (rv σ 0 1) m1) : CI (setS (setS (setS (setI σ c j v) 0 12 0) 0 13 0) 0 14 0) m1 mi hi ∧ Cf σ (setS (setS (setS (setI σ c j v) 0 12 0) 0 13 0) 0 14 0) ∧ Tf σ (setS (setS (setS (setI σ c j v) 0 12 0) 0 13 0) 0 14 0) := by
  have hkb := isK_b h.isk
  have hk2 := h.kn
  have hF : Fr (fun b => b = c ∨ b = 0) σ (setS (setS (setS (setI σ c j v) 0 12 0) 0 13 0) 0 14 0) := ((((Fr.refl σ).I (Or.inl rfl)).S (Or.inr rfl)).S (Or.inr rfl)).S (Or.inr rfl)
  have hF0 : Fr (fun b => b = 0) (setI σ c j v) (setS (setS (setS (setI σ c j v) 0 12 0) 0 13 0) 0 14 0) := Fr0.trans (Fr0.trans Fr0)
  have hr : rv (setS (setS (setS (setI σ c j v) 0 12 0) 0 13 0) 0 14 0) = rv σ := rfl
  refine ⟨CI.new (by rw [hr]; exact h.kn) hG ?_ ?_ (fun z => ⟨?_, (h.im z).2⟩) ?_ (by simp (config := {decide := true}) only [sc_S, ia_S, la_S, rv_S, sc_I, rv_I, la_I, ia_I, sc_L, rv_L, ia_L, la_L, sc_A, rv_A, la_A, ia_A, sc_B, rv_B, ia_B, la_B, sc_R, ia_R, la_R, rv_R, ia_w, la_w, rv_w, sc_w, if_true, if_false]) (by simp (config := {decide := true}) only [sc_S, ia_S, la_S, rv_S, sc_I, rv_I, la_I, ia_I, sc_L, rv_L, ia_L, la_L, sc_A, rv_A, la_A, ia_A, sc_B, rv_B, ia_B, la_B, sc_R, ia_R, la_R, rv_R, ia_w, la_w, rv_w, sc_w, if_true, if_false]) (by simp (config := {decide := true}) only [sc_S, ia_S, la_S, rv_S, sc_I, rv_I, la_I, ia_I, sc_L, rv_L, ia_L, la_L, sc_A, rv_A, la_A, ia_A, sc_B, rv_B, ia_B, la_B, sc_R, ia_R, la_R, rv_R, ia_w, la_w, rv_w, sc_w, if_true, if_false]), hF.c (fun b hb => by omega), hF.tf (by omega) (by omega)⟩
  · rw [hr]
    exact hR.fr hF0 (fun b hb z => by unfold Kcl at hb; omega)
  · simp (config := {decide := true}) only [sc_S, ia_S, la_S, rv_S, sc_I, rv_I, la_I, ia_I, sc_L, rv_L, ia_L, la_L, sc_A, rv_A, la_A, ia_A, sc_B, rv_B, ia_B, la_B, sc_R, ia_R, la_R, rv_R, ia_w, la_w, rv_w, sc_w, if_true, if_false]
    exact h.hi_
  · exact (h.im z).1.fr hF (fun b hb y => by unfold Kcl at hb; omega)
  · exact h.kc.fr hF (fun b hb y => by unfold Kno at y; omega)
theorem RK.put {j v : Int} (h : RK σ k m) (hG : GM m) (hj : 0 ≤ j ∧ j < m 3) : RK (setI σ (k + 10) j v) k (up m (849 + j) v) := by
  have hu : ∀ i, i < 849 → up m (849 + j) v i = m i := fun i hi' => up_ne (by omega)
  have hi' : ∀ b, ¬ b = 10 → ia (setI σ (k + 10) j v) (k + b) = ia σ (k + b) := fun b hb => by rw [ia_I, if_neg (by omega)]
  refine RK.of5 (h.gw.c hG rfl (hi' 2 (by omega)) (hi' 1 (by omega)) (hu 0 (by omega)) (fun i a b => hu i (by omega))) (h.gp.c hG rfl (fun i a b => hi' i (by omega)) (hu 1 (by omega)) (fun i a b => hu i (by omega))) (h.gf.c hG rfl (hi' 9 (by omega)) (hu 2 (by omega)) (fun i a b => hu i (by omega))) ⟨?_, fun i a b => ?_⟩ (RKs.c h.st (hi' 11 (by omega)) (fun i a b => hu i (by omega)))
  · rw [hu 3 (by omega)]
    exact h.n
  · rw [hu 3 (by omega)] at b
    have e10 : ia (setI σ (k + 10) j v) (k + 10) = up (ia σ (k + 10)) j v := by rw [ia_I, if_pos rfl]
    rw [e10]
    by_cases c : i = j
    · rw [c, up_at, up_at]
    · rw [up_ne c, up_ne (by omega)]
      exact h.pl i a b
theorem GM.put {j v : Int} (h : GM m) (hj : 0 ≤ j ∧ j < m 3) (hv : 0 ≤ v ∧ v < m 0) : GM (up m (849 + j) v) := by
  have h0 := h.wf.1
  have hm3 := h0.2.2.2.1
  have hm1 := h0.2.1
  have hm2 := h0.2.2.1
  have hm0 := h0.1
  have hu : ∀ i, i < 849 → up m (849 + j) v i = m i := fun i hi' => up_ne (by omega)
  have ho : ∀ p w, 0 ≤ p → p < m 1 → 0 ≤ w → w ≤ 9 → of_ (up m (849 + j) v) p w = of_ m p w := fun p w a b c e => by unfold of_; exact hu _ (by omega)
  refine ⟨⟨?_, fun p a b => ?_, fun q a b => ?_, fun q a b => ?_⟩, fun u hu0 hu1 => ?_, h.zr.up (by omega)⟩
  · unfold W0
    rw [hu 0 (by omega), hu 1 (by omega), hu 2 (by omega), hu 3 (by omega), hu 4 (by omega), hu 5 (by omega), hu 6 (by omega), hu 7 (by omega), hu 8 (by omega)]
    exact h0
  · rw [hu 1 (by omega)] at b
    have hp := h.wf.2.1 p a b
    rw [ho p 0 a b (by omega) (by omega), ho p 4 a b (by omega) (by omega), ho p 8 a b (by omega) (by omega), ho p 9 a b (by omega) (by omega), hu 0 (by omega)]
    refine ⟨hp.1, hp.2.1, hp.2.2.1, hp.2.2.2.1, fun i a' b' => ?_, fun i a' b' => ?_⟩
    · rw [ho p (1 + i) a b (by omega) (by have := hp.1; omega)]
      exact hp.2.2.2.2.1 i a' b'
    · rw [ho p (5 + i) a b (by omega) (by have := hp.2.1; omega)]
      exact hp.2.2.2.2.2 i a' b'
  · rw [hu 2 (by omega)] at b
    rw [hu (669 + 3 * q) (by omega), hu (669 + 3 * q + 1) (by omega), hu (669 + 3 * q + 2) (by omega), hu 0 (by omega)]
    exact h.wf.2.2.1 q a b
  · rw [hu 3 (by omega)] at b
    rw [hu 0 (by omega)]
    by_cases c : q = j
    · rw [c, up_at]
      exact hv
    · rw [up_ne (by omega)]
      exact h.wf.2.2.2 q a b
  · rw [hu 0 (by omega)] at hu1
    rw [hu (9 + 9 * u) (by omega)]
    exact h.wl u hu0 hu1
theorem m_put {x1 x2 : Int} (h : CI σ m mi hi) (h1 : iR x1) (h2 : iR x2) (hS : SR σ) (hd : 9 ≤ d) : Eb g ad d mX10_put 2 12 [.ref (ad 0), vi x1, vi x2] σ (XM σ m (if putT m x1 x2 = 0 then up m (849 + x1) x2 else m) mi hi (if putT m x1 x2 = 0 then m (849 + x1) else 0) (putT m x1 x2) (X1 xIO)) := by
  have hW := h.gm.wf
  have h3 := hW.1.2.2.2.1
  have hbad : ¬ ((0 ≤ x1 ∧ x1 < m 3) ∧ (0 ≤ x2 ∧ x2 < m 0)) → SR σ → XM σ m (if putT m x1 x2 = 0 then up m (849 + x1) x2 else m) mi hi (if putT m x1 x2 = 0 then m (849 + x1) else 0) (putT m x1 x2) (X1 xIO) (.inr xIO) σ := fun z => by
    have eT : putT m x1 x2 = 1 := by unfold putT; rw [if_neg z]
    exact ye (by rw [eT]; decide) ⟨rfl, eT⟩ h Cf.refl Tf.refl
  refine EbS rfl pl_X10 rfl rfl (bX10_put_0 h1 h2 hS ?_)
  refine Cl.xv (p_checkPlace (d := d - 1) h h1 hS (by omega)) (by omega) (fun s _ hs => ?_) (fun E s _ hs => ?_)
  · obtain ⟨rfl, hx⟩ := hs
    refine Cl.xv (p_checkWord (d := d - 1) h h2 hS (by omega)) (by omega) (fun s _ hs => ?_) (fun E s _ hs => ?_)
    · obtain ⟨rfl, hx2⟩ := hs
      have eT : putT m x1 x2 = 0 := by unfold putT; rw [if_pos ⟨hx, hx2⟩]
      refine ⟨h.isk, ⟨by omega, by omega⟩, ?_⟩
      refine EV.k (p_forget (d := d - 1) (SR_setI hS h2) (by omega)) (by omega) (fun _ => ?_)
      rw [h.rk.pl x1 hx.1 hx.2]
      have hc := h.chg (c := rv s 0 1 + 10) (h.gm.put hx hx2) (by omega) (h.rk.put h.gm hx)
      rw [if_pos eT, if_pos eT]
      exact ym eT rfl hc.1 hc.2.1 hc.2.2
    · obtain ⟨rfl, rfl, hx2⟩ := hs
      exact hbad (fun z => hx2 z.2)
  · obtain ⟨rfl, rfl, hx⟩ := hs
    exact hbad (fun z => hx z.1)
theorem m_price {x1 x2 : Int} (h : CI σ m mi hi) (h1 : iR x1) (h2 : iR x2) (hS : SR σ) (hd : 9 ≤ d) : Eb g ad d mX10_price 2 12 [.ref (ad 0), vi x1, vi x2] σ (XM σ m (if priceT m x1 x2 = 0 then up m (369 + 10 * x1 + 8) x2 else m) mi hi (if priceT m x1 x2 = 0 then of_ m x1 8 else 0) (priceT m x1 x2) (X2 xIO xIA)) := by
  have hW := h.gm.wf
  have hm1 := hW.1.2.1
  refine EbS rfl pl_X10 rfl rfl (bX10_price_0 h1 h2 hS ?_)
  refine Cl.xv (p_checkPhrase (d := d - 1) h h1 hS (by omega)) (by omega) (fun s _ hs => ?_) (fun E s _ hs => ?_)
  · obtain ⟨rfl, hx⟩ := hs
    have hbad : ¬ (0 ≤ x2 ∧ x2 ≤ 99) → SR s → XM s m (if priceT m x1 x2 = 0 then up m (369 + 10 * x1 + 8) x2 else m) mi hi (if priceT m x1 x2 = 0 then of_ m x1 8 else 0) (priceT m x1 x2) (X2 xIO xIA) (.inr xIA) s := fun z => by
      have eT : priceT m x1 x2 = 2 := by unfold priceT; rw [if_pos hx, if_neg z]
      exact ye (by rw [eT]; decide) (Or.inr ⟨rfl, eT⟩) h Cf.refl Tf.refl
    refine ⟨fun c => ⟨by omega, hbad (by omega)⟩, fun c => ⟨fun c2 => ⟨h.isk, ⟨by omega, by omega⟩, ?_⟩, fun c2 => ⟨by omega, hbad (by omega)⟩⟩⟩
    have eT : priceT m x1 x2 = 0 := by unfold priceT; rw [if_pos hx, if_pos ⟨by omega, c2⟩]
    refine EV.k (p_forget (d := d - 1) (SR_setI hS h2) (by omega)) (by omega) (fun _ => ?_)
    rw [h.rk.co x1 hx.1 hx.2]
    have hc := h.chg (c := rv s 0 1 + 7) (h.gm.upP hx (Or.inl ⟨rfl, by omega, c2⟩)) (by omega) (h.rk.upP h.gm hx (Or.inl ⟨rfl, rfl⟩))
    rw [if_pos eT, if_pos eT]
    exact ym eT rfl hc.1 hc.2.1 hc.2.2
  · obtain ⟨rfl, rfl, hx⟩ := hs
    have eT : priceT m x1 x2 = 1 := by unfold priceT; rw [if_neg hx]
    exact ye (by rw [eT]; decide) (Or.inl ⟨rfl, eT⟩) h Cf.refl Tf.refl
theorem hl_map {f : Int → Int} {b n : Int} : hl f b ((ir 0 n).map (fun j => f (b + j))) := fun i v hv => by
  rw [List.getElem?_map] at hv
  obtain ⟨a, ha, e⟩ := Option.map_eq_some_iff.mp hv
  have hl' := (List.getElem?_eq_some_iff.mp ha).1
  rw [ir_length] at hl'
  have h5 := ir_get (a := 0) (b := n) (i := i) (by omega)
  rw [ha] at h5
  have h6 := Option.some.inj h5
  rw [← e, h6, Int.zero_add]
theorem alk_gone (hW : WF m) {p : Int} (hp : 0 ≤ p ∧ p < m 1) (hg : of_ m p 9 = 1) : alk m m (369 + 10 * p) p = alkL m (srcL m p) (tgtL m p) := by
  have hb := hW.2.1 p hp.1 hp.2
  have h0 := hb.1
  have h4 := hb.2.1
  have ls : ((srcL m p).length : Int) = of_ m p 0 := by unfold srcL; rw [List.length_map, ir_length]; omega
  have lt : ((tgtL m p).length : Int) = of_ m p 4 := by unfold tgtL; rw [List.length_map, ir_length]; omega
  have e0 : m (369 + 10 * p) = of_ m p 0 := by unfold of_; rw [Int.add_zero]
  have hs : hl m (369 + 10 * p + 1) (srcL m p) := by
    have := hl_map (f := m) (b := 369 + 10 * p + 1) (n := of_ m p 0)
    unfold srcL
    have e : (fun j : Int => of_ m p (1 + j)) = fun j => m (369 + 10 * p + 1 + j) := by
      funext j
      unfold of_
      rw [show 369 + 10 * p + (1 + j) = 369 + 10 * p + 1 + j by omega]
    rw [e]
    exact this
  have ht : hl m (369 + 10 * p + 5) (tgtL m p) := by
    have := hl_map (f := m) (b := 369 + 10 * p + 5) (n := of_ m p 4)
    unfold tgtL
    have e : (fun j : Int => of_ m p (5 + j)) = fun j => m (369 + 10 * p + 5 + j) := by
      funext j
      unfold of_
      rw [show 369 + 10 * p + (5 + j) = 369 + 10 * p + 5 + j by omega]
    rw [e]
    exact this
  rw [← alk_L (r := 369 + 10 * p) (R := m) hW.2.1 (by rw [e0, ls]) hs (by show m (369 + 10 * p + 4) = _; rw [lt]; rfl) ht (by omega) (by omega)]
  unfold alk
  refine sea_cong _ _ (fun q hq0 hq1 => ?_)
  unfold alkP
  by_cases c : q = p
  · rw [c, hg]
    simp
  · have c2 : ¬ q = -1 := by omega
    rw [decide_eq_true c, decide_eq_true c2]
theorem m_drop {x1 x2 : Int} (h : CI σ m mi hi) (h1 : iR x1) (h2 : x2 = 0 ∨ x2 = 1) (hS : SR σ) (hd : 9 ≤ d) : Eb g ad d mX10_drop 2 12 [.ref (ad 0), vi x1, vi x2] σ (XM σ m (if dropT m x1 x2 = 0 then up m (369 + 10 * x1 + 9) x2 else m) mi hi (if dropT m x1 x2 = 0 then bi (¬ of_ m x1 9 = x2) else 0) (dropT m x1 x2) (X2 xIO xIA)) := by
  have hW := h.gm.wf
  have hm1 := hW.1.2.1
  have i2 : iR x2 := by rcases h2 with z | z <;> rw [z] <;> exact iR_lit rfl
  refine EbS rfl pl_X10 rfl rfl (bX10_drop_0 h1 i2 hS ?_)
  refine Cl.xv (p_checkPhrase (d := d - 1) h h1 hS (by omega)) (by omega) (fun s _ hs => ?_) (fun E s _ hs => ?_)
  · obtain ⟨rfl, hx⟩ := hs
    have hg := (hW.2.1 x1 hx.1 hx.2).2.2.2.1
    have eo : m (369 + 10 * x1 + 9) = of_ m x1 9 := rfl
    have chg : ¬ of_ m x1 9 = x2 → dropT m x1 x2 = 0 → Cl g ad d mX10_forgetOptions 0 0 [.ref (ad 0)] (setI s (rv s 0 1 + 8) x1 x2) (Kv fun s5 => (iR 1 → SR s5 → XM s m (if dropT m x1 x2 = 0 then up m (369 + 10 * x1 + 9) x2 else m) mi hi (if dropT m x1 x2 = 0 then bi (¬ of_ m x1 9 = x2) else 0) (dropT m x1 x2) (X2 xIO xIA) (.inl (some (vi 1))) s5)) := fun c eT => by
      refine EV.k (p_forget (d := d - 1) (SR_setI hS i2) (by omega)) (by omega) (fun _ => ?_)
      have hc := h.chg (c := rv s 0 1 + 8) (h.gm.upP hx (Or.inr ⟨rfl, h2⟩)) (by omega) (h.rk.upP h.gm hx (Or.inr ⟨rfl, rfl, h2⟩))
      rw [if_pos eT, if_pos eT]
      exact ym eT (by rw [bi, if_pos c]) hc.1 hc.2.1 hc.2.2
    refine ⟨h.isk, ⟨by omega, by omega⟩, ?_⟩
    rw [h.rk.go x1 hx.1 hx.2]
    refine ⟨fun c => ⟨fun c2 => ⟨h2, chg c ?_⟩, fun c2 => ?_⟩, fun c => ?_⟩
    · unfold dropT
      rw [if_pos hx, if_neg (by omega)]
    · have hg1 : of_ m x1 9 = 1 := by omega
      have hal := alk_gone hW hx hg1
      refine EI.k (k_hasTwin (d := d - 1) h.isk h.rk hW hx hS (by omega)) (by omega) (fun _ _ => ⟨fun c3 => ⟨h.isk, h2, chg c ?_⟩, fun c3 => ⟨by omega, ?_⟩⟩)
      · have hn : alkL m (srcL m x1) (tgtL m x1) = -1 := Classical.byContradiction (fun z => by rw [bi, if_pos z] at c3; omega)
        unfold dropT
        rw [if_pos hx, hal, if_neg (fun z => z.2.2 hn)]
      · have hn : ¬ alkL m (srcL m x1) (tgtL m x1) = -1 := fun z => c3 (by rw [bi, if_neg (fun y => y z)])
        have eT : dropT m x1 x2 = 2 := by
          unfold dropT
          rw [if_pos hx, hal, if_pos ⟨hg1, c2, hn⟩]
        exact ye (by rw [eT]; decide) (Or.inr ⟨rfl, eT⟩) h Cf.refl Tf.refl
    · have eT : dropT m x1 x2 = 0 := by
        unfold dropT
        rw [if_pos hx, if_neg (by omega)]
      have em : up m (369 + 10 * x1 + 9) x2 = m := by rw [← c, ← eo]; exact up_self
      rw [if_pos eT, if_pos eT, em]
      exact ym eT (by rw [bi, if_neg (fun z => z c)]) h Cf.refl Tf.refl
  · obtain ⟨rfl, rfl, hx⟩ := hs
    have eT : dropT m x1 x2 = 1 := by unfold dropT; rw [if_neg hx]
    exact ye (by rw [eT]; decide) (Or.inl ⟨rfl, eT⟩) h Cf.refl Tf.refl
theorem RK.tune {j v : Int} (h : RK σ k m) (hG : GM m) (hj : 0 ≤ j ∧ j < 5) : RK (setI σ (k + 11) j v) k (up m (4 + j) v) := by
  have hu : ∀ i, ¬ (4 ≤ i ∧ i ≤ 8) → up m (4 + j) v i = m i := fun i hi' => up_ne (by omega)
  have hi' : ∀ b, ¬ b = 11 → ia (setI σ (k + 11) j v) (k + b) = ia σ (k + b) := fun b hb => by rw [ia_I, if_neg (by omega)]
  refine RK.of5 (h.gw.c hG rfl (hi' 2 (by omega)) (hi' 1 (by omega)) (hu 0 (by omega)) (fun i a b => hu i (by omega))) (h.gp.c hG rfl (fun i a b => hi' i (by omega)) (hu 1 (by omega)) (fun i a b => hu i (by omega))) (h.gf.c hG rfl (hi' 9 (by omega)) (hu 2 (by omega)) (fun i a b => hu i (by omega))) (h.gn.c hG rfl (hi' 10 (by omega)) (hu 3 (by omega)) (fun i a b => hu i (by omega))) (fun i a b => ?_)
  have e11 : ia (setI σ (k + 11) j v) (k + 11) = up (ia σ (k + 11)) j v := by rw [ia_I, if_pos rfl]
  rw [e11]
  by_cases c : i = j
  · rw [c, up_at, up_at]
  · rw [up_ne c, up_ne (by omega)]
    exact h.st i a b
theorem m_tune {x1 x2 : Int} (h : CI σ m mi hi) (h1 : iR x1) (h2 : iR x2) (hS : SR σ) (hd : 9 ≤ d) : Eb g ad d mX10_tune 1 6 [.ref (ad 0), vi x1, vi x2] σ (XM σ m (if tuneT x1 x2 = 0 then up m (4 + x1) x2 else m) mi hi (if tuneT x1 x2 = 0 then m (4 + x1) else 0) (tuneT x1 x2) (X2 xNS xIA)) := by
  have hW := h.gm.wf
  have hns : ¬ (0 ≤ x1 ∧ x1 ≤ 4) → SR σ → XM σ m (if tuneT x1 x2 = 0 then up m (4 + x1) x2 else m) mi hi (if tuneT x1 x2 = 0 then m (4 + x1) else 0) (tuneT x1 x2) (X2 xNS xIA) (.inr xNS) σ := fun z => by
    have eT : tuneT x1 x2 = 1 := by unfold tuneT; rw [if_neg z]
    exact ye (by rw [eT]; decide) (Or.inl ⟨rfl, eT⟩) h Cf.refl Tf.refl
  have hia : (0 ≤ x1 ∧ x1 ≤ 4) → ¬ ((if x1 = 4 then 1 else 0) ≤ x2 ∧ x2 ≤ (if x1 < 2 then 99 else if x1 = 2 then 20 else if x1 = 3 then 6 else 40)) → SR σ → XM σ m (if tuneT x1 x2 = 0 then up m (4 + x1) x2 else m) mi hi (if tuneT x1 x2 = 0 then m (4 + x1) else 0) (tuneT x1 x2) (X2 xNS xIA) (.inr xIA) σ := fun y z => by
    have eT : tuneT x1 x2 = 2 := by unfold tuneT; rw [if_pos y, if_neg z]
    exact ye (by rw [eT]; decide) (Or.inr ⟨rfl, eT⟩) h Cf.refl Tf.refl
  refine EbS rfl pl_X10 rfl rfl (bX10_tune_0 h1 h2 hS ⟨fun c => ⟨by omega, hns (by omega)⟩, fun c => ⟨fun c1 => ⟨⟨by omega, c1⟩, ?_⟩, fun c1 => ⟨by omega, hns (by omega)⟩⟩⟩)
  have el : lst x1 = if x1 = 4 then 1 else 0 := rfl
  have em_ : mst x1 = if x1 < 2 then 99 else if x1 = 2 then 20 else if x1 = 3 then 6 else 40 := by
    unfold mst
    rcases (show x1 = 0 ∨ x1 = 1 ∨ x1 = 2 ∨ x1 = 3 ∨ x1 = 4 by omega) with z | z | z | z | z <;> rw [z] <;> rfl
  have bl : 0 ≤ lst x1 ∧ lst x1 ≤ 1 := by rw [el]; split <;> omega
  have bm : 0 ≤ mst x1 ∧ mst x1 ≤ 99 := by
    unfold mst
    rcases (show x1 = 0 ∨ x1 = 1 ∨ x1 = 2 ∨ x1 = 3 ∨ x1 = 4 by omega) with z | z | z | z | z <;> rw [z] <;> decide
  refine ⟨iR_of (by omega) (by omega), fun c2 => ⟨by omega, hia (by omega) ?_⟩, fun c2 => ⟨iR_of (by omega) (by omega), fun c3 => ⟨h.isk, ?_⟩, fun c3 => ⟨by omega, hia (by omega) ?_⟩⟩⟩
  · rw [← el]
    omega
  rotate_left
  · rw [← em_]
    omega
  have eT : tuneT x1 x2 = 0 := by
    unfold tuneT
    rw [if_pos ⟨by omega, by omega⟩, ← el, ← em_, if_pos ⟨by omega, c3⟩]
  have hb : (4 + x1 = 8 → 1 ≤ x2 ∧ x2 ≤ 40) ∧ (4 + x1 ≤ 5 → 0 ≤ x2 ∧ x2 ≤ 99) ∧ (4 + x1 = 6 → 0 ≤ x2 ∧ x2 ≤ 20) ∧ (4 + x1 = 7 → 0 ≤ x2 ∧ x2 ≤ 6) := by
    unfold lst at c2
    unfold mst at c3
    rcases (show x1 = 0 ∨ x1 = 1 ∨ x1 = 2 ∨ x1 = 3 ∨ x1 = 4 by omega) with z | z | z | z | z <;> subst z
    · rw [if_neg (by omega)] at c2
      rw [if_pos rfl] at c3
      omega
    · rw [if_neg (by omega)] at c2
      rw [if_neg (by omega), if_pos rfl] at c3
      omega
    · rw [if_neg (by omega)] at c2
      rw [if_neg (by omega), if_neg (by omega), if_pos rfl] at c3
      omega
    · rw [if_neg (by omega)] at c2
      rw [if_neg (by omega), if_neg (by omega), if_neg (by omega), if_pos rfl] at c3
      omega
    · rw [if_pos rfl] at c2
      rw [if_neg (by omega), if_neg (by omega), if_neg (by omega), if_neg (by omega)] at c3
      omega
  have hG := h.gm.upS (j := 4 + x1) (v := x2) (by omega) hb
  have hR := h.rk.tune (v := x2) h.gm (j := x1) (by omega)
  have ev : ia σ (rv σ 0 1 + 11) x1 = m (4 + x1) := h.rk.st x1 (by omega) (by omega)
  have hall : ∀ s5, s5 = setS (setS (setS (setI σ (rv σ 0 1 + 11) x1 x2) 0 12 0) 0 13 0) 0 14 0 → (iR (ia σ (rv σ 0 1 + 11) x1) → SR s5 → XM σ m (if tuneT x1 x2 = 0 then up m (4 + x1) x2 else m) mi hi (if tuneT x1 x2 = 0 then m (4 + x1) else 0) (tuneT x1 x2) (X2 xNS xIA) (.inl (some (vi (ia σ (rv σ 0 1 + 11) x1)))) s5) := fun s5 e5 => by
    subst e5
    rw [ev]
    have hc := h.chg (c := rv σ 0 1 + 11) hG (by omega) hR
    rw [if_pos eT, if_pos eT]
    exact ym eT rfl hc.1 hc.2.1 hc.2.2
  refine ⟨fun c4 => EV.k (p_forget (d := d - 1) (SR_setI hS h2) (by omega)) (by omega) (fun _ => hall _ rfl), fun c4 => ⟨fun c5 => ?_, fun c5 => EV.k (p_forget (d := d - 1) (SR_setI hS h2) (by omega)) (by omega) (fun _ => hall _ rfl)⟩⟩
  -- the options stay
  refine EV.k (p_forgetWays (d := d - 1) (SR_setI hS h2)) (by omega) (fun _ => ?_)
  have hV := va_upj (j := 4 + x1) (v := x2) hW (by omega) hG.wf
  have hkb := isK_b h.isk
  have hk2 := h.kn
  have hF : Fr (fun b => b = rv σ 0 1 + 11 ∨ b = 0) σ (setS (setS (setI σ (rv σ 0 1 + 11) x1 x2) 0 13 0) 0 14 0) := (((Fr.refl σ).I (Or.inl rfl)).S (Or.inr rfl)).S (Or.inr rfl)
  have hF0 : Fr (fun b => b = 0) (setI σ (rv σ 0 1 + 11) x1 x2) (setS (setS (setI σ (rv σ 0 1 + 11) x1 x2) 0 13 0) 0 14 0) := Fr0.trans Fr0
  have hr : rv (setS (setS (setI σ (rv σ 0 1 + 11) x1 x2) 0 13 0) 0 14 0) = rv σ := rfl
  rw [ev, if_pos eT, if_pos eT]
  refine ym eT rfl ⟨by rw [hr]; exact h.kn, hG, ?_, ?_, fun z => ⟨?_, (h.im z).2⟩, ?_, fun z => ?_, fun z => absurd (by simp (config := {decide := true}) only [sc_S, ia_S, la_S, rv_S, sc_I, rv_I, la_I, ia_I, sc_L, rv_L, ia_L, la_L, sc_A, rv_A, la_A, ia_A, sc_B, rv_B, ia_B, la_B, sc_R, ia_R, la_R, rv_R, ia_w, la_w, rv_w, sc_w, if_true, if_false]) z, fun z => absurd (by simp (config := {decide := true}) only [sc_S, ia_S, la_S, rv_S, sc_I, rv_I, la_I, ia_I, sc_L, rv_L, ia_L, la_L, sc_A, rv_A, la_A, ia_A, sc_B, rv_B, ia_B, la_B, sc_R, ia_R, la_R, rv_R, ia_w, la_w, rv_w, sc_w, if_true, if_false]) z⟩ (hF.c (fun b hb => by omega)) (hF.tf (by omega) (by omega))
  · rw [hr]
    exact hR.fr hF0 (fun b hb z => by unfold Kcl at hb; omega)
  · simp (config := {decide := true}) only [sc_S, ia_S, la_S, rv_S, sc_I, rv_I, la_I, ia_I, sc_L, rv_L, ia_L, la_L, sc_A, rv_A, la_A, ia_A, sc_B, rv_B, ia_B, la_B, sc_R, ia_R, la_R, rv_R, ia_w, la_w, rv_w, sc_w, if_true, if_false]
    exact h.hi_
  · exact (h.im z).1.fr hF (fun b hb y => by unfold Kcl at hb; omega)
  · exact h.kc.fr hF (fun b hb y => by unfold Kno at y; omega)
  · have e12 : sc (setS (setS (setI σ (rv σ 0 1 + 11) x1 x2) 0 13 0) 0 14 0) 0 12 = sc σ 0 12 := by simp (config := {decide := true}) only [sc_S, ia_S, la_S, rv_S, sc_I, rv_I, la_I, ia_I, sc_L, rv_L, ia_L, la_L, sc_A, rv_A, la_A, ia_A, sc_B, rv_B, ia_B, la_B, sc_R, ia_R, la_R, rv_R, ia_w, la_w, rv_w, sc_w, if_true, if_false]
    rw [e12] at z
    have hop := h.op z
    rw [hr]
    exact ⟨(hop.1.fr hF (fun b hb y => by unfold Ocl at y; omega)).va hV hW, (hop.2.1.fr hF (fun b hb y => by unfold Kno at y; omega)).va hV hW, (hop.2.2.fr hF (fun b hb y => by omega)).va hV hW⟩
end MUT

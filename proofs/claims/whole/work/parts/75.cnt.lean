/-- the ways, counted without an end -/
def wxG (m : Int → Int) (f : Nw → Int) (x : Nw) : Int := if x.1 = fullM m then 1 else (sr m 0).foldl (fun a p => if mayB m x.1 x.2 p.1 p.2 = true then a + f (bOr x.1 (msk m p.2 p.1), p.1 + cov m p.2) else a) 0
def wxM (m : Int → Int) (x : Nw) : Int := fxM 0 (wxG m) (fun x => 6 - pc x.1) x
section CNT
variable {g : AG} {ad : Nat → Nat} {d : Nat} {σ : SG} {m t : Int → Int} {k : Nat}
theorem wxM_eq (hW : WF m) {x : Nw} (hx : nw x) : wxM m x = wxG m (wxM m) x := by
  refine fxM_eq (D := nw) (fun x hx f f' h => ?_) hx
  unfold wxG
  by_cases c : x.1 = fullM m
  · rw [if_pos c, if_pos c]
  · rw [if_neg c, if_neg c]
    refine foldl_cong _ _ (fun a p hp => ?_)
    by_cases c2 : mayB m x.1 x.2 p.1 p.2 = true
    · have hs := nw_stp hW hx hp c2
      rw [if_pos c2, if_pos c2, h _ hs.1 (by show 6 - pc (bOr x.1 (msk m p.2 p.1)) < 6 - pc x.1; omega)]
    · rw [if_neg c2, if_neg c2]
theorem wxM_0 (hW : WF m) : ∀ (n : Nat) (x : Nw), nw x → 6 - pc x.1 < n → 0 ≤ wxM m x := by
  intro n
  induction n with
  | zero => intro x _ h; omega
  | succ n ih =>
    intro x hx hn
    rw [wxM_eq hW hx]
    unfold wxG
    by_cases c : x.1 = fullM m
    · rw [if_pos c]; omega
    · rw [if_neg c]
      refine foldl_inv (I := fun a : Int => 0 ≤ a) _ _ (fun a p hp ha => ?_) (Int.le_refl _)
      by_cases c2 : mayB m x.1 x.2 p.1 p.2 = true
      · have hs := nw_stp hW hx hp c2
        have := ih _ hs.1 (by show 6 - pc (bOr x.1 (msk m p.2 p.1)) < n; omega)
        rw [if_pos c2]
        omega
      · rw [if_neg c2]; exact ha
theorem sat_fold {β : Type} {c : β → Bool} {u v : β → Int} : ∀ (l : List β) (a b : Int), 0 ≤ b → a = min 1000000000 b → (∀ p ∈ l, c p = true → 0 ≤ v p ∧ u p = min 1000000000 (v p)) → l.foldl (fun a p => if c p = true then min 1000000000 (a + u p) else a) a = min 1000000000 (l.foldl (fun a p => if c p = true then a + v p else a) b)
  | [], a, b, _, h, _ => h
  | p :: l, a, b, h0, h, hv => by
    rw [List.foldl_cons, List.foldl_cons]
    by_cases cp : c p = true
    · have h1 := hv p (List.mem_cons_self ..) cp
      rw [if_pos cp, if_pos cp]
      exact sat_fold l _ _ (by omega) (by omega) (fun q hq => hv q (List.mem_cons_of_mem _ hq))
    · rw [if_neg cp, if_neg cp]
      exact sat_fold l _ _ h0 h (fun q hq => hv q (List.mem_cons_of_mem _ hq))
theorem waM_wx (hW : WF m) : ∀ (n : Nat) (x : Nw), nw x → 6 - pc x.1 < n → waM m x = min 1000000000 (wxM m x) := by
  intro n
  induction n with
  | zero => intro x _ h; omega
  | succ n ih =>
    intro x hx hn
    rw [waM_eq hW hx, wxM_eq hW hx]
    unfold waG wxG
    by_cases c : x.1 = fullM m
    · rw [if_pos c, if_pos c]; rfl
    · rw [if_neg c, if_neg c]
      refine sat_fold (c := fun p : Op => mayB m x.1 x.2 p.1 p.2) (u := fun p => waM m (bOr x.1 (msk m p.2 p.1), p.1 + cov m p.2)) (v := fun p => wxM m (bOr x.1 (msk m p.2 p.1), p.1 + cov m p.2)) _ _ _ (Int.le_refl _) rfl (fun p hp c2 => ?_)
      have hs := nw_stp hW hx hp c2
      have hlt : 6 - pc (bOr x.1 (msk m p.2 p.1)) < n := by omega
      exact ⟨wxM_0 hW n _ hs.1 hlt, ih _ hs.1 hlt⟩
theorem mayB_opt2 {a b : Int} {q : Op} (ho : isOpt m q.2 q.1 = true) : mayB m a b q.1 q.2 = (decide (apB q.1 b ≤ m 7) && decide (bAnd a (msk m q.2 q.1) = 0)) := mayB_opt (x := (a, b, 0)) ho
theorem fold_ops2 {β : Type} {a b : Int} {F : β → Op → β} (v : β) : (sr m 0).foldl (fun v p => if mayB m a b p.1 p.2 = true then F v p else v) v = (ops m).foldl (fun v q => if (decide (apB q.1 b ≤ m 7) && decide (bAnd a (msk m q.2 q.1) = 0)) = true then F v q else v) v := fold_ops (x := (a, b, 0)) v
/-- what is still to be counted -/
def sS (W c : Int → Int) (a b : Int) : Int := ((ir a b).map (fun x => c x * W x)).sum
theorem sS_nil {W c : Int → Int} {a b : Int} (h : b ≤ a) : sS W c a b = 0 := by unfold sS; rw [ir_nil h]; rfl
theorem sS_cons {W c : Int → Int} {a b : Int} (h : a < b) : sS W c a b = c a * W a + sS W c (a + 1) b := by
  unfold sS
  rw [ir_cons h, List.map_cons, List.sum_cons]
theorem sS_out {W c : Int → Int} {j v : Int} : ∀ (n : Nat) (a b : Int), b = a + n → (j < a ∨ b ≤ j) → sS W (up c j v) a b = sS W c a b
  | 0, a, b, h, _ => by rw [sS_nil (by omega), sS_nil (by omega)]
  | n + 1, a, b, h, hj => by
    have h1 := sS_cons (W := W) (c := up c j v) (a := a) (b := b) (by omega)
    have h2 := sS_cons (W := W) (c := c) (a := a) (b := b) (by omega)
    have h3 := sS_out (W := W) (c := c) (j := j) (v := v) n (a + 1) b (by omega) (by omega)
    rw [h1, h2, h3, up_ne (by omega)]
theorem sS_up {W c : Int → Int} {j v : Int} : ∀ (n : Nat) (a b : Int), b = a + n → a ≤ j → j < b → sS W (up c j (c j + v)) a b = sS W c a b + v * W j
  | 0, a, b, h, h1, h2 => by omega
  | n + 1, a, b, h, h1, h2 => by
    have k1 := sS_cons (W := W) (c := up c j (c j + v)) (a := a) (b := b) (by omega)
    have k2 := sS_cons (W := W) (c := c) (a := a) (b := b) (by omega)
    by_cases e : j = a
    · subst e
      have k3 := sS_out (W := W) (c := c) (j := j) (v := c j + v) n (j + 1) b (by omega) (by omega)
      rw [k1, k2, k3, up_at, Int.add_mul]
      omega
    · have k3 := sS_up (W := W) (c := c) (j := j) (v := v) n (a + 1) b (by omega) (by omega) h2
      rw [k1, k2, k3, up_ne (by omega)]
      omega
theorem or_gt_all : ∀ (a b : Fin 64), bAnd (a.val : Int) (b.val : Int) = 0 → 1 ≤ b.val → (a.val : Int) + 1 ≤ bOr (a.val : Int) (b.val : Int) := by decide +kernel
theorem or_gt {a b : Int} (ha : 0 ≤ a ∧ a ≤ 63) (hb : 1 ≤ b ∧ b ≤ 63) (h : bAnd a b = 0) : a + 1 ≤ bOr a b := by
  have h1 : a.toNat < 64 := by omega
  have h2 : b.toNat < 64 := by omega
  have := or_gt_all ⟨a.toNat, h1⟩ ⟨b.toNat, h2⟩
  rw [show (((⟨a.toNat, h1⟩ : Fin 64).val : Nat) : Int) = a from by show ((a.toNat : Nat) : Int) = a; omega, show (((⟨b.toNat, h2⟩ : Fin 64).val : Nat) : Int) = b from by show ((b.toNat : Nat) : Int) = b; omega] at this
  exact this h (by show 1 ≤ b.toNat; omega)
def wxI (m : Int → Int) (x : Int) : Int := wxM m (x / 7, x % 7)
def CnC (c : Nat) : Prop := 85 ≤ c ∧ c ≤ 87
theorem CnC_O (c : Nat) (h : CnC c) : ¬ Ocl c := by unfold CnC at h; unfold Ocl; omega
/-- the row counted, cut off -/
def satR (s : SG) (c : Int → Int) : Prop := ∀ x, 0 ≤ x → x < 448 → 0 ≤ c x ∧ ia s 86 x = min 1000000000 (c x)
theorem u_countFrom {at_ : Int} {c : Int → Int} (hO : OPT σ m k) (hW : WF m) (hat : 0 ≤ at_ ∧ at_ < fullM m * 7) (hc : satR σ c) (hS : SR σ) (hd : 2 ≤ d) : Eb g ad d mX0_countFrom 0 0 [.ref (ad 85), vi at_, vi (m 7)] σ (Kv fun s => Fr CnC σ s ∧ ∃ c', satR s c' ∧ ((∀ x, (fullM m + 1) * 7 ≤ x → x < 448 → c x = 0) → ∀ x, (fullM m + 1) * 7 ≤ x → x < 448 → c' x = 0) ∧ sS (wxI m) c' (at_ + 1) 448 = sS (wxI m) c at_ 448) := by
  have hf := fullM_b hW.1
  have h3 := hW.1.2.2.2.1
  have h7 := hW.1.2.2.2.2.2.2.2.1
  have hlen := ops_len hW.1
  have i1 : iR at_ := iR_of (by omega) (by omega)
  have i2 : iR (m 7) := iR_of (by omega) (by omega)
  refine EbS rfl pl_X0 rfl rfl (bX0_countFrom_0 i1 i2 hS ?_)
  rw [bDiv_eq (by omega) (by omega)]
  intro _ _ i3 _ _
  have hnw : nw (at_ / 7, at_ % 7) := ⟨⟨by show 0 ≤ at_ / 7; omega, by show at_ / 7 ≤ 63; omega⟩, ⟨by show 0 ≤ at_ % 7; omega, by show at_ % 7 ≤ 6; omega⟩⟩
  have hwx : wxI m at_ = (ops m).foldl (fun v q => if (decide (apB q.1 (at_ % 7) ≤ m 7) && decide (bAnd (at_ / 7) (msk m q.2 q.1) = 0)) = true then v + wxM m (bOr (at_ / 7) (msk m q.2 q.1), q.1 + cov m q.2) else v) 0 := by
    unfold wxI
    rw [wxM_eq hW hnw]
    unfold wxG
    rw [if_neg (by show ¬ at_ / 7 = fullM m; omega)]
    exact fold_ops2 (a := at_ / 7) (b := at_ % 7) (F := fun v q => v + wxM m (bOr (at_ / 7) (msk m q.2 q.1), q.1 + cov m q.2)) 0
  generalize hF : (fun (v : Int) (q : Op) => if (decide (apB q.1 (at_ % 7) ≤ m 7) && decide (bAnd (at_ / 7) (msk m q.2 q.1) = 0)) = true then v + wxM m (bOr (at_ / 7) (msk m q.2 q.1), q.1 + cov m q.2) else v) = F at hwx
  have hsh : ∀ (l : List Op) (v : Int), l.foldl F v = v + l.foldl F 0 := by
    intro l
    induction l with
    | nil => intro v; show v = v + 0; omega
    | cons q l ih =>
      intro v
      have e : F v q = v + F 0 q := by
        rw [← hF]
        dsimp only
        split
        · rw [Int.zero_add]
        · rw [Int.add_zero]
      rw [List.foldl_cons, List.foldl_cons, ih (F v q), ih (F 0 q), e]
      omega
  refine up_loop (P := fun j => ∀ (τ : SG) (c' : Int → Int), SR τ → Fr CnC σ τ → satR τ c' → c' at_ = c at_ → ((∀ x, (fullM m + 1) * 7 ≤ x → x < 448 → c x = 0) → ∀ x, (fullM m + 1) * 7 ≤ x → x < 448 → c' x = 0) → sS (wxI m) c' (at_ + 1) 448 + c at_ * ((ops m).drop j.toNat).foldl F 0 = sS (wxI m) c at_ 448 → aX0_countFrom_8 g ad d (Kv fun s => Fr CnC σ s ∧ ∃ c', satR s c' ∧ ((∀ x, (fullM m + 1) * 7 ≤ x → x < 448 → c x = 0) → ∀ x, (fullM m + 1) * 7 ≤ x → x < 448 → c' x = 0) ∧ sS (wxI m) c' (at_ + 1) 448 = sS (wxI m) c at_ 448) 0 0 τ at_ (m 7) (at_ / 7) j) (hi := ((ops m).length : Int)) 0 (by omega) ?_ ?_ σ c hS (Fr.refl σ) hc rfl (fun h => h) ?_
  · intro τ c' hSt hFr hc' _ hz' hv
    have hOt := hO.fr hFr (fun c hc => CnC_O c hc)
    rw [List.drop_of_length_le (by omega)] at hv
    refine bX0_countFrom_8 i1 i2 i3 (iR_of (by omega) (by omega)) hSt ⟨fun _ => re_v ⟨hFr, c', hc', hz', ?_⟩, fun z => absurd (by rw [hOt.l.1]; omega) z⟩
    have hv' : sS (wxI m) c' (at_ + 1) 448 + c at_ * 0 = sS (wxI m) c at_ 448 := hv
    rw [Int.mul_zero] at hv'
    omega
  · intro j hj0 hj1 ih τ c' hSt hFr hc' hca hz' hv
    have hOt := hO.fr hFr (fun c hc => CnC_O c hc)
    obtain ⟨q, hget, hdr, hE, hq⟩ := hOt.at hj0 hj1
    have hcv := cov_b hW.2.1 hq.2.1
    have hop := isOpt_b hq.2.2
    have hmk := full_msk hW hq
    have ij : iR (j + 1) := iR_of (by omega) (by omega)
    rw [hdr, List.foldl_cons] at hv
    have hF0 : F 0 q = if (decide (apB q.1 (at_ % 7) ≤ m 7) && decide (bAnd (at_ / 7) (msk m q.2 q.1) = 0)) = true then 0 + wxM m (bOr (at_ / 7) (msk m q.2 q.1), q.1 + cov m q.2) else 0 := by rw [← hF]
    rw [hF0] at hv
    have hor := st_or (a := at_ / 7) (b := msk m q.2 q.1) (by omega) (by omega)
    refine bX0_countFrom_8 i1 i2 i3 (iR_of (by omega) (by omega)) hSt ⟨fun z => absurd z (by rw [hOt.l.1]; omega), fun _ => ⟨⟨hj0, by omega⟩, ?_⟩⟩
    rw [hE.cv]
    refine ⟨fun c1 => ⟨ij, fun _ _ _ _ _ => ih τ c' hSt hFr hc' hca hz' ?_⟩, fun c1 => ?_⟩
    · rw [decide_eq_false c1, Bool.and_false, if_neg (by decide)] at hv
      exact hv
    rw [bRem_eq (by omega) (by omega)]
    refine EI.k (o_gap (d := d - 1) hE ⟨hj0, by omega⟩ (by omega) (by omega) hSt (by omega)) (by omega) (fun _ _ => ⟨fun c2 => ⟨ij, fun _ _ _ _ _ => ih τ c' hSt hFr hc' hca hz' ?_⟩, fun c2 => ?_⟩)
    · rw [decide_eq_false (by omega), Bool.false_and, if_neg (by decide)] at hv
      exact hv
    rw [decide_eq_true (show apB q.1 (at_ % 7) ≤ m 7 by omega), decide_eq_true c1, Bool.and_self, if_pos rfl] at hv
    have hgt := or_gt (a := at_ / 7) (b := msk m q.2 q.1) (by omega) (by omega) c1
    have hor2 := full_or hW.1 (a := at_ / 7) (b := msk m q.2 q.1) (by omega) (by omega)
    rw [hE.cv, hE.en]
    have e1 : (bOr (at_ / 7) (msk m q.2 q.1) * 7 + (q.1 + cov m q.2)) / 7 = bOr (at_ / 7) (msk m q.2 q.1) := by omega
    have e2 : (bOr (at_ / 7) (msk m q.2 q.1) * 7 + (q.1 + cov m q.2)) % 7 = q.1 + cov m q.2 := by omega
    have ew : wxI m (bOr (at_ / 7) (msk m q.2 q.1) * 7 + (q.1 + cov m q.2)) = wxM m (bOr (at_ / 7) (msk m q.2 q.1), q.1 + cov m q.2) := by
      unfold wxI
      rw [e1, e2]
    rw [← ew] at hv
    have hto : at_ + 1 ≤ bOr (at_ / 7) (msk m q.2 q.1) * 7 + (q.1 + cov m q.2) ∧ bOr (at_ / 7) (msk m q.2 q.1) * 7 + (q.1 + cov m q.2) < 448 := by omega
    have hto2 : bOr (at_ / 7) (msk m q.2 q.1) * 7 + (q.1 + cov m q.2) < (fullM m + 1) * 7 := by omega
    generalize bOr (at_ / 7) (msk m q.2 q.1) * 7 + (q.1 + cov m q.2) = to_ at hv hto hto2
    have h1 := hc' to_ (by omega) hto.2
    have h2 := hc' at_ (by omega) (by omega)
    refine ⟨⟨by omega, hto.2⟩, ⟨by omega, by omega⟩, ?_⟩
    refine EI.k (j_min (d := d - 1) (iR_lit rfl) (iR_of (by omega) (by omega)) hSt) (by omega) (fun _ _ => ⟨ij, fun _ _ _ _ hS7 => ih _ (up c' to_ (c' to_ + c at_)) hS7 (hFr.I ⟨by omega, by omega⟩) (fun x hx0 hx1 => ?_) ?_ (fun h x hx0 hx1 => ?_) ?_⟩)
    · rw [ia_I, if_pos rfl]
      by_cases cx : x = to_
      · rw [cx, up_at, up_at, h1.2, h2.2, hca]
        have := h2.1
        rw [hca] at this
        omega
      · rw [up_ne cx, up_ne cx]
        exact hc' x hx0 hx1
    · rw [up_ne (by omega)]
      exact hca
    · rw [up_ne (by omega)]
      exact hz' h x hx0 hx1
    · rw [sS_up (448 - (at_ + 1)).toNat _ _ (by omega) hto.1 hto.2]
      rw [hsh, Int.mul_add, Int.zero_add] at hv
      omega
  · rw [show (0 : Int).toNat = 0 from rfl, List.drop_zero, ← hwx, sS_cons (a := at_) (by omega)]
    omega
theorem sat_add {a b : Int} (ha : 0 ≤ a) (hb : 0 ≤ b) : min 1000000000 (min 1000000000 a + min 1000000000 b) = min 1000000000 (a + b) := by omega
theorem u_countWays (hO : OPT σ m k) (hW : WF m) (hS : SR σ) (hd : 3 ≤ d) : Eb g ad d mX0_countWays 0 0 [.ref (ad 85), vi (m 7)] σ (Ki fun r s => r = manyV m ∧ Fr CnC σ s) := by
  have hf := fullM_b hW.1
  have h3 := hW.1.2.2.2.1
  have h7 := hW.1.2.2.2.2.2.2.2.1
  have i1 : iR (m 7) := iR_of (by omega) (by omega)
  refine EbS rfl pl_X0 rfl rfl (bX0_countWays_0 i1 hS ?_)
  refine EI.k (o_full (d := d - 1) hO hW hS) (by omega) (fun i2 _ => ?_)
  refine EV.k (j_fill (d := d - 1) aI_86 (iR_lit rfl) (by decide) hS) (by omega) (fun hS2 => ?_)
  intro _ _ _ hS3
  have hF0 : Fr CnC σ (setI (setA σ 86 (fil (ia σ 86) 448 0)) 86 0 1) := ((Fr.refl σ).A ⟨by omega, by omega⟩).I ⟨by omega, by omega⟩
  have hc0 : satR (setI (setA σ 86 (fil (ia σ 86) 448 0)) 86 0 1) (up (fun _ => 0) 0 (0 + 1)) := fun x h0 h1 => by
    rw [ia_I, if_pos rfl, ia_A, if_pos rfl]
    by_cases cx : x = 0
    · rw [cx, up_at, up_at]
      decide
    · rw [up_ne cx, up_ne cx]
      have : fil (ia σ 86) 448 0 x = 0 := if_pos ⟨h0, by omega⟩
      rw [this]
      decide
  have hz : ∀ (n : Nat) (a b : Int), b = a + n → sS (wxI m) (fun _ => 0) a b = 0 := by
    intro n
    induction n with
    | zero => intro a b h; exact sS_nil (by omega)
    | succ n ih => intro a b h; rw [sS_cons (by omega), ih (a + 1) b (by omega), Int.zero_mul]; rfl
  have hs0 : sS (wxI m) (up (fun _ => 0) 0 (0 + 1)) 0 448 = wxI m 0 := by
    have := sS_up (W := wxI m) (c := fun _ => 0) (j := 0) (v := 1) 448 0 448 (by omega) (by omega) (by omega)
    rw [this, hz 448 0 448 (by omega)]
    omega
  generalize setI (setA σ 86 (fil (ia σ 86) 448 0)) 86 0 1 = s1 at hS3 hF0 hc0
  have hnw0 : nw (0, 0) := ⟨⟨Int.le_refl _, by decide⟩, ⟨Int.le_refl _, by decide⟩⟩
  have hfin : manyV m = min 1000000000 (wxI m 0) := waM_wx hW 7 (0, 0) hnw0 (by show 6 - pc 0 < 7; omega)
  have hwI0 : ∀ x, 0 ≤ x → x < 448 → 0 ≤ wxI m x := fun x h0 h1 => wxM_0 hW 7 _ ⟨⟨by show 0 ≤ x / 7; omega, by show x / 7 ≤ 63; omega⟩, ⟨by show 0 ≤ x % 7; omega, by show x % 7 ≤ 6; omega⟩⟩ (by omega)
  refine up_loop (P := fun a => ∀ (τ : SG) (c : Int → Int), SR τ → Fr CnC σ τ → satR τ c → (∀ x, (fullM m + 1) * 7 ≤ x → x < 448 → c x = 0) → sS (wxI m) c a 448 = wxI m 0 → aX0_countWays_25 g ad d (Ki fun r s => r = manyV m ∧ Fr CnC σ s) 0 0 τ (m 7) (fullM m) a) (hi := fullM m * 7) 0 (by omega) ?_ ?_ s1 _ hS3 hF0 hc0 (fun x h0 h1 => up_ne (by omega)) hs0
  · intro τ c hSt hFr hc hcz hv
    refine bX0_countWays_25 i1 i2 (iR_of (by omega) (by omega)) hSt ⟨iR_of (by omega) (by omega), fun _ _ _ _ _ _ => ?_, fun z => absurd (Int.le_refl _) z⟩
    have hw1 : ∀ x, fullM m * 7 ≤ x → x < (fullM m + 1) * 7 → wxI m x = 1 := fun x h0 h1 => by
      unfold wxI
      rw [wxM_eq hW ⟨⟨by show 0 ≤ x / 7; omega, by show x / 7 ≤ 63; omega⟩, ⟨by show 0 ≤ x % 7; omega, by show x % 7 ≤ 6; omega⟩⟩]
      exact if_pos (by show x / 7 = fullM m; omega)
    have hz2 : ∀ (n : Nat) (a : Int), a + n = 448 → (fullM m + 1) * 7 ≤ a → sS (wxI m) c a 448 = 0 := by
      intro n
      induction n with
      | zero => intro a h _; exact sS_nil (by omega)
      | succ n ih => intro a h h2; rw [sS_cons (by omega), ih (a + 1) (by omega) (by omega), hcz a h2 (by omega), Int.zero_mul]; rfl
    refine up_loop (P := fun b => ∀ sum S : Int, 0 ≤ S → sum = min 1000000000 S → S + sS (wxI m) c (fullM m * 7 + b) 448 = wxI m 0 → aX0_countWays_59 g ad d (Ki fun r s => r = manyV m ∧ Fr CnC σ s) 0 0 τ (m 7) (fullM m) sum b) (hi := 7) 0 (by omega) ?_ ?_ 0 0 (Int.le_refl _) rfl (by rw [Int.add_zero, Int.zero_add]; exact hv)
    · intro sum S hS0 hs hv
      rw [hz2 (448 - (fullM m * 7 + 7)).toNat _ (by omega) (by omega)] at hv
      exact bX0_countWays_59 i1 i2 (iR_of (by omega) (by omega)) (iR_lit rfl) hSt ⟨fun _ => re_i ⟨by rw [hfin]; omega, hFr⟩, fun z => absurd (Int.le_refl _) z⟩
    · intro b hb0 hb1 ih sum S hS0 hs hv
      have h1 := hc (fullM m * 7 + b) (by omega) (by omega)
      rw [sS_cons (by omega), hw1 _ (by omega) (by omega), Int.mul_one] at hv
      refine bX0_countWays_59 i1 i2 (iR_of (by omega) (by omega)) (iR_of (by omega) (by omega)) hSt ⟨fun z => absurd z (by omega), fun _ => ⟨⟨by omega, by omega⟩, ?_⟩⟩
      refine EI.k (j_min (d := d - 1) (iR_lit rfl) (iR_of (by omega) (by omega)) hSt) (by omega) (fun _ _ => ⟨iR_of (by omega) (by omega), fun _ _ _ _ _ => ih _ (S + c (fullM m * 7 + b)) (by omega) (by omega) ?_⟩)
      rw [show fullM m * 7 + (b + 1) = fullM m * 7 + b + 1 by omega]
      omega
  · intro a ha0 ha1 ih τ c hSt hFr hc hcz hv
    have h1 := hc a ha0 (by omega)
    refine bX0_countWays_25 i1 i2 (iR_of (by omega) (by omega)) hSt ⟨iR_of (by omega) (by omega), fun z => absurd z (by omega), fun _ => ⟨⟨ha0, by omega⟩, fun c1 => ⟨iR_of (by omega) (by omega), fun _ _ _ _ => ih τ c hSt hFr hc hcz ?_⟩, fun c1 => ?_⟩⟩
    · rw [sS_cons (by omega), show c a = 0 by omega, Int.zero_mul] at hv
      omega
    · refine Cl.vo (u_countFrom (d := d - 1) (hO.fr hFr (fun c hc => CnC_O c hc)) hW ⟨ha0, ha1⟩ hc hSt (by omega)) (by omega) (fun s4 hS4 h4 => ⟨iR_of (by omega) (by omega), fun _ _ _ _ => ?_⟩)
      obtain ⟨hF4, c', hc', hz', hv'⟩ := h4
      exact ih s4 c' hS4 (hFr.trans hF4) hc' (hz' hcz) (by rw [hv']; exact hv)
end CNT

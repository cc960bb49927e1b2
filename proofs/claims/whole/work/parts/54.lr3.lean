section LR3
variable {g : AG} {ad : Nat → Nat} {d : Nat} {σ : SG} {m k tp t : Int → Int} {h tn f e : Int}
abbrev Qd : Type := Int × Int × Int × Int
def inB (a i j : Int) : Bool := decide (i ≤ a ∧ a ≤ j)
/-- whether two stretches go together -/
def goT (ls : List Lk) (x : Qd) : Bool := ls.all (fun l => inB l.1 x.1 x.2.1 == inB l.2 x.2.2.1 x.2.2.2) && ls.any (fun l => inB l.1 x.1 x.2.1)
theorem LK.get {ls : List Lk} (hL : LK σ ls) {i : Int} (h0 : 0 ≤ i) (h1 : i < ls.length) : ∃ x, ls.drop i.toNat = x :: ls.drop (i + 1).toNat ∧ ia σ 110 i = x.1 ∧ ia σ 111 i = x.2 := by
  have hi : i.toNat < ls.length := by omega
  refine ⟨ls[i.toNat], ?_, ?_⟩
  · rw [drop_cons hi, show (i + 1).toNat = i.toNat + 1 by omega]
  · have := hL.2 i.toNat _ (List.getElem?_eq_getElem hi)
    rw [show ((i.toNat : Nat) : Int) = i by omega] at this
    exact this
theorem e_goTogether {ls : List Lk} {x1 x2 x3 x4 : Int} (hL : LK σ ls) (h12 : ls.length ≤ 12) (h1 : iR x1) (h2 : iR x2) (h3 : iR x3) (h4 : iR x4) (hS : SR σ) (hd : 1 ≤ d) : EI g ad d mX11_goTogether [.ref (ad 102), vi x1, vi x2, vi x3, vi x4] σ (bi (goT ls (x1, x2, x3, x4) = true)) σ := by
  refine EbS rfl pl_X11 rfl rfl (bX11_goTogether_0 h1 h2 h3 h4 hS ?_)
  intro _ _ _ _ _ _ _
  refine up_loop (P := fun j => ∀ n : Int, 0 ≤ n → n ≤ j → goT ls (x1, x2, x3, x4) = ((ls.drop j.toNat).all (fun l => inB l.1 x1 x2 == inB l.2 x3 x4) && (decide (0 < n) || (ls.drop j.toNat).any (fun l => inB l.1 x1 x2))) → aX11_goTogether_6 g ad d (Ki fun r s => r = bi (goT ls (x1, x2, x3, x4) = true) ∧ s = σ) 0 0 σ x1 x2 x3 x4 n j) (hi := (ls.length : Int)) 0 (by omega) ?_ ?_ 0 (by omega) (by omega) ?_
  · intro n hn0 hn1 hv
    rw [List.drop_of_length_le (by omega)] at hv
    refine bX11_goTogether_6 h1 h2 h3 h4 (iR_of (by omega) (by omega)) (iR_of (by omega) (by omega)) hS ⟨fun _ => ⟨fun c => re_i ⟨(bi_f ?_).symm, rfl⟩, fun c => re_i ⟨(bi_t ?_).symm, rfl⟩⟩, fun z => absurd (by rw [hL.1]; omega) z⟩
    · rw [hv, decide_eq_false (by omega)]; simp
    · rw [hv, decide_eq_true (by omega)]; simp
  · intro j hj0 hj1 ih n hn0 hn1 hv
    obtain ⟨x, hx, ha, hb⟩ := hL.get hj0 hj1
    rw [hx, List.all_cons, List.any_cons] at hv
    refine bX11_goTogether_6 h1 h2 h3 h4 (iR_of (by omega) (by omega)) (iR_of (by omega) (by omega)) hS ⟨fun z => absurd z (by rw [hL.1]; omega), fun _ => ⟨⟨by omega, by omega⟩, ?_⟩⟩
    rw [ha]
    refine EI.k (e_isIn (d := d - 1) (by rw [← ha]; exact hS.1 110 _) h1 h2 hS) (by omega) (fun _ _ => ?_)
    rw [hb]
    refine EI.k (e_isIn (d := d - 1) (by rw [← hb]; exact hS.1 111 _) h3 h4 hS) (by omega) (fun _ _ => ?_)
    have ij : iR (j + 1) := iR_of (by omega) (by omega)
    by_cases cA : x1 ≤ x.1 ∧ x.1 ≤ x2
    · have eA : inB x.1 x1 x2 = true := decide_eq_true cA
      rw [bi_t cA]
      by_cases cB : x3 ≤ x.2 ∧ x.2 ≤ x4
      · have eB : inB x.2 x3 x4 = true := decide_eq_true cB
        rw [bi_t cB]
        refine ⟨fun _ => ⟨fun z => absurd z (by decide), fun _ => ⟨iR_of (by omega) (by omega), ij, fun _ _ _ _ _ _ _ => ?_⟩⟩, fun z => absurd rfl z⟩
        refine ih (n + 1) (by omega) (by omega) ?_
        rw [hv, eA, eB, decide_eq_true (show 0 < n + 1 by omega)]
        simp
      · have eB : inB x.2 x3 x4 = false := decide_eq_false cB
        rw [bi_f cB]
        refine ⟨fun z => absurd z (by decide), fun _ => re_i ⟨(bi_f ?_).symm, rfl⟩⟩
        rw [hv, eA, eB]; simp
    · have eA : inB x.1 x1 x2 = false := decide_eq_false cA
      rw [bi_f cA]
      by_cases cB : x3 ≤ x.2 ∧ x.2 ≤ x4
      · have eB : inB x.2 x3 x4 = true := decide_eq_true cB
        rw [bi_t cB]
        refine ⟨fun z => absurd z (by decide), fun _ => re_i ⟨(bi_f ?_).symm, rfl⟩⟩
        rw [hv, eA, eB]; simp
      · have eB : inB x.2 x3 x4 = false := decide_eq_false cB
        rw [bi_f cB]
        refine ⟨fun _ => ⟨fun _ => ⟨iR_of (by omega) (by omega), ij, fun _ _ _ _ _ _ _ => ?_⟩, fun z => absurd rfl z⟩, fun z => absurd rfl z⟩
        refine ih (n + 0) (by omega) (by omega) ?_
        rw [hv, eA, eB, Int.add_zero]
        simp
  · show goT ls (x1, x2, x3, x4) = _
    unfold goT
    simp
/-- how many places of a stretch have no link -/
def unA (F : Lk → Int) (ls : List Lk) (i j : Int) : Int := (ir i (j + 1)).foldl (fun n w => n + if ls.any (fun l => decide (F l = w)) = true then 0 else 1) 0
def unl (ls : List Lk) (x : Qd) : Int := unA (fun l => l.1) ls x.1 x.2.1 + unA (fun l => l.2) ls x.2.2.1 x.2.2.2
theorem unF_b {F : Lk → Int} {ls : List Lk} : ∀ (l : List Int) (n : Int), n ≤ l.foldl (fun n w => n + if ls.any (fun l => decide (F l = w)) = true then 0 else 1) n ∧ l.foldl (fun n w => n + if ls.any (fun l => decide (F l = w)) = true then 0 else 1) n ≤ n + l.length
  | [], n => by simp
  | w :: l, n => by
    rw [List.foldl_cons, List.length_cons]
    have := unF_b (F := F) (ls := ls) l (n + if ls.any (fun l => decide (F l = w)) = true then 0 else 1)
    split at this <;> split <;> simp_all <;> omega
theorem unA_b {F : Lk → Int} {ls : List Lk} {i j : Int} (h : i ≤ j) : 0 ≤ unA F ls i j ∧ unA F ls i j ≤ j - i + 1 := by
  have := unF_b (F := F) (ls := ls) (ir i (j + 1)) 0
  rw [ir_length] at this
  unfold unA
  omega
theorem e_unlinked {ls : List Lk} {x1 x2 x3 x4 : Int} (hL : LK σ ls) (h12 : ls.length ≤ 12) (h1 : 0 ≤ x1 ∧ x1 ≤ x2 ∧ x2 ≤ 6) (h3 : 0 ≤ x3 ∧ x3 ≤ x4 ∧ x4 ≤ 6) (hS : SR σ) : EI g ad d mX11_unlinked [.ref (ad 102), vi x1, vi x2, vi x3, vi x4] σ (unl ls (x1, x2, x3, x4)) σ := by
  have i1 : iR x1 := iR_of (by omega) (by omega)
  have i2 : iR x2 := iR_of (by omega) (by omega)
  have i3 : iR x3 := iR_of (by omega) (by omega)
  have i4 : iR x4 := iR_of (by omega) (by omega)
  have hb1 := unA_b (F := fun l => l.1) (ls := ls) h1.2.1
  have hb2 := unA_b (F := fun l => l.2) (ls := ls) h3.2.1
  refine EbS rfl pl_X11 rfl rfl (bX11_unlinked_0 i1 i2 i3 i4 hS ?_)
  intro _ _ _ _ _ _ _
  -- the second stretch
  have second : ∀ n0 : Int, (0 ≤ n0 ∧ n0 ≤ 7) → n0 = unA (fun l => l.1) ls x1 x2 → aX11_unlinked_81 g ad d (Ki fun r s => r = unl ls (x1, x2, x3, x4) ∧ s = σ) 0 0 σ x1 x2 x3 x4 n0 x3 := by
    intro n0 hn0 hn0'
    refine up_loop (P := fun w => ∀ n : Int, (0 ≤ n ∧ n ≤ n0 + (w - x3)) → (ir w (x4 + 1)).foldl (fun n w => n + if ls.any (fun l => decide (l.2 = w)) = true then 0 else 1) (n - n0) = unA (fun l => l.2) ls x3 x4 → aX11_unlinked_81 g ad d (Ki fun r s => r = unl ls (x1, x2, x3, x4) ∧ s = σ) 0 0 σ x1 x2 x3 x4 n w) (hi := x4 + 1) x3 (by omega) ?_ ?_ n0 (by omega) (by rw [Int.sub_self]; rfl)
    · intro n hn hv
      rw [ir_nil (Int.le_refl _)] at hv
      have hv' : n - n0 = unA (fun l => l.2) ls x3 x4 := hv
      refine bX11_unlinked_81 i1 i2 i3 i4 (iR_of (by omega) (by omega)) (iR_of (by omega) (by omega)) hS ⟨fun _ => re_i ⟨?_, rfl⟩, fun z => absurd (by omega) z⟩
      show n = unA (fun l => l.1) ls x1 x2 + unA (fun l => l.2) ls x3 x4
      omega
    · intro w hw0 hw1 ih n hn hv
      rw [ir_cons (by omega), List.foldl_cons] at hv
      have iw : iR w := iR_of (by omega) (by omega)
      have inn : iR n := iR_of (by omega) (by omega)
      refine bX11_unlinked_81 i1 i2 i3 i4 inn iw hS ⟨fun z => absurd z (by omega), fun _ _ _ _ _ _ _ _ _ _ => ?_⟩
      refine up_loop (P := fun j => ∀ b : Int, (b = 0 ∨ b = 1) → ls.any (fun l => decide (l.2 = w)) = (decide (¬ b = 0) || (ls.drop j.toNat).any (fun l => decide (l.2 = w))) → aX11_unlinked_94 g ad d (Ki fun r s => r = unl ls (x1, x2, x3, x4) ∧ s = σ) 0 0 σ x1 x2 x3 x4 n w b j) (hi := (ls.length : Int)) 0 (by omega) ?_ ?_ 0 (Or.inl rfl) (by simp)
      · intro b hb hbv
        rw [List.drop_of_length_le (by omega)] at hbv
        refine bX11_unlinked_94 i1 i2 i3 i4 inn iw (iR01 hb) (iR_of (by omega) (by omega)) hS ⟨fun _ => ⟨fun c => ⟨iR_of (by omega) (by omega), iR_of (by omega) (by omega), fun _ _ _ _ _ _ _ => ?_⟩, fun c => ⟨iR_of (by omega) (by omega), iR_of (by omega) (by omega), fun _ _ _ _ _ _ _ => ?_⟩⟩, fun z => absurd (by rw [hL.1]; omega) z⟩
        · refine ih (n + 1) (by omega) ?_
          rw [← hv, hbv, c]
          simp only [List.any_nil, Bool.or_false, decide_eq_true_eq]
          congr 1
          simp
          omega
        · refine ih (n + 0) (by omega) ?_
          rw [← hv, hbv, decide_eq_true c]
          simp
      · intro j hj0 hj1 ihj b hb hbv
        obtain ⟨x, hx, ha, hbb⟩ := hL.get hj0 hj1
        rw [hx, List.any_cons] at hbv
        have ij : iR (j + 1) := iR_of (by omega) (by omega)
        refine bX11_unlinked_94 i1 i2 i3 i4 inn iw (iR01 hb) (iR_of (by omega) (by omega)) hS ⟨fun z => absurd z (by rw [hL.1]; omega), fun _ => ⟨fun c => ⟨ij, fun _ _ _ _ _ _ _ _ _ => ?_⟩, fun c => ⟨⟨by omega, by omega⟩, fun c2 => ⟨ij, fun _ _ _ _ _ _ _ _ _ => ?_⟩, fun c2 => ⟨ij, fun _ _ _ _ _ _ _ _ _ => ?_⟩⟩⟩⟩
        · refine ihj 1 (Or.inr rfl) ?_
          rw [hbv, decide_eq_true c]; simp
        · refine ihj 0 (Or.inl rfl) ?_
          rw [hbb] at c2
          rw [hbv, c, decide_eq_false c2]; simp
        · refine ihj 1 (Or.inr rfl) ?_
          rw [hbb] at c2
          rw [hbv, decide_eq_true c2]; simp
  refine up_loop (P := fun w => ∀ n : Int, (0 ≤ n ∧ n ≤ w - x1) → (ir w (x2 + 1)).foldl (fun n w => n + if ls.any (fun l => decide (l.1 = w)) = true then 0 else 1) n = unA (fun l => l.1) ls x1 x2 → aX11_unlinked_6 g ad d (Ki fun r s => r = unl ls (x1, x2, x3, x4) ∧ s = σ) 0 0 σ x1 x2 x3 x4 n w) (hi := x2 + 1) x1 (by omega) ?_ ?_ 0 (by omega) rfl
  · intro n hn hv
    rw [ir_nil (Int.le_refl _)] at hv
    have hv' : n = unA (fun l => l.1) ls x1 x2 := hv
    exact bX11_unlinked_6 i1 i2 i3 i4 (iR_of (by omega) (by omega)) (iR_of (by omega) (by omega)) hS ⟨fun _ _ _ _ _ _ _ _ => second n (by omega) hv', fun z => absurd (by omega) z⟩
  · intro w hw0 hw1 ih n hn hv
    rw [ir_cons (by omega), List.foldl_cons] at hv
    have iw : iR w := iR_of (by omega) (by omega)
    have inn : iR n := iR_of (by omega) (by omega)
    refine bX11_unlinked_6 i1 i2 i3 i4 inn iw hS ⟨fun z => absurd z (by omega), fun _ _ _ _ _ _ _ _ _ _ => ?_⟩
    refine up_loop (P := fun j => ∀ b : Int, (b = 0 ∨ b = 1) → ls.any (fun l => decide (l.1 = w)) = (decide (¬ b = 0) || (ls.drop j.toNat).any (fun l => decide (l.1 = w))) → aX11_unlinked_18 g ad d (Ki fun r s => r = unl ls (x1, x2, x3, x4) ∧ s = σ) 0 0 σ x1 x2 x3 x4 n w b j) (hi := (ls.length : Int)) 0 (by omega) ?_ ?_ 0 (Or.inl rfl) (by simp)
    · intro b hb hbv
      rw [List.drop_of_length_le (by omega)] at hbv
      refine bX11_unlinked_18 i1 i2 i3 i4 inn iw (iR01 hb) (iR_of (by omega) (by omega)) hS ⟨fun _ => ⟨fun c => ⟨iR_of (by omega) (by omega), iR_of (by omega) (by omega), fun _ _ _ _ _ _ _ => ?_⟩, fun c => ⟨iR_of (by omega) (by omega), iR_of (by omega) (by omega), fun _ _ _ _ _ _ _ => ?_⟩⟩, fun z => absurd (by rw [hL.1]; omega) z⟩
      · refine ih (n + 1) (by omega) ?_
        rw [← hv, hbv, c]
        simp
      · refine ih (n + 0) (by omega) ?_
        rw [← hv, hbv, decide_eq_true c]
        simp
    · intro j hj0 hj1 ihj b hb hbv
      obtain ⟨x, hx, ha, hbb⟩ := hL.get hj0 hj1
      rw [hx, List.any_cons] at hbv
      have ij : iR (j + 1) := iR_of (by omega) (by omega)
      refine bX11_unlinked_18 i1 i2 i3 i4 inn iw (iR01 hb) (iR_of (by omega) (by omega)) hS ⟨fun z => absurd z (by rw [hL.1]; omega), fun _ => ⟨fun c => ⟨ij, fun _ _ _ _ _ _ _ _ _ => ?_⟩, fun c => ⟨⟨by omega, by omega⟩, fun c2 => ⟨ij, fun _ _ _ _ _ _ _ _ _ => ?_⟩, fun c2 => ⟨ij, fun _ _ _ _ _ _ _ _ _ => ?_⟩⟩⟩⟩
      · refine ihj 1 (Or.inr rfl) ?_
        rw [hbv, decide_eq_true c]; simp
      · refine ihj 0 (Or.inl rfl) ?_
        rw [ha] at c2
        rw [hbv, c, decide_eq_false c2]; simp
      · refine ihj 1 (Or.inr rfl) ?_
        rw [ha] at c2
        rw [hbv, decide_eq_true c2]; simp
/-- a stretch of a row -/
def slc (a : List Int) (i j : Int) : List Int := (ir i (j + 1)).map (fun k => a.getD k.toNat 0)
theorem slc_len {a : List Int} {i j : Int} (h : i ≤ j) : ((slc a i j).length : Int) = j - i + 1 := by
  unfold slc
  rw [List.length_map, ir_length]
  omega
theorem slc_hl {a : List Int} {R : Int → Int} {i j b : Int} (hh : ∀ c, i ≤ c → c ≤ j → R (b + c - i) = a.getD c.toNat 0) : hl R b (slc a i j) := by
  intro n v hv
  unfold slc at hv
  rw [List.getElem?_map] at hv
  by_cases c : (n : Int) < j + 1 - i
  · rw [ir_get c] at hv
    have this : a.getD (i + n).toNat 0 = v := Option.some.inj hv
    rw [← this, ← hh (i + n) (by omega) (by omega)]
    congr 1
    omega
  · rw [List.getElem?_eq_none (by rw [ir_length]; omega)] at hv
    cases hv
theorem slc_mem {a : List Int} {i j : Int} (h0 : 0 ≤ i) (h1 : j < a.length) {w : Int} (hw : w ∈ slc a i j) : w ∈ a := by
  unfold slc at hw
  obtain ⟨k, hk, rfl⟩ := List.mem_map.mp hw
  rw [mem_ir] at hk
  have : k.toNat < a.length := by omega
  rw [List.getD_eq_getElem?_getD, List.getElem?_eq_getElem this]
  exact List.getElem_mem this
def lrCost (m : Int → Int) (p : Int) : Int → Int := up m (369 + 10 * p + 8) (if 0 < m (369 + 10 * p + 8) then m (369 + 10 * p + 8) - 1 else 0)
theorem e_learns {x : Les} {x1 x2 x3 x4 : Int} (em : ia σ 103 = m) (hG : GM m) (hX : LSn σ x) (hw1 : ∀ w ∈ x.1, 0 ≤ w ∧ w < m 0) (hw2 : ∀ w ∈ x.2.1, 0 ≤ w ∧ w < m 0) (h1 : 0 ≤ x1 ∧ x1 ≤ x2 ∧ x2 < x.1.length ∧ x2 < x1 + 3) (h3 : 0 ≤ x3 ∧ x3 ≤ x4 ∧ x4 < x.2.1.length ∧ x4 < x3 + 3) (hS : SR σ) (hd : 2 ≤ d) : Eb g ad d mX11_learns 0 0 [.ref (ad 102), vi x1, vi x2, vi x3, vi x4] σ (Ki fun r s => ((¬ alkL m (slc x.1 x1 x2) (slc x.2.1 x3 x4) = -1 → r = 0 ∧ ia s 103 = lrCost m (alkL m (slc x.1 x1 x2) (slc x.2.1 x3 x4))) ∧ (alkL m (slc x.1 x1 x2) (slc x.2.1 x3 x4) = -1 → (m 1 = 30 → r = 2 ∧ ia s 103 = m) ∧ (¬ m 1 = 30 → r = 1 ∧ ∃ R, RowR R (slc x.1 x1 x2) (slc x.2.1 x3 x4) ∧ ia s 103 = comesS m R 0 (10 + 5 * unl x.2.2 (x1, x2, x3, x4)) ∧ RowG m R 0))) ∧ Fm [103, 107] [] σ s) := by
  obtain ⟨l15, l14, lha, lhb, lLK, lna, lnb, l12⟩ := hX
  have i1 : iR x1 := iR_of (by omega) (by omega)
  have i2 : iR x2 := iR_of (by omega) (by omega)
  have i3 : iR x3 := iR_of (by omega) (by omega)
  have i4 : iR x4 := iR_of (by omega) (by omega)
  have hm1 := hG.wf.1.2.1
  refine EbS rfl pl_X11 rfl rfl (bX11_learns_0 i1 i2 i3 i4 hS ⟨iR_of (by omega) (by omega), fun _ _ _ _ _ hS0 => ?_⟩)
  refine up_loop (P := fun c => ∀ τ, SR τ → Fm [107] [] σ τ → ia τ 107 0 = x2 - x1 + 1 → (∀ j, x1 ≤ j → j < c → ia τ 107 (1 + j - x1) = x.1.getD j.toNat 0) → aX11_learns_14 g ad d (Ki fun r s => ((¬ alkL m (slc x.1 x1 x2) (slc x.2.1 x3 x4) = -1 → r = 0 ∧ ia s 103 = lrCost m (alkL m (slc x.1 x1 x2) (slc x.2.1 x3 x4))) ∧ (alkL m (slc x.1 x1 x2) (slc x.2.1 x3 x4) = -1 → (m 1 = 30 → r = 2 ∧ ia s 103 = m) ∧ (¬ m 1 = 30 → r = 1 ∧ ∃ R, RowR R (slc x.1 x1 x2) (slc x.2.1 x3 x4) ∧ ia s 103 = comesS m R 0 (10 + 5 * unl x.2.2 (x1, x2, x3, x4)) ∧ RowG m R 0))) ∧ Fm [103, 107] [] σ s) 0 0 τ x1 x2 x3 x4 c) (hi := x2 + 1) x1 (by omega) ?_ ?_ _ hS0 ((Fm.refl σ).setI (by decide)) (by rw [ia_setI, up_at]) (fun j h0 h1 => by omega)
  · intro τ hSt hF e0 hall
    refine bX11_learns_14 i1 i2 i3 i4 (iR_of (by omega) (by omega)) hSt ⟨fun _ => ⟨iR_of (by omega) (by omega), fun _ _ _ _ _ hS4 => ?_⟩, fun z => absurd (by omega) z⟩
    refine up_loop (P := fun c => ∀ s, SR s → Fm [107] [] σ s → ia s 107 0 = x2 - x1 + 1 → (∀ j, x1 ≤ j → j ≤ x2 → ia s 107 (1 + j - x1) = x.1.getD j.toNat 0) → ia s 107 4 = x4 - x3 + 1 → (∀ j, x3 ≤ j → j < c → ia s 107 (5 + j - x3) = x.2.1.getD j.toNat 0) → aX11_learns_59 g ad d (Ki fun r s => ((¬ alkL m (slc x.1 x1 x2) (slc x.2.1 x3 x4) = -1 → r = 0 ∧ ia s 103 = lrCost m (alkL m (slc x.1 x1 x2) (slc x.2.1 x3 x4))) ∧ (alkL m (slc x.1 x1 x2) (slc x.2.1 x3 x4) = -1 → (m 1 = 30 → r = 2 ∧ ia s 103 = m) ∧ (¬ m 1 = 30 → r = 1 ∧ ∃ R, RowR R (slc x.1 x1 x2) (slc x.2.1 x3 x4) ∧ ia s 103 = comesS m R 0 (10 + 5 * unl x.2.2 (x1, x2, x3, x4)) ∧ RowG m R 0))) ∧ Fm [103, 107] [] σ s) 0 0 s x1 x2 x3 x4 c) (hi := x4 + 1) x3 (by omega) ?_ ?_ _ hS4 (hF.setI (by decide)) (by rw [ia_setI, up_ne (by omega)]; exact e0) (fun j h0 h1 => by rw [ia_setI, up_ne (by omega)]; exact hall j h0 (by omega)) (by rw [ia_setI, up_at]) (fun j h0 h1 => by omega)
    · intro s hSs hFs e0s hA e4s hB
      have hA' : hl (ia s 107) 1 (slc x.1 x1 x2) := slc_hl hA
      have hB' : hl (ia s 107) 5 (slc x.2.1 x3 x4) := slc_hl (fun c h0 h1 => hB c h0 (by omega))
      have la := slc_len (a := x.1) h1.2.1
      have lb := slc_len (a := x.2.1) h3.2.1
      have hRR : RowR (ia s 107) (slc x.1 x1 x2) (slc x.2.1 x3 x4) := ⟨by rw [e0s, la], hA', by rw [e4s, lb], hB'⟩
      have ems : ia s 103 = m := by rw [hFs.a 103 rfl]; exact em
      have hal : alk m (ia s 107) 0 (-1) = alkL m (slc x.1 x1 x2) (slc x.2.1 x3 x4) := alk_L hG.wf.2.1 (by rw [e0s, la]) hA' (by show ia s 107 4 = _; rw [e4s, lb]) hB' (by omega) (by omega)
      have hab := alkL_b hG.wf.1 (slc x.1 x1 x2) (slc x.2.1 x3 x4)
      have hRG : RowG m (ia s 107) 0 := by
        refine ⟨by omega, by show 0 ≤ ia s 107 4 ∧ ia s 107 4 ≤ 3; omega, fun k hk0 hk1 => ?_, fun k hk0 hk1 => ?_⟩
        · rw [show (0 : Int) + (1 + k) = 1 + k by omega]
          exact hw1 _ (slc_mem (by omega) (by omega) (hl_mem hA' hk0 (by omega)))
        · have hk1' : k < ia s 107 4 := hk1
          rw [show (0 : Int) + (5 + k) = 5 + k by omega]
          exact hw2 _ (slc_mem (by omega) (by omega) (hl_mem hB' hk0 (by omega)))
      have hFs' : Fm [103, 107] [] σ s := hFs.mono (by decide) (by decide)
      have hub1 := unA_b (F := fun l => l.1) (ls := x.2.2) h1.2.1
      have hub2 := unA_b (F := fun l => l.2) (ls := x.2.2) h3.2.1
      have hun : unl x.2.2 (x1, x2, x3, x4) = unA (fun l => l.1) x.2.2 x1 x2 + unA (fun l => l.2) x.2.2 x3 x4 := rfl
      refine bX11_learns_59 i1 i2 i3 i4 (iR_of (by omega) (by omega)) hSs ⟨fun _ => ?_, fun z => absurd (by omega) z⟩
      refine EI.k (e_alike (d := d - 1) ems rfl aI107 hG.wf hSs ⟨by omega, by omega⟩ (iR_lit rfl) (by decide) ⟨by omega, by show ia s 107 4 ≤ 3; omega⟩ (by omega)) (by omega) (fun hr _ => ?_)
      rw [hal, ems]
      refine ⟨fun c1 => ⟨fun c2 => ?_, fun c2 => re_i ⟨⟨fun z => absurd c1 z, fun _ => ⟨fun _ => ⟨rfl, ems⟩, fun z => absurd c2 z⟩⟩, hFs'⟩⟩, fun c1 => ⟨⟨by omega, by omega⟩, fun c2 => ?_, fun c2 => ⟨iR_of (by have := hG.wf.2.1 _ (show 0 ≤ alkL m (slc x.1 x1 x2) (slc x.2.1 x3 x4) by omega) hab.2; unfold of_ at this; omega) (by have := hG.wf.2.1 _ (show 0 ≤ alkL m (slc x.1 x1 x2) (slc x.2.1 x3 x4) by omega) hab.2; unfold of_ at this; omega), ?_⟩⟩⟩
      · refine EI.k (e_unlinked (d := d - 1) (lLK.fm hFs rfl rfl) l12 (by omega) (by omega) hSs) (by omega) (fun hr2 _ => ?_)
        refine Cl.vo (e_comes (d := d - 1) ems ⟨hm1.1, by omega⟩ ⟨by omega, by omega⟩ (iR_of (by omega) (by omega)) hSs) (by omega) (fun s3 hS3 hh => re_i ⟨⟨fun z => absurd c1 z, fun _ => ⟨fun z => absurd z c2, fun _ => ⟨rfl, ia s 107, hRR, hh.1, hRG⟩⟩⟩, hFs'.trans (hh.2.mono (by decide) (by decide))⟩)
      · refine re_i ⟨⟨fun _ => ⟨rfl, ?_⟩, fun z => absurd z c1⟩, hFs'.setI (by decide)⟩
        rw [ia_setI, ems]
        unfold lrCost
        rw [if_neg (by omega)]
      · refine re_i ⟨⟨fun _ => ⟨rfl, ?_⟩, fun z => absurd z c1⟩, hFs'.setI (by decide)⟩
        rw [ia_setI, ems]
        unfold lrCost
        rw [if_pos (by omega)]
    · intro c hc0 hc1 ih s hSs hFs e0s hA e4s hB
      have e15s : sc s 102 15 = (x.1.length : Int) := by rw [hFs.s 15 rfl]; exact l15
      refine bX11_learns_59 i1 i2 i3 i4 (iR_of (by omega) (by omega)) hSs ⟨fun z => absurd z (by omega), fun _ => ?_⟩
      rw [e15s]
      refine ⟨⟨by omega, by omega⟩, ⟨by omega, by omega⟩, iR_of (by omega) (by omega), fun _ _ _ _ _ hS5 => ?_⟩
      refine ih _ hS5 (hFs.setI (by decide)) (by rw [ia_setI, up_ne (by omega)]; exact e0s) (fun j h0 h1 => by rw [ia_setI, up_ne (by omega)]; exact hA j h0 h1) (by rw [ia_setI, up_ne (by omega)]; exact e4s) (fun j h0 h1 => ?_)
      rw [ia_setI]
      by_cases ej : j = c
      · rw [ej, up_at, hFs.a 109 rfl]
        have := hl_getD lhb (i := c.toNat) (by omega)
        rw [show (x.1.length : Int) + (c.toNat : Int) = (x.1.length : Int) + c by omega] at this
        exact this
      · rw [up_ne (by omega)]
        exact hB j h0 (by omega)
  · intro c hc0 hc1 ih τ hSt hF e0 hall
    refine bX11_learns_14 i1 i2 i3 i4 (iR_of (by omega) (by omega)) hSt ⟨fun z => absurd z (by omega), fun _ => ⟨⟨by omega, by omega⟩, ⟨by omega, by omega⟩, iR_of (by omega) (by omega), fun _ _ _ _ _ hS5 => ?_⟩⟩
    refine ih _ hS5 (hF.setI (by decide)) (by rw [ia_setI, up_ne (by omega)]; exact e0) (fun j h0 h1 => ?_)
    rw [ia_setI]
    by_cases ej : j = c
    · rw [ej, up_at, hF.a 109 rfl]
      have := hl_getD lha (i := c.toNat) (by omega)
      rw [show (0 : Int) + (c.toNat : Int) = c by omega] at this
      exact this
    · rw [up_ne (by omega)]
      exact hall j h0 (by omega)
end LR3

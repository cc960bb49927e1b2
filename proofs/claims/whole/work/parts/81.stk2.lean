section SK2
variable {g : AG} {ad : Nat → Nat} {d : Nat} {σ : SG} {m t : Int → Int} {k : Nat}
/-- what Stacks stand on -/
def SB (s : SG) (m : Int → Int) (k : Nat) : Prop := (RK s k m) ∧ (OPT s m k) ∧ (KNT s m) ∧ (STR s m)
theorem SB.rk {s : SG} {m : Int → Int} {k : Nat} (h_ : SB s m k) : RK s k m := h_.1
theorem SB.op {s : SG} {m : Int → Int} {k : Nat} (h_ : SB s m k) : OPT s m k := h_.2.1
theorem SB.kn {s : SG} {m : Int → Int} {k : Nat} (h_ : SB s m k) : KNT s m := h_.2.2.1
theorem SB.st {s : SG} {m : Int → Int} {k : Nat} (h_ : SB s m k) : STR s m := h_.2.2.2
theorem SB.fr {s : SG} (h : SB σ m k) (hk : isK k) (hF : Fr Fcl σ s) : SB s m k := by
  have e73 : ia s 73 = ia σ 73 := hF.ia 73 (fun z => by unfold Fcl at z; omega)
  have e74 : ia s 74 = ia σ 74 := hF.ia 74 (fun z => by unfold Fcl at z; omega)
  refine ⟨h.rk.fr hF (fun c hc => Fcl_K hk c hc), h.op.fr hF (fun c hc => Fcl_O c hc), h.kn.fr hF (fun c hc => Fcl_N c hc), ?_⟩
  unfold STR StC
  rw [e73, e74]
  exact h.st
/-- the halves with a new one -/
def newS (S : SK) (κ c by_ s o : Int) : SK := (up S.ls κ 1, up S.cs κ c, up S.md κ (S.mn + 1), up S.fr κ by_, up S.bs κ s, up S.bo κ o, S.mn + 1, S.mg + (if S.ls κ = 0 then 0 else 1))
theorem cand_new {S : SK} {κ c by_ s o n : Int} (hκ : 0 ≤ κ ∧ κ < 294 * (fullM m + 1)) : ((cand m (newS S κ c by_ s o) n).length : Int) = (cand m S n).length + (if (pc (κ / 294) : Int) = n ∧ S.ls κ = 0 then 1 else 0) := by
  unfold cand
  by_cases c1 : (pc (κ / 294) : Int) = n ∧ S.ls κ = 0
  · have := filt_up (p := fun k => decide ((pc (k / 294) : Int) = n) && decide (¬ S.ls k = 0)) (p' := fun k => decide ((pc (k / 294) : Int) = n) && decide (¬ (newS S κ c by_ s o).ls k = 0)) (k0 := κ) (by
      show (decide ((pc (κ / 294) : Int) = n) && decide (¬ S.ls κ = 0)) = false
      rw [decide_eq_false (p := ¬ S.ls κ = 0) (fun z => z c1.2), Bool.and_false]) (by
      show (decide ((pc (κ / 294) : Int) = n) && decide (¬ up S.ls κ 1 κ = 0)) = true
      rw [up_at, decide_eq_true c1.1]
      rfl) (fun j hj => by
      show (decide ((pc (j / 294) : Int) = n) && decide (¬ up S.ls κ 1 j = 0)) = _
      rw [up_ne hj]) (294 * (fullM m + 1)).toNat 0 (294 * (fullM m + 1)) (by omega)
    rw [this, if_pos hκ, if_pos c1]
    omega
  · rw [if_neg c1, Int.add_zero]
    congr 2
    refine List.filter_congr (fun j hj => ?_)
    show (decide ((pc (j / 294) : Int) = n) && decide (¬ up S.ls κ 1 j = 0)) = _
    by_cases cj : j = κ
    · subst cj
      rw [up_at]
      by_cases cn : (pc (j / 294) : Int) = n
      · have hl : ¬ S.ls j = 0 := fun z => c1 ⟨cn, z⟩
        rw [decide_eq_true hl]
        rfl
      · rw [decide_eq_false cn, Bool.false_and, Bool.false_and]
    · rw [up_ne cj]
theorem low_new {S : SK} {κ c by_ s o n v : Int} (hκ : 0 ≤ κ ∧ κ < 294 * (fullM m + 1)) (hL : LowP m S n v) (hc : ¬ S.ls κ = 0 → c < S.cs κ) (hs0 : ∀ k ∈ cand m S n, 0 ≤ sco m S k) : LowP m (newS S κ c by_ s o) n (if (pc (κ / 294) : Int) = n then (if v = -1 then c + ahM m (κ / 294) else min v (c + ahM m (κ / 294))) else v) := by
  have hsc : ∀ j, sco m (newS S κ c by_ s o) j = if j = κ then c + ahM m (κ / 294) else sco m S j := fun j => by
    show up S.cs κ c j + ahM m (j / 294) = _
    by_cases cj : j = κ
    · rw [cj, up_at, if_pos rfl]
    · rw [up_ne cj, if_neg cj]
      rfl
  have hmem : ∀ j, j ∈ cand m (newS S κ c by_ s o) n ↔ (j = κ ∧ (pc (κ / 294) : Int) = n) ∨ (¬ j = κ ∧ j ∈ cand m S n) := fun j => by
    rw [mem_cand, mem_cand]
    show (0 ≤ j ∧ j < 294 * (fullM m + 1)) ∧ (pc (j / 294) : Int) = n ∧ ¬ up S.ls κ 1 j = 0 ↔ _
    by_cases cj : j = κ
    · subst cj
      rw [up_at]
      constructor
      · rintro ⟨z1, z2, z3⟩; exact Or.inl ⟨rfl, z2⟩
      · rintro (⟨-, z⟩ | ⟨z, -⟩)
        · exact ⟨hκ, z, by decide⟩
        · exact absurd rfl z
    · rw [up_ne cj]
      constructor
      · intro z; exact Or.inr ⟨cj, z⟩
      · rintro (⟨z, -⟩ | ⟨-, z⟩)
        · exact absurd z cj
        · exact z
  by_cases cn : (pc (κ / 294) : Int) = n
  · rw [if_pos cn]
    have hκm : κ ∈ cand m (newS S κ c by_ s o) n := (hmem κ).mpr (Or.inl ⟨rfl, cn⟩)
    have hκs : sco m (newS S κ c by_ s o) κ = c + ahM m (κ / 294) := by rw [hsc, if_pos rfl]
    rcases hL with ⟨e, h1⟩ | ⟨⟨a, ha, e⟩, h1⟩
    · rw [if_pos e]
      refine Or.inr ⟨⟨κ, hκm, hκs.symm⟩, fun j hj => ?_⟩
      rcases (hmem j).mp hj with ⟨z, -⟩ | ⟨-, z⟩
      · rw [z, hκs]; exact Int.le_refl _
      · exact absurd z (h1 j)
    · by_cases ev : v = -1
      · have := hs0 a ha
        omega
      · rw [if_neg ev]
        refine Or.inr ⟨?_, fun j hj => ?_⟩
        · by_cases cm : c + ahM m (κ / 294) ≤ v
          · exact ⟨κ, hκm, by rw [hκs]; omega⟩
          · have hne : ¬ a = κ := fun z => by
              subst z
              have h2 := (mem_cand.mp ha).2.2
              have := hc h2
              unfold sco at e
              omega
            exact ⟨a, (hmem a).mpr (Or.inr ⟨hne, ha⟩), by rw [hsc, if_neg hne]; omega⟩
        · rcases (hmem j).mp hj with ⟨z, -⟩ | ⟨z1, z⟩
          · rw [z, hκs]; omega
          · rw [hsc, if_neg z1]
            have := h1 j z
            omega
  · rw [if_neg cn]
    rcases hL with ⟨e, h1⟩ | ⟨⟨a, ha, e⟩, h1⟩
    · refine Or.inl ⟨e, fun j hj => ?_⟩
      rcases (hmem j).mp hj with ⟨-, z⟩ | ⟨-, z⟩
      · exact cn z
      · exact h1 j z
    · have hne : ∀ j, j ∈ cand m S n → ¬ j = κ := fun j hj z => by
        subst z
        exact cn (mem_cand.mp hj).2.1
      refine Or.inr ⟨⟨a, (hmem a).mpr (Or.inr ⟨hne a ha, ha⟩), by rw [hsc, if_neg (hne a ha)]; exact e⟩, fun j hj => ?_⟩
      rcases (hmem j).mp hj with ⟨-, z⟩ | ⟨z1, z⟩
      · exact absurd z cn
      · rw [hsc, if_neg z1]
        exact h1 j z
theorem f_lay {S : SK} {i c p j fr_ bs_ bo_ : Int} (hk : isK k) (hB : SB σ m k) (hW : WF m) (hI : IS m S) (hC : SCl σ m S) (hmn : sc σ 75 12 = S.mn + 1) (hmb : -1 ≤ S.mn ∧ S.mn ≤ 1000000) (hi : 0 ≤ i ∧ i < kN σ) (hc : 0 ≤ c ∧ c ≤ 4000) (hpj : (fr_ = -1 ∧ p = -1 ∧ j = -1) ∨ ((0 ≤ p ∧ p < kN σ) ∧ kK σ p = fr_ ∧ 0 ≤ j ∧ (ops m)[j.toNat]? = some (bs_, bo_))) (hS : SR σ) (hd : 2 ≤ d) : Eb g ad d mX7_lay 0 0 [.ref (ad 75), vi i, vi c, vi p, vi j] σ (Kv fun s => SCl s m (lieS S (kK σ i) c fr_ bs_ bo_) ∧ Fr Fcl σ s ∧ sc s 75 12 = S.mn + 1 ∧ sc s 75 11 = sc σ 75 11 ∧ sc s 75 14 = sc σ 75 14 ∧ ia s 82 = ia σ 82 ∧ la s 82 = la σ 82 ∧ ia s 83 = ia σ 83) := by
  have hnb := hB.kn.nb
  have hlen := ops_len hW.1
  have hv := (hB.kn.vd i hi.1 hi.2).1
  have hvb := vC_b hW.1 hv
  have hks := keyC_s hW.1 hv
  have hpc := full_pc hW.1 hvb.1
  have h3 := hW.1.2.2.2.1
  have hah := ahM_b hW (ia σ 60 i / 287)
  have hmg := hI.mgb
  have ii : iR i := iR_of (by omega) (by omega)
  have ic : iR c := iR_of (by omega) (by omega)
  have hjb : -1 ≤ j ∧ j < 186 := by
    rcases hpj with z | ⟨-, -, z1, z2⟩
    · omega
    · have := (List.getElem?_eq_some_iff.mp z2).1
      omega
  have hpb : -1 ≤ p ∧ p < 7913 := by rcases hpj with z | z <;> omega
  have hkk : kK σ i / 294 = ia σ 60 i / 287 := hks.1
  have hκr : 0 ≤ kK σ i ∧ kK σ i < 294 * (fullM m + 1) := hks.2.1
  have hs0 : ∀ n, ∀ q ∈ cand m S n, 0 ≤ sco m S q := fun n q hq => by
    have h1 := (hI.cst q (mem_cand.mp hq).2.2).1
    have h2 := (ahM_b hW (q / 294)).1
    unfold sco
    omega
  have hinj : ∀ i', 0 ≤ i' → i' < kN σ → kK σ i' = kK σ i → i' = i := fun i' h0 h1 e => by
    have h2 := hB.kn.vd i' h0 h1
    have h4 := hB.kn.vd i hi.1 hi.2
    have := keyC_inj hW.1 h2.1 h4.1 e
    rw [this, h4.2] at h2
    omega
  refine EbS rfl pl_X7 rfl rfl (bX7_lay_0 ii ic (iR_of (by omega) (by omega)) (iR_of (by omega) (by omega)) hS ?_)
  refine EI.k (n_mask (d := d - 1) ⟨hi.1, by omega⟩ hv.1 hS) (by omega) (fun _ _ => ?_)
  refine EI.k (j_bitCount (d := d - 1) hvb.2.1 hS) (by omega) (fun _ _ => ⟨⟨hi.1, by omega⟩, ?_⟩)
  generalize hn : (pc (ia σ 60 i / 287) : Int) = n
  rw [hn] at hpc
  have hnb2 : 0 ≤ n ∧ n ≤ m 3 := ⟨by omega, hpc.1⟩
  have hlow := low_P hI hW n
  rw [← hC.lo n hnb2.1 hnb2.2] at hlow
  have hcnt := hC.ct n hnb2.1 hnb2.2
  have hcl := List.length_filter_le (fun k => decide ((pc (k / 294) : Int) = n) && decide (¬ S.ls k = 0)) (ir 0 (294 * (fullM m + 1)))
  rw [ir_length] at hcl
  have hcl' : (cand m S n).length ≤ (294 * (fullM m + 1) - 0).toNat := hcl
  have hfb := fullM_b hW.1
  -- a new half, or a cheaper one
  have fin : ∀ (s : SG) (w : Int), SR s → (¬ S.ls (kK σ i) = 0 → c < S.cs (kK σ i)) → Fr Fcl σ s → sc s 75 13 = S.mg + (if S.ls (kK σ i) = 0 then 0 else 1) → sc s 75 12 = S.mn + 1 → sc s 75 11 = sc σ 75 11 → sc s 75 14 = sc σ 75 14 → (ia s 82 = ia σ 82 ∧ la s 82 = la σ 82 ∧ ia s 83 = ia σ 83) → ia s 80 = (if S.ls (kK σ i) = 0 then up (ia σ 80) n (ia σ 80 n + 1) else ia σ 80) → ia s 76 = up (ia σ 76) i c → ia s 77 = up (ia σ 77) i (S.mn + 1) → ia s 78 = up (ia σ 78) i p → ia s 79 = up (ia σ 79) i j → ia s 81 = up (ia σ 81) n w → w = (if ia σ 81 n = -1 then c + ahM m (ia σ 60 i / 287) else min (ia σ 81 n) (c + ahM m (ia σ 60 i / 287))) → SCl s m (lieS S (kK σ i) c fr_ bs_ bo_) ∧ Fr Fcl σ s ∧ sc s 75 12 = S.mn + 1 ∧ sc s 75 11 = sc σ 75 11 ∧ sc s 75 14 = sc σ 75 14 ∧ ia s 82 = ia σ 82 ∧ la s 82 = la σ 82 ∧ ia s 83 = ia σ 83 := by
    intro s w hSs hcc hF emg e12 e11 e14 e8 e80 e76 e77 e78 e79 e81 ew
    refine ⟨?_, hF, e12, e11, e14, e8⟩
    have eS : lieS S (kK σ i) c fr_ bs_ bo_ = newS S (kK σ i) c fr_ bs_ bo_ := by
      unfold lieS
      rw [if_neg (fun z => by have := hcc z.1; omega)]
      rfl
    rw [eS]
    have e60 : ia s 60 = ia σ 60 := hF.ia 60 (fun z => by unfold Fcl at z; omega)
    have e5 : kN s = kN σ := hF.sc 58 5 (fun z => by unfold Fcl at z; omega)
    have ekK : ∀ i', kK s i' = kK σ i' := fun i' => by show keyC (ia s 60 i') = keyC (ia σ 60 i'); rw [e60]
    have hls : ∀ i', 0 ≤ i' → i' < kN σ → ¬ i' = i → ¬ kK σ i' = kK σ i := fun i' a b hne z => hne (hinj i' a b z)
    refine ⟨fun i' a b => ?_, fun i' a b hl => ?_, fun i' a b hl => ?_, fun q hq => ?_, ?_, fun n' a b => ?_, fun n' a b => ?_⟩
    · rw [e5] at b
      rw [ekK]
      show up S.ls (kK σ i) 1 (kK σ i') = 0 ↔ _
      rw [e77]
      by_cases c1 : i' = i
      · rw [c1, up_at, up_at]
        omega
      · rw [up_ne (hls i' a b c1), up_ne c1]
        exact hC.tm i' a b
    · rw [e5] at b
      rw [ekK] at hl ⊢
      show ia s 76 i' = up S.cs (kK σ i) c (kK σ i') ∧ ia s 77 i' = up S.md (kK σ i) (S.mn + 1) (kK σ i')
      rw [e76, e77]
      by_cases c1 : i' = i
      · rw [c1, up_at, up_at, up_at, up_at]
        exact ⟨rfl, rfl⟩
      · have hl' : ¬ up S.ls (kK σ i) 1 (kK σ i') = 0 := hl
        rw [up_ne (hls i' a b c1)] at hl'
        rw [up_ne c1, up_ne c1, up_ne (hls i' a b c1), up_ne (hls i' a b c1)]
        exact hC.cs_ i' a b hl'
    · rw [e5] at b ⊢
      rw [ekK] at hl ⊢
      rw [ekK]
      show (up S.fr (kK σ i) fr_ (kK σ i') = -1 ∧ ia s 78 i' = -1 ∧ ia s 79 i' = -1) ∨ ((0 ≤ ia s 78 i' ∧ ia s 78 i' < kN σ) ∧ kK σ (ia s 78 i') = up S.fr (kK σ i) fr_ (kK σ i') ∧ 0 ≤ ia s 79 i' ∧ (ops m)[(ia s 79 i').toNat]? = some (up S.bs (kK σ i) bs_ (kK σ i'), up S.bo (kK σ i) bo_ (kK σ i')))
      rw [e78, e79]
      by_cases c1 : i' = i
      · rw [c1, up_at, up_at, up_at, up_at, up_at]
        exact hpj
      · have hl' : ¬ up S.ls (kK σ i) 1 (kK σ i') = 0 := hl
        rw [up_ne (hls i' a b c1)] at hl'
        rw [up_ne c1, up_ne c1, up_ne (hls i' a b c1), up_ne (hls i' a b c1), up_ne (hls i' a b c1)]
        exact hC.pa i' a b hl'
    · have hq' : ¬ up S.ls (kK σ i) 1 q = 0 := hq
      by_cases c1 : q = kK σ i
      · exact ⟨i, by rw [e5]; exact hi, by rw [ekK]; exact c1.symm⟩
      · rw [up_ne c1] at hq'
        obtain ⟨i', h1, h2⟩ := hC.al q hq'
        exact ⟨i', by rw [e5]; exact h1, by rw [ekK]; exact h2⟩
    · exact emg
    · rw [cand_new hκr, e80, hkk, hn]
      by_cases c2 : S.ls (kK σ i) = 0
      · rw [if_pos c2]
        by_cases c3 : n' = n
        · rw [c3, up_at, if_pos ⟨rfl, c2⟩, hcnt]
        · rw [up_ne c3, if_neg (fun z => c3 z.1.symm), Int.add_zero]
          exact hC.ct n' a b
      · rw [if_neg c2, if_neg (fun z => c2 z.2), Int.add_zero]
        exact hC.ct n' a b
    · have hl' := low_P hI hW n'
      rw [← hC.lo n' a b] at hl'
      have h1 := low_new (m := m) (S := S) (κ := kK σ i) (c := c) (by_ := fr_) (s := bs_) (o := bo_) hκr hl' hcc (hs0 n')
      rw [hkk, hn] at h1
      have hIn : LowP m (newS S (kK σ i) c fr_ bs_ bo_) n' (lowM m (newS S (kK σ i) c fr_ bs_ bo_) n') := by
        have hsn : ∀ q ∈ cand m (newS S (kK σ i) c fr_ bs_ bo_) n', 0 ≤ sco m (newS S (kK σ i) c fr_ bs_ bo_) q := fun q hq => by
          have h2 := (ahM_b hW (q / 294)).1
          show 0 ≤ up S.cs (kK σ i) c q + ahM m (q / 294)
          have h5 := (mem_cand.mp hq).2.2
          have h5' : ¬ up S.ls (kK σ i) 1 q = 0 := h5
          by_cases c1 : q = kK σ i
          · rw [c1, up_at]
            rw [c1] at h2
            omega
          · rw [up_ne c1] at h5' ⊢
            have := (hI.cst q h5').1
            omega
        rcases (low_fold (cand m (newS S (kK σ i) c fr_ bs_ bo_) n') (-1) hsn).1 rfl with ⟨z1, z2⟩ | z
        · exact Or.inl ⟨z2, fun q hq => by rw [z1] at hq; cases hq⟩
        · exact Or.inr z
      rw [low_u hIn h1, e81]
      by_cases c3 : n' = n
      · subst c3
        rw [up_at, if_pos rfl, ew]
      · rw [up_ne c3, if_neg (fun z => c3 z.symm)]
  -- the least score of the stack
  have post : ∀ s0 : SG, SR s0 → (∀ w, w = (if ia σ 81 n = -1 then c + ahM m (ia σ 60 i / 287) else min (ia σ 81 n) (c + ahM m (ia σ 60 i / 287))) → SR (setI s0 81 n w) → SCl (setI s0 81 n w) m (lieS S (kK σ i) c fr_ bs_ bo_) ∧ Fr Fcl σ (setI s0 81 n w) ∧ sc (setI s0 81 n w) 75 12 = S.mn + 1 ∧ sc (setI s0 81 n w) 75 11 = sc σ 75 11 ∧ sc (setI s0 81 n w) 75 14 = sc σ 75 14 ∧ ia (setI s0 81 n w) 82 = ia σ 82 ∧ la (setI s0 81 n w) 82 = la σ 82 ∧ ia (setI s0 81 n w) 83 = ia σ 83) → ia s0 81 = ia σ 81 → ((¬ (ia s0 81 n) = ((-1)) → Cl g ad d mJ9_min_7cf53 0 0 [(vi (ia s0 81 n)), (vi (c + ahM m (ia σ 60 i / 287)))] s0 (Ki fun r7 s7 => (SR (setI s7 81 n r7) → Kv (fun s => SCl s m (lieS S (kK σ i) c fr_ bs_ bo_) ∧ Fr Fcl σ s ∧ sc s 75 12 = S.mn + 1 ∧ sc s 75 11 = sc σ 75 11 ∧ sc s 75 14 = sc σ 75 14 ∧ ia s 82 = ia σ 82 ∧ la s 82 = la σ 82 ∧ ia s 83 = ia σ 83) (.inl none) (setI s7 81 n r7)))) ∧ ((ia s0 81 n) = ((-1)) → (SR (setI s0 81 n (c + ahM m (ia σ 60 i / 287))) → Kv (fun s => SCl s m (lieS S (kK σ i) c fr_ bs_ bo_) ∧ Fr Fcl σ s ∧ sc s 75 12 = S.mn + 1 ∧ sc s 75 11 = sc σ 75 11 ∧ sc s 75 14 = sc σ 75 14 ∧ ia s 82 = ia σ 82 ∧ la s 82 = la σ 82 ∧ ia s 83 = ia σ 83) (.inl none) (setI s0 81 n (c + ahM m (ia σ 60 i / 287)))))) := by
    intro s0 hS0 hfin e81
    rw [e81]
    refine ⟨fun c1 => ?_, fun c1 => re_v (hfin _ (by rw [if_pos c1]) (SR_setI hS0 (iR_of (by omega) (by omega))))⟩
    refine EI.k (j_min (d := d - 1) (hS.1 81 _) (iR_of (by omega) (by omega)) hS0) (by omega) (fun _ _ hS7 => ⟨rfl, hS7, hfin _ (by rw [if_neg c1]) hS7⟩)
  have htm := hC.tm i hi.1 hi.2
  refine ⟨fun c1 => ⟨⟨by omega, by omega⟩, iR_of (by omega) (by omega), ?_⟩, fun c1 => ?_⟩
  · have hls0 : S.ls (kK σ i) = 0 := htm.mpr c1
    simp (config := {decide := true}) only [sc_S, ia_S, la_S, rv_S, sc_I, rv_I, la_I, ia_I, sc_L, rv_L, ia_L, la_L, sc_A, rv_A, la_A, ia_A, sc_B, rv_B, ia_B, la_B, sc_R, ia_R, la_R, rv_R, ia_w, la_w, rv_w, sc_w, if_true, if_false]
    rw [hmn]
    generalize hs0e : setI (setI (setI (setI (setI σ 80 n (ia σ 80 n + 1)) 76 i c) 77 i (S.mn + 1)) 78 i p) 79 i j = s0
    have hF0 : Fr Fcl σ s0 := by
      rw [← hs0e]
      exact (((((Fr.refl σ).I ⟨by omega, by omega⟩).I ⟨by omega, by omega⟩).I ⟨by omega, by omega⟩).I ⟨by omega, by omega⟩).I ⟨by omega, by omega⟩
    have hS0 : SR s0 := by
      rw [← hs0e]
      exact SR_setI (SR_setI (SR_setI (SR_setI (SR_setI hS (iR_of (by omega) (by omega))) ic) (iR_of (by omega) (by omega))) (iR_of (by omega) (by omega))) (iR_of (by omega) (by omega))
    have e76 : ia s0 76 = up (ia σ 76) i c := by rw [← hs0e]; simp (config := {decide := true}) only [sc_S, ia_S, la_S, rv_S, sc_I, rv_I, la_I, ia_I, sc_L, rv_L, ia_L, la_L, sc_A, rv_A, la_A, ia_A, sc_B, rv_B, ia_B, la_B, sc_R, ia_R, la_R, rv_R, ia_w, la_w, rv_w, sc_w, if_true, if_false]
    have e60 : ia s0 60 = ia σ 60 := hF0.ia 60 (fun z => by unfold Fcl at z; omega)
    have e5 : kN s0 = kN σ := hF0.sc 58 5 (fun z => by unfold Fcl at z; omega)
    have hB0 := hB.fr hk hF0
    have e76i : ia s0 76 i = c := by rw [e76, up_at]
    refine EI.k (f_score (d := d - 1) hB0.kn hB0.st hW (by rw [e5]; exact hi) (by rw [e76i]; omega) hS0 (by omega)) (by omega) (fun _ _ => ?_)
    rw [e76i, e60]
    refine post s0 hS0 (fun w hw hSw => fin _ w hSw (fun z => absurd hls0 z) (hF0.I ⟨by omega, by omega⟩) ?_ ?_ ?_ ?_ ?_ ?_ ?_ ?_ ?_ ?_ ?_ hw) ?_
    · rw [if_pos hls0, Int.add_zero, ← hs0e]
      simp (config := {decide := true}) only [sc_S, ia_S, la_S, rv_S, sc_I, rv_I, la_I, ia_I, sc_L, rv_L, ia_L, la_L, sc_A, rv_A, la_A, ia_A, sc_B, rv_B, ia_B, la_B, sc_R, ia_R, la_R, rv_R, ia_w, la_w, rv_w, sc_w, if_true, if_false]
      exact hC.mg_
    · rw [← hs0e]; simp (config := {decide := true}) only [sc_S, ia_S, la_S, rv_S, sc_I, rv_I, la_I, ia_I, sc_L, rv_L, ia_L, la_L, sc_A, rv_A, la_A, ia_A, sc_B, rv_B, ia_B, la_B, sc_R, ia_R, la_R, rv_R, ia_w, la_w, rv_w, sc_w, if_true, if_false]; exact hmn
    · rw [← hs0e]; simp (config := {decide := true}) only [sc_S, ia_S, la_S, rv_S, sc_I, rv_I, la_I, ia_I, sc_L, rv_L, ia_L, la_L, sc_A, rv_A, la_A, ia_A, sc_B, rv_B, ia_B, la_B, sc_R, ia_R, la_R, rv_R, ia_w, la_w, rv_w, sc_w, if_true, if_false]
    · rw [← hs0e]; simp (config := {decide := true}) only [sc_S, ia_S, la_S, rv_S, sc_I, rv_I, la_I, ia_I, sc_L, rv_L, ia_L, la_L, sc_A, rv_A, la_A, ia_A, sc_B, rv_B, ia_B, la_B, sc_R, ia_R, la_R, rv_R, ia_w, la_w, rv_w, sc_w, if_true, if_false]
    · rw [← hs0e]
      refine ⟨?_, ?_, ?_⟩ <;> simp (config := {decide := true}) only [sc_S, ia_S, la_S, rv_S, sc_I, rv_I, la_I, ia_I, sc_L, rv_L, ia_L, la_L, sc_A, rv_A, la_A, ia_A, sc_B, rv_B, ia_B, la_B, sc_R, ia_R, la_R, rv_R, ia_w, la_w, rv_w, sc_w, if_true, if_false]
    · rw [if_pos hls0, ← hs0e]; simp (config := {decide := true}) only [sc_S, ia_S, la_S, rv_S, sc_I, rv_I, la_I, ia_I, sc_L, rv_L, ia_L, la_L, sc_A, rv_A, la_A, ia_A, sc_B, rv_B, ia_B, la_B, sc_R, ia_R, la_R, rv_R, ia_w, la_w, rv_w, sc_w, if_true, if_false]
    · rw [← hs0e]; simp (config := {decide := true}) only [sc_S, ia_S, la_S, rv_S, sc_I, rv_I, la_I, ia_I, sc_L, rv_L, ia_L, la_L, sc_A, rv_A, la_A, ia_A, sc_B, rv_B, ia_B, la_B, sc_R, ia_R, la_R, rv_R, ia_w, la_w, rv_w, sc_w, if_true, if_false]
    · rw [← hs0e]; simp (config := {decide := true}) only [sc_S, ia_S, la_S, rv_S, sc_I, rv_I, la_I, ia_I, sc_L, rv_L, ia_L, la_L, sc_A, rv_A, la_A, ia_A, sc_B, rv_B, ia_B, la_B, sc_R, ia_R, la_R, rv_R, ia_w, la_w, rv_w, sc_w, if_true, if_false]
    · rw [← hs0e]; simp (config := {decide := true}) only [sc_S, ia_S, la_S, rv_S, sc_I, rv_I, la_I, ia_I, sc_L, rv_L, ia_L, la_L, sc_A, rv_A, la_A, ia_A, sc_B, rv_B, ia_B, la_B, sc_R, ia_R, la_R, rv_R, ia_w, la_w, rv_w, sc_w, if_true, if_false]
    · rw [← hs0e]; simp (config := {decide := true}) only [sc_S, ia_S, la_S, rv_S, sc_I, rv_I, la_I, ia_I, sc_L, rv_L, ia_L, la_L, sc_A, rv_A, la_A, ia_A, sc_B, rv_B, ia_B, la_B, sc_R, ia_R, la_R, rv_R, ia_w, la_w, rv_w, sc_w, if_true, if_false]
    · rw [← hs0e]; simp (config := {decide := true}) only [sc_S, ia_S, la_S, rv_S, sc_I, rv_I, la_I, ia_I, sc_L, rv_L, ia_L, la_L, sc_A, rv_A, la_A, ia_A, sc_B, rv_B, ia_B, la_B, sc_R, ia_R, la_R, rv_R, ia_w, la_w, rv_w, sc_w, if_true, if_false]
    · rw [← hs0e]; simp (config := {decide := true}) only [sc_S, ia_S, la_S, rv_S, sc_I, rv_I, la_I, ia_I, sc_L, rv_L, ia_L, la_L, sc_A, rv_A, la_A, ia_A, sc_B, rv_B, ia_B, la_B, sc_R, ia_R, la_R, rv_R, ia_w, la_w, rv_w, sc_w, if_true, if_false]
  · have hls1 : ¬ S.ls (kK σ i) = 0 := fun z => c1 (htm.mp z)
    have hcs := hC.cs_ i hi.1 hi.2 hls1
    simp (config := {decide := true}) only [sc_S, ia_S, la_S, rv_S, sc_I, rv_I, la_I, ia_I, sc_L, rv_L, ia_L, la_L, sc_A, rv_A, la_A, ia_A, sc_B, rv_B, ia_B, la_B, sc_R, ia_R, la_R, rv_R, ia_w, la_w, rv_w, sc_w, if_true, if_false]
    rw [hC.mg_, hcs.1, hmn]
    refine ⟨iR_of (by omega) (by omega), fun c2 => ?_, fun c2 => re_v ?_⟩
    · generalize hs0e : setI (setI (setI (setI (setS σ 75 13 (S.mg + 1)) 76 i c) 77 i (S.mn + 1)) 78 i p) 79 i j = s0
      have hF0 : Fr Fcl σ s0 := by
        rw [← hs0e]
        exact (((((Fr.refl σ).S ⟨by omega, by omega⟩).I ⟨by omega, by omega⟩).I ⟨by omega, by omega⟩).I ⟨by omega, by omega⟩).I ⟨by omega, by omega⟩
      have hS0 : SR s0 := by
        rw [← hs0e]
        exact SR_setI (SR_setI (SR_setI (SR_setI (SR_setS hS (iR_of (by omega) (by omega))) ic) (iR_of (by omega) (by omega))) (iR_of (by omega) (by omega))) (iR_of (by omega) (by omega))
      have e76 : ia s0 76 = up (ia σ 76) i c := by rw [← hs0e]; simp (config := {decide := true}) only [sc_S, ia_S, la_S, rv_S, sc_I, rv_I, la_I, ia_I, sc_L, rv_L, ia_L, la_L, sc_A, rv_A, la_A, ia_A, sc_B, rv_B, ia_B, la_B, sc_R, ia_R, la_R, rv_R, ia_w, la_w, rv_w, sc_w, if_true, if_false]
      have e60 : ia s0 60 = ia σ 60 := hF0.ia 60 (fun z => by unfold Fcl at z; omega)
      have e5 : kN s0 = kN σ := hF0.sc 58 5 (fun z => by unfold Fcl at z; omega)
      have hB0 := hB.fr hk hF0
      have e76i : ia s0 76 i = c := by rw [e76, up_at]
      refine EI.k (f_score (d := d - 1) hB0.kn hB0.st hW (by rw [e5]; exact hi) (by rw [e76i]; omega) hS0 (by omega)) (by omega) (fun _ _ => ⟨⟨by omega, by omega⟩, ?_⟩)
      rw [e76i, e60]
      refine post s0 hS0 (fun w hw hSw => fin _ w hSw (fun _ => c2) (hF0.I ⟨by omega, by omega⟩) ?_ ?_ ?_ ?_ ?_ ?_ ?_ ?_ ?_ ?_ ?_ hw) ?_
      · rw [if_neg hls1, ← hs0e]; simp (config := {decide := true}) only [sc_S, ia_S, la_S, rv_S, sc_I, rv_I, la_I, ia_I, sc_L, rv_L, ia_L, la_L, sc_A, rv_A, la_A, ia_A, sc_B, rv_B, ia_B, la_B, sc_R, ia_R, la_R, rv_R, ia_w, la_w, rv_w, sc_w, if_true, if_false]
      · rw [← hs0e]; simp (config := {decide := true}) only [sc_S, ia_S, la_S, rv_S, sc_I, rv_I, la_I, ia_I, sc_L, rv_L, ia_L, la_L, sc_A, rv_A, la_A, ia_A, sc_B, rv_B, ia_B, la_B, sc_R, ia_R, la_R, rv_R, ia_w, la_w, rv_w, sc_w, if_true, if_false]; exact hmn
      · rw [← hs0e]; simp (config := {decide := true}) only [sc_S, ia_S, la_S, rv_S, sc_I, rv_I, la_I, ia_I, sc_L, rv_L, ia_L, la_L, sc_A, rv_A, la_A, ia_A, sc_B, rv_B, ia_B, la_B, sc_R, ia_R, la_R, rv_R, ia_w, la_w, rv_w, sc_w, if_true, if_false]
      · rw [← hs0e]; simp (config := {decide := true}) only [sc_S, ia_S, la_S, rv_S, sc_I, rv_I, la_I, ia_I, sc_L, rv_L, ia_L, la_L, sc_A, rv_A, la_A, ia_A, sc_B, rv_B, ia_B, la_B, sc_R, ia_R, la_R, rv_R, ia_w, la_w, rv_w, sc_w, if_true, if_false]
      · rw [← hs0e]
        refine ⟨?_, ?_, ?_⟩ <;> simp (config := {decide := true}) only [sc_S, ia_S, la_S, rv_S, sc_I, rv_I, la_I, ia_I, sc_L, rv_L, ia_L, la_L, sc_A, rv_A, la_A, ia_A, sc_B, rv_B, ia_B, la_B, sc_R, ia_R, la_R, rv_R, ia_w, la_w, rv_w, sc_w, if_true, if_false]
      · rw [if_neg hls1, ← hs0e]; simp (config := {decide := true}) only [sc_S, ia_S, la_S, rv_S, sc_I, rv_I, la_I, ia_I, sc_L, rv_L, ia_L, la_L, sc_A, rv_A, la_A, ia_A, sc_B, rv_B, ia_B, la_B, sc_R, ia_R, la_R, rv_R, ia_w, la_w, rv_w, sc_w, if_true, if_false]
      · rw [← hs0e]; simp (config := {decide := true}) only [sc_S, ia_S, la_S, rv_S, sc_I, rv_I, la_I, ia_I, sc_L, rv_L, ia_L, la_L, sc_A, rv_A, la_A, ia_A, sc_B, rv_B, ia_B, la_B, sc_R, ia_R, la_R, rv_R, ia_w, la_w, rv_w, sc_w, if_true, if_false]
      · rw [← hs0e]; simp (config := {decide := true}) only [sc_S, ia_S, la_S, rv_S, sc_I, rv_I, la_I, ia_I, sc_L, rv_L, ia_L, la_L, sc_A, rv_A, la_A, ia_A, sc_B, rv_B, ia_B, la_B, sc_R, ia_R, la_R, rv_R, ia_w, la_w, rv_w, sc_w, if_true, if_false]
      · rw [← hs0e]; simp (config := {decide := true}) only [sc_S, ia_S, la_S, rv_S, sc_I, rv_I, la_I, ia_I, sc_L, rv_L, ia_L, la_L, sc_A, rv_A, la_A, ia_A, sc_B, rv_B, ia_B, la_B, sc_R, ia_R, la_R, rv_R, ia_w, la_w, rv_w, sc_w, if_true, if_false]
      · rw [← hs0e]; simp (config := {decide := true}) only [sc_S, ia_S, la_S, rv_S, sc_I, rv_I, la_I, ia_I, sc_L, rv_L, ia_L, la_L, sc_A, rv_A, la_A, ia_A, sc_B, rv_B, ia_B, la_B, sc_R, ia_R, la_R, rv_R, ia_w, la_w, rv_w, sc_w, if_true, if_false]
      · rw [← hs0e]; simp (config := {decide := true}) only [sc_S, ia_S, la_S, rv_S, sc_I, rv_I, la_I, ia_I, sc_L, rv_L, ia_L, la_L, sc_A, rv_A, la_A, ia_A, sc_B, rv_B, ia_B, la_B, sc_R, ia_R, la_R, rv_R, ia_w, la_w, rv_w, sc_w, if_true, if_false]
      · rw [← hs0e]; simp (config := {decide := true}) only [sc_S, ia_S, la_S, rv_S, sc_I, rv_I, la_I, ia_I, sc_L, rv_L, ia_L, la_L, sc_A, rv_A, la_A, ia_A, sc_B, rv_B, ia_B, la_B, sc_R, ia_R, la_R, rv_R, ia_w, la_w, rv_w, sc_w, if_true, if_false]
    · have eS : lieS S (kK σ i) c fr_ bs_ bo_ = (S.ls, S.cs, S.md, S.fr, S.bs, S.bo, S.mn + 1, S.mg + 1) := by
        unfold lieS
        rw [if_pos ⟨hls1, by omega⟩]
      rw [eS]
      refine ⟨⟨hC.tm, hC.cs_, hC.pa, hC.al, ?_, hC.ct, hC.lo⟩, (Fr.refl σ).S ⟨by omega, by omega⟩, ?_, ?_, ?_, rfl, rfl, rfl⟩
      · simp (config := {decide := true}) only [sc_S, ia_S, la_S, rv_S, sc_I, rv_I, la_I, ia_I, sc_L, rv_L, ia_L, la_L, sc_A, rv_A, la_A, ia_A, sc_B, rv_B, ia_B, la_B, sc_R, ia_R, la_R, rv_R, ia_w, la_w, rv_w, sc_w, if_true, if_false]
      · simp (config := {decide := true}) only [sc_S, ia_S, la_S, rv_S, sc_I, rv_I, la_I, ia_I, sc_L, rv_L, ia_L, la_L, sc_A, rv_A, la_A, ia_A, sc_B, rv_B, ia_B, la_B, sc_R, ia_R, la_R, rv_R, ia_w, la_w, rv_w, sc_w, if_true, if_false]; exact hmn
      · simp (config := {decide := true}) only [sc_S, ia_S, la_S, rv_S, sc_I, rv_I, la_I, ia_I, sc_L, rv_L, ia_L, la_L, sc_A, rv_A, la_A, ia_A, sc_B, rv_B, ia_B, la_B, sc_R, ia_R, la_R, rv_R, ia_w, la_w, rv_w, sc_w, if_true, if_false]
      · simp (config := {decide := true}) only [sc_S, ia_S, la_S, rv_S, sc_I, rv_I, la_I, ia_I, sc_L, rv_L, ia_L, la_L, sc_A, rv_A, la_A, ia_A, sc_B, rv_B, ia_B, la_B, sc_R, ia_R, la_R, rv_R, ia_w, la_w, rv_w, sc_w, if_true, if_false]
end SK2

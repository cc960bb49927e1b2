section LI2
variable {g : AG} {ad : Nat → Nat} {d : Nat} {σ : SG} {m t : Int → Int} {k : Nat}
def sR (f : Int → Int) (a b : Int) : Int := ((ir a b).map f).sum
theorem sR_nil {f : Int → Int} {a b : Int} (h : b ≤ a) : sR f a b = 0 := by unfold sR; rw [ir_nil h]; rfl
theorem sR_cons {f : Int → Int} {a b : Int} (h : a < b) : sR f a b = f a + sR f (a + 1) b := by
  unfold sR
  rw [ir_cons h, List.map_cons, List.sum_cons]
theorem sR_snoc {f : Int → Int} : ∀ (n : Nat) (a b : Int), b = a + n → sR f a (b + 1) = sR f a b + f b
  | 0, a, b, h => by rw [show b = a by omega, sR_cons (by omega), sR_nil (by omega), sR_nil (Int.le_refl a)]; omega
  | n + 1, a, b, h => by
    have h1 := sR_cons (f := f) (a := a) (b := b + 1) (by omega)
    have h2 := sR_cons (f := f) (a := a) (b := b) (by omega)
    have h3 := sR_snoc (f := f) n (a + 1) b (by omega)
    omega
theorem sR_cong {f f' : Int → Int} : ∀ (n : Nat) (a b : Int), b = a + n → (∀ i, a ≤ i → i < b → f' i = f i) → sR f' a b = sR f a b
  | 0, a, b, h, _ => by rw [sR_nil (by omega), sR_nil (by omega)]
  | n + 1, a, b, h, he => by
    have h1 := sR_cons (f := f) (a := a) (b := b) (by omega)
    have h2 := sR_cons (f := f') (a := a) (b := b) (by omega)
    have h3 := sR_cong (f := f) (f' := f') n (a + 1) b (by omega) (fun i x y => he i (by omega) y)
    have h4 := he a (Int.le_refl _) (by omega)
    omega
theorem sR_one {f f' : Int → Int} {i0 : Int} : ∀ (n : Nat) (a b : Int), b = a + n → a ≤ i0 → i0 < b → (∀ i, a ≤ i → i < b → ¬ i = i0 → f' i = f i) → sR f' a b = sR f a b + (f' i0 - f i0)
  | 0, a, b, h, h1, h2, _ => by omega
  | n + 1, a, b, h, h1, h2, he => by
    have k1 := sR_cons (f := f) (a := a) (b := b) (by omega)
    have k2 := sR_cons (f := f') (a := a) (b := b) (by omega)
    by_cases c : i0 = a
    · have k3 := sR_cong (f := f) (f' := f') n (a + 1) b (by omega) (fun i x y => he i (by omega) y (by omega))
      rw [c]
      omega
    · have k3 := sR_one (f := f) (f' := f') (i0 := i0) n (a + 1) b (by omega) (by omega) h2 (fun i x y => he i (by omega) y)
      have k4 := he a (Int.le_refl _) (by omega) (by omega)
      omega
theorem sR_fold {f : Int → Int} : ∀ (n : Nat) (a b s : Int), b = a + n → (ir a b).foldl (fun s i => s + f i) s = s + sR f a b
  | 0, a, b, s, h => by rw [ir_nil (by omega), sR_nil (by omega)]; show s = s + 0; omega
  | n + 1, a, b, s, h => by
    have h1 := sR_cons (f := f) (a := a) (b := b) (by omega)
    rw [ir_cons (by omega), List.foldl_cons, sR_fold n (a + 1) b _ (by omega), h1]
    omega
/-- how many ahead of M are like i -/
def cE (E : Int → Int → Bool) (M i : Int) : Int := ((ir 0 M).filter (fun j => E j i)).length
theorem cE_snoc {E : Int → Int → Bool} {M i : Int} (h : 0 ≤ M) : cE E (M + 1) i = cE E M i + if E M i = true then 1 else 0 := by
  unfold cE
  rw [ir_snoc h, List.filter_append, List.length_append]
  by_cases c : E M i = true
  · rw [if_pos c, List.filter_cons_of_pos (p := fun j => E j i) c]
    show ((_ + (0 + 1) : Nat) : Int) = _
    omega
  · rw [if_neg c, List.filter_cons_of_neg (p := fun j => E j i) c]
    show ((_ + 0 : Nat) : Int) = _
    omega
theorem cE_cong {E : Int → Int → Bool} {M i i' : Int} (h : ∀ j, 0 ≤ j → j < M → (E j i = E j i')) : cE E M i = cE E M i' := by
  unfold cE
  congr 2
  exact List.filter_congr (fun j hj => h j (mem_ir.mp hj).1 (mem_ir.mp hj).2)
theorem cE_zero {E : Int → Int → Bool} {M i : Int} (h : ∀ j, 0 ≤ j → j < M → ¬ E j i = true) : cE E M i = 0 := by
  unfold cE
  rw [List.filter_eq_nil_iff.mpr (fun j hj => h j (mem_ir.mp hj).1 (mem_ir.mp hj).2)]
  rfl
/-- a class of alike counts as often as it can be matched -/
theorem mt_count {E : Int → Int → Bool} {T : Int → Int} (hr : ∀ i, E i i = true) (hs : ∀ i j, E i j = true → E j i = true) (ht : ∀ i j l, E i j = true → E j l = true → E i l = true) (hT : ∀ i j, E i j = true → T i = T j) (hT0 : ∀ i, 0 ≤ T i) : ∀ (n : Nat) (M : Int), M = n → sR (fun i => if allN (fun j => !E j i) i.toNat 0 = true then min (cE E M i) (T i) else 0) 0 M = sR (fun i => if cE E i i < T i then 1 else 0) 0 M
  | 0, M, h => by rw [sR_nil (by omega), sR_nil (by omega)]
  | n + 1, M', h => by
    obtain ⟨M, rfl⟩ : ∃ M, M' = M + 1 := ⟨M' - 1, by omega⟩
    have hM : M = n := by omega
    have ih := mt_count hr hs ht hT hT0 n M hM
    have hfst : ∀ i, 0 ≤ i → (allN (fun j => !E j i) i.toNat 0 = true ↔ ∀ j, 0 ≤ j → j < i → ¬ E j i = true) := fun i hi => by
      rw [allN_iff]
      constructor
      · intro z j a b
        have := z j a (by omega)
        rw [Bool.not_eq_true'] at this
        rw [this]
        decide
      · intro z j a b
        have := z j a (by omega)
        rw [Bool.not_eq_true']
        exact Bool.eq_false_iff.mpr this
    rw [sR_snoc n 0 M (by omega), sR_snoc n 0 M (by omega)]
    rw [← ih]
    by_cases cf : ∀ j, 0 ≤ j → j < M → ¬ E j M = true
    · have e1 := sR_cong (f := fun i => if allN (fun j => !E j i) i.toNat 0 = true then min (cE E M i) (T i) else 0) (f' := fun i => if allN (fun j => !E j i) i.toNat 0 = true then min (cE E (M + 1) i) (T i) else 0) n 0 M (by omega) (fun i a b => by
        have : ¬ E M i = true := fun z => cf i a b (hs _ _ z)
        rw [cE_snoc (by omega), if_neg this, Int.add_zero])
      rw [e1, if_pos ((hfst M (by omega)).mpr cf), cE_snoc (by omega), if_pos (hr M), cE_zero cf]
      have := hT0 M
      by_cases c0 : 0 < T M
      · rw [if_pos c0]; omega
      · rw [if_neg c0]; omega
    · -- the first that is like it
      have hex : ∃ i0, (0 ≤ i0 ∧ i0 < M) ∧ E i0 M = true ∧ ∀ j, 0 ≤ j → j < i0 → ¬ E j M = true := by
        have key : ∀ (q : Nat), (∃ j, (0 ≤ j ∧ j < (q : Int)) ∧ E j M = true) → ∃ i0, (0 ≤ i0 ∧ i0 < (q : Int)) ∧ E i0 M = true ∧ ∀ j, 0 ≤ j → j < i0 → ¬ E j M = true := by
          intro q
          induction q with
          | zero => rintro ⟨j, hj, -⟩; omega
          | succ q ihq =>
            rintro ⟨j, hj, hE⟩
            by_cases c : ∃ j, (0 ≤ j ∧ j < (q : Int)) ∧ E j M = true
            · obtain ⟨i0, h1, h2, h3⟩ := ihq c
              exact ⟨i0, ⟨h1.1, by omega⟩, h2, h3⟩
            · have : j = q := by
                rcases Classical.em (j = q) with z | z
                · exact z
                · exact absurd ⟨j, ⟨hj.1, by omega⟩, hE⟩ c
              subst this
              exact ⟨_, hj, hE, fun j a b z => c ⟨j, ⟨a, b⟩, z⟩⟩
        have := key M.toNat (by
          rcases Classical.em (∃ j, (0 ≤ j ∧ j < M) ∧ E j M = true) with z | z
          · obtain ⟨j, hj, hE⟩ := z
            exact ⟨j, ⟨hj.1, by omega⟩, hE⟩
          · exact absurd (fun j a b y => z ⟨j, ⟨a, b⟩, y⟩) cf)
        rw [show ((M.toNat : Nat) : Int) = M by omega] at this
        exact this
      obtain ⟨i0, hi0, hE0, hmin⟩ := hex
      have hf0 : ∀ j, 0 ≤ j → j < i0 → ¬ E j i0 = true := fun j a b z => hmin j a b (ht _ _ _ z hE0)
      have e1 := sR_one (f := fun i => if allN (fun j => !E j i) i.toNat 0 = true then min (cE E M i) (T i) else 0) (f' := fun i => if allN (fun j => !E j i) i.toNat 0 = true then min (cE E (M + 1) i) (T i) else 0) (i0 := i0) n 0 M (by omega) hi0.1 hi0.2 (fun i a b hne => by
        by_cases c1 : E M i = true
        · have hlt : i0 < i := by
            rcases Classical.em (i < i0) with z | z
            · exact absurd (hs _ _ c1) (hmin i a z)
            · omega
          have hno : ¬ allN (fun j => !E j i) i.toNat 0 = true := fun z => (hfst i a).mp z i0 hi0.1 hlt (ht _ _ _ hE0 c1)
          rw [if_neg hno, if_neg hno]
        · rw [cE_snoc (by omega), if_neg c1, Int.add_zero])
      rw [e1, if_neg (fun z => cf ((hfst M (by omega)).mp z))]
      have hc0 : cE E M i0 = cE E M M := cE_cong (fun j a b => by
        rw [Bool.eq_iff_iff]
        exact ⟨fun z => ht _ _ _ z hE0, fun z => ht _ _ _ z (hs _ _ hE0)⟩)
      rw [if_pos ((hfst i0 hi0.1).mpr hf0), if_pos ((hfst i0 hi0.1).mpr hf0), cE_snoc (by omega), if_pos (hs _ _ hE0), hT _ _ hE0, hc0]
      by_cases c0 : cE E M M < T M
      · rw [if_pos c0]; omega
      · rw [if_neg c0]; omega
theorem alR_eq3 {f : Int → Int} {n : Int} : (∀ i, alR f i f i n = true) ∧ (∀ i j, alR f i f j n = true → alR f j f i n = true) ∧ (∀ i j l, alR f i f j n = true → alR f j f l n = true → alR f i f l n = true) := by
  refine ⟨fun i => alR_iff.mpr (fun _ _ _ => rfl), fun i j h => alR_iff.mpr (fun k a b => (alR_iff.mp h k a b).symm), fun i j l h1 h2 => alR_iff.mpr (fun k a b => (alR_iff.mp h1 k a b).trans (alR_iff.mp h2 k a b))⟩
theorem mtV_s (f h : Int → Int) {N tn n : Int} (hN : 0 ≤ N - n + 1) : mtV f N h tn n = sR (fun i => if cE (fun j i => alR f j f i n) i i < tms h tn f i n then 1 else 0) 0 (N - n + 1) := by
  have he := alR_eq3 (f := f) (n := n)
  have := mt_count (E := fun j i => alR f j f i n) (T := fun i => tms h tn f i n) he.1 he.2.1 he.2.2 (fun i j hij => by
    unfold tms
    congr 2
    refine List.filter_congr (fun l _ => ?_)
    rw [Bool.eq_iff_iff, alR_iff, alR_iff]
    have h2 := alR_iff.mp hij
    exact ⟨fun z k a b => (z k a b).trans (h2 k a b), fun z k a b => (z k a b).trans (h2 k a b).symm⟩) (fun i => by unfold tms; omega) (N - n + 1).toNat (N - n + 1) (by omega)
  rw [← this]
  unfold mtV
  rw [sR_fold (N - n + 1).toNat 0 (N - n + 1) 0 (by omega), Int.zero_add]
  rfl
theorem l_common {N tn n : Int} {c1 n1 c3 n3 : Nat} {f h : Int → Int} (ef : ia σ c1 = f) (eh : ia σ c3 = h) (hc1 : aI c1 n1) (hc3 : aI c3 n3) (hn1 : n1 ≤ 2000 ∧ n3 ≤ 2000) (hN : 0 ≤ N ∧ N ≤ n1) (htn : 0 ≤ tn ∧ tn ≤ n3) (hn : 1 ≤ n ∧ n ≤ 18) (hS : SR σ) (hd : 2 ≤ d) : EI g ad d mX4_common [.ref (ad 88), .ref (ad c1), vi N, .ref (ad c3), vi tn, vi n] σ (mtV f N h tn n) σ := by
  have i2 : iR N := iR_of (by omega) (by omega)
  have i4 : iR tn := iR_of (by omega) (by omega)
  have i5 : iR n := iR_of (by omega) (by omega)
  refine EbS rfl pl_X4 rfl rfl (bX4_common_0 hc1 hc3 i2 i4 i5 hS ?_)
  intro _ _ _ _ _ _
  by_cases c0 : N - n + 1 ≤ 0
  · refine bX4_common_6 hc1 hc3 i2 i4 i5 (iR_lit rfl) (iR_lit rfl) hS ⟨iR_of (by omega) (by omega), fun _ => re_i ⟨?_, rfl⟩, fun z => absurd (by omega) z⟩
    unfold mtV
    rw [ir_nil c0]
    rfl
  rw [mtV_s f h (by omega)]
  generalize hF : (fun i => if cE (fun j i => alR f j f i n) i i < tms h tn f i n then (1 : Int) else 0) = F
  refine up_loop (P := fun a => ∀ s : Int, (0 ≤ s ∧ s ≤ a) → s + sR F a (N - n + 1) = sR F 0 (N - n + 1) → aX4_common_6 g ad d (Ki fun r s => r = sR F 0 (N - n + 1) ∧ s = σ) 0 0 σ N tn n s a c1 c3) (hi := N - n + 1) 0 (by omega) ?_ ?_ 0 (by omega) (by omega)
  · intro s hs hv
    rw [sR_nil (Int.le_refl _)] at hv
    exact bX4_common_6 hc1 hc3 i2 i4 i5 (iR_of (by omega) (by omega)) (iR_of (by omega) (by omega)) hS ⟨iR_of (by omega) (by omega), fun _ => re_i ⟨by omega, rfl⟩, fun z => absurd (by omega) z⟩
  · intro a ha0 ha1 ih s hs hv
    rw [sR_cons ha1] at hv
    refine bX4_common_6 hc1 hc3 i2 i4 i5 (iR_of (by omega) (by omega)) (iR_of (by omega) (by omega)) hS ⟨iR_of (by omega) (by omega), fun z => absurd z (by omega), fun _ => ?_⟩
    refine EI.k (l_howOften (d := d - 1) ef ef hc1 hc1 ⟨hn1.1, hn1.1⟩ ⟨ha0, by omega⟩ ⟨by omega, by omega⟩ hn.1 hS (by omega)) (by omega) (fun _ _ => ?_)
    rw [show a + n - 1 - n + 1 = a by omega]
    refine EI.k (l_howOften (d := d - 1) ef eh hc1 hc3 hn1 ⟨ha0, by omega⟩ htn hn.1 hS (by omega)) (by omega) (fun _ _ => ?_)
    have eF : F a = if (((ir 0 a).filter (fun j => alR f j f a n)).length : Int) < (((ir 0 (tn - n + 1)).filter (fun j => alR h j f a n)).length : Int) then 1 else 0 := by rw [← hF]; rfl
    refine ⟨fun c => ⟨iR_of (by omega) (by omega), fun _ _ _ _ _ _ => ih s (by omega) ?_⟩, fun c => ⟨iR_of (by omega) (by omega), iR_of (by omega) (by omega), fun _ _ _ _ _ _ => ih (s + 1) (by omega) ?_⟩⟩
    · rw [if_neg (by omega)] at eF
      omega
    · rw [if_pos (by omega)] at eF
      omega
end LI2

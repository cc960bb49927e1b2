section WYS
variable {m : Int → Int}
/-! where a step stands among all -/
def ixL : List Op → Op → Nat
  | [], _ => 0
  | a :: l, q => if a = q then 0 else ixL l q + 1
theorem ixL_get {q : Op} : ∀ {l : List Op}, q ∈ l → l[ixL l q]? = some q ∧ ixL l q < l.length
  | [], h => by cases h
  | a :: l, h => by
    unfold ixL
    by_cases c : a = q
    · rw [if_pos c]
      exact ⟨by rw [c]; rfl, by rw [List.length_cons]; omega⟩
    · rw [if_neg c]
      have hq : q ∈ l := by
        rcases List.mem_cons.mp h with e | e
        · exact absurd e.symm c
        · exact e
      have ih := ixL_get hq
      refine ⟨?_, by rw [List.length_cons]; omega⟩
      rw [List.getElem?_cons_succ]
      exact ih.1
def psO (q : Op) : Int := q.1 * 200 + q.2
theorem sr_up (h0 : W0 m) : (sr m 0).Pairwise (fun a b => psO a < psO b) := by
  have h1 := h0.2.1
  unfold sr
  rw [List.pairwise_flatMap]
  refine ⟨fun s _ => ?_, ?_⟩
  · unfold soS
    rw [List.pairwise_append]
    refine ⟨?_, List.pairwise_singleton .., fun a ha b hb => ?_⟩
    · rw [List.pairwise_map]
      refine List.Pairwise.imp (fun {a b} h => ?_) ir_nodup
      show s * 200 + a < s * 200 + b
      omega
    · obtain ⟨o, ho, rfl⟩ := List.mem_map.mp ha
      rw [List.mem_singleton.mp hb]
      have := mem_ir.mp ho
      show s * 200 + o < s * 200 + 99
      omega
  · refine List.Pairwise.imp (fun {a b} h => ?_) ir_nodup
    intro x hx y hy
    have key : ∀ (c : Int) (z : Op), z ∈ soS m c → c * 200 ≤ psO z ∧ psO z < c * 200 + 100 := fun c z hz => by
      unfold soS at hz
      rcases List.mem_append.mp hz with hz | hz
      · obtain ⟨o, ho, rfl⟩ := List.mem_map.mp hz
        have := mem_ir.mp ho
        show c * 200 ≤ c * 200 + o ∧ c * 200 + o < c * 200 + 100
        omega
      · rw [List.mem_singleton.mp hz]
        show c * 200 ≤ c * 200 + 99 ∧ c * 200 + 99 < c * 200 + 100
        omega
    have k1 := key a x hx
    have k2 := key b y hy
    omega
theorem ops_up (h0 : W0 m) : (ops m).Pairwise (fun a b => psO a < psO b) := (sr_up h0).filter _
def ix (m : Int → Int) (q : Op) : Int := (ixL (ops m) q : Nat)
theorem ix_b (h0 : W0 m) {q : Op} (h : q ∈ ops m) : (0 ≤ ix m q ∧ ix m q < (ops m).length ∧ ix m q < 186) ∧ (ops m)[(ix m q).toNat]? = some q := by
  have h1 := ixL_get h
  have h2 := ops_len h0
  unfold ix
  rw [Int.toNat_natCast]
  exact ⟨⟨by omega, by omega, by omega⟩, h1.1⟩
theorem pw_at {l : List Op} (h : l.Pairwise (fun a b => psO a < psO b)) {i j : Nat} {a b : Op} (hi : l[i]? = some a) (hj : l[j]? = some b) (hij : i < j) : psO a < psO b := by
  obtain ⟨h1, rfl⟩ := List.getElem?_eq_some_iff.mp hi
  obtain ⟨h2, rfl⟩ := List.getElem?_eq_some_iff.mp hj
  exact List.pairwise_iff_getElem.mp h i j h1 h2 hij
theorem ix_at (h0 : W0 m) {q : Op} {i : Nat} (h : (ops m)[i]? = some q) : ix m q = i := by
  have hq : q ∈ ops m := List.mem_of_getElem? h
  have h1 := (ixL_get hq).1
  have hu := ops_up h0
  unfold ix
  rcases Nat.lt_trichotomy (ixL (ops m) q) i with z | z | z
  · have := pw_at hu h1 h z
    omega
  · rw [z]
  · have := pw_at hu h h1 z
    omega
theorem ix_mono (h0 : W0 m) {q q' : Op} (h : q ∈ ops m) (h' : q' ∈ ops m) (hp : psO q < psO q') : ix m q < ix m q' := by
  have h1 := (ixL_get h).1
  have h2 := (ixL_get h').1
  have hu := ops_up h0
  unfold ix
  rcases Nat.lt_trichotomy (ixL (ops m) q) (ixL (ops m) q') with z | z | z
  · omega
  · rw [z, h2] at h1
    have : q' = q := Option.some.inj h1
    rw [this] at hp
    omega
  · have := pw_at hu h2 h1 z
    omega
theorem ix_inj {q q' : Op} (h : q ∈ ops m) (h' : q' ∈ ops m) (e : ix m q = ix m q') : q = q' := by
  have h1 := (ixL_get h).1
  have h2 := (ixL_get h').1
  unfold ix at e
  have e' : ixL (ops m) q = ixL (ops m) q' := by omega
  rw [e', h2] at h1
  exact (Option.some.inj h1).symm
/-! the code of a path -/
def dgP (m : Int → Int) : Nat → List Op → Int
  | 0, _ => 0
  | _ + 1, [] => 0
  | k + 1, q :: l => (ix m q + 1) * 256 ^ k + dgP m k l
theorem dgP_nil {k : Nat} : dgP m k [] = 0 := by cases k <;> rfl
def opA (m : Int → Int) (p : List Op) : Prop := ∀ q ∈ p, q ∈ ops m
theorem opA.tl {q : Op} {l : List Op} (h : opA m (q :: l)) : q ∈ ops m ∧ opA m l := ⟨h q (List.mem_cons_self ..), fun r hr => h r (List.mem_cons_of_mem _ hr)⟩
theorem pow256 (k : Nat) : (0 : Int) < 256 ^ k := Int.pow_pos (by decide)
theorem dgP_b (h0 : W0 m) : ∀ (k : Nat) (p : List Op), opA m p → 0 ≤ dgP m k p ∧ dgP m k p < 256 ^ k
  | 0, _, _ => ⟨Int.le_refl _, by show (0 : Int) < 256 ^ 0; decide⟩
  | k + 1, [], _ => ⟨Int.le_refl _, pow256 (k + 1)⟩
  | k + 1, q :: l, h => by
    have ih := dgP_b h0 k l h.tl.2
    have hi := (ix_b h0 h.tl.1).1
    have hp := pow256 k
    show 0 ≤ (ix m q + 1) * 256 ^ k + dgP m k l ∧ (ix m q + 1) * 256 ^ k + dgP m k l < 256 ^ (k + 1)
    have e : (256 : Int) ^ (k + 1) = 256 * 256 ^ k := by rw [Int.pow_succ]; omega
    rw [e]
    generalize (256 : Int) ^ k = B at *
    have h1 : (ix m q + 1) * B ≤ 255 * B := Int.mul_le_mul_of_nonneg_right (by omega) (by omega)
    have h2 : 0 ≤ (ix m q + 1) * B := Int.mul_nonneg (by omega) (by omega)
    omega
theorem dgP_app : ∀ (k : Nat) (p r : List Op), p.length ≤ k → dgP m k (p ++ r) = dgP m k p + dgP m (k - p.length) r
  | k, [], r, _ => by
    rw [dgP_nil]
    show dgP m k r = 0 + dgP m (k - 0) r
    rw [Nat.sub_zero]
    omega
  | 0, q :: l, r, h => by rw [List.length_cons] at h; omega
  | k + 1, q :: l, r, h => by
    rw [List.length_cons] at h
    have ih := dgP_app k l r (by omega)
    show (ix m q + 1) * 256 ^ k + dgP m k (l ++ r) = (ix m q + 1) * 256 ^ k + dgP m k l + dgP m (k + 1 - (l.length + 1)) r
    rw [ih, Nat.add_sub_add_right]
    omega
/-- neither begins with the other -/
def Inc (p p' : List Op) : Prop := ∃ a q q' r r', q ≠ q' ∧ p = a ++ q :: r ∧ p' = a ++ q' :: r'
theorem Inc.symm {p p' : List Op} : Inc p p' → Inc p' p
  | ⟨a, q, q', r, r', h, e, e'⟩ => ⟨a, q', q, r', r, fun z => h z.symm, e', e⟩
theorem Inc.ext {p p' : List Op} (s s' : List Op) : Inc p p' → Inc (p ++ s) (p' ++ s')
  | ⟨a, q, q', r, r', h, e, e'⟩ => ⟨a, q, q', r ++ s, r' ++ s', h, by rw [e, List.append_assoc]; rfl, by rw [e', List.append_assoc]; rfl⟩
theorem Inc.ne {p : List Op} : ¬ Inc p p
  | ⟨a, q, q', r, r', h, e, e'⟩ => by
    rw [e] at e'
    have := List.append_cancel_left e'
    injection this with h1 _
    exact h h1
theorem inc_lt1 (h0 : W0 m) {a r r' : List Op} {q q' : Op} (hq : q ∈ ops m) (hq' : q' ∈ ops m) (hr : opA m r) (hr' : opA m r') (hl : (a ++ q :: r).length ≤ 6) (hlt : ix m q < ix m q') : dgP m 6 (a ++ q :: r) < dgP m 6 (a ++ q' :: r') := by
  rw [List.length_append, List.length_cons] at hl
  rw [dgP_app 6 a _ (by omega), dgP_app 6 a _ (by omega)]
  rw [show 6 - a.length = (5 - a.length) + 1 by omega]
  generalize 5 - a.length = k
  show dgP m 6 a + ((ix m q + 1) * 256 ^ k + dgP m k r) < dgP m 6 a + ((ix m q' + 1) * 256 ^ k + dgP m k r')
  have b1 := dgP_b h0 k r hr
  have b2 := dgP_b h0 k r' hr'
  have hp := pow256 k
  generalize (256 : Int) ^ k = B at *
  have h1 : (ix m q + 1 + 1) * B ≤ (ix m q' + 1) * B := Int.mul_le_mul_of_nonneg_right (by omega) (by omega)
  rw [Int.add_mul (ix m q + 1) 1 B, Int.one_mul] at h1
  omega
theorem opA.mid {a r : List Op} {q : Op} (h : opA m (a ++ q :: r)) : q ∈ ops m ∧ opA m r := ⟨h q (List.mem_append_right _ (List.mem_cons_self ..)), fun z hz => h z (List.mem_append_right _ (List.mem_cons_of_mem _ hz))⟩
theorem opA.app {p r : List Op} (h : opA m p) (h' : opA m r) : opA m (p ++ r) := fun q hq => by
  rcases List.mem_append.mp hq with z | z
  · exact h q z
  · exact h' q z
theorem inc_lt (h0 : W0 m) {p p' s s' : List Op} (hi : Inc p p') (hp : opA m p) (hp' : opA m p') (hs : opA m s) (hs' : opA m s') (hl : (p ++ s).length ≤ 6) (hl' : (p' ++ s').length ≤ 6) : (dgP m 6 p < dgP m 6 p' ∧ dgP m 6 (p ++ s) < dgP m 6 (p' ++ s')) ∨ (dgP m 6 p' < dgP m 6 p ∧ dgP m 6 (p' ++ s') < dgP m 6 (p ++ s)) := by
  obtain ⟨a, q, q', r, r', hne, rfl, rfl⟩ := hi
  have m1 := hp.mid
  have m2 := hp'.mid
  have e1 : (a ++ q :: r) ++ s = a ++ q :: (r ++ s) := by rw [List.append_assoc]; rfl
  have e2 : (a ++ q' :: r') ++ s' = a ++ q' :: (r' ++ s') := by rw [List.append_assoc]; rfl
  have l1 : (a ++ q :: r).length ≤ 6 := by rw [List.length_append] at hl; omega
  have l2 : (a ++ q' :: r').length ≤ 6 := by rw [List.length_append] at hl'; omega
  rw [e1] at hl ⊢
  rw [e2] at hl' ⊢
  have hix : ix m q ≠ ix m q' := fun z => hne (ix_inj m1.1 m2.1 z)
  rcases Int.lt_or_gt_of_ne hix with z | z
  · exact Or.inl ⟨inc_lt1 h0 m1.1 m2.1 m1.2 m2.2 l1 z, inc_lt1 h0 m1.1 m2.1 (m1.2.app hs) (m2.2.app hs') hl z⟩
  · exact Or.inr ⟨inc_lt1 h0 m2.1 m1.1 m2.2 m1.2 l2 z, inc_lt1 h0 m2.1 m1.1 (m2.2.app hs') (m1.2.app hs) hl' z⟩
/-! the ways stand in the order of their codes -/
theorem wy_opA (hW : WF m) {x : Nd} (hx : nd m x) {w : Wy} (hw : w ∈ wy m x) : opA m w.2 := fun q hq => wy_all hW (fun q => q ∈ ops m) (fun y p _ hp hm => List.mem_filter.mpr ⟨hp, (mayB_s hm).2.1⟩) (mu x + 1) x hx (Nat.lt_succ_self _) w hw q hq
theorem wy_up (hW : WF m) : ∀ (k : Nat) (x : Nd), nd m x → mu x ≤ k → (wy m x).Pairwise (fun a b => dgP m k a.2 < dgP m k b.2) := by
  intro k
  induction k with
  | zero =>
    intro x hx hk
    rw [wy_eq hW hx]
    unfold wyG
    by_cases c : x.1 = fullM m
    · rw [if_pos c]
      exact List.pairwise_singleton ..
    · rw [if_neg c]
      have : (sr m 0).flatMap (fun p => if myB m x p = true then (wy m (stp m x p)).map (fun w => (wgt m x p + w.1, p :: w.2)) else []) = [] := by
        refine List.flatMap_eq_nil_iff.mpr (fun p hp => ?_)
        by_cases c2 : myB m x p = true
        · have := stp_nd hW hx hp c2
          omega
        · rw [if_neg c2]
      rw [this]
      exact List.Pairwise.nil
  | succ k ih =>
    intro x hx hk
    rw [wy_eq hW hx]
    unfold wyG
    by_cases c : x.1 = fullM m
    · rw [if_pos c]
      exact List.pairwise_singleton ..
    · rw [if_neg c, List.pairwise_flatMap]
      refine ⟨fun p hp => ?_, ?_⟩
      · by_cases c2 : myB m x p = true
        · rw [if_pos c2, List.pairwise_map]
          have hs := stp_nd hW hx hp c2
          refine List.Pairwise.imp (fun {a b} h => ?_) (ih (stp m x p) hs.1 (by omega))
          show (ix m p + 1) * 256 ^ k + dgP m k a.2 < (ix m p + 1) * 256 ^ k + dgP m k b.2
          omega
        · rw [if_neg c2]
          exact List.Pairwise.nil
      · refine List.Pairwise.imp_of_mem (fun {p p'} hp hp' hlt => ?_) (sr_up hW.1)
        intro a ha b hb
        by_cases c2 : myB m x p = true
        · by_cases c3 : myB m x p' = true
          · rw [if_pos c2] at ha
            rw [if_pos c3] at hb
            obtain ⟨a', ha', rfl⟩ := List.mem_map.mp ha
            obtain ⟨b', hb', rfl⟩ := List.mem_map.mp hb
            have h1 : p ∈ ops m := List.mem_filter.mpr ⟨hp, (mayB_s c2).2.1⟩
            have h2 : p' ∈ ops m := List.mem_filter.mpr ⟨hp', (mayB_s c3).2.1⟩
            have h3 := ix_mono hW.1 h1 h2 hlt
            have b1 := dgP_b hW.1 k a'.2 (wy_opA hW (stp_nd hW hx hp c2).1 ha')
            have b2 := dgP_b hW.1 k b'.2 (wy_opA hW (stp_nd hW hx hp' c3).1 hb')
            show (ix m p + 1) * 256 ^ k + dgP m k a'.2 < (ix m p' + 1) * 256 ^ k + dgP m k b'.2
            have hpw := pow256 k
            generalize (256 : Int) ^ k = B at *
            have h4 : (ix m p + 1 + 1) * B ≤ (ix m p' + 1) * B := Int.mul_le_mul_of_nonneg_right (by omega) (by omega)
            rw [Int.add_mul (ix m p + 1) 1 B, Int.one_mul] at h4
            omega
          · rw [if_neg c3] at hb
            cases hb
        · rw [if_neg c2] at ha
          cases ha
end WYS

section LB
/-- the cells that the constructors make: (0 int[], 1 long[], 2 boolean[], 3 int[][]; length) or (4, class, fields: 0 a cell for good, 1 a number, 2 a cell that may change) -/
def SH : List (Nat × Nat × List (Nat × Nat)) := [(4, 9, [(0, 1), (2, 0), (2, 0), (0, 37), (0, 48), (0, 58), (0, 63), (0, 72), (0, 75), (0, 85), (0, 88), (1, 0), (1, 0), (1, 0), (1, 0)]),
  (4, 2, [(0, 2), (0, 3), (1, 0), (0, 4), (0, 5), (0, 6), (0, 7), (0, 8), (0, 9), (1, 0), (0, 10), (1, 0), (0, 11), (1, 0), (0, 12)]),
  (0, 320, []),
  (0, 40, []),
  (0, 90, []),
  (0, 30, []),
  (0, 90, []),
  (0, 30, []),
  (0, 30, []),
  (2, 30, []),
  (0, 1681, []),
  (0, 6, []),
  (0, 5, []),
  (4, 2, [(0, 14), (0, 15), (1, 0), (0, 16), (0, 17), (0, 18), (0, 19), (0, 20), (0, 21), (1, 0), (0, 22), (1, 0), (0, 23), (1, 0), (0, 24)]),
  (0, 320, []),
  (0, 40, []),
  (0, 90, []),
  (0, 30, []),
  (0, 90, []),
  (0, 30, []),
  (0, 30, []),
  (2, 30, []),
  (0, 1681, []),
  (0, 6, []),
  (0, 5, []),
  (4, 2, [(0, 26), (0, 27), (1, 0), (0, 28), (0, 29), (0, 30), (0, 31), (0, 32), (0, 33), (1, 0), (0, 34), (1, 0), (0, 35), (1, 0), (0, 36)]),
  (0, 320, []),
  (0, 40, []),
  (0, 90, []),
  (0, 30, []),
  (0, 90, []),
  (0, 30, []),
  (0, 30, []),
  (2, 30, []),
  (0, 1681, []),
  (0, 6, []),
  (0, 5, []),
  (4, 5, [(0, 38), (1, 0), (1, 0), (0, 39), (0, 40), (0, 41), (0, 42), (0, 43), (0, 44), (1, 0), (0, 45), (1, 0), (0, 46), (1, 0), (0, 47), (1, 0), (2, 0), (1, 0)]),
  (0, 400, []),
  (0, 12, []),
  (0, 36, []),
  (0, 12, []),
  (0, 36, []),
  (0, 12, []),
  (0, 12, []),
  (0, 18, []),
  (0, 6, []),
  (0, 6, []),
  (4, 4, [(0, 49), (0, 50), (0, 51), (0, 52), (0, 53), (0, 54), (0, 55), (0, 56), (0, 57), (1, 0), (1, 0), (2, 0)]),
  (0, 186, []),
  (0, 186, []),
  (0, 186, []),
  (0, 186, []),
  (0, 558, []),
  (0, 186, []),
  (0, 186, []),
  (0, 186, []),
  (0, 186, []),
  (4, 1, [(0, 48), (0, 59), (0, 60), (0, 61), (0, 62), (1, 0), (1, 0), (1, 0), (1, 0)]),
  (0, 18368, []),
  (0, 7913, []),
  (0, 7913, []),
  (0, 8, []),
  (4, 8, [(0, 48), (0, 58), (0, 64), (0, 65), (0, 66), (0, 67), (1, 0), (0, 68), (1, 0), (0, 69), (0, 70), (1, 0), (0, 71), (1, 0)]),
  (1, 30, []),
  (0, 30, []),
  (0, 30, []),
  (0, 30, []),
  (1, 30, []),
  (0, 6, []),
  (0, 6, []),
  (0, 18, []),
  (4, 7, [(0, 48), (0, 73), (0, 74)]),
  (0, 36, []),
  (0, 64, []),
  (4, 6, [(0, 48), (0, 58), (0, 72), (0, 76), (0, 77), (0, 78), (0, 79), (0, 80), (0, 81), (0, 82), (0, 83), (1, 0), (1, 0), (1, 0), (1, 0), (1, 0), (0, 84), (1, 0)]),
  (0, 7913, []),
  (0, 7913, []),
  (0, 7913, []),
  (0, 7913, []),
  (0, 7, []),
  (0, 7, []),
  (1, 40, []),
  (0, 40, []),
  (0, 6, []),
  (4, 0, [(0, 48), (0, 86), (0, 87)]),
  (0, 448, []),
  (0, 8512, []),
  (4, 3, [(0, 89), (0, 90), (0, 101), (1, 0)]),
  (0, 19, []),
  (3, 10, []),
  (0, 18, []),
  (0, 18, []),
  (0, 18, []),
  (0, 18, []),
  (0, 18, []),
  (0, 18, []),
  (0, 18, []),
  (0, 18, []),
  (0, 18, []),
  (0, 18, []),
  (0, 10, []),
  (4, 10, [(1, 0), (0, 103), (0, 104), (0, 105), (1, 0), (0, 106), (1, 0), (1, 0), (1, 0), (1, 0), (0, 107), (0, 108), (1, 0), (0, 109), (1, 0), (1, 0), (0, 110), (0, 111), (1, 0), (0, 112), (1, 0), (0, 113), (1, 0), (1, 0), (0, 114), (0, 115), (1, 0), (1, 0), (1, 0), (1, 0), (1, 0), (0, 116), (1, 0), (0, 117), (0, 118), (0, 119), (0, 120), (0, 121), (0, 122), (0, 123), (0, 124), (0, 125), (0, 126), (1, 0), (1, 0), (1, 0), (1, 0), (1, 0), (0, 127), (0, 128), (0, 129), (0, 130)]),
  (0, 855, []),
  (0, 855, []),
  (0, 855, []),
  (0, 400, []),
  (0, 120, []),
  (0, 12, []),
  (0, 18, []),
  (0, 12, []),
  (0, 12, []),
  (0, 18816, []),
  (1, 448, []),
  (0, 6, []),
  (0, 6, []),
  (0, 18, []),
  (0, 36, []),
  (2, 18816, []),
  (2, 18816, []),
  (0, 18816, []),
  (0, 18816, []),
  (0, 18816, []),
  (0, 18816, []),
  (0, 18816, []),
  (0, 7, []),
  (0, 7, []),
  (0, 8512, []),
  (0, 361, []),
  (0, 180, []),
  (0, 10, []),
  (1, 1, [])]
abbrev NC : Nat := 132
def shp (i : Nat) : Nat × Nat × List (Nat × Nat) := SH.getD i (9, 0, [])
/-- what the cells hold: numbers of objects, changing references, int arrays, long arrays -/
abbrev SG : Type := (Nat → Nat → Int) × (Nat → Nat → Nat) × (Nat → Int → Int) × (Nat → Int → Int)
abbrev sc (σ : SG) : Nat → Nat → Int := σ.1
abbrev rv (σ : SG) : Nat → Nat → Nat := σ.2.1
abbrev ia (σ : SG) : Nat → Int → Int := σ.2.2.1
abbrev la (σ : SG) : Nat → Int → Int := σ.2.2.2
abbrev vi (z : Int) : Value := .int (Int32.ofInt z)
abbrev vl (z : Int) : Value := .long (Int64.ofInt z)
def u2 {α : Type} (f : Nat → Nat → α) (i k : Nat) (v : α) : Nat → Nat → α := fun a b => if a = i ∧ b = k then v else f a b
def setS (σ : SG) (i k : Nat) (v : Int) : SG := (u2 (sc σ) i k v, rv σ, ia σ, la σ)
def setR (σ : SG) (i k : Nat) (v : Nat) : SG := (sc σ, u2 (rv σ) i k v, ia σ, la σ)
/-- a whole array anew -/
def u1 (f : Nat → Int → Int) (i : Nat) (v : Int → Int) : Nat → Int → Int := fun a => if a = i then v else f a
/-- a row with another number at a place -/
def up (f : Int → Int) (k v : Int) : Int → Int := fun j => if j = k then v else f j
def setA (σ : SG) (i : Nat) (v : Int → Int) : SG := (sc σ, rv σ, u1 (ia σ) i v, la σ)
def setB (σ : SG) (i : Nat) (v : Int → Int) : SG := (sc σ, rv σ, ia σ, u1 (la σ) i v)
def setI (σ : SG) (i : Nat) (k v : Int) : SG := setA σ i (up (ia σ i) k v)
def setL (σ : SG) (i : Nat) (k v : Int) : SG := setB σ i (up (la σ i) k v)
def fv (ad : Nat → Nat) (σ : SG) (i k : Nat) (f : Nat × Nat) : Value := match f.1 with
  | 0 => .ref (ad f.2)
  | 1 => vi (sc σ i k)
  | _ => .ref (ad (rv σ i k))
def cellOf (g : AG) (ad : Nat → Nat) (σ : SG) (i : Nat) : va_E := match shp i with
  | (0, n, _) => .inl (ag_c g 0, n, .inl (fun j => Int32.ofInt (ia σ i (j : Nat))))
  | (1, n, _) => .inl (ag_c g 1, n, .inr (.inl (fun j => Int64.ofInt (la σ i (j : Nat)))))
  | (2, n, _) => .inl (ag_c g 2, n, .inl (fun j => Int32.ofInt (ia σ i (j : Nat))))
  | (3, n, _) => .inl (ag_c g 3, n, .inr (.inr (.inr (.inr (fun j => if j < n then some (ad (i + 1 + j)) else none)))))
  | (_, ci, fl) => .inr (ci, fl.mapIdx (fv ad σ i))
def lay (g : AG) (ad : Nat → Nat) (σ : SG) : va_W := (List.range NC).map (fun i => (ad i, cellOf g ad σ i))
theorem lay_at {g : AG} {ad : Nat → Nat} {σ : SG} {i : Nat} (hi : i < NC) : (lay g ad σ)[i]? = some (ad i, cellOf g ad σ i) := by
  unfold lay
  rw [List.getElem?_map, List.getElem?_range hi]
  rfl
theorem shp_lt {i a b : Nat} {fl : List (Nat × Nat)} (h : shp i = (a, b, fl)) (ha : a ≠ 9) : i < NC := by
  by_cases hi : i < NC
  · exact hi
  · exfalso
    unfold shp at h
    rw [List.getD_eq_getElem?_getD, List.getElem?_eq_none (show SH.length ≤ i from Nat.not_lt.mp hi)] at h
    cases h
    exact ha rfl
theorem lay_set {g : AG} {ad : Nat → Nat} {σ σ' : SG} {i : Nat} {c : va_E} (hc : cellOf g ad σ' i = c) (hn : ∀ j, j ≠ i → cellOf g ad σ' j = cellOf g ad σ j) : (lay g ad σ).set i (ad i, c) = lay g ad σ' := by
  apply List.ext_getElem?
  intro j
  rw [List.getElem?_set]
  have hlen : (lay g ad σ).length = NC := by unfold lay; simp
  by_cases hj : i = j
  · subst hj
    rw [if_pos rfl]
    by_cases hi : i < NC
    · rw [if_pos (by rw [hlen]; exact hi), lay_at hi, hc]
    · rw [if_neg (by rw [hlen]; exact hi)]
      unfold lay
      simp [Nat.not_lt.mp hi]
  · rw [if_neg hj]
    by_cases hi : j < NC
    · rw [lay_at hi, lay_at hi, hn j (fun e => hj e.symm)]
    · unfold lay
      simp [Nat.not_lt.mp hi]
theorem u2_at {α : Type} {f : Nat → Nat → α} {i k : Nat} {v : α} : u2 f i k v i k = v := if_pos ⟨rfl, rfl⟩
theorem u2_ne1 {α : Type} {f : Nat → Nat → α} {i k a b : Nat} {v : α} (h : a ≠ i) : u2 f i k v a b = f a b := if_neg (fun q => h q.1)
theorem u2_ne2 {α : Type} {f : Nat → Nat → α} {i k a b : Nat} {v : α} (h : b ≠ k) : u2 f i k v a b = f a b := if_neg (fun q => h q.2)
theorem u2_row {α : Type} {f : Nat → Nat → α} {i k a : Nat} {v : α} (h : a ≠ i) : u2 f i k v a = f a := funext fun _ => u2_ne1 h
theorem u1_at {f : Nat → Int → Int} {i : Nat} {v : Int → Int} : u1 f i v i = v := if_pos rfl
theorem u1_row {f : Nat → Int → Int} {i a : Nat} {v : Int → Int} (h : a ≠ i) : u1 f i v a = f a := if_neg h
theorem cell_cong {g : AG} {ad : Nat → Nat} {σ σ' : SG} {j : Nat} (h1 : sc σ' j = sc σ j) (h2 : rv σ' j = rv σ j) (h3 : ia σ' j = ia σ j) (h4 : la σ' j = la σ j) : cellOf g ad σ' j = cellOf g ad σ j := by
  have hf : fv ad σ' j = fv ad σ j := by
    funext k f
    unfold fv
    rw [h1, h2]
  unfold cellOf
  rw [hf, h3, h4]
theorem shO {g : AG} {ad : Nat → Nat} {σ : SG} {i ci : Nat} {fl : List (Nat × Nat)} (h : shp i = (4, ci, fl)) : cellOf g ad σ i = .inr (ci, fl.mapIdx (fv ad σ i)) := by unfold cellOf; rw [h]; rfl
theorem sh0 {g : AG} {ad : Nat → Nat} {σ : SG} {i n : Nat} {fl : List (Nat × Nat)} (h : shp i = (0, n, fl)) : cellOf g ad σ i = .inl (ag_c g 0, n, .inl (fun j => Int32.ofInt (ia σ i (j : Nat)))) := by unfold cellOf; rw [h]; rfl
theorem sh1 {g : AG} {ad : Nat → Nat} {σ : SG} {i n : Nat} {fl : List (Nat × Nat)} (h : shp i = (1, n, fl)) : cellOf g ad σ i = .inl (ag_c g 1, n, .inr (.inl (fun j => Int64.ofInt (la σ i (j : Nat))))) := by unfold cellOf; rw [h]; rfl
theorem sh2 {g : AG} {ad : Nat → Nat} {σ : SG} {i n : Nat} {fl : List (Nat × Nat)} (h : shp i = (2, n, fl)) : cellOf g ad σ i = .inl (ag_c g 2, n, .inl (fun j => Int32.ofInt (ia σ i (j : Nat)))) := by unfold cellOf; rw [h]; rfl
theorem sh3 {g : AG} {ad : Nat → Nat} {σ : SG} {i n : Nat} {fl : List (Nat × Nat)} (h : shp i = (3, n, fl)) : cellOf g ad σ i = .inl (ag_c g 3, n, .inr (.inr (.inr (.inr (fun j => if j < n then some (ad (i + 1 + j)) else none))))) := by unfold cellOf; rw [h]; rfl
theorem lay_S {g : AG} {ad : Nat → Nat} {σ : SG} {i ci k z : Nat} {fl : List (Nat × Nat)} (h : shp i = (4, ci, fl)) (hf : fl[k]? = some (1, z)) (v : Int) : (lay g ad σ).set i (ad i, .inr (ci, (fl.mapIdx (fv ad σ i)).set k (vi v))) = lay g ad (setS σ i k v) := by
  refine lay_set ?_ (fun j hj => cell_cong (u2_row hj) rfl rfl rfl)
  rw [shO h]
  congr 2
  apply List.ext_getElem?
  intro j
  rw [List.getElem?_mapIdx, List.getElem?_set]
  by_cases hj : k = j
  · subst hj
    rw [if_pos rfl, hf, if_pos (by rw [List.length_mapIdx]; exact (List.getElem?_eq_some_iff.mp hf).1)]
    show some (vi (u2 (sc σ) i k v i k)) = some (vi v)
    rw [u2_at]
  · rw [if_neg hj, List.getElem?_mapIdx]
    cases fl[j]? with
    | none => rfl
    | some f =>
      show some (fv ad (setS σ i k v) i j f) = some (fv ad σ i j f)
      congr 1
      unfold fv
      show (match f.1 with | 0 => _ | 1 => vi (u2 (sc σ) i k v i j) | _ => _) = _
      rw [u2_ne2 (fun e => hj e.symm)]
      rfl
theorem lay_R {g : AG} {ad : Nat → Nat} {σ : SG} {i ci k z : Nat} {fl : List (Nat × Nat)} (h : shp i = (4, ci, fl)) (hf : fl[k]? = some (2, z)) (v : Nat) : (lay g ad σ).set i (ad i, .inr (ci, (fl.mapIdx (fv ad σ i)).set k (.ref (ad v)))) = lay g ad (setR σ i k v) := by
  refine lay_set ?_ (fun j hj => cell_cong rfl (u2_row hj) rfl rfl)
  rw [shO h]
  congr 2
  apply List.ext_getElem?
  intro j
  rw [List.getElem?_mapIdx, List.getElem?_set]
  by_cases hj : k = j
  · subst hj
    rw [if_pos rfl, hf, if_pos (by rw [List.length_mapIdx]; exact (List.getElem?_eq_some_iff.mp hf).1)]
    show some (Value.ref (ad (u2 (rv σ) i k v i k))) = some (.ref (ad v))
    rw [u2_at]
  · rw [if_neg hj, List.getElem?_mapIdx]
    cases fl[j]? with
    | none => rfl
    | some f =>
      show some (fv ad (setR σ i k v) i j f) = some (fv ad σ i j f)
      congr 1
      unfold fv
      show (match f.1 with | 0 => _ | 1 => _ | _ => Value.ref (ad (u2 (rv σ) i k v i j))) = _
      rw [u2_ne2 (fun e => hj e.symm)]
      rfl
theorem lay_A {g : AG} {ad : Nat → Nat} {σ : SG} {i n : Nat} {fl : List (Nat × Nat)} (f : Int → Int) (t : Nat) (ht : t = 0 ∨ t = 2) (h : shp i = (t, n, fl)) {f' : Nat → Int32} (hf : ∀ j : Nat, f' j = Int32.ofInt (f j)) : (lay g ad σ).set i (ad i, .inl (ag_c g t, n, .inl f')) = lay g ad (setA σ i f) := by
  refine lay_set ?_ (fun j hj => cell_cong rfl rfl (u1_row hj) rfl)
  have e : f' = fun j : Nat => Int32.ofInt (f j) := funext hf
  subst e
  have e2 : ia (setA σ i f) i = f := u1_at
  rcases ht with rfl | rfl
  · rw [sh0 h, e2]
  · rw [sh2 h, e2]
theorem lay_B {g : AG} {ad : Nat → Nat} {σ : SG} {i n : Nat} {fl : List (Nat × Nat)} (f : Int → Int) (h : shp i = (1, n, fl)) {f' : Nat → Int64} (hf : ∀ j : Nat, f' j = Int64.ofInt (f j)) : (lay g ad σ).set i (ad i, .inl (ag_c g 1, n, .inr (.inl f'))) = lay g ad (setB σ i f) := by
  refine lay_set ?_ (fun j hj => cell_cong rfl rfl rfl (u1_row hj))
  have e : f' = fun j : Nat => Int64.ofInt (f j) := funext hf
  subst e
  have e2 : la (setB σ i f) i = f := u1_at
  rw [sh1 h, e2]
theorem lay_I {g : AG} {ad : Nat → Nat} {σ : SG} {i n : Nat} {fl : List (Nat × Nat)} (t : Nat) (ht : t = 0 ∨ t = 2) (h : shp i = (t, n, fl)) {k : Int} (hk : 0 ≤ k) (v : Int) : (lay g ad σ).set i (ad i, .inl (ag_c g t, n, .inl (upd (fun j : Nat => Int32.ofInt (ia σ i j)) k.toNat (Int32.ofInt v)))) = lay g ad (setI σ i k v) := by
  refine lay_A (up (ia σ i) k v) t ht h (fun j => ?_)
  unfold upd up
  by_cases hj : j = k.toNat
  · have e : (j : Int) = k := by omega
    rw [if_pos hj, if_pos e]
  · have e : ¬ (j : Int) = k := by omega
    rw [if_neg hj, if_neg e]
theorem lay_L {g : AG} {ad : Nat → Nat} {σ : SG} {i n : Nat} {fl : List (Nat × Nat)} (h : shp i = (1, n, fl)) {k : Int} (hk : 0 ≤ k) (v : Int) : (lay g ad σ).set i (ad i, .inl (ag_c g 1, n, .inr (.inl (vp_updL (fun j : Nat => Int64.ofInt (la σ i j)) k.toNat (Int64.ofInt v))))) = lay g ad (setL σ i k v) := by
  refine lay_B (up (la σ i) k v) h (fun j => ?_)
  unfold vp_updL up
  by_cases hj : j = k.toNat
  · have e : (j : Int) = k := by omega
    rw [if_pos hj, if_pos e]
  · have e : ¬ (j : Int) = k := by omega
    rw [if_neg hj, if_neg e]
end LB


section LS
def stg0 : Int → Int := up (up (up (up (up (fun _ => 0) 0 20) 1 50) 2 2) 3 6) 4 8
def row0 : Int → Int := up (up (up (up (up (fun _ => 0) 4 20) 5 50) 6 2) 7 6) 8 8
def ls_sc : Nat → Nat → Int := u2 (u2 (fun _ _ => 0) 37 2 (-1)) 102 9 (-1)
def ls_rv : Nat → Nat → Nat := u2 (u2 (u2 (u2 (fun _ _ => 0) 0 1 13) 0 2 25) 37 16 13) 48 11 13
def ls_ia : Nat → Int → Int := u1 (u1 (u1 (u1 (fun _ _ => 0) 12 stg0) 24 stg0) 36 stg0) 103 row0
def ls_s0 : SG := (ls_sc, ls_rv, ls_ia, fun _ _ => 0)
theorem ls_cons {α : Type} {x y : α} {l m : List α} (h : x = y) (k : l = m) : x :: l = y :: m := by rw [h, k]
theorem ls_z0 {g : AG} {ad : Nat → Nat} {i q n : Nat} {fl : List (Nat × Nat)} (h : shp i = (0, n, fl)) (hz : ls_ia i = fun _ => 0) (hq : q = ad i) : ((q, .inl (ag_c g 0, n, .inl (fun _ => 0))) : Nat × va_E) = (ad i, cellOf g ad ls_s0 i) := by
  rw [sh0 h, hq]
  show _ = (ad i, (.inl (ag_c g 0, n, .inl (fun j : Nat => Int32.ofInt (ls_ia i (j : Nat)))) : va_E))
  rw [hz]
  rfl
theorem ls_z2 {g : AG} {ad : Nat → Nat} {i q n : Nat} {fl : List (Nat × Nat)} (h : shp i = (2, n, fl)) (hz : ls_ia i = fun _ => 0) (hq : q = ad i) : ((q, .inl (ag_c g 2, n, .inl (fun _ => 0))) : Nat × va_E) = (ad i, cellOf g ad ls_s0 i) := by
  rw [sh2 h, hq]
  show _ = (ad i, (.inl (ag_c g 2, n, .inl (fun j : Nat => Int32.ofInt (ls_ia i (j : Nat)))) : va_E))
  rw [hz]
  rfl
theorem ls_z1 {g : AG} {ad : Nat → Nat} {i q n : Nat} {fl : List (Nat × Nat)} (h : shp i = (1, n, fl)) (hq : q = ad i) : ((q, .inl (ag_c g 1, n, .inr (.inl (fun _ => 0)))) : Nat × va_E) = (ad i, cellOf g ad ls_s0 i) := by
  rw [sh1 h, hq]
  rfl
theorem ls_zf {g : AG} {ad : Nat → Nat} {i q n : Nat} {fl : List (Nat × Nat)} {f : Nat → Int32} (h : shp i = (0, n, fl)) (hz : ∀ j : Nat, f j = Int32.ofInt (ls_ia i (j : Nat))) (hq : q = ad i) : ((q, .inl (ag_c g 0, n, .inl f)) : Nat × va_E) = (ad i, cellOf g ad ls_s0 i) := by
  rw [sh0 h, hq, show f = fun j : Nat => Int32.ofInt (ls_ia i (j : Nat)) from funext hz]
  rfl
theorem ls_zo {g : AG} {ad : Nat → Nat} {i q ci : Nat} {fl : List (Nat × Nat)} {fs : List Value} (h : shp i = (4, ci, fl)) (hz : fs = fl.mapIdx (fv ad ls_s0 i)) (hq : q = ad i) : ((q, .inr (ci, fs)) : Nat × va_E) = (ad i, cellOf g ad ls_s0 i) := by
  rw [shO h, hq, hz]
theorem ls_upd {f : Nat → Int32} {F : Int → Int} {k : Nat} {v : Int32} {V : Int} (h : ∀ j : Nat, f j = Int32.ofInt (F j)) (hv : v = Int32.ofInt V) : ∀ j : Nat, upd f k v j = Int32.ofInt (up F k V j) := by
  intro j
  unfold upd up
  by_cases e : j = k
  · rw [if_pos e, if_pos (by omega), hv]
  · rw [if_neg e, if_neg (by omega), h j]
theorem ls_stg0 : ∀ j : Nat, (upd (upd (upd (upd (upd (fun _ => 0) (Int32.toNatClampNeg 0) 20) (Int32.toNatClampNeg 1) 50) (Int32.toNatClampNeg 2) 2) (Int32.toNatClampNeg 3) 6) (Int32.toNatClampNeg 4) 8 : Nat → Int32) j = Int32.ofInt (stg0 (j : Nat)) := ls_upd (k := 4) (V := 8) (ls_upd (k := 3) (V := 6) (ls_upd (k := 2) (V := 2) (ls_upd (k := 1) (V := 50) (ls_upd (k := 0) (V := 20) (fun _ => rfl) (by decide)) (by decide)) (by decide)) (by decide)) (by decide)
theorem ls_row0 : ∀ j : Nat, (upd (upd (upd (upd (upd (fun _ => 0) (Int32.toNatClampNeg 4) 20) (Int32.toNatClampNeg 5) 50) (Int32.toNatClampNeg 6) 2) (Int32.toNatClampNeg 7) 6) (Int32.toNatClampNeg 8) 8 : Nat → Int32) j = Int32.ofInt (row0 (j : Nat)) := ls_upd (k := 8) (V := 8) (ls_upd (k := 7) (V := 6) (ls_upd (k := 6) (V := 2) (ls_upd (k := 5) (V := 50) (ls_upd (k := 4) (V := 20) (fun _ => rfl) (by decide)) (by decide)) (by decide)) (by decide)) (by decide)
def ls_ad (a : Nat) (q1 : Nat) (q2 : Nat) (q3 : Nat) (q4 : Nat) (q5 : Nat) (q6 : Nat) (q7 : Nat) (q8 : Nat) (q9 : Nat) (q10 : Nat) (q11 : Nat) (q12 : Nat) (q13 : Nat) (q14 : Nat) (q15 : Nat) (q16 : Nat) (q17 : Nat) (q18 : Nat) (q19 : Nat) (q20 : Nat) (q21 : Nat) (q22 : Nat) (q23 : Nat) (q24 : Nat) (q25 : Nat) (q26 : Nat) (q27 : Nat) (q28 : Nat) (q29 : Nat) (q30 : Nat) (q31 : Nat) (q32 : Nat) (q33 : Nat) (q34 : Nat) (q35 : Nat) (q36 : Nat) (q37 : Nat) (q38 : Nat) (q39 : Nat) (q40 : Nat) (q41 : Nat) (q42 : Nat) (q43 : Nat) (q44 : Nat) (q45 : Nat) (q46 : Nat) (q47 : Nat) (q48 : Nat) (q49 : Nat) (q50 : Nat) (q51 : Nat) (q52 : Nat) (q53 : Nat) (q54 : Nat) (q55 : Nat) (q56 : Nat) (q57 : Nat) (q58 : Nat) (q59 : Nat) (q60 : Nat) (q61 : Nat) (q62 : Nat) (q63 : Nat) (q64 : Nat) (q65 : Nat) (q66 : Nat) (q67 : Nat) (q68 : Nat) (q69 : Nat) (q70 : Nat) (q71 : Nat) (q72 : Nat) (q73 : Nat) (q74 : Nat) (q75 : Nat) (q76 : Nat) (q77 : Nat) (q78 : Nat) (q79 : Nat) (q80 : Nat) (q81 : Nat) (q82 : Nat) (q83 : Nat) (q84 : Nat) (q85 : Nat) (q86 : Nat) (q87 : Nat) (q88 : Nat) (q89 : Nat) (q90 : Nat) (rr91 : Nat → Nat) (q92 : Nat) (b : Nat) (p1 : Nat) (p2 : Nat) (p3 : Nat) (p4 : Nat) (p5 : Nat) (p6 : Nat) (p7 : Nat) (p8 : Nat) (p9 : Nat) (p10 : Nat) (p11 : Nat) (p12 : Nat) (p13 : Nat) (p14 : Nat) (p15 : Nat) (p16 : Nat) (p17 : Nat) (p18 : Nat) (p19 : Nat) (p20 : Nat) (p21 : Nat) (p22 : Nat) (p23 : Nat) (p24 : Nat) (p25 : Nat) (p26 : Nat) (p27 : Nat) (p28 : Nat) (r : Nat) : Nat → Nat := fun i => [a, q1, q2, q3, q4, q5, q6, q7, q8, q9, q10, q11, q12, q13, q14, q15, q16, q17, q18, q19, q20, q21, q22, q23, q24, q25, q26, q27, q28, q29, q30, q31, q32, q33, q34, q35, q36, q37, q38, q39, q40, q41, q42, q43, q44, q45, q46, q47, q48, q49, q50, q51, q52, q53, q54, q55, q56, q57, q58, q59, q60, q61, q62, q63, q64, q65, q66, q67, q68, q69, q70, q71, q72, q73, q74, q75, q76, q77, q78, q79, q80, q81, q82, q83, q84, q85, q86, q87, q88, q89, q90, rr91 0, rr91 1, rr91 2, rr91 3, rr91 4, rr91 5, rr91 6, rr91 7, rr91 8, rr91 9, q92, b, p1, p2, p3, p4, p5, p6, p7, p8, p9, p10, p11, p12, p13, p14, p15, p16, p17, p18, p19, p20, p21, p22, p23, p24, p25, p26, p27, p28, r].getD i 0
def miF (F : Nat → Nat × Nat → Value) : Nat → List (Nat × Nat) → List Value
  | _, [] => []
  | k, x :: l => F k x :: miF F (k + 1) l
theorem miF_eq (F : Nat → Nat × Nat → Value) : ∀ (l : List (Nat × Nat)) (k : Nat), l.mapIdx (fun i => F (i + k)) = miF F k l
  | [], _ => rfl
  | x :: l, k => by
    rw [List.mapIdx_cons]
    show F (0 + k) x :: _ = F k x :: miF F (k + 1) l
    rw [Nat.zero_add, ← miF_eq F l (k + 1)]
    congr 2
    funext i
    show F (i + 1 + k) = F (i + (k + 1))
    congr 1
    omega
theorem ls_zm {g : AG} {ad : Nat → Nat} {i ci : Nat} {fl : List (Nat × Nat)} {fs : List Value} (h : shp i = (4, ci, fl)) (hz : miF (fv ad ls_s0 i) 0 fl = fs) : (ad i, cellOf g ad ls_s0 i) = ((ad i, .inr (ci, fs)) : Nat × va_E) := by
  rw [shO h, ← hz, ← miF_eq]
  rfl
theorem ls_c0 {g : AG} {ad : Nat → Nat} : (ad 0, cellOf g ad ls_s0 0) = ((ad 0, .inr (9, [.ref (ad 1), .ref (ad 13), .ref (ad 25), .ref (ad 37), .ref (ad 48), .ref (ad 58), .ref (ad 63), .ref (ad 72), .ref (ad 75), .ref (ad 85), .ref (ad 88), .int 0, .int 0, .int 0, .int 0])) : Nat × va_E) := ls_zm (i := 0) rfl rfl
theorem ls_c1 {g : AG} {ad : Nat → Nat} : (ad 1, cellOf g ad ls_s0 1) = ((ad 1, .inr (2, [.ref (ad 2), .ref (ad 3), .int 0, .ref (ad 4), .ref (ad 5), .ref (ad 6), .ref (ad 7), .ref (ad 8), .ref (ad 9), .int 0, .ref (ad 10), .int 0, .ref (ad 11), .int 0, .ref (ad 12)])) : Nat × va_E) := ls_zm (i := 1) rfl rfl
theorem ls_c13 {g : AG} {ad : Nat → Nat} : (ad 13, cellOf g ad ls_s0 13) = ((ad 13, .inr (2, [.ref (ad 14), .ref (ad 15), .int 0, .ref (ad 16), .ref (ad 17), .ref (ad 18), .ref (ad 19), .ref (ad 20), .ref (ad 21), .int 0, .ref (ad 22), .int 0, .ref (ad 23), .int 0, .ref (ad 24)])) : Nat × va_E) := ls_zm (i := 13) rfl rfl
theorem ls_c25 {g : AG} {ad : Nat → Nat} : (ad 25, cellOf g ad ls_s0 25) = ((ad 25, .inr (2, [.ref (ad 26), .ref (ad 27), .int 0, .ref (ad 28), .ref (ad 29), .ref (ad 30), .ref (ad 31), .ref (ad 32), .ref (ad 33), .int 0, .ref (ad 34), .int 0, .ref (ad 35), .int 0, .ref (ad 36)])) : Nat × va_E) := ls_zm (i := 25) rfl rfl
theorem ls_c37 {g : AG} {ad : Nat → Nat} : (ad 37, cellOf g ad ls_s0 37) = ((ad 37, .inr (5, [.ref (ad 38), .int 0, .int (-1), .ref (ad 39), .ref (ad 40), .ref (ad 41), .ref (ad 42), .ref (ad 43), .ref (ad 44), .int 0, .ref (ad 45), .int 0, .ref (ad 46), .int 0, .ref (ad 47), .int 0, .ref (ad 13), .int 0])) : Nat × va_E) := ls_zm (i := 37) rfl rfl
theorem ls_c48 {g : AG} {ad : Nat → Nat} : (ad 48, cellOf g ad ls_s0 48) = ((ad 48, .inr (4, [.ref (ad 49), .ref (ad 50), .ref (ad 51), .ref (ad 52), .ref (ad 53), .ref (ad 54), .ref (ad 55), .ref (ad 56), .ref (ad 57), .int 0, .int 0, .ref (ad 13)])) : Nat × va_E) := ls_zm (i := 48) rfl rfl
theorem ls_c58 {g : AG} {ad : Nat → Nat} : (ad 58, cellOf g ad ls_s0 58) = ((ad 58, .inr (1, [.ref (ad 48), .ref (ad 59), .ref (ad 60), .ref (ad 61), .ref (ad 62), .int 0, .int 0, .int 0, .int 0])) : Nat × va_E) := ls_zm (i := 58) rfl rfl
theorem ls_c63 {g : AG} {ad : Nat → Nat} : (ad 63, cellOf g ad ls_s0 63) = ((ad 63, .inr (8, [.ref (ad 48), .ref (ad 58), .ref (ad 64), .ref (ad 65), .ref (ad 66), .ref (ad 67), .int 0, .ref (ad 68), .int 0, .ref (ad 69), .ref (ad 70), .int 0, .ref (ad 71), .int 0])) : Nat × va_E) := ls_zm (i := 63) rfl rfl
theorem ls_c72 {g : AG} {ad : Nat → Nat} : (ad 72, cellOf g ad ls_s0 72) = ((ad 72, .inr (7, [.ref (ad 48), .ref (ad 73), .ref (ad 74)])) : Nat × va_E) := ls_zm (i := 72) rfl rfl
theorem ls_c75 {g : AG} {ad : Nat → Nat} : (ad 75, cellOf g ad ls_s0 75) = ((ad 75, .inr (6, [.ref (ad 48), .ref (ad 58), .ref (ad 72), .ref (ad 76), .ref (ad 77), .ref (ad 78), .ref (ad 79), .ref (ad 80), .ref (ad 81), .ref (ad 82), .ref (ad 83), .int 0, .int 0, .int 0, .int 0, .int 0, .ref (ad 84), .int 0])) : Nat × va_E) := ls_zm (i := 75) rfl rfl
theorem ls_c85 {g : AG} {ad : Nat → Nat} : (ad 85, cellOf g ad ls_s0 85) = ((ad 85, .inr (0, [.ref (ad 48), .ref (ad 86), .ref (ad 87)])) : Nat × va_E) := ls_zm (i := 85) rfl rfl
theorem ls_c88 {g : AG} {ad : Nat → Nat} : (ad 88, cellOf g ad ls_s0 88) = ((ad 88, .inr (3, [.ref (ad 89), .ref (ad 90), .ref (ad 101), .int 0])) : Nat × va_E) := ls_zm (i := 88) rfl rfl
theorem ls_c102 {g : AG} {ad : Nat → Nat} : (ad 102, cellOf g ad ls_s0 102) = ((ad 102, .inr (10, [.int 0, .ref (ad 103), .ref (ad 104), .ref (ad 105), .int 0, .ref (ad 106), .int 0, .int 0, .int 0, .int (-1), .ref (ad 107), .ref (ad 108), .int 0, .ref (ad 109), .int 0, .int 0, .ref (ad 110), .ref (ad 111), .int 0, .ref (ad 112), .int 0, .ref (ad 113), .int 0, .int 0, .ref (ad 114), .ref (ad 115), .int 0, .int 0, .int 0, .int 0, .int 0, .ref (ad 116), .int 0, .ref (ad 117), .ref (ad 118), .ref (ad 119), .ref (ad 120), .ref (ad 121), .ref (ad 122), .ref (ad 123), .ref (ad 124), .ref (ad 125), .ref (ad 126), .int 0, .int 0, .int 0, .int 0, .int 0, .ref (ad 127), .ref (ad 128), .ref (ad 129), .ref (ad 130)])) : Nat × va_E) := ls_zm (i := 102) rfl rfl
theorem ls_lay {g : AG} {ad : Nat → Nat} : lay g ad ls_s0 = ([(ad 0, .inr (9, [.ref (ad 1), .ref (ad 13), .ref (ad 25), .ref (ad 37), .ref (ad 48), .ref (ad 58), .ref (ad 63), .ref (ad 72), .ref (ad 75), .ref (ad 85), .ref (ad 88), .int 0, .int 0, .int 0, .int 0])), (ad 1, .inr (2, [.ref (ad 2), .ref (ad 3), .int 0, .ref (ad 4), .ref (ad 5), .ref (ad 6), .ref (ad 7), .ref (ad 8), .ref (ad 9), .int 0, .ref (ad 10), .int 0, .ref (ad 11), .int 0, .ref (ad 12)])), (ad 2, .inl (ag_c g 0, 320, .inl (fun _ => 0))), (ad 3, .inl (ag_c g 0, 40, .inl (fun _ => 0))), (ad 4, .inl (ag_c g 0, 90, .inl (fun _ => 0))), (ad 5, .inl (ag_c g 0, 30, .inl (fun _ => 0))), (ad 6, .inl (ag_c g 0, 90, .inl (fun _ => 0))), (ad 7, .inl (ag_c g 0, 30, .inl (fun _ => 0))), (ad 8, .inl (ag_c g 0, 30, .inl (fun _ => 0))), (ad 9, .inl (ag_c g 2, 30, .inl (fun _ => 0))), (ad 10, .inl (ag_c g 0, 1681, .inl (fun _ => 0))), (ad 11, .inl (ag_c g 0, 6, .inl (fun _ => 0))), (ad 12, .inl (ag_c g 0, 5, .inl (upd (upd (upd (upd (upd (fun _ => 0) (Int32.toNatClampNeg 0) 20) (Int32.toNatClampNeg 1) 50) (Int32.toNatClampNeg 2) 2) (Int32.toNatClampNeg 3) 6) (Int32.toNatClampNeg 4) 8))), (ad 13, .inr (2, [.ref (ad 14), .ref (ad 15), .int 0, .ref (ad 16), .ref (ad 17), .ref (ad 18), .ref (ad 19), .ref (ad 20), .ref (ad 21), .int 0, .ref (ad 22), .int 0, .ref (ad 23), .int 0, .ref (ad 24)])), (ad 14, .inl (ag_c g 0, 320, .inl (fun _ => 0))), (ad 15, .inl (ag_c g 0, 40, .inl (fun _ => 0))), (ad 16, .inl (ag_c g 0, 90, .inl (fun _ => 0))), (ad 17, .inl (ag_c g 0, 30, .inl (fun _ => 0))), (ad 18, .inl (ag_c g 0, 90, .inl (fun _ => 0))), (ad 19, .inl (ag_c g 0, 30, .inl (fun _ => 0))), (ad 20, .inl (ag_c g 0, 30, .inl (fun _ => 0))), (ad 21, .inl (ag_c g 2, 30, .inl (fun _ => 0))), (ad 22, .inl (ag_c g 0, 1681, .inl (fun _ => 0))), (ad 23, .inl (ag_c g 0, 6, .inl (fun _ => 0))), (ad 24, .inl (ag_c g 0, 5, .inl (upd (upd (upd (upd (upd (fun _ => 0) (Int32.toNatClampNeg 0) 20) (Int32.toNatClampNeg 1) 50) (Int32.toNatClampNeg 2) 2) (Int32.toNatClampNeg 3) 6) (Int32.toNatClampNeg 4) 8))), (ad 25, .inr (2, [.ref (ad 26), .ref (ad 27), .int 0, .ref (ad 28), .ref (ad 29), .ref (ad 30), .ref (ad 31), .ref (ad 32), .ref (ad 33), .int 0, .ref (ad 34), .int 0, .ref (ad 35), .int 0, .ref (ad 36)])), (ad 26, .inl (ag_c g 0, 320, .inl (fun _ => 0))), (ad 27, .inl (ag_c g 0, 40, .inl (fun _ => 0))), (ad 28, .inl (ag_c g 0, 90, .inl (fun _ => 0))), (ad 29, .inl (ag_c g 0, 30, .inl (fun _ => 0))), (ad 30, .inl (ag_c g 0, 90, .inl (fun _ => 0))), (ad 31, .inl (ag_c g 0, 30, .inl (fun _ => 0))), (ad 32, .inl (ag_c g 0, 30, .inl (fun _ => 0))), (ad 33, .inl (ag_c g 2, 30, .inl (fun _ => 0))), (ad 34, .inl (ag_c g 0, 1681, .inl (fun _ => 0))), (ad 35, .inl (ag_c g 0, 6, .inl (fun _ => 0))), (ad 36, .inl (ag_c g 0, 5, .inl (upd (upd (upd (upd (upd (fun _ => 0) (Int32.toNatClampNeg 0) 20) (Int32.toNatClampNeg 1) 50) (Int32.toNatClampNeg 2) 2) (Int32.toNatClampNeg 3) 6) (Int32.toNatClampNeg 4) 8))), (ad 37, .inr (5, [.ref (ad 38), .int 0, .int (-1), .ref (ad 39), .ref (ad 40), .ref (ad 41), .ref (ad 42), .ref (ad 43), .ref (ad 44), .int 0, .ref (ad 45), .int 0, .ref (ad 46), .int 0, .ref (ad 47), .int 0, .ref (ad 13), .int 0])), (ad 38, .inl (ag_c g 0, 400, .inl (fun _ => 0))), (ad 39, .inl (ag_c g 0, 12, .inl (fun _ => 0))), (ad 40, .inl (ag_c g 0, 36, .inl (fun _ => 0))), (ad 41, .inl (ag_c g 0, 12, .inl (fun _ => 0))), (ad 42, .inl (ag_c g 0, 36, .inl (fun _ => 0))), (ad 43, .inl (ag_c g 0, 12, .inl (fun _ => 0))), (ad 44, .inl (ag_c g 0, 12, .inl (fun _ => 0))), (ad 45, .inl (ag_c g 0, 18, .inl (fun _ => 0))), (ad 46, .inl (ag_c g 0, 6, .inl (fun _ => 0))), (ad 47, .inl (ag_c g 0, 6, .inl (fun _ => 0))), (ad 48, .inr (4, [.ref (ad 49), .ref (ad 50), .ref (ad 51), .ref (ad 52), .ref (ad 53), .ref (ad 54), .ref (ad 55), .ref (ad 56), .ref (ad 57), .int 0, .int 0, .ref (ad 13)])), (ad 49, .inl (ag_c g 0, 186, .inl (fun _ => 0))), (ad 50, .inl (ag_c g 0, 186, .inl (fun _ => 0))), (ad 51, .inl (ag_c g 0, 186, .inl (fun _ => 0))), (ad 52, .inl (ag_c g 0, 186, .inl (fun _ => 0))), (ad 53, .inl (ag_c g 0, 558, .inl (fun _ => 0))), (ad 54, .inl (ag_c g 0, 186, .inl (fun _ => 0))), (ad 55, .inl (ag_c g 0, 186, .inl (fun _ => 0))), (ad 56, .inl (ag_c g 0, 186, .inl (fun _ => 0))), (ad 57, .inl (ag_c g 0, 186, .inl (fun _ => 0))), (ad 58, .inr (1, [.ref (ad 48), .ref (ad 59), .ref (ad 60), .ref (ad 61), .ref (ad 62), .int 0, .int 0, .int 0, .int 0])), (ad 59, .inl (ag_c g 0, 18368, .inl (fun _ => 0))), (ad 60, .inl (ag_c g 0, 7913, .inl (fun _ => 0))), (ad 61, .inl (ag_c g 0, 7913, .inl (fun _ => 0))), (ad 62, .inl (ag_c g 0, 8, .inl (fun _ => 0))), (ad 63, .inr (8, [.ref (ad 48), .ref (ad 58), .ref (ad 64), .ref (ad 65), .ref (ad 66), .ref (ad 67), .int 0, .ref (ad 68), .int 0, .ref (ad 69), .ref (ad 70), .int 0, .ref (ad 71), .int 0])), (ad 64, .inl (ag_c g 1, 30, .inr (.inl (fun _ => 0)))), (ad 65, .inl (ag_c g 0, 30, .inl (fun _ => 0))), (ad 66, .inl (ag_c g 0, 30, .inl (fun _ => 0))), (ad 67, .inl (ag_c g 0, 30, .inl (fun _ => 0))), (ad 68, .inl (ag_c g 1, 30, .inr (.inl (fun _ => 0)))), (ad 69, .inl (ag_c g 0, 6, .inl (fun _ => 0))), (ad 70, .inl (ag_c g 0, 6, .inl (fun _ => 0))), (ad 71, .inl (ag_c g 0, 18, .inl (fun _ => 0))), (ad 72, .inr (7, [.ref (ad 48), .ref (ad 73), .ref (ad 74)])), (ad 73, .inl (ag_c g 0, 36, .inl (fun _ => 0))), (ad 74, .inl (ag_c g 0, 64, .inl (fun _ => 0))), (ad 75, .inr (6, [.ref (ad 48), .ref (ad 58), .ref (ad 72), .ref (ad 76), .ref (ad 77), .ref (ad 78), .ref (ad 79), .ref (ad 80), .ref (ad 81), .ref (ad 82), .ref (ad 83), .int 0, .int 0, .int 0, .int 0, .int 0, .ref (ad 84), .int 0])), (ad 76, .inl (ag_c g 0, 7913, .inl (fun _ => 0))), (ad 77, .inl (ag_c g 0, 7913, .inl (fun _ => 0))), (ad 78, .inl (ag_c g 0, 7913, .inl (fun _ => 0))), (ad 79, .inl (ag_c g 0, 7913, .inl (fun _ => 0))), (ad 80, .inl (ag_c g 0, 7, .inl (fun _ => 0))), (ad 81, .inl (ag_c g 0, 7, .inl (fun _ => 0))), (ad 82, .inl (ag_c g 1, 40, .inr (.inl (fun _ => 0)))), (ad 83, .inl (ag_c g 0, 40, .inl (fun _ => 0))), (ad 84, .inl (ag_c g 0, 6, .inl (fun _ => 0))), (ad 85, .inr (0, [.ref (ad 48), .ref (ad 86), .ref (ad 87)])), (ad 86, .inl (ag_c g 0, 448, .inl (fun _ => 0))), (ad 87, .inl (ag_c g 0, 8512, .inl (fun _ => 0))), (ad 88, .inr (3, [.ref (ad 89), .ref (ad 90), .ref (ad 101), .int 0])), (ad 89, .inl (ag_c g 0, 19, .inl (fun _ => 0))), (ad 90, .inl (ag_c g 3, 10, .inr (.inr (.inr (.inr (fun i => if i < 10 then some (ad (90 + 1 + i)) else none)))))), (ad 91, .inl (ag_c g 0, 18, .inl (fun _ => 0))), (ad 92, .inl (ag_c g 0, 18, .inl (fun _ => 0))), (ad 93, .inl (ag_c g 0, 18, .inl (fun _ => 0))), (ad 94, .inl (ag_c g 0, 18, .inl (fun _ => 0))), (ad 95, .inl (ag_c g 0, 18, .inl (fun _ => 0))), (ad 96, .inl (ag_c g 0, 18, .inl (fun _ => 0))), (ad 97, .inl (ag_c g 0, 18, .inl (fun _ => 0))), (ad 98, .inl (ag_c g 0, 18, .inl (fun _ => 0))), (ad 99, .inl (ag_c g 0, 18, .inl (fun _ => 0))), (ad 100, .inl (ag_c g 0, 18, .inl (fun _ => 0))), (ad 101, .inl (ag_c g 0, 10, .inl (fun _ => 0))), (ad 102, .inr (10, [.int 0, .ref (ad 103), .ref (ad 104), .ref (ad 105), .int 0, .ref (ad 106), .int 0, .int 0, .int 0, .int (-1), .ref (ad 107), .ref (ad 108), .int 0, .ref (ad 109), .int 0, .int 0, .ref (ad 110), .ref (ad 111), .int 0, .ref (ad 112), .int 0, .ref (ad 113), .int 0, .int 0, .ref (ad 114), .ref (ad 115), .int 0, .int 0, .int 0, .int 0, .int 0, .ref (ad 116), .int 0, .ref (ad 117), .ref (ad 118), .ref (ad 119), .ref (ad 120), .ref (ad 121), .ref (ad 122), .ref (ad 123), .ref (ad 124), .ref (ad 125), .ref (ad 126), .int 0, .int 0, .int 0, .int 0, .int 0, .ref (ad 127), .ref (ad 128), .ref (ad 129), .ref (ad 130)])), (ad 103, .inl (ag_c g 0, 855, .inl (upd (upd (upd (upd (upd (fun _ => 0) (Int32.toNatClampNeg 4) 20) (Int32.toNatClampNeg 5) 50) (Int32.toNatClampNeg 6) 2) (Int32.toNatClampNeg 7) 6) (Int32.toNatClampNeg 8) 8))), (ad 104, .inl (ag_c g 0, 855, .inl (fun _ => 0))), (ad 105, .inl (ag_c g 0, 855, .inl (fun _ => 0))), (ad 106, .inl (ag_c g 0, 400, .inl (fun _ => 0))), (ad 107, .inl (ag_c g 0, 120, .inl (fun _ => 0))), (ad 108, .inl (ag_c g 0, 12, .inl (fun _ => 0))), (ad 109, .inl (ag_c g 0, 18, .inl (fun _ => 0))), (ad 110, .inl (ag_c g 0, 12, .inl (fun _ => 0))), (ad 111, .inl (ag_c g 0, 12, .inl (fun _ => 0))), (ad 112, .inl (ag_c g 0, 18816, .inl (fun _ => 0))), (ad 113, .inl (ag_c g 1, 448, .inr (.inl (fun _ => 0)))), (ad 114, .inl (ag_c g 0, 6, .inl (fun _ => 0))), (ad 115, .inl (ag_c g 0, 6, .inl (fun _ => 0))), (ad 116, .inl (ag_c g 0, 18, .inl (fun _ => 0))), (ad 117, .inl (ag_c g 0, 36, .inl (fun _ => 0))), (ad 118, .inl (ag_c g 2, 18816, .inl (fun _ => 0))), (ad 119, .inl (ag_c g 2, 18816, .inl (fun _ => 0))), (ad 120, .inl (ag_c g 0, 18816, .inl (fun _ => 0))), (ad 121, .inl (ag_c g 0, 18816, .inl (fun _ => 0))), (ad 122, .inl (ag_c g 0, 18816, .inl (fun _ => 0))), (ad 123, .inl (ag_c g 0, 18816, .inl (fun _ => 0))), (ad 124, .inl (ag_c g 0, 18816, .inl (fun _ => 0))), (ad 125, .inl (ag_c g 0, 7, .inl (fun _ => 0))), (ad 126, .inl (ag_c g 0, 7, .inl (fun _ => 0))), (ad 127, .inl (ag_c g 0, 8512, .inl (fun _ => 0))), (ad 128, .inl (ag_c g 0, 361, .inl (fun _ => 0))), (ad 129, .inl (ag_c g 0, 180, .inl (fun _ => 0))), (ad 130, .inl (ag_c g 0, 10, .inl (fun _ => 0))), (ad 131, .inl (ag_c g 1, 1, .inr (.inl (fun _ => 0))))] : va_W) := by
  unfold lay
  rw [show List.range NC = [0, 1, 2, 3, 4, 5, 6, 7, 8, 9, 10, 11, 12, 13, 14, 15, 16, 17, 18, 19, 20, 21, 22, 23, 24, 25, 26, 27, 28, 29, 30, 31, 32, 33, 34, 35, 36, 37, 38, 39, 40, 41, 42, 43, 44, 45, 46, 47, 48, 49, 50, 51, 52, 53, 54, 55, 56, 57, 58, 59, 60, 61, 62, 63, 64, 65, 66, 67, 68, 69, 70, 71, 72, 73, 74, 75, 76, 77, 78, 79, 80, 81, 82, 83, 84, 85, 86, 87, 88, 89, 90, 91, 92, 93, 94, 95, 96, 97, 98, 99, 100, 101, 102, 103, 104, 105, 106, 107, 108, 109, 110, 111, 112, 113, 114, 115, 116, 117, 118, 119, 120, 121, 122, 123, 124, 125, 126, 127, 128, 129, 130, 131] from rfl]
  simp only [List.map_cons, List.map_nil]
  refine ls_cons (ls_c0) ?_
  refine ls_cons (ls_c1) ?_
  refine ls_cons ((ls_z0 (i := 2) rfl rfl rfl).symm) ?_
  refine ls_cons ((ls_z0 (i := 3) rfl rfl rfl).symm) ?_
  refine ls_cons ((ls_z0 (i := 4) rfl rfl rfl).symm) ?_
  refine ls_cons ((ls_z0 (i := 5) rfl rfl rfl).symm) ?_
  refine ls_cons ((ls_z0 (i := 6) rfl rfl rfl).symm) ?_
  refine ls_cons ((ls_z0 (i := 7) rfl rfl rfl).symm) ?_
  refine ls_cons ((ls_z0 (i := 8) rfl rfl rfl).symm) ?_
  refine ls_cons ((ls_z2 (i := 9) rfl rfl rfl).symm) ?_
  refine ls_cons ((ls_z0 (i := 10) rfl rfl rfl).symm) ?_
  refine ls_cons ((ls_z0 (i := 11) rfl rfl rfl).symm) ?_
  refine ls_cons ((ls_zf (i := 12) rfl ls_stg0 rfl).symm) ?_
  refine ls_cons (ls_c13) ?_
  refine ls_cons ((ls_z0 (i := 14) rfl rfl rfl).symm) ?_
  refine ls_cons ((ls_z0 (i := 15) rfl rfl rfl).symm) ?_
  refine ls_cons ((ls_z0 (i := 16) rfl rfl rfl).symm) ?_
  refine ls_cons ((ls_z0 (i := 17) rfl rfl rfl).symm) ?_
  refine ls_cons ((ls_z0 (i := 18) rfl rfl rfl).symm) ?_
  refine ls_cons ((ls_z0 (i := 19) rfl rfl rfl).symm) ?_
  refine ls_cons ((ls_z0 (i := 20) rfl rfl rfl).symm) ?_
  refine ls_cons ((ls_z2 (i := 21) rfl rfl rfl).symm) ?_
  refine ls_cons ((ls_z0 (i := 22) rfl rfl rfl).symm) ?_
  refine ls_cons ((ls_z0 (i := 23) rfl rfl rfl).symm) ?_
  refine ls_cons ((ls_zf (i := 24) rfl ls_stg0 rfl).symm) ?_
  refine ls_cons (ls_c25) ?_
  refine ls_cons ((ls_z0 (i := 26) rfl rfl rfl).symm) ?_
  refine ls_cons ((ls_z0 (i := 27) rfl rfl rfl).symm) ?_
  refine ls_cons ((ls_z0 (i := 28) rfl rfl rfl).symm) ?_
  refine ls_cons ((ls_z0 (i := 29) rfl rfl rfl).symm) ?_
  refine ls_cons ((ls_z0 (i := 30) rfl rfl rfl).symm) ?_
  refine ls_cons ((ls_z0 (i := 31) rfl rfl rfl).symm) ?_
  refine ls_cons ((ls_z0 (i := 32) rfl rfl rfl).symm) ?_
  refine ls_cons ((ls_z2 (i := 33) rfl rfl rfl).symm) ?_
  refine ls_cons ((ls_z0 (i := 34) rfl rfl rfl).symm) ?_
  refine ls_cons ((ls_z0 (i := 35) rfl rfl rfl).symm) ?_
  refine ls_cons ((ls_zf (i := 36) rfl ls_stg0 rfl).symm) ?_
  refine ls_cons (ls_c37) ?_
  refine ls_cons ((ls_z0 (i := 38) rfl rfl rfl).symm) ?_
  refine ls_cons ((ls_z0 (i := 39) rfl rfl rfl).symm) ?_
  refine ls_cons ((ls_z0 (i := 40) rfl rfl rfl).symm) ?_
  refine ls_cons ((ls_z0 (i := 41) rfl rfl rfl).symm) ?_
  refine ls_cons ((ls_z0 (i := 42) rfl rfl rfl).symm) ?_
  refine ls_cons ((ls_z0 (i := 43) rfl rfl rfl).symm) ?_
  refine ls_cons ((ls_z0 (i := 44) rfl rfl rfl).symm) ?_
  refine ls_cons ((ls_z0 (i := 45) rfl rfl rfl).symm) ?_
  refine ls_cons ((ls_z0 (i := 46) rfl rfl rfl).symm) ?_
  refine ls_cons ((ls_z0 (i := 47) rfl rfl rfl).symm) ?_
  refine ls_cons (ls_c48) ?_
  refine ls_cons ((ls_z0 (i := 49) rfl rfl rfl).symm) ?_
  refine ls_cons ((ls_z0 (i := 50) rfl rfl rfl).symm) ?_
  refine ls_cons ((ls_z0 (i := 51) rfl rfl rfl).symm) ?_
  refine ls_cons ((ls_z0 (i := 52) rfl rfl rfl).symm) ?_
  refine ls_cons ((ls_z0 (i := 53) rfl rfl rfl).symm) ?_
  refine ls_cons ((ls_z0 (i := 54) rfl rfl rfl).symm) ?_
  refine ls_cons ((ls_z0 (i := 55) rfl rfl rfl).symm) ?_
  refine ls_cons ((ls_z0 (i := 56) rfl rfl rfl).symm) ?_
  refine ls_cons ((ls_z0 (i := 57) rfl rfl rfl).symm) ?_
  refine ls_cons (ls_c58) ?_
  refine ls_cons ((ls_z0 (i := 59) rfl rfl rfl).symm) ?_
  refine ls_cons ((ls_z0 (i := 60) rfl rfl rfl).symm) ?_
  refine ls_cons ((ls_z0 (i := 61) rfl rfl rfl).symm) ?_
  refine ls_cons ((ls_z0 (i := 62) rfl rfl rfl).symm) ?_
  refine ls_cons (ls_c63) ?_
  refine ls_cons ((ls_z1 (i := 64) rfl rfl).symm) ?_
  refine ls_cons ((ls_z0 (i := 65) rfl rfl rfl).symm) ?_
  refine ls_cons ((ls_z0 (i := 66) rfl rfl rfl).symm) ?_
  refine ls_cons ((ls_z0 (i := 67) rfl rfl rfl).symm) ?_
  refine ls_cons ((ls_z1 (i := 68) rfl rfl).symm) ?_
  refine ls_cons ((ls_z0 (i := 69) rfl rfl rfl).symm) ?_
  refine ls_cons ((ls_z0 (i := 70) rfl rfl rfl).symm) ?_
  refine ls_cons ((ls_z0 (i := 71) rfl rfl rfl).symm) ?_
  refine ls_cons (ls_c72) ?_
  refine ls_cons ((ls_z0 (i := 73) rfl rfl rfl).symm) ?_
  refine ls_cons ((ls_z0 (i := 74) rfl rfl rfl).symm) ?_
  refine ls_cons (ls_c75) ?_
  refine ls_cons ((ls_z0 (i := 76) rfl rfl rfl).symm) ?_
  refine ls_cons ((ls_z0 (i := 77) rfl rfl rfl).symm) ?_
  refine ls_cons ((ls_z0 (i := 78) rfl rfl rfl).symm) ?_
  refine ls_cons ((ls_z0 (i := 79) rfl rfl rfl).symm) ?_
  refine ls_cons ((ls_z0 (i := 80) rfl rfl rfl).symm) ?_
  refine ls_cons ((ls_z0 (i := 81) rfl rfl rfl).symm) ?_
  refine ls_cons ((ls_z1 (i := 82) rfl rfl).symm) ?_
  refine ls_cons ((ls_z0 (i := 83) rfl rfl rfl).symm) ?_
  refine ls_cons ((ls_z0 (i := 84) rfl rfl rfl).symm) ?_
  refine ls_cons (ls_c85) ?_
  refine ls_cons ((ls_z0 (i := 86) rfl rfl rfl).symm) ?_
  refine ls_cons ((ls_z0 (i := 87) rfl rfl rfl).symm) ?_
  refine ls_cons (ls_c88) ?_
  refine ls_cons ((ls_z0 (i := 89) rfl rfl rfl).symm) ?_
  refine ls_cons (by rw [sh3 (i := 90) (n := 10) (fl := []) rfl]) ?_
  refine ls_cons ((ls_z0 (i := 91) rfl rfl rfl).symm) ?_
  refine ls_cons ((ls_z0 (i := 92) rfl rfl rfl).symm) ?_
  refine ls_cons ((ls_z0 (i := 93) rfl rfl rfl).symm) ?_
  refine ls_cons ((ls_z0 (i := 94) rfl rfl rfl).symm) ?_
  refine ls_cons ((ls_z0 (i := 95) rfl rfl rfl).symm) ?_
  refine ls_cons ((ls_z0 (i := 96) rfl rfl rfl).symm) ?_
  refine ls_cons ((ls_z0 (i := 97) rfl rfl rfl).symm) ?_
  refine ls_cons ((ls_z0 (i := 98) rfl rfl rfl).symm) ?_
  refine ls_cons ((ls_z0 (i := 99) rfl rfl rfl).symm) ?_
  refine ls_cons ((ls_z0 (i := 100) rfl rfl rfl).symm) ?_
  refine ls_cons ((ls_z0 (i := 101) rfl rfl rfl).symm) ?_
  refine ls_cons (ls_c102) ?_
  refine ls_cons ((ls_zf (i := 103) rfl ls_row0 rfl).symm) ?_
  refine ls_cons ((ls_z0 (i := 104) rfl rfl rfl).symm) ?_
  refine ls_cons ((ls_z0 (i := 105) rfl rfl rfl).symm) ?_
  refine ls_cons ((ls_z0 (i := 106) rfl rfl rfl).symm) ?_
  refine ls_cons ((ls_z0 (i := 107) rfl rfl rfl).symm) ?_
  refine ls_cons ((ls_z0 (i := 108) rfl rfl rfl).symm) ?_
  refine ls_cons ((ls_z0 (i := 109) rfl rfl rfl).symm) ?_
  refine ls_cons ((ls_z0 (i := 110) rfl rfl rfl).symm) ?_
  refine ls_cons ((ls_z0 (i := 111) rfl rfl rfl).symm) ?_
  refine ls_cons ((ls_z0 (i := 112) rfl rfl rfl).symm) ?_
  refine ls_cons ((ls_z1 (i := 113) rfl rfl).symm) ?_
  refine ls_cons ((ls_z0 (i := 114) rfl rfl rfl).symm) ?_
  refine ls_cons ((ls_z0 (i := 115) rfl rfl rfl).symm) ?_
  refine ls_cons ((ls_z0 (i := 116) rfl rfl rfl).symm) ?_
  refine ls_cons ((ls_z0 (i := 117) rfl rfl rfl).symm) ?_
  refine ls_cons ((ls_z2 (i := 118) rfl rfl rfl).symm) ?_
  refine ls_cons ((ls_z2 (i := 119) rfl rfl rfl).symm) ?_
  refine ls_cons ((ls_z0 (i := 120) rfl rfl rfl).symm) ?_
  refine ls_cons ((ls_z0 (i := 121) rfl rfl rfl).symm) ?_
  refine ls_cons ((ls_z0 (i := 122) rfl rfl rfl).symm) ?_
  refine ls_cons ((ls_z0 (i := 123) rfl rfl rfl).symm) ?_
  refine ls_cons ((ls_z0 (i := 124) rfl rfl rfl).symm) ?_
  refine ls_cons ((ls_z0 (i := 125) rfl rfl rfl).symm) ?_
  refine ls_cons ((ls_z0 (i := 126) rfl rfl rfl).symm) ?_
  refine ls_cons ((ls_z0 (i := 127) rfl rfl rfl).symm) ?_
  refine ls_cons ((ls_z0 (i := 128) rfl rfl rfl).symm) ?_
  refine ls_cons ((ls_z0 (i := 129) rfl rfl rfl).symm) ?_
  refine ls_cons ((ls_z0 (i := 130) rfl rfl rfl).symm) ?_
  exact ls_cons ((ls_z1 (i := 131) rfl rfl).symm) rfl
theorem ls_world {g : AG} (a : Nat) (q1 : Nat) (q2 : Nat) (q3 : Nat) (q4 : Nat) (q5 : Nat) (q6 : Nat) (q7 : Nat) (q8 : Nat) (q9 : Nat) (q10 : Nat) (q11 : Nat) (q12 : Nat) (q13 : Nat) (q14 : Nat) (q15 : Nat) (q16 : Nat) (q17 : Nat) (q18 : Nat) (q19 : Nat) (q20 : Nat) (q21 : Nat) (q22 : Nat) (q23 : Nat) (q24 : Nat) (q25 : Nat) (q26 : Nat) (q27 : Nat) (q28 : Nat) (q29 : Nat) (q30 : Nat) (q31 : Nat) (q32 : Nat) (q33 : Nat) (q34 : Nat) (q35 : Nat) (q36 : Nat) (q37 : Nat) (q38 : Nat) (q39 : Nat) (q40 : Nat) (q41 : Nat) (q42 : Nat) (q43 : Nat) (q44 : Nat) (q45 : Nat) (q46 : Nat) (q47 : Nat) (q48 : Nat) (q49 : Nat) (q50 : Nat) (q51 : Nat) (q52 : Nat) (q53 : Nat) (q54 : Nat) (q55 : Nat) (q56 : Nat) (q57 : Nat) (q58 : Nat) (q59 : Nat) (q60 : Nat) (q61 : Nat) (q62 : Nat) (q63 : Nat) (q64 : Nat) (q65 : Nat) (q66 : Nat) (q67 : Nat) (q68 : Nat) (q69 : Nat) (q70 : Nat) (q71 : Nat) (q72 : Nat) (q73 : Nat) (q74 : Nat) (q75 : Nat) (q76 : Nat) (q77 : Nat) (q78 : Nat) (q79 : Nat) (q80 : Nat) (q81 : Nat) (q82 : Nat) (q83 : Nat) (q84 : Nat) (q85 : Nat) (q86 : Nat) (q87 : Nat) (q88 : Nat) (q89 : Nat) (q90 : Nat) (rr91 : Nat → Nat) (q92 : Nat) (b : Nat) (p1 : Nat) (p2 : Nat) (p3 : Nat) (p4 : Nat) (p5 : Nat) (p6 : Nat) (p7 : Nat) (p8 : Nat) (p9 : Nat) (p10 : Nat) (p11 : Nat) (p12 : Nat) (p13 : Nat) (p14 : Nat) (p15 : Nat) (p16 : Nat) (p17 : Nat) (p18 : Nat) (p19 : Nat) (p20 : Nat) (p21 : Nat) (p22 : Nat) (p23 : Nat) (p24 : Nat) (p25 : Nat) (p26 : Nat) (p27 : Nat) (p28 : Nat) (r : Nat) : ([(a, .inr (9, [.ref q1, .ref q13, .ref q25, .ref q37, .ref q48, .ref q58, .ref q63, .ref q72, .ref q75, .ref q85, .ref q88, .int 0, .int 0, .int 0, .int 0])), (q1, .inr (2, [.ref q2, .ref q3, .int 0, .ref q4, .ref q5, .ref q6, .ref q7, .ref q8, .ref q9, .int 0, .ref q10, .int 0, .ref q11, .int 0, .ref q12])), (q2, .inl (ag_c g 0, 320, .inl (fun _ => 0))), (q3, .inl (ag_c g 0, 40, .inl (fun _ => 0))), (q4, .inl (ag_c g 0, 90, .inl (fun _ => 0))), (q5, .inl (ag_c g 0, 30, .inl (fun _ => 0))), (q6, .inl (ag_c g 0, 90, .inl (fun _ => 0))), (q7, .inl (ag_c g 0, 30, .inl (fun _ => 0))), (q8, .inl (ag_c g 0, 30, .inl (fun _ => 0))), (q9, .inl (ag_c g 2, 30, .inl (fun _ => 0))), (q10, .inl (ag_c g 0, 1681, .inl (fun _ => 0))), (q11, .inl (ag_c g 0, 6, .inl (fun _ => 0))), (q12, .inl (ag_c g 0, 5, .inl (upd (upd (upd (upd (upd (fun _ => 0) (Int32.toNatClampNeg 0) 20) (Int32.toNatClampNeg 1) 50) (Int32.toNatClampNeg 2) 2) (Int32.toNatClampNeg 3) 6) (Int32.toNatClampNeg 4) 8))), (q13, .inr (2, [.ref q14, .ref q15, .int 0, .ref q16, .ref q17, .ref q18, .ref q19, .ref q20, .ref q21, .int 0, .ref q22, .int 0, .ref q23, .int 0, .ref q24])), (q14, .inl (ag_c g 0, 320, .inl (fun _ => 0))), (q15, .inl (ag_c g 0, 40, .inl (fun _ => 0))), (q16, .inl (ag_c g 0, 90, .inl (fun _ => 0))), (q17, .inl (ag_c g 0, 30, .inl (fun _ => 0))), (q18, .inl (ag_c g 0, 90, .inl (fun _ => 0))), (q19, .inl (ag_c g 0, 30, .inl (fun _ => 0))), (q20, .inl (ag_c g 0, 30, .inl (fun _ => 0))), (q21, .inl (ag_c g 2, 30, .inl (fun _ => 0))), (q22, .inl (ag_c g 0, 1681, .inl (fun _ => 0))), (q23, .inl (ag_c g 0, 6, .inl (fun _ => 0))), (q24, .inl (ag_c g 0, 5, .inl (upd (upd (upd (upd (upd (fun _ => 0) (Int32.toNatClampNeg 0) 20) (Int32.toNatClampNeg 1) 50) (Int32.toNatClampNeg 2) 2) (Int32.toNatClampNeg 3) 6) (Int32.toNatClampNeg 4) 8))), (q25, .inr (2, [.ref q26, .ref q27, .int 0, .ref q28, .ref q29, .ref q30, .ref q31, .ref q32, .ref q33, .int 0, .ref q34, .int 0, .ref q35, .int 0, .ref q36])), (q26, .inl (ag_c g 0, 320, .inl (fun _ => 0))), (q27, .inl (ag_c g 0, 40, .inl (fun _ => 0))), (q28, .inl (ag_c g 0, 90, .inl (fun _ => 0))), (q29, .inl (ag_c g 0, 30, .inl (fun _ => 0))), (q30, .inl (ag_c g 0, 90, .inl (fun _ => 0))), (q31, .inl (ag_c g 0, 30, .inl (fun _ => 0))), (q32, .inl (ag_c g 0, 30, .inl (fun _ => 0))), (q33, .inl (ag_c g 2, 30, .inl (fun _ => 0))), (q34, .inl (ag_c g 0, 1681, .inl (fun _ => 0))), (q35, .inl (ag_c g 0, 6, .inl (fun _ => 0))), (q36, .inl (ag_c g 0, 5, .inl (upd (upd (upd (upd (upd (fun _ => 0) (Int32.toNatClampNeg 0) 20) (Int32.toNatClampNeg 1) 50) (Int32.toNatClampNeg 2) 2) (Int32.toNatClampNeg 3) 6) (Int32.toNatClampNeg 4) 8))), (q37, .inr (5, [.ref q38, .int 0, .int (-1), .ref q39, .ref q40, .ref q41, .ref q42, .ref q43, .ref q44, .int 0, .ref q45, .int 0, .ref q46, .int 0, .ref q47, .int 0, .ref q13, .int 0])), (q38, .inl (ag_c g 0, 400, .inl (fun _ => 0))), (q39, .inl (ag_c g 0, 12, .inl (fun _ => 0))), (q40, .inl (ag_c g 0, 36, .inl (fun _ => 0))), (q41, .inl (ag_c g 0, 12, .inl (fun _ => 0))), (q42, .inl (ag_c g 0, 36, .inl (fun _ => 0))), (q43, .inl (ag_c g 0, 12, .inl (fun _ => 0))), (q44, .inl (ag_c g 0, 12, .inl (fun _ => 0))), (q45, .inl (ag_c g 0, 18, .inl (fun _ => 0))), (q46, .inl (ag_c g 0, 6, .inl (fun _ => 0))), (q47, .inl (ag_c g 0, 6, .inl (fun _ => 0))), (q48, .inr (4, [.ref q49, .ref q50, .ref q51, .ref q52, .ref q53, .ref q54, .ref q55, .ref q56, .ref q57, .int 0, .int 0, .ref q13])), (q49, .inl (ag_c g 0, 186, .inl (fun _ => 0))), (q50, .inl (ag_c g 0, 186, .inl (fun _ => 0))), (q51, .inl (ag_c g 0, 186, .inl (fun _ => 0))), (q52, .inl (ag_c g 0, 186, .inl (fun _ => 0))), (q53, .inl (ag_c g 0, 558, .inl (fun _ => 0))), (q54, .inl (ag_c g 0, 186, .inl (fun _ => 0))), (q55, .inl (ag_c g 0, 186, .inl (fun _ => 0))), (q56, .inl (ag_c g 0, 186, .inl (fun _ => 0))), (q57, .inl (ag_c g 0, 186, .inl (fun _ => 0))), (q58, .inr (1, [.ref q48, .ref q59, .ref q60, .ref q61, .ref q62, .int 0, .int 0, .int 0, .int 0])), (q59, .inl (ag_c g 0, 18368, .inl (fun _ => 0))), (q60, .inl (ag_c g 0, 7913, .inl (fun _ => 0))), (q61, .inl (ag_c g 0, 7913, .inl (fun _ => 0))), (q62, .inl (ag_c g 0, 8, .inl (fun _ => 0))), (q63, .inr (8, [.ref q48, .ref q58, .ref q64, .ref q65, .ref q66, .ref q67, .int 0, .ref q68, .int 0, .ref q69, .ref q70, .int 0, .ref q71, .int 0])), (q64, .inl (ag_c g 1, 30, .inr (.inl (fun _ => 0)))), (q65, .inl (ag_c g 0, 30, .inl (fun _ => 0))), (q66, .inl (ag_c g 0, 30, .inl (fun _ => 0))), (q67, .inl (ag_c g 0, 30, .inl (fun _ => 0))), (q68, .inl (ag_c g 1, 30, .inr (.inl (fun _ => 0)))), (q69, .inl (ag_c g 0, 6, .inl (fun _ => 0))), (q70, .inl (ag_c g 0, 6, .inl (fun _ => 0))), (q71, .inl (ag_c g 0, 18, .inl (fun _ => 0))), (q72, .inr (7, [.ref q48, .ref q73, .ref q74])), (q73, .inl (ag_c g 0, 36, .inl (fun _ => 0))), (q74, .inl (ag_c g 0, 64, .inl (fun _ => 0))), (q75, .inr (6, [.ref q48, .ref q58, .ref q72, .ref q76, .ref q77, .ref q78, .ref q79, .ref q80, .ref q81, .ref q82, .ref q83, .int 0, .int 0, .int 0, .int 0, .int 0, .ref q84, .int 0])), (q76, .inl (ag_c g 0, 7913, .inl (fun _ => 0))), (q77, .inl (ag_c g 0, 7913, .inl (fun _ => 0))), (q78, .inl (ag_c g 0, 7913, .inl (fun _ => 0))), (q79, .inl (ag_c g 0, 7913, .inl (fun _ => 0))), (q80, .inl (ag_c g 0, 7, .inl (fun _ => 0))), (q81, .inl (ag_c g 0, 7, .inl (fun _ => 0))), (q82, .inl (ag_c g 1, 40, .inr (.inl (fun _ => 0)))), (q83, .inl (ag_c g 0, 40, .inl (fun _ => 0))), (q84, .inl (ag_c g 0, 6, .inl (fun _ => 0))), (q85, .inr (0, [.ref q48, .ref q86, .ref q87])), (q86, .inl (ag_c g 0, 448, .inl (fun _ => 0))), (q87, .inl (ag_c g 0, 8512, .inl (fun _ => 0))), (q88, .inr (3, [.ref q89, .ref q90, .ref q92, .int 0])), (q89, .inl (ag_c g 0, 19, .inl (fun _ => 0))), (q90, .inl (ag_c g 3, 10, .inr (.inr (.inr (.inr (fun i => if i < 10 then some (rr91 i) else none)))))), (rr91 0, .inl (ag_c g 0, 18, .inl (fun _ => 0))), (rr91 1, .inl (ag_c g 0, 18, .inl (fun _ => 0))), (rr91 2, .inl (ag_c g 0, 18, .inl (fun _ => 0))), (rr91 3, .inl (ag_c g 0, 18, .inl (fun _ => 0))), (rr91 4, .inl (ag_c g 0, 18, .inl (fun _ => 0))), (rr91 5, .inl (ag_c g 0, 18, .inl (fun _ => 0))), (rr91 6, .inl (ag_c g 0, 18, .inl (fun _ => 0))), (rr91 7, .inl (ag_c g 0, 18, .inl (fun _ => 0))), (rr91 8, .inl (ag_c g 0, 18, .inl (fun _ => 0))), (rr91 9, .inl (ag_c g 0, 18, .inl (fun _ => 0))), (q92, .inl (ag_c g 0, 10, .inl (fun _ => 0))), (b, .inr (10, [.int 0, .ref p1, .ref p2, .ref p3, .int 0, .ref p4, .int 0, .int 0, .int 0, .int (-1), .ref p5, .ref p6, .int 0, .ref p7, .int 0, .int 0, .ref p8, .ref p9, .int 0, .ref p10, .int 0, .ref p11, .int 0, .int 0, .ref p12, .ref p13, .int 0, .int 0, .int 0, .int 0, .int 0, .ref p14, .int 0, .ref p15, .ref p16, .ref p17, .ref p18, .ref p19, .ref p20, .ref p21, .ref p22, .ref p23, .ref p24, .int 0, .int 0, .int 0, .int 0, .int 0, .ref p25, .ref p26, .ref p27, .ref p28])), (p1, .inl (ag_c g 0, 855, .inl (upd (upd (upd (upd (upd (fun _ => 0) (Int32.toNatClampNeg 4) 20) (Int32.toNatClampNeg 5) 50) (Int32.toNatClampNeg 6) 2) (Int32.toNatClampNeg 7) 6) (Int32.toNatClampNeg 8) 8))), (p2, .inl (ag_c g 0, 855, .inl (fun _ => 0))), (p3, .inl (ag_c g 0, 855, .inl (fun _ => 0))), (p4, .inl (ag_c g 0, 400, .inl (fun _ => 0))), (p5, .inl (ag_c g 0, 120, .inl (fun _ => 0))), (p6, .inl (ag_c g 0, 12, .inl (fun _ => 0))), (p7, .inl (ag_c g 0, 18, .inl (fun _ => 0))), (p8, .inl (ag_c g 0, 12, .inl (fun _ => 0))), (p9, .inl (ag_c g 0, 12, .inl (fun _ => 0))), (p10, .inl (ag_c g 0, 18816, .inl (fun _ => 0))), (p11, .inl (ag_c g 1, 448, .inr (.inl (fun _ => 0)))), (p12, .inl (ag_c g 0, 6, .inl (fun _ => 0))), (p13, .inl (ag_c g 0, 6, .inl (fun _ => 0))), (p14, .inl (ag_c g 0, 18, .inl (fun _ => 0))), (p15, .inl (ag_c g 0, 36, .inl (fun _ => 0))), (p16, .inl (ag_c g 2, 18816, .inl (fun _ => 0))), (p17, .inl (ag_c g 2, 18816, .inl (fun _ => 0))), (p18, .inl (ag_c g 0, 18816, .inl (fun _ => 0))), (p19, .inl (ag_c g 0, 18816, .inl (fun _ => 0))), (p20, .inl (ag_c g 0, 18816, .inl (fun _ => 0))), (p21, .inl (ag_c g 0, 18816, .inl (fun _ => 0))), (p22, .inl (ag_c g 0, 18816, .inl (fun _ => 0))), (p23, .inl (ag_c g 0, 7, .inl (fun _ => 0))), (p24, .inl (ag_c g 0, 7, .inl (fun _ => 0))), (p25, .inl (ag_c g 0, 8512, .inl (fun _ => 0))), (p26, .inl (ag_c g 0, 361, .inl (fun _ => 0))), (p27, .inl (ag_c g 0, 180, .inl (fun _ => 0))), (p28, .inl (ag_c g 0, 10, .inl (fun _ => 0))), (r, .inl (ag_c g 1, 1, .inr (.inl (fun _ => 0))))] : va_W) = lay g (ls_ad a q1 q2 q3 q4 q5 q6 q7 q8 q9 q10 q11 q12 q13 q14 q15 q16 q17 q18 q19 q20 q21 q22 q23 q24 q25 q26 q27 q28 q29 q30 q31 q32 q33 q34 q35 q36 q37 q38 q39 q40 q41 q42 q43 q44 q45 q46 q47 q48 q49 q50 q51 q52 q53 q54 q55 q56 q57 q58 q59 q60 q61 q62 q63 q64 q65 q66 q67 q68 q69 q70 q71 q72 q73 q74 q75 q76 q77 q78 q79 q80 q81 q82 q83 q84 q85 q86 q87 q88 q89 q90 rr91 q92 b p1 p2 p3 p4 p5 p6 p7 p8 p9 p10 p11 p12 p13 p14 p15 p16 p17 p18 p19 p20 p21 p22 p23 p24 p25 p26 p27 p28 r) ls_s0 := by
  generalize had : ls_ad a q1 q2 q3 q4 q5 q6 q7 q8 q9 q10 q11 q12 q13 q14 q15 q16 q17 q18 q19 q20 q21 q22 q23 q24 q25 q26 q27 q28 q29 q30 q31 q32 q33 q34 q35 q36 q37 q38 q39 q40 q41 q42 q43 q44 q45 q46 q47 q48 q49 q50 q51 q52 q53 q54 q55 q56 q57 q58 q59 q60 q61 q62 q63 q64 q65 q66 q67 q68 q69 q70 q71 q72 q73 q74 q75 q76 q77 q78 q79 q80 q81 q82 q83 q84 q85 q86 q87 q88 q89 q90 rr91 q92 b p1 p2 p3 p4 p5 p6 p7 p8 p9 p10 p11 p12 p13 p14 p15 p16 p17 p18 p19 p20 p21 p22 p23 p24 p25 p26 p27 p28 r = ad
  have e0 : a = ad 0 := by rw [← had]; rfl
  have e1 : q1 = ad 1 := by rw [← had]; rfl
  have e2 : q2 = ad 2 := by rw [← had]; rfl
  have e3 : q3 = ad 3 := by rw [← had]; rfl
  have e4 : q4 = ad 4 := by rw [← had]; rfl
  have e5 : q5 = ad 5 := by rw [← had]; rfl
  have e6 : q6 = ad 6 := by rw [← had]; rfl
  have e7 : q7 = ad 7 := by rw [← had]; rfl
  have e8 : q8 = ad 8 := by rw [← had]; rfl
  have e9 : q9 = ad 9 := by rw [← had]; rfl
  have e10 : q10 = ad 10 := by rw [← had]; rfl
  have e11 : q11 = ad 11 := by rw [← had]; rfl
  have e12 : q12 = ad 12 := by rw [← had]; rfl
  have e13 : q13 = ad 13 := by rw [← had]; rfl
  have e14 : q14 = ad 14 := by rw [← had]; rfl
  have e15 : q15 = ad 15 := by rw [← had]; rfl
  have e16 : q16 = ad 16 := by rw [← had]; rfl
  have e17 : q17 = ad 17 := by rw [← had]; rfl
  have e18 : q18 = ad 18 := by rw [← had]; rfl
  have e19 : q19 = ad 19 := by rw [← had]; rfl
  have e20 : q20 = ad 20 := by rw [← had]; rfl
  have e21 : q21 = ad 21 := by rw [← had]; rfl
  have e22 : q22 = ad 22 := by rw [← had]; rfl
  have e23 : q23 = ad 23 := by rw [← had]; rfl
  have e24 : q24 = ad 24 := by rw [← had]; rfl
  have e25 : q25 = ad 25 := by rw [← had]; rfl
  have e26 : q26 = ad 26 := by rw [← had]; rfl
  have e27 : q27 = ad 27 := by rw [← had]; rfl
  have e28 : q28 = ad 28 := by rw [← had]; rfl
  have e29 : q29 = ad 29 := by rw [← had]; rfl
  have e30 : q30 = ad 30 := by rw [← had]; rfl
  have e31 : q31 = ad 31 := by rw [← had]; rfl
  have e32 : q32 = ad 32 := by rw [← had]; rfl
  have e33 : q33 = ad 33 := by rw [← had]; rfl
  have e34 : q34 = ad 34 := by rw [← had]; rfl
  have e35 : q35 = ad 35 := by rw [← had]; rfl
  have e36 : q36 = ad 36 := by rw [← had]; rfl
  have e37 : q37 = ad 37 := by rw [← had]; rfl
  have e38 : q38 = ad 38 := by rw [← had]; rfl
  have e39 : q39 = ad 39 := by rw [← had]; rfl
  have e40 : q40 = ad 40 := by rw [← had]; rfl
  have e41 : q41 = ad 41 := by rw [← had]; rfl
  have e42 : q42 = ad 42 := by rw [← had]; rfl
  have e43 : q43 = ad 43 := by rw [← had]; rfl
  have e44 : q44 = ad 44 := by rw [← had]; rfl
  have e45 : q45 = ad 45 := by rw [← had]; rfl
  have e46 : q46 = ad 46 := by rw [← had]; rfl
  have e47 : q47 = ad 47 := by rw [← had]; rfl
  have e48 : q48 = ad 48 := by rw [← had]; rfl
  have e49 : q49 = ad 49 := by rw [← had]; rfl
  have e50 : q50 = ad 50 := by rw [← had]; rfl
  have e51 : q51 = ad 51 := by rw [← had]; rfl
  have e52 : q52 = ad 52 := by rw [← had]; rfl
  have e53 : q53 = ad 53 := by rw [← had]; rfl
  have e54 : q54 = ad 54 := by rw [← had]; rfl
  have e55 : q55 = ad 55 := by rw [← had]; rfl
  have e56 : q56 = ad 56 := by rw [← had]; rfl
  have e57 : q57 = ad 57 := by rw [← had]; rfl
  have e58 : q58 = ad 58 := by rw [← had]; rfl
  have e59 : q59 = ad 59 := by rw [← had]; rfl
  have e60 : q60 = ad 60 := by rw [← had]; rfl
  have e61 : q61 = ad 61 := by rw [← had]; rfl
  have e62 : q62 = ad 62 := by rw [← had]; rfl
  have e63 : q63 = ad 63 := by rw [← had]; rfl
  have e64 : q64 = ad 64 := by rw [← had]; rfl
  have e65 : q65 = ad 65 := by rw [← had]; rfl
  have e66 : q66 = ad 66 := by rw [← had]; rfl
  have e67 : q67 = ad 67 := by rw [← had]; rfl
  have e68 : q68 = ad 68 := by rw [← had]; rfl
  have e69 : q69 = ad 69 := by rw [← had]; rfl
  have e70 : q70 = ad 70 := by rw [← had]; rfl
  have e71 : q71 = ad 71 := by rw [← had]; rfl
  have e72 : q72 = ad 72 := by rw [← had]; rfl
  have e73 : q73 = ad 73 := by rw [← had]; rfl
  have e74 : q74 = ad 74 := by rw [← had]; rfl
  have e75 : q75 = ad 75 := by rw [← had]; rfl
  have e76 : q76 = ad 76 := by rw [← had]; rfl
  have e77 : q77 = ad 77 := by rw [← had]; rfl
  have e78 : q78 = ad 78 := by rw [← had]; rfl
  have e79 : q79 = ad 79 := by rw [← had]; rfl
  have e80 : q80 = ad 80 := by rw [← had]; rfl
  have e81 : q81 = ad 81 := by rw [← had]; rfl
  have e82 : q82 = ad 82 := by rw [← had]; rfl
  have e83 : q83 = ad 83 := by rw [← had]; rfl
  have e84 : q84 = ad 84 := by rw [← had]; rfl
  have e85 : q85 = ad 85 := by rw [← had]; rfl
  have e86 : q86 = ad 86 := by rw [← had]; rfl
  have e87 : q87 = ad 87 := by rw [← had]; rfl
  have e88 : q88 = ad 88 := by rw [← had]; rfl
  have e89 : q89 = ad 89 := by rw [← had]; rfl
  have e90 : q90 = ad 90 := by rw [← had]; rfl
  have e91 : rr91 0 = ad 91 := by rw [← had]; rfl
  have e92 : rr91 1 = ad 92 := by rw [← had]; rfl
  have e93 : rr91 2 = ad 93 := by rw [← had]; rfl
  have e94 : rr91 3 = ad 94 := by rw [← had]; rfl
  have e95 : rr91 4 = ad 95 := by rw [← had]; rfl
  have e96 : rr91 5 = ad 96 := by rw [← had]; rfl
  have e97 : rr91 6 = ad 97 := by rw [← had]; rfl
  have e98 : rr91 7 = ad 98 := by rw [← had]; rfl
  have e99 : rr91 8 = ad 99 := by rw [← had]; rfl
  have e100 : rr91 9 = ad 100 := by rw [← had]; rfl
  have e101 : q92 = ad 101 := by rw [← had]; rfl
  have e102 : b = ad 102 := by rw [← had]; rfl
  have e103 : p1 = ad 103 := by rw [← had]; rfl
  have e104 : p2 = ad 104 := by rw [← had]; rfl
  have e105 : p3 = ad 105 := by rw [← had]; rfl
  have e106 : p4 = ad 106 := by rw [← had]; rfl
  have e107 : p5 = ad 107 := by rw [← had]; rfl
  have e108 : p6 = ad 108 := by rw [← had]; rfl
  have e109 : p7 = ad 109 := by rw [← had]; rfl
  have e110 : p8 = ad 110 := by rw [← had]; rfl
  have e111 : p9 = ad 111 := by rw [← had]; rfl
  have e112 : p10 = ad 112 := by rw [← had]; rfl
  have e113 : p11 = ad 113 := by rw [← had]; rfl
  have e114 : p12 = ad 114 := by rw [← had]; rfl
  have e115 : p13 = ad 115 := by rw [← had]; rfl
  have e116 : p14 = ad 116 := by rw [← had]; rfl
  have e117 : p15 = ad 117 := by rw [← had]; rfl
  have e118 : p16 = ad 118 := by rw [← had]; rfl
  have e119 : p17 = ad 119 := by rw [← had]; rfl
  have e120 : p18 = ad 120 := by rw [← had]; rfl
  have e121 : p19 = ad 121 := by rw [← had]; rfl
  have e122 : p20 = ad 122 := by rw [← had]; rfl
  have e123 : p21 = ad 123 := by rw [← had]; rfl
  have e124 : p22 = ad 124 := by rw [← had]; rfl
  have e125 : p23 = ad 125 := by rw [← had]; rfl
  have e126 : p24 = ad 126 := by rw [← had]; rfl
  have e127 : p25 = ad 127 := by rw [← had]; rfl
  have e128 : p26 = ad 128 := by rw [← had]; rfl
  have e129 : p27 = ad 129 := by rw [← had]; rfl
  have e130 : p28 = ad 130 := by rw [← had]; rfl
  have e131 : r = ad 131 := by rw [← had]; rfl
  have h90 : (fun i => if i < 10 then some (rr91 i) else none) = (fun i => if i < 10 then some (ad (90 + 1 + i)) else none) := by
    funext j
    by_cases hj : j < 10
    · rw [if_pos hj, if_pos hj]
      congr 1
      have hc : j = 0 ∨ j = 1 ∨ j = 2 ∨ j = 3 ∨ j = 4 ∨ j = 5 ∨ j = 6 ∨ j = 7 ∨ j = 8 ∨ j = 9 := by omega
      rcases hc with rfl | rfl | rfl | rfl | rfl | rfl | rfl | rfl | rfl | rfl
      · exact e91
      · exact e92
      · exact e93
      · exact e94
      · exact e95
      · exact e96
      · exact e97
      · exact e98
      · exact e99
      · exact e100
    · rw [if_neg hj, if_neg hj]
  clear had
  rw [h90, e91, e92, e93, e94, e95, e96, e97, e98, e99, e100, ls_lay]
  clear h90 e91 e92 e93 e94 e95 e96 e97 e98 e99 e100
  subst e0
  subst e1
  subst e2
  subst e3
  subst e4
  subst e5
  subst e6
  subst e7
  subst e8
  subst e9
  subst e10
  subst e11
  subst e12
  subst e13
  subst e14
  subst e15
  subst e16
  subst e17
  subst e18
  subst e19
  subst e20
  subst e21
  subst e22
  subst e23
  subst e24
  subst e25
  subst e26
  subst e27
  subst e28
  subst e29
  subst e30
  subst e31
  subst e32
  subst e33
  subst e34
  subst e35
  subst e36
  subst e37
  subst e38
  subst e39
  subst e40
  subst e41
  subst e42
  subst e43
  subst e44
  subst e45
  subst e46
  subst e47
  subst e48
  subst e49
  subst e50
  subst e51
  subst e52
  subst e53
  subst e54
  subst e55
  subst e56
  subst e57
  subst e58
  subst e59
  subst e60
  subst e61
  subst e62
  subst e63
  subst e64
  subst e65
  subst e66
  subst e67
  subst e68
  subst e69
  subst e70
  subst e71
  subst e72
  subst e73
  subst e74
  subst e75
  subst e76
  subst e77
  subst e78
  subst e79
  subst e80
  subst e81
  subst e82
  subst e83
  subst e84
  subst e85
  subst e86
  subst e87
  subst e88
  subst e89
  subst e90
  subst e101
  subst e102
  subst e103
  subst e104
  subst e105
  subst e106
  subst e107
  subst e108
  subst e109
  subst e110
  subst e111
  subst e112
  subst e113
  subst e114
  subst e115
  subst e116
  subst e117
  subst e118
  subst e119
  subst e120
  subst e121
  subst e122
  subst e123
  subst e124
  subst e125
  subst e126
  subst e127
  subst e128
  subst e129
  subst e130
  subst e131
  rfl
theorem Wp_post {g : AG} {d : Nat} {M : AM} {Q Q' : AO → va_W → Prop} {pc : Nat} {L : List (Option Value)} {st : List Value} {ws : va_W} {rc rs : Nat} (hq : ∀ o w, Q o w → Q' o w) (h : Wp g d M Q pc L st ws rc rs) : Wp g d M Q' pc L st ws rc rs := by
  intro p e s m args below meth c mc ms C H locs cells slots ls hl hP hD hS hc hs T hT X
  obtain ⟨t, st1, o, h1, h2, h3⟩ := h p e s m args below meth c mc ms C H locs cells slots ls hl hP hD hS hc hs T hT X
  refine ⟨t, st1, o, h1, h2, ?_⟩
  rcases h3 with ⟨⟨⟨v, w, e1, e2, e3, e4⟩, e5⟩, e6⟩ | ⟨q, e1, E, ce, L, ⟨⟨w, x2, x3, x4⟩, x5⟩, x6⟩
  · exact Or.inl ⟨⟨⟨v, w, e1, hq _ _ e2, e3, e4⟩, e5⟩, e6⟩
  · exact Or.inr ⟨q, e1, E, ce, L, ⟨⟨w, hq _ _ x2, x3, x4⟩, x5⟩, x6⟩
abbrev QW : AO → va_W → Prop := fun o _ => o = .inl (some (vi 1))
abbrev QS : AO → SG → Prop := fun o _ => o = .inl (some (vi 1))
theorem ls_start {g : AG} {d rc rs : Nat} (hd : 60 ≤ d) (kk : ∀ ad : Nat → Nat, aL_law_23 g ad d QS rc rs ls_s0 0) : Wp g d mL_law QW 0 [some (.ref (ag_b g)), none, none, none, none, none, none] [] [] (rc + 1 + 28 + 1 + 101 + 1) (rs + 1 + 163258 + 52 + 85191 + 15) := by
  refine st_new (pc' := 3) (rc := rc + 1 + 28 + 1 + 101) (rs := rs + 1 + 163258 + 52 + 85191) (fs := [.null, .null, .null, .null, .null, .null, .null, .null, .null, .null, .null, .int 0, .int 0, .int 0, .int 0]) rfl ck_9 rfl ⟨wd_188, wd_189, wd_165⟩ dL_law_0 (fun a => ?_)
  refine st_dup (pc' := 4) rfl rfl dL_law_3 ?_
  refine st_callI (pc' := 7) rfl rfl (rc := rc + 1 + 28 + 1) (rs := rs + 1 + 163258 + 52) (mc' := 101) (ms' := 85191) (d' := 2) (As := []) (st := [.ref a]) (host := "") rfl rfl (Nat.le_of_ble_eq_true rfl) (by omega) kX10_init rfl rfl ⟨wd_190, wd_191⟩ dL_law_4 (c_X10 (W := []) (by omega) (fun q1 q2 q3 q4 q5 q6 q7 q8 q9 q10 q11 q12 q13 q14 q15 q16 q17 q18 q19 q20 q21 q22 q23 q24 q25 q26 q27 q28 q29 q30 q31 q32 q33 q34 q35 q36 q37 q38 q39 q40 q41 q42 q43 q44 q45 q46 q47 q48 q49 q50 q51 q52 q53 q54 q55 q56 q57 q58 q59 q60 q61 q62 q63 q64 q65 q66 q67 q68 q69 q70 q71 q72 q73 q74 q75 q76 q77 q78 q79 q80 q81 q82 q83 q84 q85 q86 q87 q88 q89 q90 rr91 q92 => ?_))
  show Wp g d mL_law QW 7 _ [.ref a] _ (rc + 1 + 28 + 1) (rs + 1 + 163258 + 52)
  refine st_astore_n (pc' := 8) (L' := [some (.ref (ag_b g)), some (.ref a), none, none, none, none, none]) rfl rfl (by decide) dL_law_7 ?_
  refine st_new (pc' := 11) (rc := rc + 1 + 28) (rs := rs + 1 + 163258) (fs := [.int 0, .null, .null, .null, .int 0, .null, .int 0, .int 0, .int 0, .int 0, .null, .null, .int 0, .null, .int 0, .int 0, .null, .null, .int 0, .null, .int 0, .null, .int 0, .int 0, .null, .null, .int 0, .int 0, .int 0, .int 0, .int 0, .null, .int 0, .null, .null, .null, .null, .null, .null, .null, .null, .null, .null, .int 0, .int 0, .int 0, .int 0, .int 0, .null, .null, .null, .null]) rfl ck_10 rfl ⟨wd_1544, wd_1545, wd_175⟩ dL_law_8 (fun b => ?_)
  refine st_dup (pc' := 12) rfl rfl dL_law_11 ?_
  refine st_callI (pc' := 15) rfl rfl (rc := rc + 1) (rs := rs + 1) (mc' := 28) (ms' := 163258) (d' := 1) (As := []) (st := [.ref b]) (host := "") rfl rfl (Nat.le_of_ble_eq_true rfl) (by omega) kX11_init rfl rfl ⟨wd_1546, wd_1547⟩ dL_law_12 (c_X11 (by omega) (fun p1 p2 p3 p4 p5 p6 p7 p8 p9 p10 p11 p12 p13 p14 p15 p16 p17 p18 p19 p20 p21 p22 p23 p24 p25 p26 p27 p28 => ?_))
  show Wp g d mL_law QW 15 _ [.ref b] _ (rc + 1) (rs + 1)
  refine st_astore_n (pc' := 16) (L' := [some (.ref (ag_b g)), some (.ref a), some (.ref b), none, none, none, none]) rfl rfl (by decide) dL_law_15 ?_
  refine st_iconst (pc' := 17) (v := 1) rfl (by decide) dL_law_16 ?_
  refine st_newaJ (pc' := 19) (N := 1) rfl (by decide) (by decide) (by decide) wa_long dL_law_17 (fun r => ?_)
  refine st_astore_n (pc' := 20) (L' := [some (.ref (ag_b g)), some (.ref a), some (.ref b), some (.ref r), none, none, none]) rfl rfl (by decide) dL_law_19 ?_
  refine st_iconst (pc' := 21) (v := 0) rfl (by decide) dL_law_20 ?_
  refine st_istore (pc' := 23) (L' := [some (.ref (ag_b g)), some (.ref a), some (.ref b), some (.ref r), some (vi 0), none, none]) rfl rfl (by decide) dL_law_21 ?_
  have K := kk (ls_ad a q1 q2 q3 q4 q5 q6 q7 q8 q9 q10 q11 q12 q13 q14 q15 q16 q17 q18 q19 q20 q21 q22 q23 q24 q25 q26 q27 q28 q29 q30 q31 q32 q33 q34 q35 q36 q37 q38 q39 q40 q41 q42 q43 q44 q45 q46 q47 q48 q49 q50 q51 q52 q53 q54 q55 q56 q57 q58 q59 q60 q61 q62 q63 q64 q65 q66 q67 q68 q69 q70 q71 q72 q73 q74 q75 q76 q77 q78 q79 q80 q81 q82 q83 q84 q85 q86 q87 q88 q89 q90 rr91 q92 b p1 p2 p3 p4 p5 p6 p7 p8 p9 p10 p11 p12 p13 p14 p15 p16 p17 p18 p19 p20 p21 p22 p23 p24 p25 p26 p27 p28 r)
  have hw : ([(a, .inr (9, [.ref q1, .ref q13, .ref q25, .ref q37, .ref q48, .ref q58, .ref q63, .ref q72, .ref q75, .ref q85, .ref q88, .int 0, .int 0, .int 0, .int 0])), (q1, .inr (2, [.ref q2, .ref q3, .int 0, .ref q4, .ref q5, .ref q6, .ref q7, .ref q8, .ref q9, .int 0, .ref q10, .int 0, .ref q11, .int 0, .ref q12])), (q2, .inl (ag_c g 0, 320, .inl (fun _ => 0))), (q3, .inl (ag_c g 0, 40, .inl (fun _ => 0))), (q4, .inl (ag_c g 0, 90, .inl (fun _ => 0))), (q5, .inl (ag_c g 0, 30, .inl (fun _ => 0))), (q6, .inl (ag_c g 0, 90, .inl (fun _ => 0))), (q7, .inl (ag_c g 0, 30, .inl (fun _ => 0))), (q8, .inl (ag_c g 0, 30, .inl (fun _ => 0))), (q9, .inl (ag_c g 2, 30, .inl (fun _ => 0))), (q10, .inl (ag_c g 0, 1681, .inl (fun _ => 0))), (q11, .inl (ag_c g 0, 6, .inl (fun _ => 0))), (q12, .inl (ag_c g 0, 5, .inl (upd (upd (upd (upd (upd (fun _ => 0) (Int32.toNatClampNeg 0) 20) (Int32.toNatClampNeg 1) 50) (Int32.toNatClampNeg 2) 2) (Int32.toNatClampNeg 3) 6) (Int32.toNatClampNeg 4) 8))), (q13, .inr (2, [.ref q14, .ref q15, .int 0, .ref q16, .ref q17, .ref q18, .ref q19, .ref q20, .ref q21, .int 0, .ref q22, .int 0, .ref q23, .int 0, .ref q24])), (q14, .inl (ag_c g 0, 320, .inl (fun _ => 0))), (q15, .inl (ag_c g 0, 40, .inl (fun _ => 0))), (q16, .inl (ag_c g 0, 90, .inl (fun _ => 0))), (q17, .inl (ag_c g 0, 30, .inl (fun _ => 0))), (q18, .inl (ag_c g 0, 90, .inl (fun _ => 0))), (q19, .inl (ag_c g 0, 30, .inl (fun _ => 0))), (q20, .inl (ag_c g 0, 30, .inl (fun _ => 0))), (q21, .inl (ag_c g 2, 30, .inl (fun _ => 0))), (q22, .inl (ag_c g 0, 1681, .inl (fun _ => 0))), (q23, .inl (ag_c g 0, 6, .inl (fun _ => 0))), (q24, .inl (ag_c g 0, 5, .inl (upd (upd (upd (upd (upd (fun _ => 0) (Int32.toNatClampNeg 0) 20) (Int32.toNatClampNeg 1) 50) (Int32.toNatClampNeg 2) 2) (Int32.toNatClampNeg 3) 6) (Int32.toNatClampNeg 4) 8))), (q25, .inr (2, [.ref q26, .ref q27, .int 0, .ref q28, .ref q29, .ref q30, .ref q31, .ref q32, .ref q33, .int 0, .ref q34, .int 0, .ref q35, .int 0, .ref q36])), (q26, .inl (ag_c g 0, 320, .inl (fun _ => 0))), (q27, .inl (ag_c g 0, 40, .inl (fun _ => 0))), (q28, .inl (ag_c g 0, 90, .inl (fun _ => 0))), (q29, .inl (ag_c g 0, 30, .inl (fun _ => 0))), (q30, .inl (ag_c g 0, 90, .inl (fun _ => 0))), (q31, .inl (ag_c g 0, 30, .inl (fun _ => 0))), (q32, .inl (ag_c g 0, 30, .inl (fun _ => 0))), (q33, .inl (ag_c g 2, 30, .inl (fun _ => 0))), (q34, .inl (ag_c g 0, 1681, .inl (fun _ => 0))), (q35, .inl (ag_c g 0, 6, .inl (fun _ => 0))), (q36, .inl (ag_c g 0, 5, .inl (upd (upd (upd (upd (upd (fun _ => 0) (Int32.toNatClampNeg 0) 20) (Int32.toNatClampNeg 1) 50) (Int32.toNatClampNeg 2) 2) (Int32.toNatClampNeg 3) 6) (Int32.toNatClampNeg 4) 8))), (q37, .inr (5, [.ref q38, .int 0, .int (-1), .ref q39, .ref q40, .ref q41, .ref q42, .ref q43, .ref q44, .int 0, .ref q45, .int 0, .ref q46, .int 0, .ref q47, .int 0, .ref q13, .int 0])), (q38, .inl (ag_c g 0, 400, .inl (fun _ => 0))), (q39, .inl (ag_c g 0, 12, .inl (fun _ => 0))), (q40, .inl (ag_c g 0, 36, .inl (fun _ => 0))), (q41, .inl (ag_c g 0, 12, .inl (fun _ => 0))), (q42, .inl (ag_c g 0, 36, .inl (fun _ => 0))), (q43, .inl (ag_c g 0, 12, .inl (fun _ => 0))), (q44, .inl (ag_c g 0, 12, .inl (fun _ => 0))), (q45, .inl (ag_c g 0, 18, .inl (fun _ => 0))), (q46, .inl (ag_c g 0, 6, .inl (fun _ => 0))), (q47, .inl (ag_c g 0, 6, .inl (fun _ => 0))), (q48, .inr (4, [.ref q49, .ref q50, .ref q51, .ref q52, .ref q53, .ref q54, .ref q55, .ref q56, .ref q57, .int 0, .int 0, .ref q13])), (q49, .inl (ag_c g 0, 186, .inl (fun _ => 0))), (q50, .inl (ag_c g 0, 186, .inl (fun _ => 0))), (q51, .inl (ag_c g 0, 186, .inl (fun _ => 0))), (q52, .inl (ag_c g 0, 186, .inl (fun _ => 0))), (q53, .inl (ag_c g 0, 558, .inl (fun _ => 0))), (q54, .inl (ag_c g 0, 186, .inl (fun _ => 0))), (q55, .inl (ag_c g 0, 186, .inl (fun _ => 0))), (q56, .inl (ag_c g 0, 186, .inl (fun _ => 0))), (q57, .inl (ag_c g 0, 186, .inl (fun _ => 0))), (q58, .inr (1, [.ref q48, .ref q59, .ref q60, .ref q61, .ref q62, .int 0, .int 0, .int 0, .int 0])), (q59, .inl (ag_c g 0, 18368, .inl (fun _ => 0))), (q60, .inl (ag_c g 0, 7913, .inl (fun _ => 0))), (q61, .inl (ag_c g 0, 7913, .inl (fun _ => 0))), (q62, .inl (ag_c g 0, 8, .inl (fun _ => 0))), (q63, .inr (8, [.ref q48, .ref q58, .ref q64, .ref q65, .ref q66, .ref q67, .int 0, .ref q68, .int 0, .ref q69, .ref q70, .int 0, .ref q71, .int 0])), (q64, .inl (ag_c g 1, 30, .inr (.inl (fun _ => 0)))), (q65, .inl (ag_c g 0, 30, .inl (fun _ => 0))), (q66, .inl (ag_c g 0, 30, .inl (fun _ => 0))), (q67, .inl (ag_c g 0, 30, .inl (fun _ => 0))), (q68, .inl (ag_c g 1, 30, .inr (.inl (fun _ => 0)))), (q69, .inl (ag_c g 0, 6, .inl (fun _ => 0))), (q70, .inl (ag_c g 0, 6, .inl (fun _ => 0))), (q71, .inl (ag_c g 0, 18, .inl (fun _ => 0))), (q72, .inr (7, [.ref q48, .ref q73, .ref q74])), (q73, .inl (ag_c g 0, 36, .inl (fun _ => 0))), (q74, .inl (ag_c g 0, 64, .inl (fun _ => 0))), (q75, .inr (6, [.ref q48, .ref q58, .ref q72, .ref q76, .ref q77, .ref q78, .ref q79, .ref q80, .ref q81, .ref q82, .ref q83, .int 0, .int 0, .int 0, .int 0, .int 0, .ref q84, .int 0])), (q76, .inl (ag_c g 0, 7913, .inl (fun _ => 0))), (q77, .inl (ag_c g 0, 7913, .inl (fun _ => 0))), (q78, .inl (ag_c g 0, 7913, .inl (fun _ => 0))), (q79, .inl (ag_c g 0, 7913, .inl (fun _ => 0))), (q80, .inl (ag_c g 0, 7, .inl (fun _ => 0))), (q81, .inl (ag_c g 0, 7, .inl (fun _ => 0))), (q82, .inl (ag_c g 1, 40, .inr (.inl (fun _ => 0)))), (q83, .inl (ag_c g 0, 40, .inl (fun _ => 0))), (q84, .inl (ag_c g 0, 6, .inl (fun _ => 0))), (q85, .inr (0, [.ref q48, .ref q86, .ref q87])), (q86, .inl (ag_c g 0, 448, .inl (fun _ => 0))), (q87, .inl (ag_c g 0, 8512, .inl (fun _ => 0))), (q88, .inr (3, [.ref q89, .ref q90, .ref q92, .int 0])), (q89, .inl (ag_c g 0, 19, .inl (fun _ => 0))), (q90, .inl (ag_c g 3, 10, .inr (.inr (.inr (.inr (fun i => if i < 10 then some (rr91 i) else none)))))), (rr91 0, .inl (ag_c g 0, 18, .inl (fun _ => 0))), (rr91 1, .inl (ag_c g 0, 18, .inl (fun _ => 0))), (rr91 2, .inl (ag_c g 0, 18, .inl (fun _ => 0))), (rr91 3, .inl (ag_c g 0, 18, .inl (fun _ => 0))), (rr91 4, .inl (ag_c g 0, 18, .inl (fun _ => 0))), (rr91 5, .inl (ag_c g 0, 18, .inl (fun _ => 0))), (rr91 6, .inl (ag_c g 0, 18, .inl (fun _ => 0))), (rr91 7, .inl (ag_c g 0, 18, .inl (fun _ => 0))), (rr91 8, .inl (ag_c g 0, 18, .inl (fun _ => 0))), (rr91 9, .inl (ag_c g 0, 18, .inl (fun _ => 0))), (q92, .inl (ag_c g 0, 10, .inl (fun _ => 0))), (b, .inr (10, [.int 0, .ref p1, .ref p2, .ref p3, .int 0, .ref p4, .int 0, .int 0, .int 0, .int (-1), .ref p5, .ref p6, .int 0, .ref p7, .int 0, .int 0, .ref p8, .ref p9, .int 0, .ref p10, .int 0, .ref p11, .int 0, .int 0, .ref p12, .ref p13, .int 0, .int 0, .int 0, .int 0, .int 0, .ref p14, .int 0, .ref p15, .ref p16, .ref p17, .ref p18, .ref p19, .ref p20, .ref p21, .ref p22, .ref p23, .ref p24, .int 0, .int 0, .int 0, .int 0, .int 0, .ref p25, .ref p26, .ref p27, .ref p28])), (p1, .inl (ag_c g 0, 855, .inl (upd (upd (upd (upd (upd (fun _ => 0) (Int32.toNatClampNeg 4) 20) (Int32.toNatClampNeg 5) 50) (Int32.toNatClampNeg 6) 2) (Int32.toNatClampNeg 7) 6) (Int32.toNatClampNeg 8) 8))), (p2, .inl (ag_c g 0, 855, .inl (fun _ => 0))), (p3, .inl (ag_c g 0, 855, .inl (fun _ => 0))), (p4, .inl (ag_c g 0, 400, .inl (fun _ => 0))), (p5, .inl (ag_c g 0, 120, .inl (fun _ => 0))), (p6, .inl (ag_c g 0, 12, .inl (fun _ => 0))), (p7, .inl (ag_c g 0, 18, .inl (fun _ => 0))), (p8, .inl (ag_c g 0, 12, .inl (fun _ => 0))), (p9, .inl (ag_c g 0, 12, .inl (fun _ => 0))), (p10, .inl (ag_c g 0, 18816, .inl (fun _ => 0))), (p11, .inl (ag_c g 1, 448, .inr (.inl (fun _ => 0)))), (p12, .inl (ag_c g 0, 6, .inl (fun _ => 0))), (p13, .inl (ag_c g 0, 6, .inl (fun _ => 0))), (p14, .inl (ag_c g 0, 18, .inl (fun _ => 0))), (p15, .inl (ag_c g 0, 36, .inl (fun _ => 0))), (p16, .inl (ag_c g 2, 18816, .inl (fun _ => 0))), (p17, .inl (ag_c g 2, 18816, .inl (fun _ => 0))), (p18, .inl (ag_c g 0, 18816, .inl (fun _ => 0))), (p19, .inl (ag_c g 0, 18816, .inl (fun _ => 0))), (p20, .inl (ag_c g 0, 18816, .inl (fun _ => 0))), (p21, .inl (ag_c g 0, 18816, .inl (fun _ => 0))), (p22, .inl (ag_c g 0, 18816, .inl (fun _ => 0))), (p23, .inl (ag_c g 0, 7, .inl (fun _ => 0))), (p24, .inl (ag_c g 0, 7, .inl (fun _ => 0))), (p25, .inl (ag_c g 0, 8512, .inl (fun _ => 0))), (p26, .inl (ag_c g 0, 361, .inl (fun _ => 0))), (p27, .inl (ag_c g 0, 180, .inl (fun _ => 0))), (p28, .inl (ag_c g 0, 10, .inl (fun _ => 0))), (r, .inl (ag_c g 1, 1, .inr (.inl (fun _ => 0))))] : va_W) = lay g (ls_ad a q1 q2 q3 q4 q5 q6 q7 q8 q9 q10 q11 q12 q13 q14 q15 q16 q17 q18 q19 q20 q21 q22 q23 q24 q25 q26 q27 q28 q29 q30 q31 q32 q33 q34 q35 q36 q37 q38 q39 q40 q41 q42 q43 q44 q45 q46 q47 q48 q49 q50 q51 q52 q53 q54 q55 q56 q57 q58 q59 q60 q61 q62 q63 q64 q65 q66 q67 q68 q69 q70 q71 q72 q73 q74 q75 q76 q77 q78 q79 q80 q81 q82 q83 q84 q85 q86 q87 q88 q89 q90 rr91 q92 b p1 p2 p3 p4 p5 p6 p7 p8 p9 p10 p11 p12 p13 p14 p15 p16 p17 p18 p19 p20 p21 p22 p23 p24 p25 p26 p27 p28 r) ls_s0 := ls_world (g := g) a q1 q2 q3 q4 q5 q6 q7 q8 q9 q10 q11 q12 q13 q14 q15 q16 q17 q18 q19 q20 q21 q22 q23 q24 q25 q26 q27 q28 q29 q30 q31 q32 q33 q34 q35 q36 q37 q38 q39 q40 q41 q42 q43 q44 q45 q46 q47 q48 q49 q50 q51 q52 q53 q54 q55 q56 q57 q58 q59 q60 q61 q62 q63 q64 q65 q66 q67 q68 q69 q70 q71 q72 q73 q74 q75 q76 q77 q78 q79 q80 q81 q82 q83 q84 q85 q86 q87 q88 q89 q90 rr91 q92 b p1 p2 p3 p4 p5 p6 p7 p8 p9 p10 p11 p12 p13 p14 p15 p16 p17 p18 p19 p20 p21 p22 p23 p24 p25 p26 p27 p28 r
  unfold aL_law_23 Wb at K
  rw [← hw] at K
  exact Wp_post (fun o w h => by obtain ⟨σ, _, h2⟩ := h; exact h2) K
end LS
